/-! ===== a throw by a message constructor whose own call has an index of its own (NoSuchElementException, JDK 17: 13) ===== -/
def nx_atS (own : String) (ic : Nat) (X : String) (ix : Nat) (rx : ByteArray) (names : List String) : List Cond := (Bundle.ownAtomsX own ic X ix rx names).filter vx_no
section NZ
variable {args : Array Value} {s : State}
/-- Throwable's field f lies in the objects of class number c (whose table is k) -/
def nz_F (s : State) (c : ClassId) (k : Class) (f : Field) : Prop := k.instanceTypes[f.slot]? = some f.type ∧ ∃ d, Jmm.declares? s.vm f.slot (c + 1) c = some d ∧ d.2.name = f.name
theorem nz_apart {c : ClassId} {k : Class} {f g : Field} {x y : String} (hf : nz_F s c k f) (hg : nz_F s c k g) (ex : f.name = x) (ey : g.name = y) (hne : x ≠ y) : f.slot ≠ g.slot := by
  subst ex ey
  obtain ⟨-, d1, q1, n1⟩ := hf
  obtain ⟨-, d2, q2, n2⟩ := hg
  exact Cond.laysApart q1 q2 n1 n2 hne
/-- a method of Throwable that a class below it doesn't write anew -/
theorem nz_sel {l : Launch} {e : Env} (ha : l.admits e) {C : String} {c : ClassId} {x : MethodName} {i : MethodId} (hx : x.cls = Bundle.tN) (hc : s.vm.findClass C = some c) (hi : s.methodNamed? x = some i) (hw : (Cond.selects C x x).before args s = true) :
    selectMethod e.platform s.vm c i = .method i := by
  obtain ⟨c', r, i', q1, q2, q3, q4, -⟩ := Cond.selects_spec hw
  have hr : s.methodFound? x.cls x.name x.desc = some i := State.methodFound?_of_named hi (by rw [hx]; decide)
  rw [hc] at q1
  rw [hr] at q2
  rw [hi] at q3
  cases q1; cases q2; cases q3
  exact (Launch.admits_selectMethod ha s.vm c i).trans q4
/-- laying the three first fields leaves every other place of the cell -/
theorem nz_kept {T : ThrowableT} {q : Cell} {i : Nat} (a : Addr) (u v : RefV) (t : ThreadId) (h1 : T.fCause.slot ≠ i) (h2 : T.fStack.slot ≠ i) (h3 : T.fSupp.slot ≠ i) : ((preparedCellV T q a u v).withEntry t).slots[i]? = q.slots[i]? := by
  show (((q.slots.setIfInBounds T.fCause.slot (.ref a)).setIfInBounds T.fStack.slot u.v).setIfInBounds T.fSupp.slot v.v)[i]? = q.slots[i]?
  rw [Array.getElem?_setIfInBounds_ne h3, Array.getElem?_setIfInBounds_ne h2, Array.getElem?_setIfInBounds_ne h1]
end NZ
section NZ
variable {p : Program} {l : Launch} {e : Env} {R : Room} {s : State} {m : MethodId} {args : Array Value} {below : List Frame} {meth : Method} {c : Code} {V : State} {cells slots : Nat}
/-- the two statics that Throwable's fields begin with, as they stand now -/
theorem nz_statics {T : ThrowableC} {Z0 : Init0T} {pl : Platform} (X : Stand p l e R s m args below meth c V [] cells slots) (L : T.Links pl s) (Y : Bundle.Ties T Z0 s)
    (w1 : (Cond.isRef (.static Bundle.tN "UNASSIGNED_STACK" Bundle.steD)).before args s = true) (w2 : (Cond.isRef (.static Bundle.tN "SUPPRESSED_SENTINEL" Bundle.listD)).before args s = true) :
    ∃ (q : Cell) (u v : RefV), V.heap[T.aS]? = some q ∧ q.vm ≠ .unknown ∧ T.aS < s.heap.size ∧ q.slots[T.fUnassigned.slot]? = some u.v ∧ q.slots[T.fSentinel.slot]? = some v.v := by
  obtain ⟨q0, hq0, hs0⟩ := Y.statics
  obtain ⟨u, hu⟩ := Cond.staticRefV Y.unassigned L.unassignedStatic L.statics hq0 hs0 w1
  obtain ⟨v, hv⟩ := Cond.staticRefV Y.sentinel L.sentinelStatic L.statics hq0 hs0 w2
  obtain ⟨q, hq, hk, -, hsl⟩ := X.same.2.2.2.2.2 _ _ hq0
  have hvm : q.vm = q0.vm := (congrArg (fun z : Cell => z.vm) hk).trans rfl
  refine ⟨q, u, v, hq, fun hun => ?_, (Array.getElem?_eq_some_iff.mp hq0).1, (hsl _ List.not_mem_nil).trans hu, (hsl _ List.not_mem_nil).trans hv⟩
  rw [← hvm, hun] at hs0
  cases hs0
/-- the constructor's run: the object a, laid by 'new', behind it; only its own places are written -/
theorem nz_made (X : Stand p l e R s m args below meth c V [] cells slots) (hexec : p.tables.exec = Jvm.exec) (htr : e.platform.stackTraces = false) {own cls : String} {names : List String} {ic ix : Nat} {rx : ByteArray}
    (h : ∀ w ∈ Bundle.ownAtomsX own ic cls ix rx names, w.before args s = true)
    (hrx : decode rx 0 = .ok (.aload_n 0, 1) ∧ decode rx 1 = .ok (.aload_n 1, 1) ∧ decode rx 2 = .ok (.invokespecial ix, 3) ∧ decode rx 5 = .ok (.return_, 1))
    (hown : s.vm.findClass own = some m.cls) (hcls : Bundle.fit cls = true) (hnames : ∀ n ∈ names, Bundle.fit n = true)
    {a sa : Addr} {cX : ClassId} {kX : Class} (hcX : s.vm.findClass cls = some cX) (hkX : s.vm.classes[cX]? = some kX) (hcell : V.heap[a]? = some (freshCell cX kX)) (hnew : s.heap.size ≤ a)
    {pc : Nat} {ls : Array Slot} {st : List Value} (hsize : ls.size = c.maxLocals) (hd : decode c.code pc = .ok (.invokespecial ic, 3))
    (hRf : names.length + 3 < R.frames) (hRl : (st.map fun v => v.category).sum + (13 * (names.length + 1) + 42) ≤ R.locals) :
    ∃ (U : State) (ce : Cell) (ys : List Loc), Stand p l e R s m args below meth c U ys cells slots ∧ (∀ y ∈ ys, y.base = a) ∧ U.heap[a]? = some ce ∧ ce.vm = .none ∧ ce.cls = cX ∧
      ∀ target, Steps p.tables e below (U.setTop (F0 m (pc + 3) ls st)) target → Steps p.tables e below (V.setTop (F0 m pc ls (.ref sa :: .ref a :: st))) target := by
  have hpl : e.platform.magicAccessors = ({} : Platform).magicAccessors := by rw [X.admits.platform]
  -- Throwable, its message constructor, the chain of constructors down to it
  obtain ⟨T, Z0, L, -, Y⟩ := ThrowableC.of_atoms (args := args) (s := s) (pl := e.platform) (by rw [X.admits.platform]) (by rw [X.admits.platform]) hpl (fun w hw => h w (by simp [Bundle.ownAtomsX, hw]))
  obtain ⟨Z, M, LZ, LM, hZ⟩ := Init0T.ofS_atoms (args := args) hpl L Y (fun w hw => h w (by simp [Bundle.ownAtomsX, hw]))
  obtain ⟨P, Ps, hn, LP, LPs, hP, hup, hups⟩ := Bundle.chainSX (args := args) hpl hZ hrx.1 hrx.2.1 hrx.2.2.1 hrx.2.2.2 names cls hcls hnames (fun w hw => h w (by simp [Bundle.ownAtomsX, hw]))
  -- the object's class and its fields
  obtain ⟨_, _, e1, e2, hord, -⟩ := Cond.instantiable_spec (h (.instantiable cls 6) (by simp [Bundle.ownAtomsX]))
  cases hcX.symm.trans e1
  cases hkX.symm.trans e2
  obtain ⟨_, fM0⟩ := Y.msg
  obtain ⟨ci, i, fB, b1, b2, b3, b4, -, nB, tB, fB0⟩ := Cond.ownField (t := .object "java/lang/Object") Y.found L.cls (by decide +kernel) (h (.fieldLink Bundle.tN 198 Bundle.tN "backtrace" "Ljava/lang/Object;") (by simp [Bundle.ownAtomsX])) (h (.lays Bundle.tN Bundle.tN "backtrace" "Ljava/lang/Object;") (by simp [Bundle.ownAtomsX])) e.platform hpl
  have gC : nz_F s cX kX T.fCause := Cond.laysAt hcX hkX Y.cause (h (.lays cls Bundle.tN "cause" "Ljava/lang/Throwable;") (by simp [Bundle.ownAtomsX]))
  have gS : nz_F s cX kX T.fStack := Cond.laysAt hcX hkX Y.stack (h (.lays cls Bundle.tN "stackTrace" Bundle.steD) (by simp [Bundle.ownAtomsX]))
  have gP : nz_F s cX kX T.fSupp := Cond.laysAt hcX hkX Y.supp (h (.lays cls Bundle.tN "suppressedExceptions" Bundle.listD) (by simp [Bundle.ownAtomsX]))
  have gM : nz_F s cX kX T.fMsg := Cond.laysAt hcX hkX fM0 (h (.lays cls Bundle.tN "detailMessage" "Ljava/lang/String;") (by simp [Bundle.ownAtomsX]))
  have gB : nz_F s cX kX fB := Cond.laysAt hcX hkX fB0 (h (.lays cls Bundle.tN "backtrace" "Ljava/lang/Object;") (by simp [Bundle.ownAtomsX]))
  have takes : ∀ {f : Field} {v : Value}, nz_F s cX kX f → fits f.type v = true → Takes s (freshCell cX kX) f v := fun g hv => Takes.of_laid hkX hord g.1 hv
  obtain ⟨qS, u, v, hqS, hqk, hlt, hqu, hqv⟩ := nz_statics X L Y (h _ (by simp [Bundle.ownAtomsX])) (h _ (by simp [Bundle.ownAtomsX]))
  have hskip : SkipFacts T e.platform s (fun t => t) u ((preparedCellV T.toThrowableT (freshCell cX kX) a u v).withEntry V.cur) := by
    refine ⟨⟨ci, i, fB⟩, ⟨b1, b2, b3, b4⟩, ?_, fun _ _ => rfl⟩
    rw [nz_kept a u v V.cur (nz_apart gC gB Y.causeName nB (by decide)) (nz_apart gS gB Y.stackName nB (by decide)) (nz_apart gP gB Y.suppName nB (by decide)), fresh_default gB.1, tB]
    rfl
  -- the call is resolved, then the chain runs
  have wC : (Cond.instanceMethod (Bundle.initS cls)).before args s = true ∧ (Cond.code (Bundle.initS cls) rx 2 none).before args s = true := by
    constructor <;> exact h _ (by cases names <;> simp [Bundle.ownAtomsX, Bundle.chainSAtomsX, Bundle.passSAtoms])
  obtain ⟨i1, _, _, _, vm1, hi1, -, -, -, -, -, -, -, hW1, go1⟩ := Steps.initColdS (tb := p.tables) (e := e) X.here hexec X.warmed hpl hown (t := Bundle.initS cls) rfl rfl (Bundle.fit_spec hcls).2 (h (.methodLink own ic (Bundle.initS cls)) (by simp [Bundle.ownAtomsX])) wC.1 wC.2
    (f := F0 m pc ls (.ref sa :: .ref a :: st)) rfl rfl hd
  cases hi1.symm.trans hP
  obtain ⟨vm2, X2, go2⟩ := (X.noted hW1).ctorMessageOffV hexec (g := F0 m pc ls st) rfl hsize T L Z LZ M LM (P :: Ps) (fun Q hQ => (List.mem_cons.mp hQ).elim (fun q => q ▸ LP) (LPs Q)) ⟨hup, hups⟩ (self := a) (msg := .ref sa) rfl hcell
    (fun k => nofun) nofun rfl rfl (nz_sel X.admits rfl hcX Y.fill0 (h _ (by simp [Bundle.ownAtomsX]))) (nz_sel X.admits rfl hcX Y.fill (h _ (by simp [Bundle.ownAtomsX]))) hqS (Nat.ne_of_lt (Nat.lt_of_lt_of_le hlt hnew)) hqk hqu hqv
    (takes gC (by rw [Y.causeType]; rfl)) (takes gS (by rw [Y.stackType]; exact fits_refV_array _ u)) (takes gP (by rw [Y.suppType]; exact fits_refV_object _ v)) (takes gM (by rw [Y.msgType]; rfl)) Y.objLocals hskip htr [] hd
    (by rw [List.length_cons, hn]; omega) (by rw [List.length_cons, hn]; show 2 * 0 + (st.map fun v => v.category).sum + _ ≤ _; omega)
  refine ⟨_, _, _, X2, fun y hy => ?_, heapAt_setCell_self _ (Array.getElem?_eq_some_iff.mp hcell).1, rfl, rfl, fun target hT => go1 target fun acts => ?_⟩
  · simp only [List.nil_append, List.mem_cons, List.not_mem_nil, or_false] at hy
    rcases hy with rfl | rfl | rfl | rfl | rfl <;> rfl
  · rw [doInvoke_state]
    exact go2 target hT
end NZ
section
variable {p : Program} {l : Launch} {e : Env} {R : Room} {s : State} {m : MethodId} {args : Array Value} {below : List Frame} {meth : Method} {c : Code} {H : Heap} {locs : List Loc} {cells slots : Nat}
variable {mc ms : Nat} {free : Addr → Prop} {ls : Array Slot} {rest : List Value}
variable {Qc : Array Value → State → Outcome → State → Prop} {XC : String → State → State → Prop}
theorem nx_throwS {cc : ByteArray} {pc : Nat} (hexec : p.tables.exec = Jvm.exec) (hb : c.code = cc) (hl : l.stackTraces = false) {own cls text : String} {names : List String} {ik is ic ix mc ms sa : Nat} {rx : ByteArray} {A : Nat → Prop}
    (x0 : decode rx 0 = .ok (.aload_n 0, 1)) (x1 : decode rx 1 = .ok (.aload_n 1, 1)) (x2 : decode rx 2 = .ok (.invokespecial ix, 3)) (x5 : decode rx 5 = .ok (.return_, 1)) (hown : s.vm.findClass own = some m.cls) (hcls : Bundle.fit cls = true) (hnames : ∀ n ∈ names, Bundle.fit n = true)
    (hk : (Cond.classLink own ik cls).before args s = true) (hini : (Cond.initialized cls).before args s = true) (hstr : vk_R own is text sa s) (hat : ∀ w ∈ nx_atS own ic cls ix rx names, w.before args s = true)
    (hgood : ∀ w ∈ Cond.classLink own ik cls :: Cond.initialized cls :: nx_atS own ic cls ix rx names, vx_ot w = true)
    (hU : vx_Zq Bundle.tN "UNASSIGNED_STACK" Bundle.steD A s s.heap) (hN : vx_Zq Bundle.tN "SUPPRESSED_SENTINEL" Bundle.listD A s s.heap) (hS : va_S A s.heap H locs) (hsize : ls.size = c.maxLocals)
    (d0 : decode cc pc = .ok (.new ik, 3)) (d3 : decode cc (pc + 3) = .ok (.dup, 1)) (d4 : decode cc (pc + 4) = .ok (.ldc is, 2)) (d6 : decode cc (pc + 6) = .ok (.invokespecial ic, 3)) (d9 : decode cc (pc + 9) = .ok (.athrow, 1))
    (hout : ∀ x ∈ c.exceptionTable.toList, covers x (pc + 9) = false)
    (hRframes : names.length + 3 < R.frames) (hRlocals : (rest.map fun v => v.category).sum + (13 * (names.length + 1) + 43) ≤ R.locals) (hRcells : cells + 1 ≤ R.cells) (hRslots : slots + 6 ≤ R.slots) (hlocks : meth.locks = false)
    (hx : ∀ t : State, s.vm.Alike t.vm → H.size ≤ t.heap.size → (∀ q : Nat, q < H.size → t.heap[q]? = H[q]?) → XC cls s t)
    (hf : ∀ z ∈ locs, free z.base) (hc : cells + 1 ≤ mc) (hs : slots + 6 ≤ ms) :
    W p l e R s m args below meth c H locs cells slots (vx_MQ below Qc XC args s mc ms free) (F0 m pc ls rest) := by
  intro T hT X
  have htr : e.platform.stackTraces = false := (show e.platform.stackTraces = l.stackTraces by rw [X.admits.platform]).trans hl
  have Y := vx_rebase X (R' := { frames := R.frames, locals := R.locals, cells := 1, slots := 6 }) (Nat.le_refl _) (Nat.le_refl _) hRcells hRslots
  obtain ⟨s', hA⟩ : ∃ z, z = (T.setVm s.vm).setFrames (.invoking m args :: below) := ⟨_, rfl⟩
  rw [← hA] at Y
  have hvm : s'.vm = s.vm := by rw [hA]; rfl
  have hhp : s'.heap = H := by rw [hA]; exact hT
  have hW0 : s.WarmedH s'.vm := by rw [hvm]; exact State.WarmedH.refl s
  have hat' : ∀ w ∈ nx_atS own ic cls ix rx names, w.before args s' = true := fun w hw => vx_ot_at hW0 hvm.symm (hgood w (List.mem_cons_of_mem _ (List.mem_cons_of_mem _ hw))) (hat w hw)
  have hk' : (Cond.classLink own ik cls).before args s' = true := vx_ot_at hW0 hvm.symm (hgood _ List.mem_cons_self) hk
  have hini' : (Cond.initialized cls).before args s' = true := vx_ot_at hW0 hvm.symm (hgood _ (List.mem_cons_of_mem _ List.mem_cons_self)) hini
  have hU' : vx_Zq Bundle.tN "UNASSIGNED_STACK" Bundle.steD A s' s'.heap := by rw [hhp]; exact vx_Zq.moved hW0.alike (hU.kept hS.2.1)
  have hN' : vx_Zq Bundle.tN "SUPPRESSED_SENTINEL" Bundle.listD A s' s'.heap := by rw [hhp]; exact vx_Zq.moved hW0.alike (hN.kept hS.2.1)
  have h : ∀ w ∈ Bundle.ownAtomsX own ic cls ix rx names, w.before args s' = true := vx_own hat' (vx_isRefq hU'.1) (vx_isRefq hN'.1) hU'.2.word hN'.2.word
  have hown' : s'.vm.findClass own = some m.cls := by rw [hvm]; exact hown
  have hins : (Cond.instantiable cls 6).before args s' = true := h _ (by simp [Bundle.ownAtomsX])
  obtain ⟨vm₁, cX, kX, hfX, hkX, -, -, X₁, st1⟩ := Y.newCold hexec (own := own) (C := cls) (index := ik) (n := 6) hown' hk' hins hini'
    (g := F0 m pc ls rest) rfl (by rw [hb]; exact d0) (Nat.le_refl _) (Nat.le_refl _)
  generalize hT1 : (T.setVm vm₁).pushCell { cls := cX, slots := kX.instanceTypes.map defaultValue, vm := .none } = T1 at X₁ st1
  have hcat : (Value.ref T.heap.size).category = 1 := rfl
  have hcellA : T1.heap[T.heap.size]? = some (freshCell cX kX) := by rw [← hT1]; exact State.heap_pushCell_size _ _
  have d3' : decode c.code (pc + 3) = .ok (.dup, 1) := by rw [hb]; exact d3
  have d4' : decode c.code (pc + 4) = .ok (.ldc is, 2) := by rw [hb]; exact d4
  have hstr' : vk_R own is text sa s' := vk_R.warm hW0 hstr
  obtain ⟨U0, ce, ys, X2, hys, hce0, hvm0, hcls0, hmade⟩ := nz_made (sa := sa) X₁ hexec htr (own := own) (cls := cls) (names := names) (ic := ic) h ⟨x0, x1, x2, x5⟩ hown' hcls hnames hfX hkX hcellA (by rw [hhp, hT]; exact Nat.le_refl _)
    (pc := pc + 6) (ls := ls) (st := .ref T.heap.size :: rest) hsize (by rw [hb]; exact d6) hRframes (by simp only [List.map_cons, List.sum_cons, hcat]; omega)
  obtain ⟨hout9, hrun, hend, hW, hsame0⟩ := X2.athrowLeaves hexec (g := F0 m (pc + 9) ls (.ref T.heap.size :: rest)) rfl rfl rfl hout rfl (by rw [hb]; exact d9) hlocks
  have hsame := hsame0.weaken (l' := []) (fun y hy hlt => absurd (hys y hy ▸ hlt) (by rw [hhp, hT]; exact Nat.lt_irrefl _)) (Nat.le_refl _) (Nat.le_refl _)
  have hsteps := hmade _ hout9
  have hce : (U0.setFrames (.throwing T.heap.size :: below)).heap[T.heap.size]? = some ce := hce0
  generalize U0.setFrames (.throwing T.heap.size :: below) = U at hsteps hrun hend hW hsame hce
  obtain ⟨f1, f2⟩ := vx_frame hsame
  rw [hhp] at f1 f2
  have hWs : s.WarmedH U.vm := State.WarmedH.trans hW0 hW
  have hcl : s.vm.findClass cls = some ce.cls := by
    rw [hcls0, ← hvm]
    exact hfX
  have hall : s.sameButNew ({ U with vm := s.vm } : State) locs mc ms := by
    subst hA
    obtain ⟨e1, e2⟩ := hsame
    rw [State.setFrames_setFrames] at e1
    have h2 : (T.setVm s.vm).sameButNew ({ U with vm := s.vm } : State) [] (0 + 1) (0 + 6) := ⟨e1, e2⟩
    have h3 := X.same.trans h2
    rw [List.append_nil] at h3
    exact h3.mono hc hs
  refine ⟨U, ?_, .threw T.heap.size, hrun, hend, Or.inr ⟨T.heap.size, rfl, cls, ce, locs, hx U hWs.alike f1 (fun q hq => f2 q hq (fun z hz => nomatch hz)), hce, hvm0, hcl, hWs, hall, hf⟩⟩
  refine st1 _ ?_
  show Steps p.tables e below (T1.setTop { method := m, pc := pc + 3, locals := ls, stack := .ref T.heap.size :: rest, locked := none }) _
  jvm_step X₁.here [X₁.here.top, hexec, d3', Value.category]
  exact X₁.ldcString hexec (own := own) (text := text) (index := is) (a := sa) hown' hstr'.1 hstr'.2
    (g := { method := m, pc := pc + 4, locals := ls, stack := .ref T.heap.size :: .ref T.heap.size :: rest, locked := none }) rfl d4' _ hsteps
end

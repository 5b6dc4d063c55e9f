/-! ===== the claim out of one walk of the law (begun from laws/SKELETON.whole: all here but law_run, law_world, whole_start) ===== -/
def R_law : String := "MoorGuidesLaw"
def lw_P (b : Addr) (xs : List Int32) (args : Array Value) (s : State) : Prop := args = #[.ref b] ∧ s.IntsAt b xs ∧ xs.length ≤ 3072 ∧ (Jvm.Cond.and given_1 narrow_1).before args s = true
def lw_Q (_ : Array Value) (s : State) (o : Outcome) (t : State) : Prop := o = .returned (some (.int 1)) ∧ Framed s o t [] 601024 7293034
def lw_Z (below : List Frame) (a : Array Value) (s : State) : State → Prop := fun t => ∃ o, t.status = .running ∧ Ended t below o ∧ lw_Q a s o t
/-- the law's own end, with 1 on the stack, nothing written that was there before, its room as the claim has it -/
theorem lw_ret {p : Program} {l : Launch} {e : Env} {s : State} {m : MethodId} {below : List Frame} {meth : Method} {c : Code} {b : Nat} (hx : p.tables.exec = Jvm.exec) (hb : c.code = code) (hr : meth.sig.returnType = ret) (hlocks : meth.locks = false) {pc : Nat} {H : Heap} {ls : Array Slot} (hdg : decode code pc = .ok (.ireturn, 1)) : W p l e room_1 s m #[Value.ref b] below meth c H [] 601024 7293034 (lw_Z below #[Value.ref b] s) (F0 m pc ls [.int 1]) := by
  intro T hT X
  obtain ⟨fs, hret, hrun, hended, hW, hframe⟩ := X.leave (v := some (.int 1)) (hlocks := hlocks) (fun h => by rw [hr] at h; cases h)
  have hmeth' : T.vm.method? m = some meth := X.method'
  refine ⟨T.setFrames fs, ?_, .returned (some (.int 1)), hrun, hended, rfl, ⟨_, rfl⟩, hW, hframe⟩
  jvm_step X.here [X.here.top, hx, hb, hdg, hmeth', hr, ret, narrow_b1]
  (try refine ⟨rfl, ?_⟩); (try refine ⟨rfl, ?_⟩)
  first | (intro acts; rw [hret _ acts rfl rfl rfl]) | rw [hret _ _ rfl rfl rfl]
  exact Steps.refl _
/-- what holds at the law's entry: the machine, the code, the tables' words (any of lw_tbl by 'hts w (by decide +kernel)'), the script of L ints xs at the cell b, what the Statement gives of the start (any of its parts by flat_of_before) -/
def lw_At (p : Program) (s : State) (m : MethodId) (meth : Method) (c : Code) (b L : Nat) (xs : Nat → Int32) : Prop :=
  p.tables.exec = Jvm.exec ∧ c.code = code ∧ meth.sig.returnType = ret ∧ c.maxLocals = 7 ∧ s.vm.findClass R_law = some m.cls ∧ (∀ w ∈ lw_tbl, w.before #[Value.ref b] s = true) ∧ va_X b L xs s s.heap ∧ b < s.heap.size ∧ meth.locks = false ∧ (Jvm.Cond.and given_1 narrow_1).before #[Value.ref b] s = true
set_option maxRecDepth 100000 in
set_option maxHeartbeats 4000000 in
/-- from the loop's head -/
theorem law_run {p : Program} {l : Launch} {e : Env} {s : State} {m : MethodId} {below : List Frame} {meth : Method} {c : Code} {b L : Nat} {xs : Nat → Int32} {ρ0 : Nat → Nat → Nat} {D : va_G} {aC : Nat → ClassId} {S : CS} {w : Wd} (hx : p.tables.exec = Jvm.exec) (hb : c.code = code) (hr : meth.sig.returnType = ret) (hlocks : meth.locks = false) (hX : va_X b L xs s s.heap) (hbl : b < s.heap.size) (hl0 : l.stackTraces = false) (hexL : exL (fun q : Nat => s.heap.size ≤ q) s)
    (G : GC0 (p, l, e, room_1, s, m, #[Value.ref b], below, meth, c, 601024, 7293034, lw_Z below #[Value.ref b] s, [], ρ0, D, aC, (fun q : Nat => s.heap.size ≤ q), 7) cL_law RL) (hb7 : ρ0 2 7 = b) (hL : L ≤ 3072) (hf : fulS S.1 S.2.1 = true) (n1 : S.2.2.2.1 = 210) (n2 : S.2.2.2.2 = 10089) (h15 : (15, 0) ∈ S.1) (h1 : (1, 0) ∈ S.1) (h16 : (16, 0) ∈ S.1) (h27 : (2, 7) ∉ S.1) (I : Iv w v00) :
    CW (p, l, e, room_1, s, m, #[Value.ref b], below, meth, c, 601024, 7293034, lw_Z below #[Value.ref b] s, [], ρ0, D, aC, (fun q : Nat => s.heap.size ≤ q), 7) [] 23 (lsL 0) [] S w := by
  refine CW_WW (S := S) rfl hf ?_ (fun v hv => by cases hv) (fun ρ hle hρ hI1 => ?_)
  · intro j v hj
    match j with
    | 0 => cases hj; exact Or.inr rfl
    | 1 => cases hj; exact Or.inl h15
    | 2 => cases hj; exact Or.inl h16
    | 3 => cases hj; exact Or.inl h1
    | 4 => cases hj; trivial
    | 5 => cases hj
    | 6 => cases hj
    | j + 7 => cases hj
  · have G1 := GC0.gx (S := S) (n0 := 0) G hf hρ hI1 (by omega) (by omega)
    have e27 : ρ 2 7 = b := (hρ 2 7 (fun h => h27 (by simpa using h))).trans hb7
    rw [n1, n2] at G1 ⊢
    have C : ScrX (p, l, e, room_1, s, m, #[Value.ref b], below, meth, c, 210, 10089, lw_Z below #[Value.ref b] s, S.1, ρ, D, aC, (fun q : Nat => s.heap.size ≤ q), 7) L xs := by
      show va_X (ρ 2 7) L xs s s.heap ∧ ρ 2 7 < s.heap.size ∧ ¬ s.heap.size ≤ ρ 2 7
      rw [e27]
      exact ⟨hX, hbl, Nat.not_le.mpr hbl⟩
    refine law_loop (N := 2 ^ 60) (Nat.le_refl _) hl0 hexL G1 C hL h15 h1 (fun i hi ls w => ?_) 513 0 w v00 (Nat.zero_le _) (by omega) I
    intro H locs la hl hv hs hP hD hS hR
    refine lv_iconst hx hb (show decode code 1330 = .ok (.iconst 1, 1) by decide +kernel) (show Int32.ofInt 1 = (1 : Int32) from rfl) ?_
    refine va_forget (fun q hq => hS.2.2 q hq) ?_
    refine W.widen (k := 601024) (n := 7293034) (by omega) (by omega) ?_
    exact lw_ret hx hb hr hlocks (show decode code 1331 = .ok (.ireturn, 1) by decide +kernel)
/-- the law's own row stays as it was -/
theorem z1_same (w : Wd) (hI : gI w 1 0 = fun _ => 0) (hL : gL w 1 0 = fun _ => 0) : zrow w 1 0 = w := by
  have e1 : upRow w.1 1 0 (fun _ => (0 : Int32)) = w.1 := by
    funext k i
    by_cases hk : (k, i) = (1, 0)
    · cases hk
      rw [upRow_self]
      exact hI.symm
    · rw [upRow_ne _ _ _ _ hk]
  have e2 : upRow w.2.1 1 0 (fun _ => (0 : Int64)) = w.2.1 := by
    funext k i
    by_cases hk : (k, i) = (1, 0)
    · cases hk
      rw [upRow_self]
      exact hL.symm
    · rw [upRow_ne _ _ _ _ hk]
  unfold zrow
  rw [e1, e2]
set_option maxRecDepth 100000 in
set_option maxHeartbeats 4000000 in
theorem lx_out : ((oCC.all (lop Lc endC.1) && !endC.1.contains (1, 0)) && (oMM.all (lop Lc endM.1) && !endM.1.contains (1, 0))) = true := by decide +kernel
/-- the world of nothing -/
def wd0 : Wd := (fun _ _ _ => 0, fun _ _ _ => 0, fun _ _ _ => 0)
set_option maxRecDepth 100000 in
set_option maxHeartbeats 4000000 in
/-- both objects made: the invariant holds -/
theorem law_world {N : Nat} (hN : 200 ≤ N) : ∃ w1 w2, wops (Fc N) oCC (zrow wd0 15 0) = some w1 ∧ wops (Fc N) oMM (zrow w1 16 0) = some w2 ∧ Iv (zrow w2 1 0) v00 := by
  obtain ⟨w1, e1, I1⟩ := init_c hN (zrow wd0 15 0) (fun j => by rw [gI_z])
  have I1' : IC (zrow w1 16 0) := IC_eq I1 (fun c hc => (by
    have hne : (c.1, c.2) ≠ (16, 0) := (by decide : ∀ c ∈ cIC, (c.1, c.2) ≠ (16, 0)) c hc
    exact ⟨gI_zn hne, gL_zn hne, rfl⟩))
  obtain ⟨w2, e2, I2⟩ := init_m hN I1' (fun j => by rw [gI_z])
  have t := lx_out
  simp only [Bool.and_eq_true, Bool.not_eq_true'] at t
  obtain ⟨⟨t1, t2⟩, t3, t4⟩ := t
  have a1 := wops_out (Fc_ag N) oCC _ _ e1 t1 1 0 (fun h => by rw [List.contains_iff_mem.mpr h] at t2; cases t2)
  have a2 := wops_out (Fc_ag N) oMM _ _ e2 t3 1 0 (fun h => by rw [List.contains_iff_mem.mpr h] at t4; cases t4)
  have z : zrow w2 1 0 = w2 := z1_same w2 (a2.1.trans ((gI_zn (by decide)).trans (a1.1.trans ((gI_zn (by decide)).trans rfl)))) (a2.2.1.trans ((gL_zn (by decide)).trans (a1.2.1.trans ((gL_zn (by decide)).trans rfl))))
  exact ⟨w1, w2, e1, e2, by rw [z]; exact I2⟩
set_option maxRecDepth 100000 in
set_option maxHeartbeats 4000000 in
theorem whole_start {p : Program} {e : Env} {s : State} {m : MethodId} {below : List Frame} {meth : Method} {c : Code} (l : Launch) (hl0 : l.stackTraces = false) {b L : Nat} {xs : Nat → Int32} (hL : L ≤ 3072) (C0 : lw_At p s m meth c b L xs) : W p l e room_1 s m #[Value.ref b] below meth c s.heap [] 0 0 (lw_Z below #[Value.ref b] s) (entryFrame m ([Value.ref b] : List Value).toArray 7) := by
  obtain ⟨hx, hb, hr, hml, hown, hts, hX, hbl, hlocks, hgv⟩ := id C0
  have htg : ∀ w ∈ lwg, w.before #[Value.ref b] s = true := fun w h => hts w (List.mem_filter.mp h).1
  obtain ⟨ρ0, hb7, hexS, hexN, hexL⟩ := law_ex hts hgv
  obtain ⟨D, aC, hK⟩ := law_K htg hexN.2
  obtain ⟨w1, w2, e1, e2, I⟩ := law_world (N := 2 ^ 60) (by decide)
  have hP : va_P D classes (picN ([] : List (Nat × Nat × Nat)) [] ρ0 aC wd0) s.heap := fun k q h => by cases h
  have hD : va_D (fun q : Nat => s.heap.size ≤ q) (picN ([] : List (Nat × Nat × Nat)) [] ρ0 aC wd0) := ⟨(fun i j p q h => by cases h), (fun k q h => by cases h)⟩
  have hI : CI (([], [], [], 0, 0) : CS) [] wd0 := ⟨List.nodup_nil, (fun k i h => by cases h), (fun k i f h => by cases h), (fun k i f x h => by cases h)⟩
  rw [lg_entry_eq]
  have G : GC (p, l, e, room_1, s, m, #[Value.ref b], below, meth, c, 601024, 7293034, lw_Z below #[Value.ref b] s, [], ρ0, D, aC, (fun q : Nat => s.heap.size ≤ q), 7) cL_law RL := ⟨hexS, hexN, hx, hb, hml, hown, htg, hK, fun q h => h, Nat.le_refl _, Nat.le_refl _, by decide, by decide, Or.inr rfl⟩
  have t := lx_ok3
  simp only [Bool.and_eq_true, decide_eq_true_eq, Bool.not_eq_true'] at t
  obtain ⟨hf, ⟨n1, n2⟩, ⟨c15, c1⟩, c16, c27⟩ := t
  have k : CW (p, l, e, room_1, s, m, #[Value.ref b], below, meth, c, 601024, 7293034, lw_Z below #[Value.ref b] s, [], ρ0, D, aC, (fun q : Nat => s.heap.size ≤ q), 7) [] 0 lsA [] ([], [], [], 0, 0) wd0 := by
    refine law_made (N := 2 ^ 60) G rfl rfl rfl rfl e1 e2 ?_
    exact law_run hx hb hr hlocks hX hbl hl0 hexL G.g0 hb7 hL hf n1 n2 (List.contains_iff_mem.mp c15) (List.contains_iff_mem.mp c1) (List.contains_iff_mem.mp c16) (fun h => by rw [List.contains_iff_mem.mpr h] at c27; cases c27) I
  have hent := ent_lvr ρ0 (as := [.inr (.inr (2, 7))]) (nL := 7) (Nat.le_of_ble_eq_true rfl)
  have hmap : (([.inr (.inr (2, 7))] : List AV).map (trv ρ0)) = [Value.ref b] := by
    show [Value.ref (ρ0 2 7)] = _
    rw [hb7]
  rw [hmap] at hent
  exact k ρ0 s.heap [] _ (Nat.le_refl _) (fun _ _ _ => rfl) hent hI hP hD va_S.rf
set_option maxHeartbeats 4000000 in
theorem lw_walk (l : Launch) (hl0 : l.stackTraces = false) (b : Addr) (xs : List Int32) : MetFree l x (headSpec (Jvm.Cond.code x code maxLocals ret :: tables_1) room_1) (lw_P b xs) (fun _ _ _ _ _ => True) lw_Q := by
  refine MetFree.of_bodyS (code := code) (maxLocals := maxLocals) (ret := ret) (by decide) ?_ ?_
  · intro args s m h hn
    obtain ⟨meth, c, h1, h2, h3, h4, h5, h6, -, -⟩ := Cond.code_spec hn (atoms_spec (ws := Jvm.Cond.code x code maxLocals ret :: tables_1) h _ List.mem_cons_self)
    exact ⟨meth, c, h1, h2, h3, h4, h5, h6⟩
  · intro p e s m args below meth c s₁ B hml0 hP _
    obtain ⟨rfl, hx, hbd, hgv⟩ := hP
    obtain ⟨scr, harrAt, hlist, hof, hsmall⟩ := hx
    obtain ⟨hcb, hkn, -, -⟩ := State.arrayAt?_spec harrAt
    have hown : s.vm.findClass R_law = some m.cls := findClass_of_methodNamed B.named
    have hts0 : ∀ c ∈ (Jvm.Cond.code x code maxLocals ret :: tables_1), c.before #[Value.ref b] s = true := atoms_spec (ws := Jvm.Cond.code x code maxLocals ret :: tables_1) B.pre
    have hts : ∀ w ∈ lw_tbl, w.before #[Value.ref b] s = true := k2_hts_sels lw_privs (fun w hw => hts0 w (List.mem_cons_of_mem _ hw)) lw_privs_ok
    have hml : c.maxLocals = 7 := B.maxLocals_eq (hts0 _ List.mem_cons_self)
    have X₀ : Stand p l e room_1 s m #[Value.ref b] below meth c s₁ [] 0 0 := Stand.of_body B
    have hh0 : s₁.heap = s.heap := by rw [B.state]; rfl
    have hsz : scr.slots.size = xs.length := by rw [← Array.length_toList, hlist, List.length_map]
    have hval : ∀ j : Nat, j < xs.length → scr.slots[j]? = some (.int (xs.getD j 0)) := fun j hj => by
      rw [← Array.getElem?_toList, hlist]
      simp [hj]
    have hbl : b < s.heap.size := (Array.getElem?_eq_some_iff.mp hcb).1
    have hX : va_X b xs.length (fun j => xs.getD j 0) s s.heap := ⟨scr, hcb, hof, hkn, hsz, hval⟩
    have K : W p l e room_1 s m #[Value.ref b] below meth c s₁.heap [] 0 0 (lw_Z below #[Value.ref b] s) (entryFrame m ([Value.ref b] : List Value).toArray 7) := by
      rw [hh0]
      exact whole_start l hl0 hbd ⟨B.exec, B.bytes, B.returns, hml, hown, hts, hX, hbl, B.notSynchronized, hgv⟩
    obtain ⟨t, a1, o, b1, b2, b3⟩ := K s₁ rfl X₀
    exact ⟨t, o, a1, b1, b2, b3⟩
theorem lw_pre_spec {args : Array Value} {s : State} (h : (Jvm.Cond.and given_1 narrow_1).before args s = true) (hr : rest_1_c.before args s = true) : ∃ (b : Addr) (xs : List Int32), lw_P b xs args s := by
  have hs := flat_of_before _ h
  have hq := flat_of_before _ hr
  have hc : (Cond.count 1).before args s = true := hs _ (by decide +kernel)
  have harr : (Cond.arrayOf (.arg 0) .int).before args s = true := hs _ (by decide +kernel)
  have hle : (Cond.le (.length (.arg 0)) (.int 3072)).before args s = true := hs _ (by decide +kernel)
  have hlen : (Cond.isInt (.length (.arg 0))).before args s = true := hq _ (by decide +kernel)
  have hall : (Cond.all (.arg 0) (.isInt (.elem (.arg 0) (.index 0)))).before args s = true := hq _ (by decide +kernel)
  obtain ⟨b, xs, hb, hx⟩ := State.ints_of_pre rfl harr hlen hall
  have hsm : xs.length < 2 ^ 31 := hx.choose_spec.2.2.2
  have hev : (Term.length (.arg 0)).eval args s none [] s = some (.int xs.length.toInt32) := hx.length_eval hb
  have hv := Cond.le_ints hev (show (Term.int 3072).eval args s none [] s = some (.int 3072) from rfl)
  have hd : xs.length.toInt32 ≤ 3072 := by
    simpa [Cond.before, Cond.holds, hv] using hle
  have hN : xs.length ≤ 3072 := (Int32.ofNat_le_ofNat hsm (by decide)).mp (show Int32.ofNat xs.length ≤ Int32.ofNat 3072 from hd)
  exact ⟨b, xs, Cond.one_arg hc (show args[0]? = some (.ref b) from hb), hx, hN, h⟩
theorem lw_comes (l : Launch) (hl0 : l.stackTraces = false) : Comes l x (Jvm.Cond.code x code maxLocals ret :: tables_1) room_1 (fun tb e args s => Calls_1 tb e args s ∧ rest_1 tb e args s ∧ Pre_1 tb e args s)
    (fun _ _ args s o t => lw_Q args s o t) := by
  intro p e ha hc hk s m args below hf hfit hheap happ hpre
  obtain ⟨b, xs, hP⟩ := lw_pre_spec hpre.2.2 hpre.2.1
  obtain ⟨k, o, h1, h2, h3, hQ⟩ := lw_walk l hl0 b xs p e ha hc hk s m args below hf ((Spec.applies_iff_loose hf).mp happ).1 hP trivial
  exact ⟨k, o, h1, h2, h3, hQ⟩
theorem lw_frame {s t : State} {o : Outcome} {args : Array Value} (h : Framed s o t [] 601024 7293034) :
    Framed s o t (fieldLocs frame_1_writes args s ++ arrayLocs frame_1_arrays args s ++ staticLocs frame_1_statics s) 601024 7293034 := h
theorem lw_flag {l : Launch} (h : l.flags = flags0) : l.stackTraces = false := by
  unfold Launch.stackTraces
  rw [h]
  decide +kernel
theorem lw_limb (L : Cond) (hL : ∀ (args : Array Value) (s t : State), L.after args s (.returned (some (.int 1))) t = true) :
    ArmFor flags0 classFile x code maxLocals ret World_1 tables_1 room_1 Calls_1 rest_1 Pre_1
      (fun tb e a s o t => postC L tb e a s o t ∧ Framed s o t (fieldLocs frame_1_writes a s ++ arrayLocs frame_1_arrays a s ++ staticLocs frame_1_statics s) 601024 7293034) := by
  intro l hfl _ _ p e ha hc hk s m args below hf hfit hheap happ hpre
  obtain ⟨k, o, h1, h2, h3, rfl, hF⟩ := lw_comes l (lw_flag hfl) p e ha hc hk s m args below hf hfit hheap happ hpre
  exact ⟨k, _, h1, h2, h3, hL args s _, lw_frame hF⟩
theorem i_vc : Claimed_1_1 ∧ Claimed_1_2 := ⟨lw_limb limb_1_1 (fun args s t => by simp [limb_1_1, Cond.after, Cond.holds, Cond.value]), lw_limb limb_1_2 (fun args s t => Cond.after_iff.mpr (by
  first | (rw [show limb_1_2 = Cond.eq .result (.int 1) from rfl, Cond.eq_ints (x := 1) (y := 1) rfl rfl]; simp; done) | (simp [limb_1_2, Cond.value, Term.eval]; done)))⟩

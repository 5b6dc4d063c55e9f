/-! ===== constructors: the run, and contracts ===== -/
def cCall (e : CE) : Bool := match e.2.1 with
  | .invokevirtual _ => true
  | .invokespecial _ => e.2.2.1 != 0
  | _ => false
def cRet (e : CE) : Bool := match e.2.1 with
  | .return_ => true
  | _ => false
def crun (oC : Nat → List AV → CS → Option (CS × List WO)) (mc ms : Nat) (ext : List (Nat × Nat)) (ls : LV) : List CE → List AV → CS → Option (CS × List WO)
  | [], _, _ => none
  | e :: rest, st, S => if cRet e = true then (if st.length = 0 then some (S, []) else none)
    else if cCall e = true then (oC e.2.2.1 (st.take e.2.2.2.1).reverse S).bind fun q =>
      if catS (st.drop e.2.2.2.1) ≤ 8 ∧ (st.drop e.2.2.2.1).all (nrs (q.1.1.drop S.1.length)) = true ∧ nrsL (q.1.1.drop S.1.length) ls = true then (crun oC mc ms ext ls rest (st.drop e.2.2.2.1) q.1).bind fun z => some (z.1, q.2 ++ z.2) else none
    else (cstp mc ms ext ls e st S).bind fun q => (crun oC mc ms ext ls rest q.1 q.2.1).bind fun z => some (z.1, q.2.2 ++ z.2)
/-- the rule of a call -/
def CRC (X : XT) (ext : List (Nat × Nat)) (F : Nat → Wd → Option Wd) (e : CE) (f : List AV → CS → Option (CS × List WO)) : Prop := ∀ (as rest : List AV) (S S1 : CS) (ops : List WO) (w w1 : Wd) (ls : LV), f as S = some (S1, ops) → wops F ops w = some w1 → catS rest ≤ 8 → rest.all (nrs (S1.1.drop S.1.length)) = true → nrsL (S1.1.drop S.1.length) ls = true → CW X ext (e.1 + 3) ls rest S1 w1 → CW X ext e.1 ls (as.reverse ++ rest) S w
def ctok (cc : ByteArray) (own : String) : List CE → Bool
  | [] => true
  | e :: r => decide (decode cc e.1 = .ok (e.2.1, ciln e)) && (cok own e && ((match r with | [] => true | e' :: _ => e'.1 == e.1 + ciln e) && ctok cc own r))
theorem cCall_iln {e : CE} (h : cCall e = true) : ciln e = 3 := by
  unfold cCall at h
  unfold ciln
  split at h
  · rename_i e1; rw [e1]
  · rename_i e1; rw [e1]
  · cases h
theorem crun_sound {X : XT} {cc : ByteArray} {own : String} {ext : List (Nat × Nat)} {ls : LV} {mc ms : Nat} (G : GC X cc own) (hmc : X.2.2.2.2.2.2.2.2.2.2.1 = mc) (hms : X.2.2.2.2.2.2.2.2.2.2.2.1 = ms) {F : Nat → Wd → Option Wd} {oC : Nat → List AV → CS → Option (CS × List WO)} {S1 : CS} {w1 : Wd}
    (hr : ∀ pc, decode cc pc = .ok (.return_, 1) → CW X ext pc ls [] S1 w1) : ∀ (tab : List CE) (e : CE) (st : List AV) (S : CS) (ops : List WO) (w : Wd), ctok cc own (e :: tab) = true → (∀ e' ∈ e :: tab, ∀ x ∈ cwd own e', x ∈ lwg) → (∀ e' ∈ e :: tab, cCall e' = true → CRC X ext F e' (oC e'.2.2.1)) →
      crun oC mc ms ext ls (e :: tab) st S = some (S1, ops) → wops F ops w = some w1 → CW X ext e.1 ls st S w := by
  intro tab
  induction tab with
  | nil =>
    intro e st S ops w ht hw hC h hW
    unfold ctok at ht
    rw [Bool.and_eq_true, Bool.and_eq_true] at ht
    have hd := of_decide_eq_true ht.1
    unfold crun at h
    by_cases e1 : cRet e = true
    · rw [if_pos e1] at h
      obtain ⟨hs, h⟩ := if_some _ h
      cases h
      rw [List.length_eq_zero_iff.mp hs]
      cases hW
      refine hr e.1 ?_
      rw [hd]
      obtain ⟨pc, ins, a, b, x⟩ := e
      cases ins <;> first | (cases e1; done) | rfl
    · rw [if_neg e1] at h
      by_cases e2 : cCall e = true
      · rw [if_pos e2] at h
        obtain ⟨q, hq, h⟩ := bind_some' h
        obtain ⟨_, h⟩ := if_some _ h
        cases h
      · rw [if_neg e2] at h
        obtain ⟨q, hq, h⟩ := bind_some' h
        cases h
  | cons e' tab ih =>
    intro e st S ops w ht hw hC h hW
    unfold ctok at ht
    rw [Bool.and_eq_true, Bool.and_eq_true, Bool.and_eq_true] at ht
    obtain ⟨hd, hk, hnx, ht'⟩ := ht
    have hd := of_decide_eq_true hd
    have hnx : e'.1 = e.1 + ciln e := eq_of_beq hnx
    unfold crun at h
    by_cases e1 : cRet e = true
    · rw [if_pos e1] at h
      obtain ⟨hs, h⟩ := if_some _ h
      cases h
      rw [List.length_eq_zero_iff.mp hs]
      cases hW
      refine hr e.1 ?_
      rw [hd]
      obtain ⟨pc, ins, a, b, x⟩ := e
      cases ins <;> first | (cases e1; done) | rfl
    · rw [if_neg e1] at h
      by_cases e2 : cCall e = true
      · rw [if_pos e2] at h
        obtain ⟨q, hq, h⟩ := bind_some' h
        obtain ⟨⟨c1, c2, c3⟩, h⟩ := if_some _ h
        obtain ⟨z, hz, h⟩ := bind_some' h
        cases h
        rw [wops_app] at hW
        obtain ⟨w2, hW1, hW2⟩ := bind_some' hW
        have g := ih e' (st.drop e.2.2.2.1) q.1 z.2 w2 ht' (fun e0 h0 => hw e0 (List.mem_cons_of_mem _ h0)) (fun e0 h0 => hC e0 (List.mem_cons_of_mem _ h0)) hz hW2
        rw [hnx, cCall_iln e2] at g
        have := hC e List.mem_cons_self e2 _ _ S q.1 q.2 w w2 ls hq hW1 c1 c2 c3 g
        rw [List.reverse_reverse, List.take_append_drop] at this
        exact this
      · rw [if_neg e2] at h
        obtain ⟨q, hq, h⟩ := bind_some' h
        obtain ⟨z, hz, h⟩ := bind_some' h
        cases h
        rw [wops_app] at hW
        obtain ⟨w2, hW1, hW2⟩ := bind_some' hW
        have g := ih e' q.1 q.2.1 z.2 w2 ht' (fun e0 h0 => hw e0 (List.mem_cons_of_mem _ h0)) (fun e0 h0 => hC e0 (List.mem_cons_of_mem _ h0)) hz hW2
        rw [hnx] at g
        exact cstp_sound G hmc hms hd hk (hw e List.mem_cons_self) hq hW1 g
/-! contracts -/
def rmC (lev mc ms : Nat) : Room := { frames := lev, cells := mc, slots := ms, locals := 80 * lev }
def PcN (S : CS) (ρ : Nat → Nat → Nat) (D : va_G) (aC : Nat → ClassId) (sz : Nat) (w : Wd) (U : State) : Prop := U.heap.size = sz ∧ va_P D classes (picN S.2.1 S.1 ρ aC w) U.heap ∧ va_K D classes (atys aC) U ∧ va_D (fun _ => True) (picN S.2.1 S.1 ρ aC w) ∧ exS ρ (va_A (picN S.2.1 S.1 ρ aC w) sz) U ∧ exN U
def BwN (S : CS) (ext : List (Nat × Nat)) (D : va_G) (aC : Nat → ClassId) (A : Nat → Prop) (w : Wd) (ρ : Nat → Nat → Nat) (t : State) : Prop := va_P D classes (picN S.2.1 S.1 ρ aC w) t.heap ∧ va_D A (picN S.2.1 S.1 ρ aC w) ∧ CI S ext w
def SndC (y : MethodName) (b : ByteArray) (nL lev mc ms : Nat) (as : List AV) (ext : List (Nat × Nat)) (S S1 : CS) (w w1 : Wd) : Prop := ∀ (l : Launch) (ρ : Nat → Nat → Nat) (D : va_G) (aC : Nat → ClassId) (sz : Nat),
  Met l y (wsy y b nL none) (rmC lev mc ms) (va_Pc (as.map (trv ρ)) (PcN S ρ D aC sz w)) (va_Qv (fun ρ1 : Nat → Nat → Nat => ∀ k i, (k, i) ∉ S1.1.drop S.1.length → ρ1 k i = ρ k i) (BwN S1 ext D aC (va_A (picN S.2.1 S.1 ρ aC w) sz) w1) (va_A (picN S.2.1 S.1 ρ aC w) sz)) mc ms (va_A (picN S.2.1 S.1 ρ aC w) sz)
theorem SndC.of {y : MethodName} {b : ByteArray} {nL lev mc ms : Nat} {as : List AV} {ext : List (Nat × Nat)} {S S1 : CS} {w w1 : Wd} (hy : plainFor y = true) (hyn : y.name = "<init>") (hent : (entA as).length ≤ nL) (hI : CI (S.1, S.2.1, S.2.2.1, 0, 0) ext w) (hc1 : S1.2.2.2.1 ≤ mc) (hs1 : S1.2.2.2.2 ≤ ms)
    (body : ∀ X : XT, GC X b y.cls → X.2.2.2.2.2.2.2.2.2.2.1 = mc → X.2.2.2.2.2.2.2.2.2.2.2.1 = ms → xR X = rmC (lev + 1) mc ms → xnL X = nL → (∀ pc ls, decode b pc = .ok (.return_, 1) → CW X ext pc ls [] S1 w1) → CW X ext 0 (entL nL as) [] (S.1, S.2.1, S.2.2.1, 0, 0) w) : SndC y b nL (lev + 1) mc ms as ext S S1 w w1 := by
  intro l ρ D aC sz
  refine Met.ofWF (cc := b) (maxL := nL) (ret := none) hy rfl ?_
  intro p e s m args below meth c s₁ B hml hv
  obtain ⟨rfl, hsz, hP, hK, hD0, hex, hen⟩ := hv
  have hx := B.exec
  have hb := B.bytes
  have hr := B.returns
  have hts := atoms_spec (ws := wsy y b nL none) B.pre
  have hown : s.vm.findClass y.cls = some m.cls := findClass_of_methodNamed B.named
  have hlocks := B.notSynchronized
  have hin : meth.name = "<init>" := ((name_of_methodNamed B.named B.method).1).trans hyn
  subst hsz
  have hD := hD0.self (sz := s.heap.size)
  rw [lg_entry_eq]
  have k := body (p, l, e, (headSpec (wsy y b nL none) (rmC (lev + 1) mc ms)).room, s, m, (as.map (trv ρ)).toArray, below, meth, c, mc, ms, MQ below (va_Qv (fun ρ1 : Nat → Nat → Nat => ∀ k i, (k, i) ∉ S1.1.drop S.1.length → ρ1 k i = ρ k i) (BwN S1 ext D aC (va_A (picN S.2.1 S.1 ρ aC w) s.heap.size) w1) (va_A (picN S.2.1 S.1 ρ aC w) s.heap.size)) (as.map (trv ρ)).toArray s mc ms (va_A (picN S.2.1 S.1 ρ aC w) s.heap.size), S.1, ρ, D, aC, va_A (picN S.2.1 S.1 ρ aC w) s.heap.size, nL)
    ⟨hex, hen, hx, hb, hml, hown, fun w h => hts w (List.mem_cons_of_mem _ h), hK, fun q h => Or.inr h, Nat.le_refl _, Nat.le_refl _, (show 1 ≤ lev + 1 by omega), (show 64 ≤ 80 * (lev + 1) by omega), Or.inl hin⟩ rfl rfl rfl rfl (fun pc ls hdd ρ1 H locs la hle hρ hl hI1 hP1 hD1 hS1 => W.widen (k := mc) (n := ms) hc1 hs1 (W.vret hx hb hr (fun t ht hW => ⟨⟨ρ1, rfl, hρ, by rw [ht]; exact hP1, hD1, hI1⟩, hS1.F ht⟩) hS1.2.2 hdd hlocks))
  exact k ρ s.heap [] _ (Nat.le_refl _) (fun _ _ _ => rfl) (ent_lvr ρ hent) hI hP hD va_S.rf

/-! ===== the start: what both constructors leave ===== -/
def asC : List AV := [.inr (.inr (15, 0))]
def S0C : CS := ([(15, 0)], [], [], 0, 0)
def oCC : List WO := ((rX11 asC S0C).map Prod.snd).getD []
def endC : CS := ((rX11 asC S0C).map Prod.fst).getD S0C
theorem rC_some : (rX11 asC S0C).isSome = true := by decide +kernel
theorem rC_eq : rX11 asC S0C = some (endC, oCC) := by
  have h := rC_some
  unfold endC oCC
  cases hq : rX11 asC S0C with
  | none => rw [hq] at h; cases h
  | some q => rfl
def asM : List AV := [.inr (.inr (16, 0))]
def S0M : CS := ([(16, 0)], [], [], 0, 0)
def oMM : List WO := ((rX12 asM S0M).map Prod.snd).getD []
def endM : CS := ((rX12 asM S0M).map Prod.fst).getD S0M
theorem rM_some : (rX12 asM S0M).isSome = true := by decide +kernel
theorem rM_eq : rX12 asM S0M = some (endM, oMM) := by
  have h := rM_some
  unfold endM oMM
  cases hq : rX12 asM S0M with
  | none => rw [hq] at h; cases h
  | some q => rfl
def hdO (l : List WO) : Option WO := (l.dropWhile noC1).head?
/-- the first call is that of n -/
def isC (n : Nat) (l : List WO) : Bool := match hdO l with
  | some (a, m, k, i, x, q) => (a == 3 && m == n) && (k == 0 && i == 0) && (x == 0 && q == 0)
  | none => false
theorem isC_s {n : Nat} {l : List WO} (h : isC n l = true) : l = sg l ++ (3, n, 0, 0, 0, 0) :: rs l := by
  refine sg_rs ?_
  unfold isC at h
  split at h
  · rename_i a m k i x q e
    unfold hdO at e
    rw [e]
    simp only [Bool.and_eq_true, beq_iff_eq] at h
    obtain ⟨⟨⟨rfl, rfl⟩, rfl, rfl⟩, rfl, rfl⟩ := h
    rfl
  · cases h
/-- what a stand's begin reads -/
def preB : List (Nat × Nat × Nat × Int32) := [(49, 0, 0, 0), (49, 0, 1, 0), (49, 0, 2, 0), (49, 0, 3, 0), (49, 0, 4, 0), (49, 0, 5, 0), (8, 0, 12, 0), (8, 0, 16, 0)]
/-- numbers of the class -/
def fcI : List (Nat × Nat × Nat × Int32) := [(8, 0, 0, 0), (8, 0, 5, 0), (8, 0, 10, 0), (8, 0, 15, 0), (8, 0, 17, 0), (10, 0, 0, 0), (5, 0, 2, 0), (5, 1, 2, 0), (15, 0, 1, 0), (15, 0, 7, 0), (15, 0, 8, 0), (11, 0, 8, 0), (11, 0, 9, -1), (4, 0, 0, 0), (9, 0, 1, -1)]
/-- .. where all of cell (k0, 0) was 0 -/
def okJ (k0 : Nat) (l : List WO) (t : List (Nat × Nat × Nat × Int32)) : Bool := t.all (fun q => !kBd.contains (ky q.1 q.2.2.1) && (match evI q.1 q.2.1 q.2.2.1 l with
  | some x => x == q.2.2.2
  | none => q.1 == k0 && (q.2.1 == 0 && q.2.2.2 == 0)))
theorem okJ_s {k0 : Nat} {l : List WO} {t : List (Nat × Nat × Nat × Int32)} {w w1 : Wd} (h : VI l w w1) (hz : ∀ j, gI w k0 0 j = 0) (ho : okJ k0 l t = true) : ∀ q ∈ t, gI w1 q.1 q.2.1 q.2.2.1 = q.2.2.2 := fun q hq => by
  have a := List.all_eq_true.mp ho q hq
  rw [Bool.and_eq_true] at a
  obtain ⟨a1, a2⟩ := a
  rw [h q.1 q.2.1 q.2.2.1 (by simpa using a1)]
  cases he : evI q.1 q.2.1 q.2.2.1 l with
  | some x =>
    rw [he] at a2
    exact eq_of_beq a2
  | none =>
    rw [he] at a2
    simp only [Bool.and_eq_true, beq_iff_eq] at a2
    obtain ⟨b1, b2, b3⟩ := a2
    rw [b1, b2, b3]
    exact hz _
theorem evR_app' (k i j : Nat) : ∀ (l a : List WO), evR k i j (l ++ a) = (match evR k i j a with | some x => some x | none => evR k i j l)
  | [], a => by
    show evR k i j a = _
    cases evR k i j a with
    | some x => rfl
    | none => rfl
  | o :: l, a => by
    show evR k i j (o :: (l ++ a)) = _
    rw [evR, evR_app' k i j l a]
    cases evR k i j a with
    | some x => rfl
    | none => rfl
theorem evR_app (k i j : Nat) (l a : List WO) (x : Nat) : (evR k i j (l ++ a)).getD x = (evR k i j a).getD ((evR k i j l).getD x) := by
  rw [evR_app']
  cases evR k i j a with
  | some y => rfl
  | none => rfl
section
variable {N : Nat} {w w' w0 w1 : Wd} {d i : Nat} {l a : List WO} {b : Bool}
def VR (l : List WO) (w w1 : Wd) : Prop := ∀ j, gR w1 15 0 j = (evR 15 0 j l).getD (gR w 15 0 j)
def Z13 (w : Wd) : Prop := gR w 13 0 0 = 0 ∧ gL w 13 0 2 = (nI 0).toInt64 ∧ gI w 13 0 1 = nI 0 ∧ gI w 13 0 3 = nI 0 ∧ gI w 13 0 7 = nI 0
def W67 (w : Wd) : Prop := ∀ j, j < 24 → gL w 67 0 j = lN (wlL.getD j 0)
def StC (l : List WO) (w w1 : Wd) (b : Bool) : Prop := VI l w w1 ∧ VR l w w1 ∧ W67 w1 ∧ (b = true → Z13 w1)
def eqAt (w w1 : Wd) (k i : Nat) : Prop := gI w1 k i = gI w k i ∧ gL w1 k i = gL w k i ∧ gR w1 k i = gR w k i
theorem eqAt_out {C : List (Nat × Nat)} (w x : Wd) {k i : Nat} (h : (k, i) ∉ C) : eqAt w (mrg C w x) k i := mrg_out C w x k i h
theorem eqAt_unt (h : unt d i l = true) (w : Wd) : eqAt w (wsq l w) d i := ⟨funext fun j => (unt_s l w h j).1, funext fun j => (unt_s l w h j).2.1, funext fun j => (unt_s l w h j).2.2⟩
theorem Z13_eq (e : eqAt w w1 13 0) (h : Z13 w) : Z13 w1 := by
  unfold Z13
  rw [e.1, e.2.1, e.2.2]
  exact h
theorem W67_eq (e : eqAt w w1 67 0) (h : W67 w) : W67 w1 := fun j hj => by
  rw [e.2.1]
  exact h j hj
theorem StC_seq (h : StC l w w1 b) (h1 : unt 67 0 a = true) (h2 : b = true → unt 13 0 a = true) : StC (l ++ a) w (wsq a w1) b := by
  obtain ⟨a1, a2, a3, a4⟩ := h
  refine ⟨VI_seq a1 a, fun j => ?_, W67_eq (eqAt_unt h1 w1) a3, fun hb => Z13_eq (eqAt_unt (h2 hb) w1) (a4 hb)⟩
  rw [evR_s, a2 j, evR_app]
theorem preB_m : ∀ p, p < 6 → (49, 0, p, (0 : Int32)) ∈ preB := by decide
theorem StC_beg {n : Nat} (hN : 200 ≤ N) (hz : ∀ j, gI w 15 0 j = 0) (h : StC l w w1 b) (hk : okJ 15 l preB = true) (hi : i ≤ 2) (hn : n = 1 + i) (hb : 1 ≤ i → b = true) : ∃ w2, Fc N n w1 = some w2 ∧ StC l w w2 true := by
  subst hn
  obtain ⟨a1, a2, a3, a4⟩ := h
  have q := okJ_s a1 hz hk
  obtain ⟨x, e, f, g0, g2, g1, g3, g7⟩ := c_zbegin (N := N) (w := w1) (d := 0) (i := i) (by omega) hi (fun p hp => q (49, 0, p, 0) (preB_m p hp)) (q (8, 0, 12, 0) (by decide)) (q (8, 0, 16, 0) (by decide))
  have m15 : ∀ i, i < 3 → (15, 0) ∉ stdC i := by decide
  have m67 : ∀ i, i < 3 → (67, 0) ∉ stdC i := by decide
  have m13 : ∀ i, i < 3 → 1 ≤ i → (13, 0) ∉ stdC i := by decide
  refine ⟨mrg (stdC i) w1 x, ?_, VI_call a1 (Fr_mono (mrg_Fr f) rfl), fun j => ?_, W67_eq (eqAt_out w1 x (m67 i (by omega))) a3, fun _ => ?_⟩
  · unfold Fc
    rw [if_neg (by omega), if_pos (by omega), Nat.add_sub_cancel_left, e]
    rfl
  · rw [(eqAt_out w1 x (m15 i (by omega))).2.2]
    exact a2 j
  · by_cases y : i = 0
    · subst y
      have e := mrg_in (C := stdC 0) w1 x (k := 13) (i := 0) (by decide)
      unfold Z13
      rw [e.1, e.2.1, e.2.2]
      exact ⟨g0, g2, g1, g3, g7⟩
    · exact Z13_eq (eqAt_out w1 x (m13 i (by omega) (by omega))) (a4 (hb (by omega)))
def IC (w : Wd) : Prop := (∀ q ∈ fcI, gI w q.1 q.2.1 q.2.2.1 = q.2.2.2) ∧ Z13 w ∧ (gR w 15 0 2 = 0 ∧ gR w 15 0 3 = 1) ∧ W67 w
theorem init_gen {A0 A1 A2 A3 A4 : List WO} (hN : 200 ≤ N) (w : Wd) (hz : ∀ j, gI w 15 0 j = 0) (n0 : noC A0 = true) (n1 : noC A1 = true) (n2 : noC A2 = true) (n3 : noC A3 = true) (n4 : noC A4 = true)
    (k1 : okJ 15 (A0 ++ A1) preB = true) (k2 : okJ 15 (A0 ++ A1 ++ A2) preB = true) (k3 : okJ 15 (A0 ++ A1 ++ A2 ++ A3) preB = true) (k4 : okJ 15 (A0 ++ A1 ++ A2 ++ A3 ++ A4) fcI = true)
    (z0 : evZ 67 0 A0 = true) (t1 : unt 67 0 A1 = true) (t2 : unt 67 0 A2 = true) (t3 : unt 67 0 A3 = true) (t4 : unt 67 0 A4 = true) (s2 : unt 13 0 A2 = true) (s3 : unt 13 0 A3 = true) (s4 : unt 13 0 A4 = true)
    (r2 : evR 15 0 2 (A0 ++ A1 ++ A2 ++ A3 ++ A4) = some 0) (r3 : evR 15 0 3 (A0 ++ A1 ++ A2 ++ A3 ++ A4) = some 1) :
    ∃ w1, wops (Fc N) (A0 ++ (3, 0, 0, 0, 0, 0) :: (A1 ++ (3, 1, 0, 0, 0, 0) :: (A2 ++ (3, 2, 0, 0, 0, 0) :: (A3 ++ (3, 3, 0, 0, 0, 0) :: A4)))) w = some w1 ∧ IC w1 := by
  obtain ⟨x0, e0, f0, g0⟩ := c_tok (N := N) (w := wsq A0 w) hN (fun j hj => by rw [evZ_s, if_pos z0])
  have F0 : Fc N 0 (wsq A0 w) = some (mrg tokC (wsq A0 w) x0) := by
    unfold Fc
    rw [if_pos rfl, e0]
    rfl
  have S0 : StC A0 w (mrg tokC (wsq A0 w) x0) false := by
    refine ⟨VI_call (w1 := wsq A0 w) (fun k i j hk => evI_s k i j A0 w) (Fr_mono (mrg_Fr f0) (by decide)), fun j => ?_, fun j hj => ?_, fun z => by cases z⟩
    · rw [(eqAt_out (C := tokC) (wsq A0 w) x0 (k := 15) (i := 0) (by decide)).2.2, evR_s]
    · rw [(mrg_in (C := tokC) (wsq A0 w) x0 (k := 67) (i := 0) (by decide)).2.1]
      exact g0 j hj
  generalize mrg tokC (wsq A0 w) x0 = b0 at F0 S0
  have S1 := StC_seq S0 t1 (fun z => by cases z)
  obtain ⟨b1, F1, S1'⟩ := StC_beg (i := 0) (n := 1) hN hz S1 k1 (by omega) rfl (fun z => by omega)
  have S2 := StC_seq S1' t2 (fun _ => s2)
  obtain ⟨b2, F2, S2'⟩ := StC_beg (i := 1) (n := 2) hN hz S2 k2 (by omega) rfl (fun _ => rfl)
  have S3 := StC_seq S2' t3 (fun _ => s3)
  obtain ⟨b3, F3, S3'⟩ := StC_beg (i := 2) (n := 3) hN hz S3 k3 (by omega) rfl (fun _ => rfl)
  have S4 := StC_seq S3' t4 (fun _ => s4)
  refine ⟨wsq A4 b3, wops_seg n0 F0 (wops_seg n1 F1 (wops_seg n2 F2 (wops_seg n3 F3 (wops_sq A4 b3 n4)))), okJ_s S4.1 hz k4, S4.2.2.2 rfl, ⟨?_, ?_⟩, S4.2.2.1⟩
  · rw [S4.2.1 2, r2]; rfl
  · rw [S4.2.1 3, r3]; rfl
def oC0 : List WO := sg oCC
def oR1 : List WO := rs oCC
def oC1 : List WO := sg oR1
def oR2 : List WO := rs oR1
def oC2 : List WO := sg oR2
def oR3 : List WO := rs oR2
def oC3 : List WO := sg oR3
def oC4 : List WO := rs oR3
theorem oC_h : (((isC 0 oCC && isC 1 oR1) && (isC 2 oR2 && isC 3 oR3)) && noC oC4) = true := by decide +kernel
theorem oC_ok : ((okJ 15 (oC0 ++ oC1) preB && okJ 15 (oC0 ++ oC1 ++ oC2) preB) && (okJ 15 (oC0 ++ oC1 ++ oC2 ++ oC3) preB && okJ 15 (oC0 ++ oC1 ++ oC2 ++ oC3 ++ oC4) fcI)) = true := by decide +kernel
theorem oC_ok2 : ((evZ 67 0 oC0 && (unt 67 0 oC1 && unt 67 0 oC2)) && ((unt 67 0 oC3 && unt 67 0 oC4) && (unt 13 0 oC2 && (unt 13 0 oC3 && unt 13 0 oC4)))) = true := by decide +kernel
theorem oC_r : (decide (evR 15 0 2 (oC0 ++ oC1 ++ oC2 ++ oC3 ++ oC4) = some 0) && decide (evR 15 0 3 (oC0 ++ oC1 ++ oC2 ++ oC3 ++ oC4) = some 1)) = true := by decide +kernel
theorem init_c (hN : 200 ≤ N) (w : Wd) (hz : ∀ j, gI w 15 0 j = 0) : ∃ w1, wops (Fc N) oCC w = some w1 ∧ IC w1 := by
  have h := oC_h
  have k := oC_ok
  have t := oC_ok2
  have r := oC_r
  simp only [Bool.and_eq_true] at h k t r
  obtain ⟨⟨⟨h0, h1⟩, h2, h3⟩, h4⟩ := h
  obtain ⟨⟨k1, k2⟩, k3, k4⟩ := k
  obtain ⟨⟨z0, t1, t2⟩, ⟨t3, t4⟩, s2, s3, s4⟩ := t
  obtain ⟨r2, r3⟩ := r
  have e : oCC = oC0 ++ (3, 0, 0, 0, 0, 0) :: (oC1 ++ (3, 1, 0, 0, 0, 0) :: (oC2 ++ (3, 2, 0, 0, 0, 0) :: (oC3 ++ (3, 3, 0, 0, 0, 0) :: oC4))) := by
    refine (isC_s h0).trans (congrArg (fun z => oC0 ++ (3, 0, 0, 0, 0, 0) :: z) ?_)
    refine (isC_s h1).trans (congrArg (fun z => oC1 ++ (3, 1, 0, 0, 0, 0) :: z) ?_)
    refine (isC_s h2).trans (congrArg (fun z => oC2 ++ (3, 2, 0, 0, 0, 0) :: z) ?_)
    exact isC_s h3
  rw [e]
  exact init_gen hN w hz (noC_sg oCC) (noC_sg oR1) (noC_sg oR2) (noC_sg oR3) h4 k1 k2 k3 k4 z0 t1 t2 t3 t4 s2 s3 s4 (of_decide_eq_true r2) (of_decide_eq_true r3)
/-! the reference -/
def oM0 : List WO := sg oMM
def oM1 : List WO := rs oMM
theorem oM_h : ((isC 4 oMM && isC 5 oM1) && ((sg oM1).isEmpty && (rs oM1).isEmpty)) = true := by decide +kernel
def cIC : List (Nat × Nat) := [(8, 0), (10, 0), (5, 0), (5, 1), (13, 0), (15, 0), (11, 0), (4, 0), (9, 0), (67, 0)]
def fmI : List (Nat × Nat × Nat × Int32) := [(16, 0, 1, 0), (16, 0, 4, 0), (16, 0, 5, -1)]
def ok74 (l : List WO) : Bool := (List.range 132).all (fun j => match evI 74 0 j l with
  | some x => x == nI (wmL.getD j 0)
  | none => false)
theorem ok74_s {l : List WO} {w : Wd} (h : ok74 l = true) {j : Nat} (hj : j < 132) : gI (wsq l w) 74 0 j = nI (wmL.getD j 0) := by
  have a := List.all_eq_true.mp h j (List.mem_range.mpr hj)
  rw [evI_s]
  cases he : evI 74 0 j l with
  | some x => rw [he] at a; exact eq_of_beq a
  | none => rw [he] at a; cases a
theorem oM_ok : (cIC.all (fun c => unt c.1 c.2 oM0) && (okJ 16 oM0 fmI && ok74 oM0)) = true := by decide +kernel
theorem fcI_c : ∀ q ∈ fcI, (q.1, q.2.1) ∈ cIC := by decide
theorem IC_eq (h : IC w) (e : ∀ c ∈ cIC, eqAt w w1 c.1 c.2) : IC w1 := by
  obtain ⟨a1, a2, a3, a4⟩ := h
  refine ⟨fun q hq => ?_, Z13_eq (e (13, 0) (by decide)) a2, ?_, W67_eq (e (67, 0) (by decide)) a4⟩
  · rw [(e (q.1, q.2.1) (fcI_c q hq)).1]
    exact a1 q hq
  · have := (e (15, 0) (by decide)).2.2
    dsimp only at this
    rw [this]
    exact a3
theorem cIC_m : ∀ c ∈ cIC, c ∉ mmC := by decide
def v00 : Vw := fun _ _ => 0
theorem no0 {j : Nat} {P : Prop} (h : j < v00 0 0) : P := absurd h (Nat.not_lt_zero j)
theorem init_mg {A0 : List WO} (hN : 200 ≤ N) (hC : IC w) (hz : ∀ j, gI w 16 0 j = 0) (nC : noC A0 = true) (k1 : cIC.all (fun c => unt c.1 c.2 A0) = true) (k2 : okJ 16 A0 fmI = true) (k3 : ok74 A0 = true) : ∃ w1, wops (Fc N) (A0 ++ (3, 4, 0, 0, 0, 0) :: ([] ++ (3, 5, 0, 0, 0, 0) :: [])) w = some w1 ∧ Iv w1 v00 := by
  have C0 : IC (wsq A0 w) := IC_eq hC (fun c hc => eqAt_unt (List.all_eq_true.mp k1 c hc) w)
  have V0 : VI A0 w (wsq A0 w) := fun k i j hk => evI_s k i j A0 w
  have n0 := okJ_s V0 hz k2
  have n74 : ∀ j, j < 132 → gI (wsq A0 w) 74 0 j = nI (wmL.getD j 0) := fun j hj => ok74_s k3 hj
  obtain ⟨x, ex, fx, -, x91, x16⟩ := m_plain (N := N) (w := wsq A0 w)
  have F4 : Fc N 4 (wsq A0 w) = some (mrg mmC (wsq A0 w) x) := by
    unfold Fc
    rw [if_neg (by omega), if_neg (by omega), if_pos rfl, ex]
    rfl
  have C1 : IC (mrg mmC (wsq A0 w) x) := IC_eq C0 (fun c hc => eqAt_out _ x (cIC_m c hc))
  have f1 := mrg_Fr (C := mmC) fx
  have m16 := (mrg_in (C := mmC) (wsq A0 w) x (k := 16) (i := 0) (by decide)).1
  have m91 := (mrg_in (C := mmC) (wsq A0 w) x (k := 91) (i := 0) (by decide)).1
  generalize mrg mmC (wsq A0 w) x = b0 at F4 C1 f1 m16 m91
  have y16 : ∀ j, (20 ≤ j ∧ j ≤ 30) ∨ j = 58 → gI b0 16 0 j = nI 0 := fun j hj => by rw [m16]; exact x16 j hj
  have y91 : ∀ a, a < 2 → gI b0 91 0 (2 + a) = nI 0 := fun a ha => by rw [m91]; exact x91 a ha
  have D : DM b0 u00 := by
    refine ⟨fun e he j hj => absurd hj (Nat.not_lt_zero j), fun e he => ?_, fun j hj => absurd hj (Nat.not_lt_zero j), ⟨y16 26 (by omega), y16 29 (by omega), y16 30 (by omega), y16 28 (by omega)⟩, fun a ha => y91 a ha, fun a ha h => absurd h (Nat.lt_irrefl 0)⟩
    have : e.1 = 16 ∧ ((20 ≤ e.2.1 ∧ e.2.1 ≤ 30) ∨ e.2.1 = 58) := (by decide : ∀ e ∈ dFm, e.1 = 16 ∧ ((20 ≤ e.2.1 ∧ e.2.1 ≤ 30) ∨ e.2.1 = 58)) e he
    rw [this.1]
    exact y16 _ this.2
  obtain ⟨z, ez, fz, RMz, z64, z93, z74, z97, z106⟩ := m_keepText (N := N) (by omega) D WU_z
  have F5 : Fc N 5 b0 = some (mrg mmC b0 z) := by
    unfold Fc
    rw [if_neg (by omega), if_neg (by omega), if_neg (by omega), ez]
    rfl
  refine ⟨mrg mmC b0 z, ?_, ?_⟩
  · exact wops_seg nC F4 (wops_seg (a := []) rfl F5 rfl)
  have C2 : IC (mrg mmC b0 z) := IC_eq C1 (fun c hc => eqAt_out b0 z (cIC_m c hc))
  have f2 := mrg_Fr (C := mmC) fz
  have p16 := (mrg_in (C := mmC) b0 z (k := 16) (i := 0) (by decide)).1
  have p91 := (mrg_in (C := mmC) b0 z (k := 91) (i := 0) (by decide)).1
  have p106 := (mrg_in (C := mmC) b0 z (k := 106) (i := 0) (by decide)).2.1
  generalize mrg mmC b0 z = b1 at C2 f2 p16 p91 p106
  have q16 : ∀ j, gI b1 16 0 j = gI z 16 0 j := fun j => congrFun p16 j
  have k16 : ∀ j, ([17001, 17004, 17005] : List Nat).contains (17000 + j) = true → gI b1 16 0 j = gI (wsq A0 w) 16 0 j := fun j hj => by
    have : j = 1 ∨ j = 4 ∨ j = 5 := by
      have := List.contains_iff_mem.mp hj
      simp only [List.mem_cons, List.not_mem_nil, or_false] at this
      omega
    rcases this with rfl | rfl | rfl
    · rw [(f2 16 0 1 rfl).1, (f1 16 0 1 rfl).1]
    · rw [(f2 16 0 4 rfl).1, (f1 16 0 4 rfl).1]
    · rw [(f2 16 0 5 rfl).1, (f1 16 0 5 rfl).1]
  rw [vT_00] at RMz
  obtain ⟨Tz, -, -, -⟩ := RMz
  obtain ⟨c1, ⟨c130, c132, c131, c133, c137⟩, ⟨c152, c153⟩, c67⟩ := C2
  have cc : ∀ k i j x, (k, i, j, x) ∈ fcI → gI b1 k i j = x := fun k i j x h => c1 (k, i, j, x) h
  have T : TC b1 0 v00 := ⟨cc 8 0 0 0 (by decide), cc 10 0 0 0 (by decide), cc 8 0 5 0 (by decide), cc 8 0 10 0 (by decide), cc 8 0 15 0 (by decide), cc 8 0 17 0 (by decide), fun j hj => no0 hj, fun j hj => no0 hj, fun j hj => no0 hj, fun j hj => no0 hj, fun j hj => no0 hj, fun j hj => no0 hj, fun j hj => no0 hj, fun j hj => no0 hj, fun j hj => no0 hj, fun j hj => no0 hj, fun j hj => no0 hj, fun j hj => no0 hj, fun j hj => no0 hj, fun a ha => (by
    have : a = 0 ∨ a = 1 := by omega
    rcases this with rfl | rfl
    · exact cc 5 0 2 0 (by decide)
    · exact cc 5 1 2 0 (by decide)), fun a j ha hj => no0 hj⟩
  have TMb : TM b1 v00 := ⟨(q16 12).trans (TM_parts Tz), (q16 13).trans (TM_people Tz), (q16 14).trans (TM_parties Tz), (q16 15).trans (TM_weathers Tz), (q16 17).trans (TM_near Tz), (q16 19).trans (TM_knots Tz), fun j hj => no0 hj, fun j hj => no0 hj, fun j hj => no0 hj, fun j hj => no0 hj, fun j hj => no0 hj, fun j hj => no0 hj, fun j hj => no0 hj, fun j hj => no0 hj, fun j hj => no0 hj, fun j hj => no0 hj, fun j hj => no0 hj, fun j hj => no0 hj, fun j hj => no0 hj, (q16 65).trans (TM_slides Tz), fun j hj => no0 hj, fun j hj => no0 hj, fun a ha => (congrFun p91 a).trans (TM_told Tz a ha)⟩
  refine ⟨⟨⟨?_, c131, c137, fun j hj => no0 hj, fun j hj => no0 hj, fun p k hp => no0 hp, c133, fun j hj => no0 hj, fun j hj => no0 hj⟩, ⟨TMb, ⟨fun p k hp => no0 hp, fun p k hp => no0 hp, fun p hp => no0 hp, fun p hp => no0 hp, fun p hp => no0 hp⟩, fun a ha h => no0 h, fun a b ha => no0 ha⟩, WF_00, WL_00, c152.trans c130.symm, fun j => Nat.le_refl _, Nat.zero_le _, (q16 64).trans z64⟩, ?_, ⟨?_, ?_⟩, TP_mk (tl := 0) (by omega) (cc 15 0 1 0 (by decide)) ?_ (fun j hj => absurd hj (Nat.not_lt_zero j)), ⟨?_, ?_⟩, UN_no (cc 15 0 8 0 (by decide)) ((q16 74).trans z74), ⟨false, cc 15 0 7 0 (by decide), (q16 97).trans z97, fun z => by cases z⟩, ⟨fun _ _ => 0, ⟨cc 4 0 0 0 (by decide), fun c hc => absurd hc (Nat.not_lt_zero c)⟩, ⟨(q16 93).trans z93, fun c hc => absurd hc (Nat.not_lt_zero c)⟩, ⟨Nat.zero_le _, fun c hc => absurd hc (Nat.not_lt_zero c)⟩⟩, Or.inl (cc 9 0 1 (-1) (by decide)), c67, fun j hj => ?_⟩
  · rw [c130]
    exact T
  · unfold ZD
    rw [c132, congrFun p106 0, z106]
    rfl
  · rw [c152]; omega
  · rw [c152, c153]
  · rw [k16 1 rfl]; exact n0 (16, 0, 1, 0) (by decide)
  · rw [k16 4 rfl, cc 11 0 8 0 (by decide)]; exact (n0 (16, 0, 4, 0) (by decide)).symm
  · rw [k16 5 rfl, cc 11 0 9 (-1) (by decide)]; exact (n0 (16, 0, 5, -1) (by decide)).symm
  · rw [(f2 74 0 j rfl).1, (f1 74 0 j rfl).1]; exact n74 j hj
theorem init_m (hN : 200 ≤ N) (hC : IC w) (hz : ∀ j, gI w 16 0 j = 0) : ∃ w1, wops (Fc N) oMM w = some w1 ∧ Iv w1 v00 := by
  have h := oM_h
  have k := oM_ok
  simp only [Bool.and_eq_true] at h k
  obtain ⟨⟨h0, h1⟩, h2, h3⟩ := h
  obtain ⟨k1, k2, k3⟩ := k
  have e : oMM = oM0 ++ (3, 4, 0, 0, 0, 0) :: ([] ++ (3, 5, 0, 0, 0, 0) :: []) := by
    refine (isC_s h0).trans (congrArg (fun z => oM0 ++ (3, 4, 0, 0, 0, 0) :: z) ?_)
    refine (isC_s h1).trans ?_
    rw [List.isEmpty_iff.mp h2, List.isEmpty_iff.mp h3]
  rw [e]
  exact init_mg hN hC hz (noC_sg oMM) k1 k2 k3
end

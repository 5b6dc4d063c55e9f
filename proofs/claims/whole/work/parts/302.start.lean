/-! ===== a text, both: where the reading begins ===== -/
section
variable {N : Nat} {w w' w0 w1 wc wm : Wd} {b : Nat → Nat} {n m d k i : Nat} {u u' : Vw}
def kSc : List Nat := [9000, 11000, 49, 50, 51, 52, 53, 9005, 9010, 9012, 9015, 9016, 9017, 6002, 12001, 12007, 12008, 12009, 12002, 12003, 68, 69, 70, 15004, 15005, 15006, 15007, 15008, 15009, 15010]
/-- the class: all tokens are cut, nothing is told -/
theorem c_start (hN : 1000 ≤ N) (hn : n ≤ 900) (hW : WD w) (hb : ∀ j, j < n → b j < 256 ∧ gI w 3 0 j &&& (255 : Int32) = nI (b j)) (hd : gR w 15 0 3 = d) :
    ∃ w1 w2 m, pX4_clear N (gR w 15 0 3) w = some w1 ∧ pX7_readText N 0 (nI n) (gR w1 15 0 3) w1 = fX7_readText_25 N (nI n) N (nI 0) w2 ∧ JC w2 b n m d 0 ∧ DC w2 d u0 ∧ gI w2 11 0 7 = nI 0 ∧ Fr kSc w w2 ∧ (∀ k i j, mK k = true → iMo k i ≠ d → j < 100 → gI w2 k i j = gI w k i j) := by
  obtain ⟨w1, e1, F1, f1, d1, d2, d3, d4⟩ := c_clear (N := N) (d := d) (w := w) (by omega)
  have r3 : gR w1 15 0 3 = d := by rw [(f1 15 0 3 rfl).2.2]; exact hd
  have g1 : Fr [12001, 12007, 12008, 12009, 12002, 12003] w1 (setI (setI (setI (setI (setI (setR w1 11 0 1 d) 11 0 7 (0 : Int32)) 11 0 8 (0 : Int32)) 11 0 9 (-1 : Int32)) 11 0 2 (0 : Int32)) 11 0 3 (0 : Int32)) := Fr_setI (Fr_setI (Fr_setI (Fr_setI (Fr_setI (Fr_setR (Fr_refl _ _) rfl) rfl) rfl) rfl) rfl) rfl
  have a1 : gR (setI (setI (setI (setI (setI (setR w1 11 0 1 d) 11 0 7 (0 : Int32)) 11 0 8 (0 : Int32)) 11 0 9 (-1 : Int32)) 11 0 2 (0 : Int32)) 11 0 3 (0 : Int32)) 11 0 1 = d := by rw [gg_RI, gg_RI, gg_RI, gg_RI, gg_RI, gg_R, if_pos ⟨rfl, rfl, rfl⟩]
  have a7 : gI (setI (setI (setI (setI (setI (setR w1 11 0 1 d) 11 0 7 (0 : Int32)) 11 0 8 (0 : Int32)) 11 0 9 (-1 : Int32)) 11 0 2 (0 : Int32)) 11 0 3 (0 : Int32)) 11 0 7 = nI 0 := by rw [gg_I, if_neg (by omega), gg_I, if_neg (by omega), gg_I, if_neg (by omega), gg_I, if_neg (by omega), gg_I, if_pos ⟨rfl, rfl, rfl⟩]; rfl
  have a8 : gI (setI (setI (setI (setI (setI (setR w1 11 0 1 d) 11 0 7 (0 : Int32)) 11 0 8 (0 : Int32)) 11 0 9 (-1 : Int32)) 11 0 2 (0 : Int32)) 11 0 3 (0 : Int32)) 11 0 8 = nI 0 := by rw [gg_I, if_neg (by omega), gg_I, if_neg (by omega), gg_I, if_neg (by omega), gg_I, if_pos ⟨rfl, rfl, rfl⟩]; rfl
  have a9 : gI (setI (setI (setI (setI (setI (setR w1 11 0 1 d) 11 0 7 (0 : Int32)) 11 0 8 (0 : Int32)) 11 0 9 (-1 : Int32)) 11 0 2 (0 : Int32)) 11 0 3 (0 : Int32)) 11 0 9 = (-1 : Int32) := by rw [gg_I, if_neg (by omega), gg_I, if_neg (by omega), gg_I, if_pos ⟨rfl, rfl, rfl⟩]
  have a2 : gI (setI (setI (setI (setI (setI (setR w1 11 0 1 d) 11 0 7 (0 : Int32)) 11 0 8 (0 : Int32)) 11 0 9 (-1 : Int32)) 11 0 2 (0 : Int32)) 11 0 3 (0 : Int32)) 11 0 2 = nI 0 := by rw [gg_I, if_neg (by omega), gg_I, if_pos ⟨rfl, rfl, rfl⟩]; rfl
  have a3 : gI (setI (setI (setI (setI (setI (setR w1 11 0 1 d) 11 0 7 (0 : Int32)) 11 0 8 (0 : Int32)) 11 0 9 (-1 : Int32)) 11 0 2 (0 : Int32)) 11 0 3 (0 : Int32)) 11 0 3 = nI 0 := by rw [gg_I, if_pos ⟨rfl, rfl, rfl⟩]; rfl
  generalize hw2 : setI (setI (setI (setI (setI (setR w1 11 0 1 d) 11 0 7 (0 : Int32)) 11 0 8 (0 : Int32)) 11 0 9 (-1 : Int32)) 11 0 2 (0 : Int32)) 11 0 3 (0 : Int32) = w2 at g1 a1 a7 a8 a9 a2 a3
  have f12 : Fr [9000, 11000, 49, 50, 51, 52, 53, 9005, 9010, 9012, 9015, 9016, 9017, 6002, 12001, 12007, 12008, 12009, 12002, 12003] w w2 := Fr_trans (Fr_mono f1 rfl) (Fr_mono g1 rfl)
  obtain ⟨w3, e3, f3, m, t3, h5, k3⟩ := c_begin (N := N) (w := w2) (b := b) (n := n) (WD_fr f12 hW) hN hn (fun j hj => by
    rw [(f12 3 0 j (n3_of (by decide) (by omega))).1]
    exact hb j hj)
  have f13 : Fr kSc w w3 := Fr_trans (Fr_mono f12 rfl) (Fr_mono f3 rfl)
  have f1w : Fr [12001, 12007, 12008, 12009, 12002, 12003, 68, 69, 70, 15004, 15005, 15006, 15007, 15008, 15009, 15010] w1 w3 := Fr_trans (Fr_mono g1 rfl) (Fr_mono f3 rfl)
  refine ⟨w1, w3, m, by rw [hd]; exact e1, ?_, ⟨t3, Nat.zero_le _, k3, ⟨h5, by rw [(f3 11 0 8 rfl).1]; exact a8, by rw [(f3 11 0 9 rfl).1]; exact a9⟩, by rw [(f3 11 0 1 rfl).2.2]; exact a1⟩, ⟨fun e he j hj => absurd hj (Nat.not_lt_zero j), DF_fr f1w d1 (by decide), fun j hj => absurd hj (Nat.not_lt_zero j), fun j _ hj => ?_, ⟨?_, ?_, ?_⟩, fun a ha => ?_, fun a j _ hj => absurd hj (Nat.not_lt_zero j)⟩, ?_, f13, fun kk i j h1 h2 h3 => ?_⟩
  · rw [r3]
    unfold pX7_readText
    rw [hw2, callW_eq, e3, li0]
    exact callW_eq _ _
  · rw [(f1w 49 d _ rfl).1, (f1w 50 d _ rfl).1, (f1w 51 d _ rfl).1, (f1w 52 d _ rfl).1, (f1w 53 d _ rfl).1]
    exact d4 j hj
  · rw [(f1w 8 d 16 rfl).1]; exact d2
  · rw [(f3 11 0 2 rfl).1]; exact a2
  · rw [(f3 11 0 3 rfl).1]; exact a3
  · rw [(f1w 5 _ 2 rfl).1]; exact d3 a ha
  · rw [(f3 11 0 7 rfl).1]; exact a7
  · have hky := ky_mK h1 h3
    have hkk : ky kk j ≠ 68 ∧ ky kk j ≠ 69 ∧ ky kk j ≠ 70 := by
      unfold mK at h1
      simp only [Bool.or_eq_true, Bool.and_eq_true, beq_iff_eq, decide_eq_true_eq] at h1
      unfold ky
      split <;> omega
    rw [(f1w kk i j (by
      simp only [List.contains_cons, List.contains_nil, Bool.or_false, Bool.or_eq_false_iff, beq_eq_false_iff_ne]
      omega)).1, (F1 kk i j (Or.inr ⟨h1, h2, h3⟩)).1]
/-- the reference: the first token, nothing is told -/
def kSm : List Nat := [17002, 17006, 17001, 17004, 17005, 17007, 17008, 17009, 17010, 17020, 17021, 17022, 17023, 17024, 17025, 17026, 17027, 17058, 17028, 17029, 17030, 91]
theorem m_plain : ∃ w', pX12_plain N w = some w' ∧ Fr [17020, 17021, 17022, 17023, 17024, 17025, 17026, 17027, 17058, 17028, 17029, 17030, 91] w w' ∧ (∀ j, j < 2 → gI w' 91 0 j = gI w 91 0 j) ∧ (∀ a, a < 2 → gI w' 91 0 (2 + a) = nI 0) ∧ (∀ j, (20 ≤ j ∧ j ≤ 30) ∨ j = 58 → gI w' 16 0 j = nI 0) := by
  have s1 : ∀ v : Wd, stI v 91 0 (2 : Int32) 4 ((0 : Int32) &&& 1) = some (setI v 91 0 2 (0 : Int32)) := fun v => by
    rw [show ((0 : Int32) &&& 1) = (0 : Int32) by decide]
    exact stn (j := 2) (by omega) (by omega)
  have s2 : ∀ v : Wd, stI v 91 0 (3 : Int32) 4 ((0 : Int32) &&& 1) = some (setI v 91 0 3 (0 : Int32)) := fun v => by
    rw [show ((0 : Int32) &&& 1) = (0 : Int32) by decide]
    exact stn (j := 3) (by omega) (by omega)
  refine ⟨_, by simp only [pX12_plain, s1, s2, Option.bind_some]; rfl, ?_, fun j hj => ?_, fun a ha => ?_, fun j hj => ?_⟩
  · exact Fr_setI (Fr_setI (Fr_setI (Fr_setI (Fr_setI (Fr_setI (Fr_setI (Fr_setI (Fr_setI (Fr_setI (Fr_setI (Fr_setI (Fr_setI (Fr_setI (Fr_refl _ _) rfl) rfl) rfl) rfl) rfl) rfl) rfl) rfl) rfl) rfl) rfl) rfl) rfl) rfl
  · have : j = 0 ∨ j = 1 := by omega
    rcases this with rfl | rfl <;> simp only [gg_I, Nat.reduceEqDiff, Nat.reduceAdd, Nat.reduceSub, Nat.reduceMul, Nat.reducePow, Nat.reduceLT, Nat.reduceLeDiff, ↓reduceIte, reduceCtorEq, and_true, true_and, and_false, false_and, and_self, not_true_eq_false, not_false_eq_true, if_true, if_false]
  · have : a = 0 ∨ a = 1 := by omega
    rcases this with rfl | rfl <;> (simp only [gg_I, Nat.reduceEqDiff, Nat.reduceAdd, Nat.reduceSub, Nat.reduceMul, Nat.reducePow, Nat.reduceLT, Nat.reduceLeDiff, ↓reduceIte, reduceCtorEq, and_true, true_and, and_false, false_and, and_self, not_true_eq_false, not_false_eq_true, if_true, if_false]; try rfl)
  · have : j = 20 ∨ j = 21 ∨ j = 22 ∨ j = 23 ∨ j = 24 ∨ j = 25 ∨ j = 26 ∨ j = 27 ∨ j = 28 ∨ j = 29 ∨ j = 30 ∨ j = 58 := by omega
    rcases this with rfl | rfl | rfl | rfl | rfl | rfl | rfl | rfl | rfl | rfl | rfl | rfl <;> (simp only [gg_I, Nat.reduceEqDiff, Nat.reduceAdd, Nat.reduceSub, Nat.reduceMul, Nat.reducePow, Nat.reduceLT, Nat.reduceLeDiff, ↓reduceIte, reduceCtorEq, and_true, true_and, and_false, false_and, and_self, not_true_eq_false, not_false_eq_true, if_true, if_false]; try rfl)
theorem m_start (hN : 1000 ≤ N) (hn : n ≤ 900) (hW : WD w) (hb : ∀ j, j < n → b j < 256 ∧ gI w 73 0 j = nI (b j)) {tl : Nat} (ht : gI w 16 0 1 = nI tl) (htl : n ≤ tl) (htl2 : tl ≤ 900) :
    ∃ w2, pX12_text N (nI n) w = fX12_text_32 N N (fX12_text_42 N) (nI 0) w2 ∧ JM w2 b n 0 ∧ DM w2 u0 ∧ Fr kSm w w2 ∧ (∀ j, j < 2 → gI w2 91 0 j = gI w 91 0 j) ∧ gI w2 16 0 1 = nI 0 := by
  have q1 : (nI n < 0) = False := eq_false (nz_ge0 (by omega))
  have g1 : gI (setI w 16 0 2 (0 : Int32)) 16 0 1 = nI tl := by rw [gg_I, if_neg (by omega)]; exact ht
  have q2 : (gI (setI w 16 0 2 (0 : Int32)) 16 0 1 < nI n) = False := eq_false (fun z => by
    rw [g1] at z
    have := (nI_ltI (by omega) (by omega)).mp z
    omega)
  have fA : Fr [17002, 17006, 17001, 17004, 17005, 17007] w (setI (setI (setI (setI (setI (setI w 16 0 2 (0 : Int32)) 16 0 6 (nI n)) 16 0 1 (0 : Int32)) 16 0 4 (0 : Int32)) 16 0 5 (-1 : Int32)) 16 0 7 (0 : Int32)) := Fr_setI (Fr_setI (Fr_setI (Fr_setI (Fr_setI (Fr_setI (Fr_refl _ _) rfl) rfl) rfl) rfl) rfl) rfl
  have A6 : gI (setI (setI (setI (setI (setI (setI w 16 0 2 (0 : Int32)) 16 0 6 (nI n)) 16 0 1 (0 : Int32)) 16 0 4 (0 : Int32)) 16 0 5 (-1 : Int32)) 16 0 7 (0 : Int32)) 16 0 6 = nI n := by simp only [gg_I, Nat.reduceEqDiff, Nat.reduceAdd, Nat.reduceSub, Nat.reduceMul, Nat.reducePow, Nat.reduceLT, Nat.reduceLeDiff, ↓reduceIte, reduceCtorEq, and_true, true_and, and_false, false_and, and_self, not_true_eq_false, not_false_eq_true, if_true, if_false]
  have A1 : gI (setI (setI (setI (setI (setI (setI w 16 0 2 (0 : Int32)) 16 0 6 (nI n)) 16 0 1 (0 : Int32)) 16 0 4 (0 : Int32)) 16 0 5 (-1 : Int32)) 16 0 7 (0 : Int32)) 16 0 1 = nI 0 := by simp only [gg_I, Nat.reduceEqDiff, Nat.reduceAdd, Nat.reduceSub, Nat.reduceMul, Nat.reducePow, Nat.reduceLT, Nat.reduceLeDiff, ↓reduceIte, reduceCtorEq, and_true, true_and, and_false, false_and, and_self, not_true_eq_false, not_false_eq_true, if_true, if_false]; rfl
  have A4 : gI (setI (setI (setI (setI (setI (setI w 16 0 2 (0 : Int32)) 16 0 6 (nI n)) 16 0 1 (0 : Int32)) 16 0 4 (0 : Int32)) 16 0 5 (-1 : Int32)) 16 0 7 (0 : Int32)) 16 0 4 = nI 0 := by simp only [gg_I, Nat.reduceEqDiff, Nat.reduceAdd, Nat.reduceSub, Nat.reduceMul, Nat.reducePow, Nat.reduceLT, Nat.reduceLeDiff, ↓reduceIte, reduceCtorEq, and_true, true_and, and_false, false_and, and_self, not_true_eq_false, not_false_eq_true, if_true, if_false]; rfl
  have A5 : gI (setI (setI (setI (setI (setI (setI w 16 0 2 (0 : Int32)) 16 0 6 (nI n)) 16 0 1 (0 : Int32)) 16 0 4 (0 : Int32)) 16 0 5 (-1 : Int32)) 16 0 7 (0 : Int32)) 16 0 5 = (-1 : Int32) := by simp only [gg_I, Nat.reduceEqDiff, Nat.reduceAdd, Nat.reduceSub, Nat.reduceMul, Nat.reducePow, Nat.reduceLT, Nat.reduceLeDiff, ↓reduceIte, reduceCtorEq, and_true, true_and, and_false, false_and, and_self, not_true_eq_false, not_false_eq_true, if_true, if_false]
  have A7 : gI (setI (setI (setI (setI (setI (setI w 16 0 2 (0 : Int32)) 16 0 6 (nI n)) 16 0 1 (0 : Int32)) 16 0 4 (0 : Int32)) 16 0 5 (-1 : Int32)) 16 0 7 (0 : Int32)) 16 0 7 = nI 0 := by simp only [gg_I, Nat.reduceEqDiff, Nat.reduceAdd, Nat.reduceSub, Nat.reduceMul, Nat.reducePow, Nat.reduceLT, Nat.reduceLeDiff, ↓reduceIte, reduceCtorEq, and_true, true_and, and_false, false_and, and_self, not_true_eq_false, not_false_eq_true, if_true, if_false]; rfl
  generalize hwA : setI (setI (setI (setI (setI (setI w 16 0 2 (0 : Int32)) 16 0 6 (nI n)) 16 0 1 (0 : Int32)) 16 0 4 (0 : Int32)) 16 0 5 (-1 : Int32)) 16 0 7 (0 : Int32) = wA at fA A6 A1 A4 A5 A7
  obtain ⟨w1, e1, f1, p1, p2, p3⟩ := m_plain (N := N) (w := wA)
  have B1 : BM w1 b n := ⟨by rw [(f1 16 0 6 rfl).1]; exact A6, hn, fun j hj => by rw [(f1 73 0 j rfl).1, (fA 73 0 j rfl).1]; exact hb j hj⟩
  have W1 : WD w1 := WD_fr f1 (WD_fr fA hW)
  obtain ⟨w2, e2, f2, t2⟩ := m_token (N := N) B1 W1 hN (q := 0) (Nat.zero_le _) (by rw [(f1 16 0 7 rfl).1]; exact A7)
  have f12 : Fr kSm w w2 := Fr_trans (Fr_mono fA rfl) (Fr_trans (Fr_mono f1 rfl) (Fr_mono f2 rfl))
  have z3 : ∀ j, (20 ≤ j ∧ j ≤ 30) ∨ j = 58 → gI w2 16 0 j = nI 0 := fun j hj => by
    rw [(f2 16 0 j (by
      show ([17007, 17008, 17009, 17010] : List Nat).contains (17000 + j) = false
      simp only [List.contains_cons, List.contains_nil, Bool.or_false, Bool.or_eq_false_iff, beq_eq_false_iff_ne]
      omega)).1]
    exact p3 j hj
  refine ⟨w2, ?_, ⟨BM_fr f2 B1, ⟨WD_fr f2 W1, ?_, ?_⟩, t2⟩, ⟨fun e he j hj => absurd hj (Nat.not_lt_zero j), fun e he => ?_, fun j hj => absurd hj (Nat.not_lt_zero j), ⟨z3 26 (by omega), z3 29 (by omega), z3 30 (by omega), z3 28 (by omega)⟩, fun a ha => ?_, fun a _ h => absurd h (Nat.lt_irrefl _)⟩, f12, fun j hj => ?_, ?_⟩
  · simp only [pX12_text, ↓q1, ↓q2, ↓reduceIte]
    rw [hwA, callW_eq, e1]
    show (callW (pX12_token N) w1).bind _ = _
    rw [callW_eq, e2, li0]
    show callW _ w2 = _
    rw [callW_eq]
  · rw [(f2 16 0 4 rfl).1, (f1 16 0 4 rfl).1]; exact A4
  · rw [(f2 16 0 5 rfl).1, (f1 16 0 5 rfl).1]; exact A5
  · have : e.1 = 16 ∧ ((20 ≤ e.2.1 ∧ e.2.1 ≤ 30) ∨ e.2.1 = 58) := (by decide : ∀ e, e ∈ dFm → e.1 = 16 ∧ ((20 ≤ e.2.1 ∧ e.2.1 ≤ 30) ∨ e.2.1 = 58)) e he
    rw [this.1]
    exact z3 _ this.2
  · rw [(f2 91 0 _ rfl).1]; exact p2 a ha
  · rw [(f2 91 0 _ rfl).1, p1 j hj, (fA 91 0 _ rfl).1]
  · rw [(f2 16 0 1 rfl).1, (f1 16 0 1 rfl).1]; exact A1
end

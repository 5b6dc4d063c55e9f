/-! ===== the reference begins ===== -/
section
variable {N : Nat} {w w' w0 w1 wc wm : Wd} {b : Nat → Nat} {n m d k i : Nat} {u u' : Vw}
theorem m_bg23 (hU : WU u) {p : Nat} (hp : p < 6) {Q : Wd → Prop} (K : Int32 → Wd → Option Wd) (h79 : gI w0 79 0 p = nI (u 25 p)) (h25 : u 25 p < 256) (hK : ∀ w, Fr [101, 102] w0 w → (∀ k, k < 8 → gI w 101 0 (8 * p + k) = (if (u 25 p).testBit k then nI 0 else (-1 : Int32)) ∧ gI w 102 0 (8 * p + k) = zB ((u 25 p).testBit k)) → (∀ j, j < 8 * p ∨ 8 * p + 8 ≤ j → gI w 101 0 j = gI w0 101 0 j ∧ gI w 102 0 j = gI w0 102 0 j) → Ok (K (nI p) w) Q) :
    ∀ r c fuel w, c + r = 8 → r < fuel → Fr [101, 102] w0 w → (∀ k, k < c → gI w 101 0 (8 * p + k) = (if (u 25 p).testBit k then nI 0 else (-1 : Int32)) ∧ gI w 102 0 (8 * p + k) = zB ((u 25 p).testBit k)) → (∀ j, j < 8 * p ∨ 8 * p + 8 ≤ j → gI w 101 0 j = gI w0 101 0 j ∧ gI w 102 0 j = gI w0 102 0 j) → Ok (fX12_begin_23 N fuel K (nI p) (nI c) w) Q := by
  intro r
  induction r with
  | zero =>
    intro c fuel w hc hf f h1 h2
    obtain ⟨z, rfl⟩ : ∃ z, fuel = z + 1 := ⟨fuel - 1, by omega⟩
    have e : c = 8 := by omega
    subst e
    have lt : (nI 8 < (8 : Int32)) = False := eq_false (by decide)
    simp only [fX12_begin_23, ↓lt, ↓reduceIte]
    exact hK w f h1 h2
  | succ r ih =>
    intro c fuel w hc hf f h1 h2
    obtain ⟨z, rfl⟩ : ∃ z, fuel = z + 1 := ⟨fuel - 1, by omega⟩
    have lt : (nI c < (8 : Int32)) = True := eq_true ((nI_ltI (b := 8) (by omega) (by omega)).mpr (by omega))
    have e1 : nI c + (1 : Int32) = nI (c + 1) := nI_add _ 1
    have l1 : ldI w 79 0 (nI p) 12 = some (nI (u 25 p)) := by rw [ldn (by omega) (by omega), (f 79 0 p rfl).1, h79]
    have g := m_isOf (N := N) (w := w) (x := u 25 p) (k := c) (by omega) (by omega)
    have e8 : (8 : Int32) * nI p + nI c = nI (8 * p + c) := by rw [show (8 : Int32) = nI 8 from rfl, pk_mul, nI_add]
    have go : ∀ x : Int32, x = (if (u 25 p).testBit c then nI 0 else (-1 : Int32)) → Ok (fX12_begin_45 N (fX12_begin_23 N z K) (nI p) (nI c) (zB ((u 25 p).testBit c)) x ((8 : Int32) * nI p + nI c) 0 w) Q := fun x hx => by
      have s1 : stI w 101 0 ((8 : Int32) * nI p + nI c) 96 x = some (setI w 101 0 (8 * p + c) x) := by rw [e8]; exact stn (by omega) (by omega)
      have s2 : stI (setI w 101 0 (8 * p + c) x) 102 0 ((8 : Int32) * nI p + nI c) 96 (zB ((u 25 p).testBit c) &&& 1) = some (setI (setI w 101 0 (8 * p + c) x) 102 0 (8 * p + c) (zB ((u 25 p).testBit c))) := by rw [e8, zB_and]; exact stn (by omega) (by omega)
      simp only [fX12_begin_45, ↓bnd s1, ↓bnd s2, ↓e1]
      refine ih (c + 1) z _ (by omega) (by omega) (Fr_setI (Fr_setI f rfl) rfl) (fun k hk => ?_) (fun j hj => ?_)
      · by_cases y : k = c
        · subst y
          refine ⟨?_, ?_⟩
          · rw [gg_I, if_neg (by omega), gg_I, if_pos ⟨rfl, rfl, rfl⟩, hx]
          · rw [gg_I, if_pos ⟨rfl, rfl, rfl⟩]
        · refine ⟨?_, ?_⟩
          · rw [gg_I, if_neg (by omega), gg_I, if_neg (by omega)]; exact (h1 k (by omega)).1
          · rw [gg_I, if_neg (by omega), gg_I, if_neg (by omega)]; exact (h1 k (by omega)).2
      · refine ⟨?_, ?_⟩
        · rw [gg_I, if_neg (by omega), gg_I, if_neg (by omega)]; exact (h2 j hj).1
        · rw [gg_I, if_neg (by omega), gg_I, if_neg (by omega)]; exact (h2 j hj).2
    cases ht : (u 25 p).testBit c with
    | true =>
      rw [ht] at g go
      simp only [fX12_begin_23, ↓lt, ↓bnd l1, ↓cbnd g, ↓z1, ↓reduceIte, callW_eq]
      exact go _ rfl
    | false =>
      rw [ht] at g go
      simp only [fX12_begin_23, ↓lt, ↓bnd l1, ↓cbnd g, ↓z2, ↓reduceIte, callW_eq]
      exact go _ rfl
def bgM (w : Wd) (u : Vw) (c : Nat) : Prop := ∀ p, p < c → gI w 103 0 p = nI 0 ∧ gI w 104 0 p = nI 0 ∧ gI w 105 0 p = (-1 : Int32) ∧ ∀ k, k < 8 → gI w 101 0 (8 * p + k) = (if (u 25 p).testBit k then nI 0 else (-1 : Int32)) ∧ gI w 102 0 (8 * p + k) = zB ((u 25 p).testBit k)
theorem m_bg2 (hN : 100 ≤ N) (hU : WU u) (h13 : gI w0 16 0 13 = nI (u 0 1)) {Q : Wd → Prop} (K : Wd → Option Wd) (h79 : ∀ p, p < u 0 1 → gI w0 79 0 p = nI (u 25 p)) (hK : ∀ w, Fr [101, 102, 103, 104, 105] w0 w → bgM w u (u 0 1) → Ok (K w) Q) :
    ∀ r c fuel w, c + r = u 0 1 → r < fuel → Fr [101, 102, 103, 104, 105] w0 w → bgM w u c → Ok (fX12_begin_2 N fuel K (nI c) w) Q := by
  have U1 := hU.1.2.1
  intro r
  induction r with
  | zero =>
    intro c fuel w hc hf f h1
    obtain ⟨z, rfl⟩ : ∃ z, fuel = z + 1 := ⟨fuel - 1, by omega⟩
    have e : c = u 0 1 := by omega
    subst e
    have lt : (nI (u 0 1) < gI w 16 0 13) = False := eq_false (fun q => by
      rw [(f 16 0 13 rfl).1, h13] at q
      have := (nI_ltI (by omega) (by omega)).mp q
      omega)
    simp only [fX12_begin_2, ↓lt, ↓reduceIte]
    exact hK w f h1
  | succ r ih =>
    intro c fuel w hc hf f h1
    obtain ⟨z, rfl⟩ : ∃ z, fuel = z + 1 := ⟨fuel - 1, by omega⟩
    have lt : (nI c < gI w 16 0 13) = True := eq_true (by rw [(f 16 0 13 rfl).1, h13]; exact (nI_ltI (by omega) (by omega)).mpr (by omega))
    have s1 : stI w 103 0 (nI c) 12 ((0 : Int32) &&& 1) = some (setI w 103 0 c (0 : Int32)) := by rw [show ((0 : Int32) &&& 1) = (0 : Int32) by decide]; exact stn (by omega) (by omega)
    have s2 : stI (setI w 103 0 c (0 : Int32)) 104 0 (nI c) 12 (0 : Int32) = some (setI (setI w 103 0 c (0 : Int32)) 104 0 c (0 : Int32)) := stn (by omega) (by omega)
    have s3 : stI (setI (setI w 103 0 c (0 : Int32)) 104 0 c (0 : Int32)) 105 0 (nI c) 12 (-1 : Int32) = some (setI (setI (setI w 103 0 c (0 : Int32)) 104 0 c (0 : Int32)) 105 0 c (-1 : Int32)) := stn (by omega) (by omega)
    have f3 : Fr [103, 104, 105] w (setI (setI (setI w 103 0 c (0 : Int32)) 104 0 c (0 : Int32)) 105 0 c (-1 : Int32)) := Fr_setI (Fr_setI (Fr_setI (Fr_refl _ _) rfl) rfl) rfl
    have a3 : ∀ p, gI (setI (setI (setI w 103 0 c (0 : Int32)) 104 0 c (0 : Int32)) 105 0 c (-1 : Int32)) 103 0 p = if p = c then nI 0 else gI w 103 0 p := fun p => by
      rw [gg_I, if_neg (by omega), gg_I, if_neg (by omega), gg_I]
      by_cases y : p = c
      · rw [if_pos ⟨rfl, rfl, y⟩, if_pos y]; rfl
      · rw [if_neg (fun t => y t.2.2), if_neg y]
    have a4 : ∀ p, gI (setI (setI (setI w 103 0 c (0 : Int32)) 104 0 c (0 : Int32)) 105 0 c (-1 : Int32)) 104 0 p = if p = c then nI 0 else gI w 104 0 p := fun p => by
      rw [gg_I, if_neg (by omega), gg_I]
      by_cases y : p = c
      · rw [if_pos ⟨rfl, rfl, y⟩, if_pos y]; rfl
      · rw [if_neg (fun t => y t.2.2), if_neg y, gg_I, if_neg (by omega)]
    have a5 : ∀ p, gI (setI (setI (setI w 103 0 c (0 : Int32)) 104 0 c (0 : Int32)) 105 0 c (-1 : Int32)) 105 0 p = if p = c then (-1 : Int32) else gI w 105 0 p := fun p => by
      rw [gg_I]
      by_cases y : p = c
      · rw [if_pos ⟨rfl, rfl, y⟩, if_pos y]
      · rw [if_neg (fun t => y t.2.2), if_neg y, gg_I, if_neg (by omega), gg_I, if_neg (by omega)]
    simp only [fX12_begin_2, ↓lt, ↓bnd s1, ↓bnd s2, ↓bnd s3, ↓reduceIte, callW_eq]
    generalize setI (setI (setI w 103 0 c (0 : Int32)) 104 0 c (0 : Int32)) 105 0 c (-1 : Int32) = w3 at f3 a3 a4 a5
    rw [li0]
    refine m_bg23 (N := N) (w0 := w3) (u := u) hU (p := c) (by omega) _ (by rw [(f3 79 0 c rfl).1, (f 79 0 c rfl).1]; exact h79 c (by omega)) (hU.2.1 25 c (by decide) (show c < u 0 1 by omega)) (fun w4 f4 g1 g2 => ?_) 8 0 N w3 (by omega) (by omega) (Fr_refl _ _) (fun k hk => absurd hk (Nat.not_lt_zero k)) (fun _ _ => ⟨rfl, rfl⟩)
    have e1 : nI c + (1 : Int32) = nI (c + 1) := nI_add _ 1
    simp only [fX12_begin_57, ↓e1]
    refine ih (c + 1) z w4 (by omega) (by omega) (Fr_trans f (Fr_trans (Fr_mono f3 rfl) (Fr_mono f4 rfl))) (fun p hp => ?_)
    rw [(f4 103 0 p rfl).1, (f4 104 0 p rfl).1, (f4 105 0 p rfl).1, a3, a4, a5]
    by_cases y : p = c
    · subst y
      rw [if_pos rfl, if_pos rfl, if_pos rfl]
      exact ⟨rfl, rfl, rfl, g1⟩
    · obtain ⟨t1, t2, t3, t4⟩ := h1 p (by omega)
      rw [if_neg y, if_neg y, if_neg y]
      refine ⟨t1, t2, t3, fun k hk => ?_⟩
      rw [(g2 (8 * p + k) (by omega)).1, (g2 (8 * p + k) (by omega)).2, (f3 101 0 _ rfl).1, (f3 102 0 _ rfl).1]
      exact t4 k hk
def kKe : List Nat := [17012, 17013, 17014, 17015, 17016, 17017, 17018, 17019, 75, 76, 77, 78, 79, 80, 81, 82, 83, 84, 85, 86, 87, 88, 89, 90, 91, 92, 93, 94, 95, 96, 101, 102, 103, 104, 105, 106, 107, 17064, 17065, 17093, 17074, 17097]
/-- the text is kept: what the reference holds then -/
theorem m_keepText (hN : 100 ≤ N) (D : DM w u) (hU : WU u) : Ok (pX12_keepText N w) (fun w' => Fr kKe w w' ∧ RM w' 0 (vT u) ∧ gI w' 16 0 64 = nI 0 ∧ gI w' 16 0 93 = nI 0 ∧ gI w' 16 0 74 = nI 0 ∧ gI w' 16 0 97 = nI 0 ∧ gL w' 106 0 0 = (nI (u 26 0)).toInt64) := by
  obtain ⟨wK, e0, f0, cp, v12, v13, v14, v15, v16, v17, v18, v19⟩ := m_keep0 (N := N) hN D
  have hU' := hU
  obtain ⟨⟨U0, U1, U2, U3, U4, U6, U7⟩, UB, US, UG, UL⟩ := hU'
  have row : ∀ kk r c, (kk, r, c, hf kk) ∈ dTm → 75 ≤ kk → kk ≤ 96 → kRw.contains kk = true → u 0 c ≤ hf kk → ∀ j, j < u 0 c → gI wK kk 0 j = nI (u r j) := fun kk r c he h1 h2 h3 h4 j hj => by
    rw [((cp kk h1 h2).1 h3).1 j (by omega)]
    exact D.1 (kk, r, c, hf kk) he j hj
  rw [e0]
  unfold pX12_begin
  rw [callW_eq, li0]
  have key : Ok (fX12_begin_2 N N (fX12_begin_59 N) (nI 0) wK) (fun w' => Fr kKe w w' ∧ RM w' 0 (vT u) ∧ gI w' 16 0 64 = nI 0 ∧ gI w' 16 0 93 = nI 0 ∧ gI w' 16 0 74 = nI 0 ∧ gI w' 16 0 97 = nI 0 ∧ gL w' 106 0 0 = (nI (u 26 0)).toInt64) := by
    refine m_bg2 (N := N) (w0 := wK) hN hU v13 _ (fun p hp => row 79 25 1 (by decide) (by omega) (by omega) (by decide) U1 p hp) (fun w1 f1 g1 => ?_) (u 0 1) 0 N wK (by omega) (by omega) (Fr_refl _ _) (fun p hp => absurd hp (Nat.not_lt_zero p))
    have e16 : gI (setI w1 16 0 64 (0 : Int32)) 16 0 16 = nI (u 0 6) := by rw [gg_I, if_neg (by omega), (f1 16 0 16 rfl).1]; exact v16
    have e18 : gI (setI (setI w1 16 0 64 (0 : Int32)) 16 0 65 (nI (u 0 6))) 16 0 18 = nI (u 26 0) := by rw [gg_I, if_neg (by omega), gg_I, if_neg (by omega), (f1 16 0 18 rfl).1]; exact v18
    have s1 : stL (setI (setI w1 16 0 64 (0 : Int32)) 16 0 65 (nI (u 0 6))) 106 0 (0 : Int32) 2 (nI (u 26 0)).toInt64 = some (setL (setI (setI w1 16 0 64 (0 : Int32)) 16 0 65 (nI (u 0 6))) 106 0 0 (nI (u 26 0)).toInt64) := stLn (j := 0) (by omega) (by omega)
    unfold fX12_begin_59
    rw [e16, e18, s1]
    simp only [Option.bind_some]
    have f2 : Fr [17064, 17065, 106, 17093, 17074, 17097] w1 (setI (setI (setI (setL (setI (setI w1 16 0 64 (0 : Int32)) 16 0 65 (nI (u 0 6))) 106 0 0 (nI (u 26 0)).toInt64) 16 0 93 (0 : Int32)) 16 0 74 (0 : Int32)) 16 0 97 (0 : Int32)) := Fr_setI (Fr_setI (Fr_setI (Fr_setL (Fr_setI (Fr_setI (Fr_refl _ _) rfl) rfl) rfl) rfl) rfl) rfl
    have b64 : gI (setI (setI (setI (setL (setI (setI w1 16 0 64 (0 : Int32)) 16 0 65 (nI (u 0 6))) 106 0 0 (nI (u 26 0)).toInt64) 16 0 93 (0 : Int32)) 16 0 74 (0 : Int32)) 16 0 97 (0 : Int32)) 16 0 64 = nI 0 := by simp only [gg_I, gg_IL, Nat.reduceEqDiff, Nat.reduceAdd, Nat.reduceSub, Nat.reduceMul, Nat.reducePow, Nat.reduceLT, Nat.reduceLeDiff, ↓reduceIte, reduceCtorEq, and_true, true_and, and_false, false_and, and_self, not_true_eq_false, not_false_eq_true, if_true, if_false]; rfl
    have b65 : gI (setI (setI (setI (setL (setI (setI w1 16 0 64 (0 : Int32)) 16 0 65 (nI (u 0 6))) 106 0 0 (nI (u 26 0)).toInt64) 16 0 93 (0 : Int32)) 16 0 74 (0 : Int32)) 16 0 97 (0 : Int32)) 16 0 65 = nI (u 0 6) := by simp only [gg_I, gg_IL, Nat.reduceEqDiff, Nat.reduceAdd, Nat.reduceSub, Nat.reduceMul, Nat.reducePow, Nat.reduceLT, Nat.reduceLeDiff, ↓reduceIte, reduceCtorEq, and_true, true_and, and_false, false_and, and_self, not_true_eq_false, not_false_eq_true, if_true, if_false]
    have b93 : gI (setI (setI (setI (setL (setI (setI w1 16 0 64 (0 : Int32)) 16 0 65 (nI (u 0 6))) 106 0 0 (nI (u 26 0)).toInt64) 16 0 93 (0 : Int32)) 16 0 74 (0 : Int32)) 16 0 97 (0 : Int32)) 16 0 93 = nI 0 := by simp only [gg_I, gg_IL, Nat.reduceEqDiff, Nat.reduceAdd, Nat.reduceSub, Nat.reduceMul, Nat.reducePow, Nat.reduceLT, Nat.reduceLeDiff, ↓reduceIte, reduceCtorEq, and_true, true_and, and_false, false_and, and_self, not_true_eq_false, not_false_eq_true, if_true, if_false]; rfl
    have b74 : gI (setI (setI (setI (setL (setI (setI w1 16 0 64 (0 : Int32)) 16 0 65 (nI (u 0 6))) 106 0 0 (nI (u 26 0)).toInt64) 16 0 93 (0 : Int32)) 16 0 74 (0 : Int32)) 16 0 97 (0 : Int32)) 16 0 74 = nI 0 := by simp only [gg_I, gg_IL, Nat.reduceEqDiff, Nat.reduceAdd, Nat.reduceSub, Nat.reduceMul, Nat.reducePow, Nat.reduceLT, Nat.reduceLeDiff, ↓reduceIte, reduceCtorEq, and_true, true_and, and_false, false_and, and_self, not_true_eq_false, not_false_eq_true, if_true, if_false]; rfl
    have b97 : gI (setI (setI (setI (setL (setI (setI w1 16 0 64 (0 : Int32)) 16 0 65 (nI (u 0 6))) 106 0 0 (nI (u 26 0)).toInt64) 16 0 93 (0 : Int32)) 16 0 74 (0 : Int32)) 16 0 97 (0 : Int32)) 16 0 97 = nI 0 := by simp only [gg_I, gg_IL, Nat.reduceEqDiff, Nat.reduceAdd, Nat.reduceSub, Nat.reduceMul, Nat.reducePow, Nat.reduceLT, Nat.reduceLeDiff, ↓reduceIte, reduceCtorEq, and_true, true_and, and_false, false_and, and_self, not_true_eq_false, not_false_eq_true, if_true, if_false]; rfl
    have b106 : gL (setI (setI (setI (setL (setI (setI w1 16 0 64 (0 : Int32)) 16 0 65 (nI (u 0 6))) 106 0 0 (nI (u 26 0)).toInt64) 16 0 93 (0 : Int32)) 16 0 74 (0 : Int32)) 16 0 97 (0 : Int32)) 106 0 0 = (nI (u 26 0)).toInt64 := by rw [gg_LI, gg_LI, gg_LI, gg_L, if_pos ⟨rfl, rfl, rfl⟩]
    generalize setI (setI (setI (setL (setI (setI w1 16 0 64 (0 : Int32)) 16 0 65 (nI (u 0 6))) 106 0 0 (nI (u 26 0)).toInt64) 16 0 93 (0 : Int32)) 16 0 74 (0 : Int32)) 16 0 97 (0 : Int32) = w2 at f2 b64 b65 b93 b74 b97 b106
    have f12 : Fr [101, 102, 103, 104, 105, 17064, 17065, 106, 17093, 17074, 17097] wK w2 := Fr_trans (Fr_mono f1 rfl) (Fr_mono f2 rfl)
    have rw2 : ∀ kk j, 75 ≤ kk → kk ≤ 96 → gI w2 kk 0 j = gI wK kk 0 j := fun kk j h1 h2 => (f12 kk 0 j (by
      have : ky kk j = kk := by unfold ky; rw [if_neg (by omega)]
      rw [this]
      simp only [List.contains_cons, List.contains_nil, Bool.or_false, Bool.or_eq_false_iff, beq_eq_false_iff_ne]
      omega)).1
    have TMw : TM w2 (vT u) := by
      have fld : ∀ f c, c ≤ 7 → c ≠ 5 → gI wK 16 0 f = nI (u 0 c) → (∀ x ∈ ([101, 102, 103, 104, 105, 17064, 17065, 106, 17093, 17074, 17097] : List Nat), x ≠ 17000 + f) → gI w2 16 0 f = nI (vT u 0 c) := fun f c h1 h2 h3 h4 => by
        rw [vT_0 h1 h2, (f12 16 0 f (by
          show ([101, 102, 103, 104, 105, 17064, 17065, 106, 17093, 17074, 17097] : List Nat).contains (17000 + f) = false
          cases hq : ([101, 102, 103, 104, 105, 17064, 17065, 106, 17093, 17074, 17097] : List Nat).contains (17000 + f) with
          | false => rfl
          | true => exact absurd rfl (h4 _ (List.contains_iff_mem.mp hq)))).1]
        exact h3
      have rw3 : ∀ kk r c, (kk, r, c, hf kk) ∈ dTm → 75 ≤ kk → kk ≤ 96 → kRw.contains kk = true → u 0 c ≤ hf kk → c ≤ 7 → c ≠ 5 → r ≠ 25 → ∀ j, j < vT u 0 c → gI w2 kk 0 j = nI (vT u r j) := fun kk r c he h1 h2 h3 h4 h5 h6 h7 j hj => by
        have g := okT_of okTm he
        simp only at g
        rw [vT_0 h5 h6] at hj
        rw [rw2 kk j h1 h2, row kk r c he h1 h2 h3 h4 j hj, vT_g (by omega) h7 (by rw [g.1]; exact hj)]
      refine ⟨fld 12 0 (by omega) (by omega) v12 (by decide), fld 13 1 (by omega) (by omega) v13 (by decide), fld 14 2 (by omega) (by omega) v14 (by decide), fld 15 3 (by omega) (by omega) v15 (by decide), fld 17 4 (by omega) (by omega) v17 (by decide), fld 19 7 (by omega) (by omega) v19 (by decide), rw3 75 1 0 (by decide) (by omega) (by omega) (by decide) U0 (by omega) (by omega) (by omega), rw3 76 2 0 (by decide) (by omega) (by omega) (by decide) U0 (by omega) (by omega) (by omega), fun j hj => ?_, rw3 78 4 1 (by decide) (by omega) (by omega) (by decide) U1 (by omega) (by omega) (by omega), rw3 80 5 1 (by decide) (by omega) (by omega) (by decide) U1 (by omega) (by omega) (by omega), rw3 81 6 1 (by decide) (by omega) (by omega) (by decide) U1 (by omega) (by omega) (by omega), rw3 82 7 1 (by decide) (by omega) (by omega) (by decide) U1 (by omega) (by omega) (by omega), rw3 83 8 1 (by decide) (by omega) (by omega) (by decide) U1 (by omega) (by omega) (by omega), rw3 84 9 2 (by decide) (by omega) (by omega) (by decide) U2 (by omega) (by omega) (by omega), rw3 85 10 2 (by decide) (by omega) (by omega) (by decide) U2 (by omega) (by omega) (by omega), rw3 86 11 2 (by decide) (by omega) (by omega) (by decide) U2 (by omega) (by omega) (by omega), rw3 87 12 2 (by decide) (by omega) (by omega) (by decide) U2 (by omega) (by omega) (by omega), rw3 88 13 3 (by decide) (by omega) (by omega) (by decide) U3 (by omega) (by omega) (by omega), ?_, rw3 89 14 6 (by decide) (by omega) (by omega) (by decide) (show u 0 6 ≤ 12 by omega) (by omega) (by omega) (by omega), rw3 90 15 6 (by decide) (by omega) (by omega) (by decide) (show u 0 6 ≤ 12 by omega) (by omega) (by omega) (by omega), fun a ha => ?_⟩
      · rw [vT_0 (by omega) (by omega)] at hj
        rw [vT_3, rw2 77 j (by omega) (by omega), ((cp 77 (by omega) (by omega)).1 (by decide)).1 j (show j < 8 by omega)]
        exact D.2.2.1 j hj
      · rw [vT_0 (by omega) (by omega)]; exact b65
      · rw [rw2 91 a (by omega) (by omega), ((cp 91 (by omega) (by omega)).1 (by decide)).1 a (show a < 2 from ha), vT_20, if_pos ha]
        exact D.2.2.2.2.1 a ha
    have TLw : TL w2 (vT u) := fun a ha h0 => by
      rw [vT_20, if_pos ha] at h0
      obtain ⟨g, q1, q2, q3, q4⟩ := D.2.2.2.2.2 a ha h0
      have c92 := ((cp 92 (by omega) (by omega)).1 (by decide)).1 a (show a < 2 from ha)
      have c93 := ((cp 93 (by omega) (by omega)).1 (by decide)).1 a (show a < 2 from ha)
      rw [vT_20, if_pos ha]
      refine ⟨g, by omega, ?_, ?_, fun j hj => ?_⟩
      · rw [rw2 92 a (by omega) (by omega), c92]; exact q2
      · rw [rw2 93 a (by omega) (by omega), c93]; exact q3
      · have c94 := ((cp 94 (by omega) (by omega)).1 (by decide)).1 (g + j) (show g + j < 64 by omega)
        have c95 := ((cp 95 (by omega) (by omega)).1 (by decide)).1 (g + j) (show g + j < 64 by omega)
        have c96 := ((cp 96 (by omega) (by omega)).1 (by decide)).1 (g + j) (show g + j < 64 by omega)
        rw [rw2 94 _ (by omega) (by omega), rw2 95 _ (by omega) (by omega), rw2 96 _ (by omega) (by omega), c94, c95, c96, vT_lK ha, vT_lX ha, if_pos hj, if_pos hj, vT_sd ha (by omega), vT_sp ha (by omega), vT_sp ha (by omega)]
        exact q4 j hj
    have SMw : SM w2 0 (vT u) := by
      have g1' : bgM w2 u (u 0 1) := fun p hp => by
        rw [(f2 103 0 p rfl).1, (f2 104 0 p rfl).1, (f2 105 0 p rfl).1]
        obtain ⟨t1, t2, t3, t4⟩ := g1 p hp
        refine ⟨t1, t2, t3, fun k hk => ?_⟩
        rw [(f2 101 0 _ rfl).1, (f2 102 0 _ rfl).1]
        exact t4 k hk
      have e01 : vT u 0 1 = u 0 1 := vT_0 (by omega) (by omega)
      have l16 : ∀ p kk, p < u 0 1 → kk < 8 → vT u 16 (8 * p + kk) = if (u 25 p).testBit kk = true then 1 else 0 := fun p kk hp hk => by
        rw [vT_16, show (8 * p + kk) / 8 = p by omega, show (8 * p + kk) % 8 = kk by omega]
        cases ht : (u 25 p).testBit kk with
        | true => rw [if_pos ⟨hp, rfl⟩, if_pos rfl]
        | false => rw [if_neg (fun z => by cases z.2), if_neg (by decide)]
      refine ⟨fun p kk hp hk => ?_, fun p kk hp hk => ?_, fun p hp => ?_, fun p hp => ?_, fun p hp => ?_⟩
      · rw [e01] at hp
        rw [show 48 * 0 + 8 * p + kk = 8 * p + kk by omega, ((g1' p hp).2.2.2 kk hk).1, l16 p kk hp hk]
        cases (u 25 p).testBit kk <;> rfl
      · rw [e01] at hp
        rw [show 48 * 0 + 8 * p + kk = 8 * p + kk by omega, ((g1' p hp).2.2.2 kk hk).2, l16 p kk hp hk]
        cases (u 25 p).testBit kk <;> rfl
      · rw [e01] at hp
        rw [show 6 * 0 + p = p by omega, (g1' p hp).1, vT_17 (by omega)]
      · rw [e01] at hp
        rw [show 6 * 0 + p = p by omega, (g1' p hp).2.1, vT_17 (by omega)]
      · rw [e01] at hp
        rw [show 6 * 0 + p = p by omega, (g1' p hp).2.2.1, vT_17 (by omega)]
        rfl
    obtain ⟨w3, e3, f3, g3⟩ := m_layWays (N := N) (v := vT u) (w0 := w2) (kk := 107) (a2 := (-1 : Int32)) (wo := 8) TMw (WF_vT hU) hN rfl (by decide) (fun j => rfl) (fun a ha => ⟨fun h => absurd h (nz_ne1 (by omega)), fun h => by omega⟩)
    have els : pX12_laySteps N w2 = some w3 := by
      simp only [pX12_laySteps, ↓cbnd e3]
    rw [callW_eq, els]
    have ff : Fr kKe w w3 := Fr_trans (Fr_mono f0 rfl) (Fr_trans (Fr_mono f12 rfl) (Fr_mono f3 rfl))
    refine ok_some ⟨ff, ⟨TM_fr f3 TMw, SM_fr f3 SMw, TL_fr f3 TLw, fun a c ha hc => ?_⟩, ?_, ?_, ?_, ?_, ?_⟩
    · have e00 : vT u 0 0 = u 0 0 := vT_0 (by omega) (by omega)
      have h8 : vT u 0 0 ≤ 8 := by rw [e00]; exact U0
      rw [g3 a c (by omega) (by omega)]
      congr 1
      refine gD_ext ha (fun c => ?_) (fun k hk => ?_)
      · rw [vT_3, e00]; exact US.1 c
      · rw [alW, mkB_bit, Nat.testBit_two_pow_sub_one, decide_eq_true hk, decide_eq_true (show k < 8 by omega), Bool.true_and]
        have : (k != 8) = true := bne_iff_ne.mpr (by omega)
        exact this
    · rw [(f3 16 0 64 rfl).1]; exact b64
    · rw [(f3 16 0 93 rfl).1]; exact b93
    · rw [(f3 16 0 74 rfl).1]; exact b74
    · rw [(f3 16 0 97 rfl).1]; exact b97
    · rw [(f3 106 0 0 rfl).2.1]; exact b106
  refine ok_bind key ?_
  intro r hr
  exact ok_some hr
end

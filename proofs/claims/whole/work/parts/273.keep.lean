/-! ===== calls: keep, back ===== -/
section
variable {N : Nat} {w w' : Wd} {v v' : Vw}
theorem m_keep22 {w0 : Wd} {Q : Int32 × Wd → Prop} (K : Wd → Option (Int32 × Wd)) (hK : ∀ w, Fr [124, 125] w0 w → (∀ j, j < 48 → gI w 124 0 j = gI w0 101 0 j ∧ gI w 125 0 j = gI w0 102 0 j &&& 1) → Ok (K w) Q) :
    ∀ fuel c w, c ≤ 48 → 48 - c < fuel → Fr [124, 125] w0 w → (∀ j, j < c → gI w 124 0 j = gI w0 101 0 j ∧ gI w 125 0 j = gI w0 102 0 j &&& 1) → Ok (fX12_keep_22 N fuel K (nI c) w) Q := by
  intro fuel
  induction fuel with
  | zero => intro c _ _ h; omega
  | succ f ih =>
    intro c w hc hf f0 hb
    have e1 : nI c + (1 : Int32) = nI (c + 1) := nI_add c 1
    rcases Nat.lt_or_ge c 48 with y | y
    · have lt : (nI c < (48 : Int32)) = True := eq_true ((nI_ltI (b := 48) (by omega) (by omega)).mpr y)
      have l0 : ldI w 101 0 (nI c) 96 = some (gI w0 101 0 c) := by rw [ldn (by omega) (by omega), (f0 101 0 c rfl).1]
      have s0 : stI w 124 0 (nI c) 48 (gI w0 101 0 c) = some (setI w 124 0 c (gI w0 101 0 c)) := stn (by omega) (by omega)
      generalize hw0 : setI w 124 0 c (gI w0 101 0 c) = v0 at s0
      have l1 : ldI v0 102 0 (nI c) 96 = some (gI w0 102 0 c) := by rw [ldn (by omega) (by omega), ← hw0, gg_I, if_neg (by omega), (f0 102 0 c rfl).1]
      have s1 : stI v0 125 0 (nI c) 48 (gI w0 102 0 c &&& 1) = some (setI v0 125 0 c (gI w0 102 0 c &&& 1)) := stn (by omega) (by omega)
      generalize hw1 : setI v0 125 0 c (gI w0 102 0 c &&& 1) = v1 at s1
      simp only [fX12_keep_22, ↓lt, ↓bnd l0, ↓bnd s0, ↓bnd l1, ↓bnd s1, ↓e1, ↓reduceIte, callW_eq]
      have F : Fr [124, 125] w0 v1 := by rw [← hw1, ← hw0]; exact Fr_setI (Fr_setI f0 rfl) rfl
      refine ih (c + 1) _ (by omega) (by omega) F (fun j hj => ?_)
      by_cases z : j = c
      · subst z
        refine ⟨?_, ?_⟩
        · rw [← hw1, gg_I, if_neg (by omega), ← hw0, gg_I, if_pos ⟨rfl, rfl, rfl⟩]
        · rw [← hw1, gg_I, if_pos ⟨rfl, rfl, rfl⟩]
      · have hj2 := hb j (by omega)
        refine ⟨?_, ?_⟩
        · rw [← hw1, gg_I, if_neg (fun u => by omega), ← hw0, gg_I, if_neg (fun u => by omega)]; exact hj2.1
        · rw [← hw1, gg_I, if_neg (fun u => by omega), ← hw0, gg_I, if_neg (fun u => by omega)]; exact hj2.2
    · have : c = 48 := by omega
      subst this
      have lt : (nI 48 < (48 : Int32)) = False := eq_false (by decide)
      simp only [fX12_keep_22, ↓lt, ↓reduceIte]
      exact hK w f0 hb
theorem m_keep45 {w0 : Wd} {Q : Int32 × Wd → Prop} (K : Wd → Option (Int32 × Wd)) (hK : ∀ w, Fr [126, 127, 128] w0 w → (∀ j, j < 6 → gI w 126 0 j = gI w0 103 0 j &&& 1 ∧ gI w 127 0 j = gI w0 104 0 j ∧ gI w 128 0 j = gI w0 105 0 j) → Ok (K w) Q) :
    ∀ fuel c w, c ≤ 6 → 6 - c < fuel → Fr [126, 127, 128] w0 w → (∀ j, j < c → gI w 126 0 j = gI w0 103 0 j &&& 1 ∧ gI w 127 0 j = gI w0 104 0 j ∧ gI w 128 0 j = gI w0 105 0 j) → Ok (fX12_keep_45 N fuel K (nI c) w) Q := by
  intro fuel
  induction fuel with
  | zero => intro c _ _ h; omega
  | succ f ih =>
    intro c w hc hf f0 hb
    have e1 : nI c + (1 : Int32) = nI (c + 1) := nI_add c 1
    rcases Nat.lt_or_ge c 6 with y | y
    · have lt : (nI c < (6 : Int32)) = True := eq_true ((nI_ltI (b := 6) (by omega) (by omega)).mpr y)
      have l0 : ldI w 103 0 (nI c) 12 = some (gI w0 103 0 c) := by rw [ldn (by omega) (by omega), (f0 103 0 c rfl).1]
      have s0 : stI w 126 0 (nI c) 6 (gI w0 103 0 c &&& 1) = some (setI w 126 0 c (gI w0 103 0 c &&& 1)) := stn (by omega) (by omega)
      generalize hw0 : setI w 126 0 c (gI w0 103 0 c &&& 1) = v0 at s0
      have l1 : ldI v0 104 0 (nI c) 12 = some (gI w0 104 0 c) := by rw [ldn (by omega) (by omega), ← hw0, gg_I, if_neg (by omega), (f0 104 0 c rfl).1]
      have s1 : stI v0 127 0 (nI c) 6 (gI w0 104 0 c) = some (setI v0 127 0 c (gI w0 104 0 c)) := stn (by omega) (by omega)
      generalize hw1 : setI v0 127 0 c (gI w0 104 0 c) = v1 at s1
      have l2 : ldI v1 105 0 (nI c) 12 = some (gI w0 105 0 c) := by rw [ldn (by omega) (by omega), ← hw1, gg_I, if_neg (by omega), ← hw0, gg_I, if_neg (by omega), (f0 105 0 c rfl).1]
      have s2 : stI v1 128 0 (nI c) 6 (gI w0 105 0 c) = some (setI v1 128 0 c (gI w0 105 0 c)) := stn (by omega) (by omega)
      generalize hw2 : setI v1 128 0 c (gI w0 105 0 c) = v2 at s2
      simp only [fX12_keep_45, ↓lt, ↓bnd l0, ↓bnd s0, ↓bnd l1, ↓bnd s1, ↓bnd l2, ↓bnd s2, ↓e1, ↓reduceIte, callW_eq]
      have F : Fr [126, 127, 128] w0 v2 := by rw [← hw2, ← hw1, ← hw0]; exact Fr_setI (Fr_setI (Fr_setI f0 rfl) rfl) rfl
      refine ih (c + 1) _ (by omega) (by omega) F (fun j hj => ?_)
      by_cases z : j = c
      · subst z
        refine ⟨?_, ?_, ?_⟩
        · rw [← hw2, gg_I, if_neg (by omega), ← hw1, gg_I, if_neg (by omega), ← hw0, gg_I, if_pos ⟨rfl, rfl, rfl⟩]
        · rw [← hw2, gg_I, if_neg (by omega), ← hw1, gg_I, if_pos ⟨rfl, rfl, rfl⟩]
        · rw [← hw2, gg_I, if_pos ⟨rfl, rfl, rfl⟩]
      · have hj2 := hb j (by omega)
        refine ⟨?_, ?_, ?_⟩
        · rw [← hw2, gg_I, if_neg (fun u => by omega), ← hw1, gg_I, if_neg (fun u => by omega), ← hw0, gg_I, if_neg (fun u => by omega)]; exact hj2.1
        · rw [← hw2, gg_I, if_neg (fun u => by omega), ← hw1, gg_I, if_neg (fun u => by omega), ← hw0, gg_I, if_neg (fun u => by omega)]; exact hj2.2.1
        · rw [← hw2, gg_I, if_neg (fun u => by omega), ← hw1, gg_I, if_neg (fun u => by omega), ← hw0, gg_I, if_neg (fun u => by omega)]; exact hj2.2.2
    · have : c = 6 := by omega
      subst this
      have lt : (nI 6 < (6 : Int32)) = False := eq_false (by decide)
      simp only [fX12_keep_45, ↓lt, ↓reduceIte]
      exact hK w f0 hb
theorem m_keep76 {w0 : Wd} {Q : Int32 × Wd → Prop} (K : Wd → Option (Int32 × Wd)) (hK : ∀ w, Fr [129, 130] w0 w → (∀ j, j < 12 → gI w 129 0 j = gI w0 89 0 j ∧ gI w 130 0 j = gI w0 90 0 j) → Ok (K w) Q) :
    ∀ fuel c w, c ≤ 12 → 12 - c < fuel → Fr [129, 130] w0 w → (∀ j, j < c → gI w 129 0 j = gI w0 89 0 j ∧ gI w 130 0 j = gI w0 90 0 j) → Ok (fX12_keep_76 N fuel K (nI c) w) Q := by
  intro fuel
  induction fuel with
  | zero => intro c _ _ h; omega
  | succ f ih =>
    intro c w hc hf f0 hb
    have e1 : nI c + (1 : Int32) = nI (c + 1) := nI_add c 1
    rcases Nat.lt_or_ge c 12 with y | y
    · have lt : (nI c < (12 : Int32)) = True := eq_true ((nI_ltI (b := 12) (by omega) (by omega)).mpr y)
      have l0 : ldI w 89 0 (nI c) 24 = some (gI w0 89 0 c) := by rw [ldn (by omega) (by omega), (f0 89 0 c rfl).1]
      have s0 : stI w 129 0 (nI c) 12 (gI w0 89 0 c) = some (setI w 129 0 c (gI w0 89 0 c)) := stn (by omega) (by omega)
      generalize hw0 : setI w 129 0 c (gI w0 89 0 c) = v0 at s0
      have l1 : ldI v0 90 0 (nI c) 24 = some (gI w0 90 0 c) := by rw [ldn (by omega) (by omega), ← hw0, gg_I, if_neg (by omega), (f0 90 0 c rfl).1]
      have s1 : stI v0 130 0 (nI c) 12 (gI w0 90 0 c) = some (setI v0 130 0 c (gI w0 90 0 c)) := stn (by omega) (by omega)
      generalize hw1 : setI v0 130 0 c (gI w0 90 0 c) = v1 at s1
      simp only [fX12_keep_76, ↓lt, ↓bnd l0, ↓bnd s0, ↓bnd l1, ↓bnd s1, ↓e1, ↓reduceIte, callW_eq]
      have F : Fr [129, 130] w0 v1 := by rw [← hw1, ← hw0]; exact Fr_setI (Fr_setI f0 rfl) rfl
      refine ih (c + 1) _ (by omega) (by omega) F (fun j hj => ?_)
      by_cases z : j = c
      · subst z
        refine ⟨?_, ?_⟩
        · rw [← hw1, gg_I, if_neg (by omega), ← hw0, gg_I, if_pos ⟨rfl, rfl, rfl⟩]
        · rw [← hw1, gg_I, if_pos ⟨rfl, rfl, rfl⟩]
      · have hj2 := hb j (by omega)
        refine ⟨?_, ?_⟩
        · rw [← hw1, gg_I, if_neg (fun u => by omega), ← hw0, gg_I, if_neg (fun u => by omega)]; exact hj2.1
        · rw [← hw1, gg_I, if_neg (fun u => by omega), ← hw0, gg_I, if_neg (fun u => by omega)]; exact hj2.2
    · have : c = 12 := by omega
      subst this
      have lt : (nI 12 < (12 : Int32)) = False := eq_false (by decide)
      simp only [fX12_keep_76, ↓lt, ↓reduceIte]
      exact hK w f0 hb
theorem m_back24 {w0 : Wd} {Q : Int32 × Wd → Prop} (K : Wd → Option (Int32 × Wd)) (hK : ∀ w, Fr [101, 102] w0 w → (∀ j, j < 48 → gI w 101 0 j = gI w0 124 0 j ∧ gI w 102 0 j = gI w0 125 0 j &&& 1) → Ok (K w) Q) :
    ∀ fuel c w, c ≤ 48 → 48 - c < fuel → Fr [101, 102] w0 w → (∀ j, j < c → gI w 101 0 j = gI w0 124 0 j ∧ gI w 102 0 j = gI w0 125 0 j &&& 1) → Ok (fX12_back_24 N fuel K (nI c) w) Q := by
  intro fuel
  induction fuel with
  | zero => intro c _ _ h; omega
  | succ f ih =>
    intro c w hc hf f0 hb
    have e1 : nI c + (1 : Int32) = nI (c + 1) := nI_add c 1
    rcases Nat.lt_or_ge c 48 with y | y
    · have lt : (nI c < (48 : Int32)) = True := eq_true ((nI_ltI (b := 48) (by omega) (by omega)).mpr y)
      have l0 : ldI w 124 0 (nI c) 48 = some (gI w0 124 0 c) := by rw [ldn (by omega) (by omega), (f0 124 0 c rfl).1]
      have s0 : stI w 101 0 (nI c) 96 (gI w0 124 0 c) = some (setI w 101 0 c (gI w0 124 0 c)) := stn (by omega) (by omega)
      generalize hw0 : setI w 101 0 c (gI w0 124 0 c) = v0 at s0
      have l1 : ldI v0 125 0 (nI c) 48 = some (gI w0 125 0 c) := by rw [ldn (by omega) (by omega), ← hw0, gg_I, if_neg (by omega), (f0 125 0 c rfl).1]
      have s1 : stI v0 102 0 (nI c) 96 (gI w0 125 0 c &&& 1) = some (setI v0 102 0 c (gI w0 125 0 c &&& 1)) := stn (by omega) (by omega)
      generalize hw1 : setI v0 102 0 c (gI w0 125 0 c &&& 1) = v1 at s1
      simp only [fX12_back_24, ↓lt, ↓bnd l0, ↓bnd s0, ↓bnd l1, ↓bnd s1, ↓e1, ↓reduceIte, callW_eq]
      have F : Fr [101, 102] w0 v1 := by rw [← hw1, ← hw0]; exact Fr_setI (Fr_setI f0 rfl) rfl
      refine ih (c + 1) _ (by omega) (by omega) F (fun j hj => ?_)
      by_cases z : j = c
      · subst z
        refine ⟨?_, ?_⟩
        · rw [← hw1, gg_I, if_neg (by omega), ← hw0, gg_I, if_pos ⟨rfl, rfl, rfl⟩]
        · rw [← hw1, gg_I, if_pos ⟨rfl, rfl, rfl⟩]
      · have hj2 := hb j (by omega)
        refine ⟨?_, ?_⟩
        · rw [← hw1, gg_I, if_neg (fun u => by omega), ← hw0, gg_I, if_neg (fun u => by omega)]; exact hj2.1
        · rw [← hw1, gg_I, if_neg (fun u => by omega), ← hw0, gg_I, if_neg (fun u => by omega)]; exact hj2.2
    · have : c = 48 := by omega
      subst this
      have lt : (nI 48 < (48 : Int32)) = False := eq_false (by decide)
      simp only [fX12_back_24, ↓lt, ↓reduceIte]
      exact hK w f0 hb
theorem m_back47 {w0 : Wd} {Q : Int32 × Wd → Prop} (K : Wd → Option (Int32 × Wd)) (hK : ∀ w, Fr [103, 104, 105] w0 w → (∀ j, j < 6 → gI w 103 0 j = gI w0 126 0 j &&& 1 ∧ gI w 104 0 j = gI w0 127 0 j ∧ gI w 105 0 j = gI w0 128 0 j) → Ok (K w) Q) :
    ∀ fuel c w, c ≤ 6 → 6 - c < fuel → Fr [103, 104, 105] w0 w → (∀ j, j < c → gI w 103 0 j = gI w0 126 0 j &&& 1 ∧ gI w 104 0 j = gI w0 127 0 j ∧ gI w 105 0 j = gI w0 128 0 j) → Ok (fX12_back_47 N fuel K (nI c) w) Q := by
  intro fuel
  induction fuel with
  | zero => intro c _ _ h; omega
  | succ f ih =>
    intro c w hc hf f0 hb
    have e1 : nI c + (1 : Int32) = nI (c + 1) := nI_add c 1
    rcases Nat.lt_or_ge c 6 with y | y
    · have lt : (nI c < (6 : Int32)) = True := eq_true ((nI_ltI (b := 6) (by omega) (by omega)).mpr y)
      have l0 : ldI w 126 0 (nI c) 6 = some (gI w0 126 0 c) := by rw [ldn (by omega) (by omega), (f0 126 0 c rfl).1]
      have s0 : stI w 103 0 (nI c) 12 (gI w0 126 0 c &&& 1) = some (setI w 103 0 c (gI w0 126 0 c &&& 1)) := stn (by omega) (by omega)
      generalize hw0 : setI w 103 0 c (gI w0 126 0 c &&& 1) = v0 at s0
      have l1 : ldI v0 127 0 (nI c) 6 = some (gI w0 127 0 c) := by rw [ldn (by omega) (by omega), ← hw0, gg_I, if_neg (by omega), (f0 127 0 c rfl).1]
      have s1 : stI v0 104 0 (nI c) 12 (gI w0 127 0 c) = some (setI v0 104 0 c (gI w0 127 0 c)) := stn (by omega) (by omega)
      generalize hw1 : setI v0 104 0 c (gI w0 127 0 c) = v1 at s1
      have l2 : ldI v1 128 0 (nI c) 6 = some (gI w0 128 0 c) := by rw [ldn (by omega) (by omega), ← hw1, gg_I, if_neg (by omega), ← hw0, gg_I, if_neg (by omega), (f0 128 0 c rfl).1]
      have s2 : stI v1 105 0 (nI c) 12 (gI w0 128 0 c) = some (setI v1 105 0 c (gI w0 128 0 c)) := stn (by omega) (by omega)
      generalize hw2 : setI v1 105 0 c (gI w0 128 0 c) = v2 at s2
      simp only [fX12_back_47, ↓lt, ↓bnd l0, ↓bnd s0, ↓bnd l1, ↓bnd s1, ↓bnd l2, ↓bnd s2, ↓e1, ↓reduceIte, callW_eq]
      have F : Fr [103, 104, 105] w0 v2 := by rw [← hw2, ← hw1, ← hw0]; exact Fr_setI (Fr_setI (Fr_setI f0 rfl) rfl) rfl
      refine ih (c + 1) _ (by omega) (by omega) F (fun j hj => ?_)
      by_cases z : j = c
      · subst z
        refine ⟨?_, ?_, ?_⟩
        · rw [← hw2, gg_I, if_neg (by omega), ← hw1, gg_I, if_neg (by omega), ← hw0, gg_I, if_pos ⟨rfl, rfl, rfl⟩]
        · rw [← hw2, gg_I, if_neg (by omega), ← hw1, gg_I, if_pos ⟨rfl, rfl, rfl⟩]
        · rw [← hw2, gg_I, if_pos ⟨rfl, rfl, rfl⟩]
      · have hj2 := hb j (by omega)
        refine ⟨?_, ?_, ?_⟩
        · rw [← hw2, gg_I, if_neg (fun u => by omega), ← hw1, gg_I, if_neg (fun u => by omega), ← hw0, gg_I, if_neg (fun u => by omega)]; exact hj2.1
        · rw [← hw2, gg_I, if_neg (fun u => by omega), ← hw1, gg_I, if_neg (fun u => by omega), ← hw0, gg_I, if_neg (fun u => by omega)]; exact hj2.2.1
        · rw [← hw2, gg_I, if_neg (fun u => by omega), ← hw1, gg_I, if_neg (fun u => by omega), ← hw0, gg_I, if_neg (fun u => by omega)]; exact hj2.2.2
    · have : c = 6 := by omega
      subst this
      have lt : (nI 6 < (6 : Int32)) = False := eq_false (by decide)
      simp only [fX12_back_47, ↓lt, ↓reduceIte]
      exact hK w f0 hb
theorem m_back78 {w0 : Wd} {Q : Int32 × Wd → Prop} (K : Wd → Option (Int32 × Wd)) (hK : ∀ w, Fr [89, 90] w0 w → (∀ j, j < 12 → gI w 89 0 j = gI w0 129 0 j ∧ gI w 90 0 j = gI w0 130 0 j) → Ok (K w) Q) :
    ∀ fuel c w, c ≤ 12 → 12 - c < fuel → Fr [89, 90] w0 w → (∀ j, j < c → gI w 89 0 j = gI w0 129 0 j ∧ gI w 90 0 j = gI w0 130 0 j) → Ok (fX12_back_78 N fuel K (nI c) w) Q := by
  intro fuel
  induction fuel with
  | zero => intro c _ _ h; omega
  | succ f ih =>
    intro c w hc hf f0 hb
    have e1 : nI c + (1 : Int32) = nI (c + 1) := nI_add c 1
    rcases Nat.lt_or_ge c 12 with y | y
    · have lt : (nI c < (12 : Int32)) = True := eq_true ((nI_ltI (b := 12) (by omega) (by omega)).mpr y)
      have l0 : ldI w 129 0 (nI c) 12 = some (gI w0 129 0 c) := by rw [ldn (by omega) (by omega), (f0 129 0 c rfl).1]
      have s0 : stI w 89 0 (nI c) 24 (gI w0 129 0 c) = some (setI w 89 0 c (gI w0 129 0 c)) := stn (by omega) (by omega)
      generalize hw0 : setI w 89 0 c (gI w0 129 0 c) = v0 at s0
      have l1 : ldI v0 130 0 (nI c) 12 = some (gI w0 130 0 c) := by rw [ldn (by omega) (by omega), ← hw0, gg_I, if_neg (by omega), (f0 130 0 c rfl).1]
      have s1 : stI v0 90 0 (nI c) 24 (gI w0 130 0 c) = some (setI v0 90 0 c (gI w0 130 0 c)) := stn (by omega) (by omega)
      generalize hw1 : setI v0 90 0 c (gI w0 130 0 c) = v1 at s1
      simp only [fX12_back_78, ↓lt, ↓bnd l0, ↓bnd s0, ↓bnd l1, ↓bnd s1, ↓e1, ↓reduceIte, callW_eq]
      have F : Fr [89, 90] w0 v1 := by rw [← hw1, ← hw0]; exact Fr_setI (Fr_setI f0 rfl) rfl
      refine ih (c + 1) _ (by omega) (by omega) F (fun j hj => ?_)
      by_cases z : j = c
      · subst z
        refine ⟨?_, ?_⟩
        · rw [← hw1, gg_I, if_neg (by omega), ← hw0, gg_I, if_pos ⟨rfl, rfl, rfl⟩]
        · rw [← hw1, gg_I, if_pos ⟨rfl, rfl, rfl⟩]
      · have hj2 := hb j (by omega)
        refine ⟨?_, ?_⟩
        · rw [← hw1, gg_I, if_neg (fun u => by omega), ← hw0, gg_I, if_neg (fun u => by omega)]; exact hj2.1
        · rw [← hw1, gg_I, if_neg (fun u => by omega), ← hw0, gg_I, if_neg (fun u => by omega)]; exact hj2.2
    · have : c = 12 := by omega
      subst this
      have lt : (nI 12 < (12 : Int32)) = False := eq_false (by decide)
      simp only [fX12_back_78, ↓lt, ↓reduceIte]
      exact hK w f0 hb
theorem s_keep (h : Iv w v) (hN : 100 ≤ N) : Sp (pX11_keep N) (pX12_keep N) w := by
  have C := h.1
  have hF := C.2.2.1
  have h5 := C.2.2.2.2.2.2.1
  have hT := C.2.2.2.2.2.1
  have h1 := WF_people hF
  have h6 := WF_slides hF
  obtain ⟨i1, i2, i3, i4, i5, i6, i7, i8, i9, i10⟩ := h
  obtain ⟨w1, e1, f1, s1, r1, z1, m1⟩ := c_copyFrom (N := N) (i0 := 1) (i1 := 0) (by omega) C.1 hF hN
  have C1 := Cu_sfr f1 s1 (by omega) C
  have f2 : Fr [16007] w1 (setI w1 15 0 7 (1 : Int32)) := Fr_setI (Fr_refl _ _) rfl
  have C2 := Cu_fr f2 C1
  have n1 : gI (setI w1 15 0 7 (1 : Int32)) 13 0 1 = nI (v 0 5) := SC_night C2.1.2
  have a7 : gI (setI w1 15 0 7 (1 : Int32)) 15 0 7 = zB true := by rw [gg_I, if_pos ⟨rfl, rfl, rfl⟩]; rfl
  have ec : pX11_keep N w = some (nI (v 0 5), setI w1 15 0 7 (1 : Int32)) := by
    simp only [pX11_keep, ↓cbnd e1, ↓n1]
  have S2 : SC (setI w1 15 0 7 (1 : Int32)) 1 v := SC_fr f2 r1.2
  have e130 : gR (setI w1 15 0 7 (1 : Int32)) 13 1 0 = gR (setI w1 15 0 7 (1 : Int32)) 13 0 0 := by
    rw [(f2 13 1 0 rfl).2.2, (f2 13 0 0 rfl).2.2, m1, (s1 13 0 0 (by decide) (Or.inl rfl)).2.2]
  have e132 : gL (setI w1 15 0 7 (1 : Int32)) 13 1 2 = gL w 13 0 2 := by rw [(f2 13 1 2 rfl).2.1, z1]
  have e1302 : gL (setI w1 15 0 7 (1 : Int32)) 13 0 2 = gL w 13 0 2 := by rw [(f2 13 0 2 rfl).2.1, (s1 13 0 2 (by decide) (Or.inl rfl)).2.1]
  have Fc : Fr (16007 :: kCp) w (setI w1 15 0 7 (1 : Int32)) := Fr_trans (Fr_mono f1 rfl) (Fr_mono f2 rfl)
  generalize setI w1 15 0 7 (1 : Int32) = w2 at ec C2 a7 S2 e130 e132 e1302 Fc
  /- the reference -/
  have f3 : Fr [17002, 17097] w2 (setI (setI w2 16 0 2 (0 : Int32)) 16 0 97 (1 : Int32)) := Fr_setI (Fr_setI (Fr_refl _ _) rfl) rfl
  have a97 : gI (setI (setI w2 16 0 2 (0 : Int32)) 16 0 97 (1 : Int32)) 16 0 97 = zB true := by rw [gg_I, if_pos ⟨rfl, rfl, rfl⟩]; rfl
  have C3 := Cu_fr f3 C2
  have e64 : gI (setI (setI w2 16 0 2 (0 : Int32)) 16 0 97 (1 : Int32)) 16 0 64 = nI (v 0 5) := Cu_night C3
  generalize hw3 : setI (setI w2 16 0 2 (0 : Int32)) 16 0 97 (1 : Int32) = w3 at f3 a97 C3 e64
  have f4 : Fr [17098] w3 (setI w3 16 0 98 (nI (v 0 5))) := Fr_setI (Fr_refl _ _) rfl
  have a98 : gI (setI w3 16 0 98 (nI (v 0 5))) 16 0 98 = nI (v 0 5) := by rw [gg_I, if_pos ⟨rfl, rfl, rfl⟩]
  have e65 : gI (setI w3 16 0 98 (nI (v 0 5))) 16 0 65 = nI (v 0 6) := by rw [(f4 16 0 65 rfl).1]; exact TM_slides C3.2.1.1
  generalize hw4 : setI w3 16 0 98 (nI (v 0 5)) = w4 at f4 a98 e65
  have f5 : Fr [17099] w4 (setI w4 16 0 99 (nI (v 0 6))) := Fr_setI (Fr_refl _ _) rfl
  have a99 : gI (setI w4 16 0 99 (nI (v 0 6))) 16 0 99 = nI (v 0 6) := by rw [gg_I, if_pos ⟨rfl, rfl, rfl⟩]
  generalize hw5 : setI w4 16 0 99 (nI (v 0 6)) = w5 at f5 a99
  have F5 : Fr [17002, 17097, 17098, 17099] w2 w5 := Fr_trans (Fr_mono f3 rfl) (Fr_trans (Fr_mono f4 rfl) (Fr_mono f5 rfl))
  have z5 : gL w5 106 0 0 = gL w 106 0 0 := by rw [(F5 106 0 0 rfl).2.1, (Fc 106 0 0 rfl).2.1]
  have x5 : ldL w5 106 0 (0 : Int32) 2 = some (gL w 106 0 0) := by rw [li0, ldLn (by omega) (by omega), z5]
  have f6 : Fr [17100] w5 (setL w5 16 0 100 (gL w 106 0 0)) := Fr_setL (Fr_refl _ _) rfl
  have a100 : gL (setL w5 16 0 100 (gL w 106 0 0)) 16 0 100 = gL w 106 0 0 := by rw [gg_L, if_pos ⟨rfl, rfl, rfl⟩]
  have mm : Ok (fX12_keep_22 N N (fX12_keep_43 N) (0 : Int32) (setL w5 16 0 100 (gL w 106 0 0))) (fun x => Fr [124, 125, 126, 127, 128, 129, 130] (setL w5 16 0 100 (gL w 106 0 0)) x.2 ∧ x.1 = nI (v 0 5) ∧ IR x.2 v) := by
    have C6 := Cu_fr f6 (Cu_fr F5 C2)
    generalize setL w5 16 0 100 (gL w 106 0 0) = w6 at f6 a100 C6
    have S6 := C6.2.1.2.1
    have T6 := C6.2.1.1
    rw [li0]
    refine m_keep22 (N := N) (w0 := w6) _ (fun w7 f7 b7 => ?_) N 0 w6 (by omega) (by omega) (Fr_refl _ _) (fun j hj => by omega)
    unfold fX12_keep_43
    rw [callW_eq, li0]
    refine m_keep45 (N := N) (w0 := w7) _ (fun w8 f8 b8 => ?_) N 0 w7 (by omega) (by omega) (Fr_refl _ _) (fun j hj => by omega)
    unfold fX12_keep_74
    rw [callW_eq, li0]
    refine m_keep76 (N := N) (w0 := w8) _ (fun w9 f9 b9 => ?_) N 0 w8 (by omega) (by omega) (Fr_refl _ _) (fun j hj => by omega)
    unfold fX12_keep_97
    have F9 : Fr [124, 125, 126, 127, 128, 129, 130] w6 w9 := Fr_trans (Fr_mono f7 rfl) (Fr_trans (Fr_mono f8 rfl) (Fr_mono f9 rfl))
    refine ok_some ⟨F9, ?_, ?_, ?_, fun j hj => ?_, fun p k hp hk => ?_, fun p hp => ?_⟩
    · show gI w9 16 0 64 = _
      rw [(F9 16 0 64 rfl).1]; exact Cu_night C6
    · show gI w9 16 0 98 = _
      rw [(F9 16 0 98 rfl).1, (f6 16 0 98 rfl).1, (f5 16 0 98 rfl).1]; exact a98
    · show gI w9 16 0 99 = _
      rw [(F9 16 0 99 rfl).1, (f6 16 0 99 rfl).1]; exact a99
    · show gI w9 129 0 j = _ ∧ gI w9 130 0 j = _
      rw [(b9 j (by omega)).1, (b9 j (by omega)).2, (f8 89 0 j rfl).1, (f8 90 0 j rfl).1, (f7 89 0 j rfl).1, (f7 90 0 j rfl).1]
      exact ⟨TM_spart T6 j hj, TM_snight T6 j hj⟩
    · show gI w9 124 0 (8 * p + k) = _ ∧ gI w9 125 0 (8 * p + k) = _
      have hl := SM_learned S6 p k hp hk
      have hfr := SM_fresh S6 p k hp hk
      rw [show 48 * 0 + 8 * p + k = 8 * p + k by omega] at hl hfr
      rw [(f9 124 0 _ rfl).1, (f8 124 0 _ rfl).1, (f9 125 0 _ rfl).1, (f8 125 0 _ rfl).1, (b7 (8 * p + k) (by omega)).1, (b7 (8 * p + k) (by omega)).2, hl, hfr, and1z]
      exact ⟨rfl, rfl⟩
    · show gI w9 126 0 p = _ ∧ gI w9 127 0 p = _ ∧ gI w9 128 0 p = _
      have hg := SM_gone S6 p hp
      have ht := SM_times S6 p hp
      have hl := SM_lost S6 p hp
      rw [show 6 * 0 + p = p by omega] at hg ht hl
      rw [(f9 126 0 _ rfl).1, (f9 127 0 _ rfl).1, (f9 128 0 _ rfl).1, (b8 p (by omega)).1, (b8 p (by omega)).2.1, (b8 p (by omega)).2.2, (f7 103 0 _ rfl).1, (f7 104 0 _ rfl).1, (f7 105 0 _ rfl).1, hg, ht, hl, and1 (WF_gone hF p)]
      exact ⟨rfl, rfl, rfl⟩
  obtain ⟨⟨x, w9⟩, em, g1, g2, g3⟩ := mm
  simp only at g1 g2 g3
  have F69 : Fr [17002, 17097, 17098, 17099, 17100, 124, 125, 126, 127, 128, 129, 130] w2 w9 := Fr_trans (Fr_mono F5 rfl) (Fr_trans (Fr_mono f6 rfl) (Fr_mono g1 rfl))
  have F : Fr (16007 :: kCp ++ [17002, 17097, 17098, 17099, 17100, 124, 125, 126, 127, 128, 129, 130]) w w9 := Fr_trans (Fr_mono Fc rfl) (Fr_mono F69 rfl)
  refine ⟨nI (v 0 5), w2, w9, ec, ?_, v, Cu_fr F69 C2, ?_, MO_fr F i3, TP_fr F i4, FA_fr F i5, UN_fr F i6, ?_, CL_fr F i8, OC_fr F i9, WD_fr F i10⟩
  · unfold pX12_keep
    simp only [↓hw3, ↓e64, ↓hw4, ↓e65, ↓hw5, ↓bnd x5]
    rw [callW_eq, em, g2]
  · unfold ZD
    rw [(F69 13 0 2 rfl).2.1, e1302, (F69 106 0 0 rfl).2.1, (Fc 106 0 0 rfl).2.1]
    exact i2
  · refine ⟨true, ?_, ?_, fun _ => ⟨v, SC_fr F69 S2, ?_, ?_, g3, ⟨hF, hT, h5⟩, fun _ _ _ => rfl⟩⟩
    · rw [(F69 15 0 7 rfl).1]; exact a7
    · rw [(g1 16 0 97 rfl).1, (f6 16 0 97 rfl).1, (f5 16 0 97 rfl).1, (f4 16 0 97 rfl).1]; exact a97
    · rw [(F69 13 1 0 rfl).2.2, (F69 13 0 0 rfl).2.2]; exact e130
    · rw [(F69 13 1 2 rfl).2.1, e132, (g1 16 0 100 rfl).2.1, a100]
      exact i2
theorem s_back (h : Iv w v) (hN : 100 ≤ N) : Sp (pX11_back N) (pX12_back N) w := by
  have C := h.1
  have hF := C.2.2.1
  obtain ⟨i1, i2, i3, i4, i5, i6, i7, i8, i9, i10⟩ := h
  have i7' := i7
  obtain ⟨b, b1, b2, b3⟩ := i7'
  have e97 : gI (setI w 16 0 2 (0 : Int32)) 16 0 97 = zB b := by rw [gg_I, if_neg (by omega)]; exact b2
  cases b with
  | false =>
    have q : (gI w 15 0 7 = 0) = True := eq_true b1
    have q' : (gI (setI w 16 0 2 (0 : Int32)) 16 0 97 = 0) = True := eq_true e97
    exact Sp_same (v := v) ⟨i1, i2, i3, i4, i5, i6, i7, i8, i9, i10⟩ (r := (-1 : Int32)) (by simp only [pX11_back, ↓q, ↓reduceIte]) (by simp only [pX12_back, ↓q', ↓reduceIte])
  | true =>
    obtain ⟨vi, SI, mI, zI, rI, ⟨hFi, hTi, h5i⟩, hmr⟩ := b3 rfl
    have h1 := WF_people hFi
    have h6 := WF_slides hFi
    have q : (gI w 15 0 7 = 0) = False := eq_false (by rw [b1]; decide)
    have RI : RC w 1 vi := ⟨by rw [mI]; exact TC_ext hmr C.1.1, SI⟩
    obtain ⟨w1, e1, f1, s1, r1, z1, m1⟩ := c_copyFrom (N := N) (i0 := 0) (i1 := 1) (by omega) RI hFi hN
    have gd : pX5_drop N (setI w1 15 0 8 (0 : Int32)) = some (setI (setI w1 15 0 8 (0 : Int32)) 9 0 1 (-1 : Int32)) := rfl
    have f2 : Fr [16008, 10001] w1 (setI (setI w1 15 0 8 (0 : Int32)) 9 0 1 (-1 : Int32)) := Fr_setI (Fr_setI (Fr_refl _ _) rfl) rfl
    have R2 := RC_fr f2 r1
    have n2 : gI (setI (setI w1 15 0 8 (0 : Int32)) 9 0 1 (-1 : Int32)) 13 0 1 = nI (vi 0 5) := SC_night R2.2
    have ec : pX11_back N w = some (nI (vi 0 5), setI (setI w1 15 0 8 (0 : Int32)) 9 0 1 (-1 : Int32)) := by
      simp only [pX11_back, ↓q, ↓cbnd e1, ↓cbnd gd, ↓n2, ↓reduceIte]
    have a8 : gI (setI (setI w1 15 0 8 (0 : Int32)) 9 0 1 (-1 : Int32)) 15 0 8 = nI 0 := by rw [gg_I, if_neg (by omega), gg_I, if_pos ⟨rfl, rfl, rfl⟩]; rfl
    have d1 : gI (setI (setI w1 15 0 8 (0 : Int32)) 9 0 1 (-1 : Int32)) 9 0 1 = (-1 : Int32) := by rw [gg_I, if_pos ⟨rfl, rfl, rfl⟩]
    have e130 : gR (setI (setI w1 15 0 8 (0 : Int32)) 9 0 1 (-1 : Int32)) 13 0 0 = gR w 13 0 0 := by rw [(f2 13 0 0 rfl).2.2, m1]; exact mI
    have e132 : gL (setI (setI w1 15 0 8 (0 : Int32)) 9 0 1 (-1 : Int32)) 13 0 2 = gL w 16 0 100 := by rw [(f2 13 0 2 rfl).2.1, z1]; exact zI
    have Fc : Fr (16008 :: 10001 :: kCp) w (setI (setI w1 15 0 8 (0 : Int32)) 9 0 1 (-1 : Int32)) := Fr_trans (Fr_mono f1 rfl) (Fr_mono f2 rfl)
    have im2 : IM (setI (setI w1 15 0 8 (0 : Int32)) 9 0 1 (-1 : Int32)) v := IM_fr f2 (IM_sfr f1 s1 (by omega) (m1.trans mI) i7)
    generalize setI (setI w1 15 0 8 (0 : Int32)) 9 0 1 (-1 : Int32) = w2 at ec f2 R2 n2 a8 d1 e130 e132 Fc im2
    /- the reference -/
    have f3 : Fr [17002] w2 (setI w2 16 0 2 (0 : Int32)) := Fr_setI (Fr_refl _ _) rfl
    have q3 : (gI (setI w2 16 0 2 (0 : Int32)) 16 0 97 = 0) = False := eq_false (by rw [(f3 16 0 97 rfl).1, (Fc 16 0 97 rfl).1, b2]; decide)
    have e98 : gI (setI w2 16 0 2 (0 : Int32)) 16 0 98 = nI (vi 0 5) := by rw [(f3 16 0 98 rfl).1, (Fc 16 0 98 rfl).1]; exact rI.1
    generalize hw3 : setI w2 16 0 2 (0 : Int32) = w3 at f3 q3 e98
    have f4 : Fr [17064] w3 (setI w3 16 0 64 (nI (vi 0 5))) := Fr_setI (Fr_refl _ _) rfl
    have a64 : gI (setI w3 16 0 64 (nI (vi 0 5))) 16 0 64 = nI (vi 0 5) := by rw [gg_I, if_pos ⟨rfl, rfl, rfl⟩]
    have e99 : gI (setI w3 16 0 64 (nI (vi 0 5))) 16 0 99 = nI (vi 0 6) := by rw [(f4 16 0 99 rfl).1, (f3 16 0 99 rfl).1, (Fc 16 0 99 rfl).1]; exact rI.2.1
    generalize hw4 : setI w3 16 0 64 (nI (vi 0 5)) = w4 at f4 a64 e99
    have f5 : Fr [17065] w4 (setI w4 16 0 65 (nI (vi 0 6))) := Fr_setI (Fr_refl _ _) rfl
    have a65 : gI (setI w4 16 0 65 (nI (vi 0 6))) 16 0 65 = nI (vi 0 6) := by rw [gg_I, if_pos ⟨rfl, rfl, rfl⟩]
    generalize hw5 : setI w4 16 0 65 (nI (vi 0 6)) = w5 at f5 a65
    have F5 : Fr [17002, 17064, 17065] w2 w5 := Fr_trans (Fr_mono f3 rfl) (Fr_trans (Fr_mono f4 rfl) (Fr_mono f5 rfl))
    have z5 : gL w5 16 0 100 = gL w 16 0 100 := by rw [(F5 16 0 100 rfl).2.1, (Fc 16 0 100 rfl).2.1]
    have x5 : stL w5 106 0 (0 : Int32) 2 (gL w5 16 0 100) = some (setL w5 106 0 0 (gL w 16 0 100)) := by rw [z5, li0]; exact stLn (by omega) (by omega)
    have f6 : Fr [106] w5 (setL w5 106 0 0 (gL w 16 0 100)) := Fr_setL (Fr_refl _ _) rfl
    have a106 : gL (setL w5 106 0 0 (gL w 16 0 100)) 106 0 0 = gL w 16 0 100 := by rw [gg_L, if_pos ⟨rfl, rfl, rfl⟩]
    generalize hw6 : setL w5 106 0 0 (gL w 16 0 100) = w6 at x5 f6 a106
    have F6 : Fr [17002, 17064, 17065, 106] w2 w6 := Fr_trans (Fr_mono F5 rfl) (Fr_mono f6 rfl)
    have I6 : IR w6 vi := IR_fr F6 (IR_fr Fc rI)
    have mm : Ok (fX12_back_24 N N (fX12_back_45 N) (0 : Int32) w6) (fun x => Fr [101, 102, 103, 104, 105, 89, 90, 17074] w6 x.2 ∧ x.1 = nI (vi 0 5) ∧ SM x.2 0 vi ∧ (∀ j, j < vi 0 6 → gI x.2 89 0 j = nI (vi 14 j) ∧ gI x.2 90 0 j = nI (vi 15 j)) ∧ gI x.2 16 0 74 = nI 0) := by
      obtain ⟨_, _, I3, I4, I5⟩ := I6
      rw [li0]
      refine m_back24 (N := N) (w0 := w6) _ (fun w7 f7 b7 => ?_) N 0 w6 (by omega) (by omega) (Fr_refl _ _) (fun j hj => by omega)
      unfold fX12_back_45
      rw [callW_eq, li0]
      refine m_back47 (N := N) (w0 := w7) _ (fun w8 f8 b8 => ?_) N 0 w7 (by omega) (by omega) (Fr_refl _ _) (fun j hj => by omega)
      unfold fX12_back_76
      rw [callW_eq, li0]
      refine m_back78 (N := N) (w0 := w8) _ (fun w9 f9 b9 => ?_) N 0 w8 (by omega) (by omega) (Fr_refl _ _) (fun j hj => by omega)
      unfold fX12_back_99
      have f10 : Fr [17074] w9 (setI w9 16 0 74 (0 : Int32)) := Fr_setI (Fr_refl _ _) rfl
      have F10 : Fr [101, 102, 103, 104, 105, 89, 90, 17074] w6 (setI w9 16 0 74 (0 : Int32)) := Fr_trans (Fr_mono f7 rfl) (Fr_trans (Fr_mono f8 rfl) (Fr_trans (Fr_mono f9 rfl) (Fr_mono f10 rfl)))
      have F89 : Fr [89, 90, 17074] w8 (setI w9 16 0 74 (0 : Int32)) := Fr_trans (Fr_mono f9 rfl) (Fr_mono f10 rfl)
      refine ok_some ⟨F10, ?_, ⟨fun p k hp hk => ?_, fun p k hp hk => ?_, fun p hp => ?_, fun p hp => ?_, fun p hp => ?_⟩, fun j hj => ?_, ?_⟩
      · show gI (setI w9 16 0 74 (0 : Int32)) 16 0 64 = _
        rw [(F10 16 0 64 rfl).1, (f6 16 0 64 rfl).1, (f5 16 0 64 rfl).1]; exact a64
      · show gI (setI w9 16 0 74 (0 : Int32)) 101 0 (48 * 0 + 8 * p + k) = _
        rw [show 48 * 0 + 8 * p + k = 8 * p + k by omega, (F89 101 0 _ rfl).1, (f8 101 0 _ rfl).1, (b7 (8 * p + k) (by omega)).1, (I4 p k hp hk).1]
      · show gI (setI w9 16 0 74 (0 : Int32)) 102 0 (48 * 0 + 8 * p + k) = _
        rw [show 48 * 0 + 8 * p + k = 8 * p + k by omega, (F89 102 0 _ rfl).1, (f8 102 0 _ rfl).1, (b7 (8 * p + k) (by omega)).2, (I4 p k hp hk).2, and1z]
      · show gI (setI w9 16 0 74 (0 : Int32)) 103 0 (6 * 0 + p) = _
        rw [show 6 * 0 + p = p by omega, (F89 103 0 _ rfl).1, (b8 p (by omega)).1, (f7 126 0 _ rfl).1, (I5 p hp).1, and1 (WF_gone hFi p)]
      · show gI (setI w9 16 0 74 (0 : Int32)) 104 0 (6 * 0 + p) = _
        rw [show 6 * 0 + p = p by omega, (F89 104 0 _ rfl).1, (b8 p (by omega)).2.1, (f7 127 0 _ rfl).1, (I5 p hp).2.1]
      · show gI (setI w9 16 0 74 (0 : Int32)) 105 0 (6 * 0 + p) = _
        rw [show 6 * 0 + p = p by omega, (F89 105 0 _ rfl).1, (b8 p (by omega)).2.2, (f7 128 0 _ rfl).1, (I5 p hp).2.2]
      · show gI (setI w9 16 0 74 (0 : Int32)) 89 0 j = _ ∧ gI (setI w9 16 0 74 (0 : Int32)) 90 0 j = _
        rw [(f10 89 0 j rfl).1, (f10 90 0 j rfl).1, (b9 j (by omega)).1, (b9 j (by omega)).2, (f8 129 0 j rfl).1, (f8 130 0 j rfl).1, (f7 129 0 j rfl).1, (f7 130 0 j rfl).1]
        exact I3 j hj
      · show gI (setI w9 16 0 74 (0 : Int32)) 16 0 74 = _
        rw [gg_I, if_pos ⟨rfl, rfl, rfl⟩]; rfl
    obtain ⟨⟨x, w9⟩, em, g1, g2, g3, g4, g5⟩ := mm
    simp only at g1 g2 g3 g4 g5
    have F29 : Fr [17002, 17064, 17065, 106, 101, 102, 103, 104, 105, 89, 90, 17074] w2 w9 := Fr_trans (Fr_mono F6 rfl) (Fr_mono g1 rfl)
    have F : Fr (16008 :: 10001 :: kCp ++ [17002, 17064, 17065, 106, 101, 102, 103, 104, 105, 89, 90, 17074]) w w9 := Fr_trans (Fr_mono Fc rfl) (Fr_mono F29 rfl)
    have e13 : gR w9 13 0 0 = gR w 13 0 0 := ((F29 13 0 0 rfl).2.2).trans e130
    have M9 : TM w9 vi := TM_new F hmr C.2.1.1 (by rw [(g1 16 0 65 rfl).1, (f6 16 0 65 rfl).1]; exact a65) (fun j hj => (g4 j hj).1) (fun j hj => (g4 j hj).2)
    refine ⟨nI (vi 0 5), w2, w9, ec, ?_, vi, ⟨⟨?_, SC_fr F29 R2.2⟩, ⟨M9, g3, TL_ext hmr (TL_fr F C.2.1.2.2.1), ST_mr hmr (ST_fr F C.2.1.2.2.2)⟩, hFi, WL_ext hmr C.2.2.2.1, ?_, hTi, h5i, ?_⟩, ?_, MO_fr F i3, TP_fr F i4, FA_fr F i5, UN_no (((F29 15 0 8 rfl).1).trans a8) g5, IM_ext hmr (IM_fr F29 im2), CL_ext hmr (CL_fr F i8), Or.inl (((F29 9 0 1 rfl).1).trans d1), WD_fr F i10⟩
    · unfold pX12_back
      simp only [↓hw3, ↓q3, ↓e98, ↓hw4, ↓e99, ↓hw5, ↓bnd x5, ↓reduceIte]
      rw [callW_eq, em, g2]
    · rw [e13]; exact TC_ext hmr (TC_fr F C.1.1)
    · rw [(F 15 0 2 rfl).2.2, e13]; exact C.2.2.2.2.1
    · rw [(g1 16 0 64 rfl).1, (f6 16 0 64 rfl).1, (f5 16 0 64 rfl).1]; exact a64
    · unfold ZD
      rw [(F29 13 0 2 rfl).2.1, e132, (g1 106 0 0 rfl).2.1, a106]
end

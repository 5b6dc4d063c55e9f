/-! ===== the reference: hands spent ===== -/
section
variable {N : Nat} {w : Wd} {S kn : Nat → Nat}
def spN (S kn : Nat → Nat) (k h : Nat) : Nat := if (kn h).testBit k = true then mnF (fun g => S g + c1 g h) 99 7 else 99
theorem spN_le (S kn : Nat → Nat) (k h : Nat) : spN S kn k h ≤ 99 := by
  unfold spN
  split
  · exact (mnF_spec _ _ _).1
  · omega
theorem m_sp9 (hS : ∀ g, g < 7 → gI w 116 0 g = nI (S g) ∧ S g ≤ 99) {h : Nat} {a1 : Int32} (hh : h < 7) (K : Int32 → Int32 → Wd → Option Wd) : ∀ fuel c, c ≤ 7 → 7 - c < fuel →
    fX12_laySpent_9 N a1 fuel K (nI h) (nI (mnF (fun g => S g + c1 g h) 99 c)) (nI c) w = K (nI h) (nI (mnF (fun g => S g + c1 g h) 99 7)) w := by
  intro fuel
  induction fuel with
  | zero => intro c _ h; omega
  | succ f ih =>
    intro c hc hf
    rcases Nat.lt_or_ge c 7 with q | q
    · have lt : (nI c < (7 : Int32)) = True := eq_true ((nI_ltI (a := c) (b := 7) (by omega) (by omega)).mpr q)
      have hs := (hS c q).2
      have hm := (mnF_spec (fun g => S g + c1 g h) 99 c).1
      have l1 : ldI w 116 0 (nI c) 7 = some (nI (S c)) := by rw [ldn (by omega) (by omega), (hS c q).1]
      have e1 : nI c + (1 : Int32) = nI (c + 1) := nI_add c 1
      have e := ih (c + 1) (by omega) (by omega)
      rw [mnF] at e
      have go : ∀ z, c1 c h = z → fX12_laySpent_22 N a1 (fX12_laySpent_9 N a1 f K) (nI h) (nI (mnF (fun g => S g + c1 g h) 99 c)) (nI c) (nI z) (nI (S c)) w = K (nI h) (nI (mnF (fun g => S g + c1 g h) 99 7)) w := by
        intro z hz
        have hz1 : z ≤ 1 := by rw [← hz]; unfold c1; split <;> omega
        rw [hz] at e
        have ea : nI (S c) + nI z = nI (S c + z) := nI_add _ _
        by_cases y : S c + z < mnF (fun g => S g + c1 g h) 99 c
        · have y' : (nI (S c + z) < nI (mnF (fun g => S g + c1 g h) 99 c)) = True := eq_true ((nI_ltI (by omega) (by omega)).mpr y)
          simp only [fX12_laySpent_22, ↓ea, y', ↓e1, ↓reduceIte]
          rw [if_pos y] at e
          exact e
        · have y' : (nI (S c + z) < nI (mnF (fun g => S g + c1 g h) 99 c)) = False := eq_false (fun u => y ((nI_ltI (by omega) (by omega)).mp u))
          simp only [fX12_laySpent_22, ↓ea, y', ↓e1, ↓reduceIte]
          rw [if_neg y] at e
          exact e
      by_cases y : c = h
      · have y' : (nI c = nI h) = True := eq_true (by rw [y])
        simp only [fX12_laySpent_9, lt, ↓bnd l1, y', ↓reduceIte, callW_eq]
        exact go 0 (if_pos y)
      · have y' : (nI c = nI h) = False := eq_false (fun u => y ((nI_eq (by omega) (by omega)).mp u))
        simp only [fX12_laySpent_9, lt, ↓bnd l1, y', ↓reduceIte, callW_eq]
        exact go 1 (if_neg y)
    · have : c = 7 := by omega
      subst this
      have lt : (nI 7 < (7 : Int32)) = False := eq_false (by decide)
      simp only [fX12_laySpent_9, lt, ↓reduceIte]
theorem m_laySpent (hN : 100 ≤ N) (hS : ∀ g, g < 7 → gI w 116 0 g = nI (S g) ∧ S g ≤ 99) (hkn : ∀ g, g < 7 → gI w 111 0 g = nI (kn g) ∧ kn g < 2 ^ 8) {k : Nat} (hk : k < 8) :
    Ok (pX12_laySpent N (nI k) w) (fun w' => Fr [116, 117] w w' ∧ ∀ g, g < 7 → gI w' 116 0 g = nI (spN S kn k g)) := by
  have k51 : ∀ fuel c w1, c ≤ 7 → 7 - c < fuel → (Fr [116, 117] w w1 ∧ (∀ g, g < 7 → gI w1 117 0 g = nI (spN S kn k g)) ∧ ∀ g, g < c → gI w1 116 0 g = nI (spN S kn k g)) → Ok (fX12_laySpent_51 N fuel (nI c) w1) (fun w' => Fr [116, 117] w w' ∧ ∀ g, g < 7 → gI w' 116 0 g = nI (spN S kn k g)) := by
    intro fuel
    induction fuel with
    | zero => intro c _ _ h; omega
    | succ f ih =>
      intro c w1 hc hf hI
      obtain ⟨i1, i2, i3⟩ := hI
      rcases Nat.lt_or_ge c 7 with q | q
      · have lt : (nI c < (7 : Int32)) = True := eq_true ((nI_ltI (a := c) (b := 7) (by omega) (by omega)).mpr q)
        have l1 : ldI w1 117 0 (nI c) 7 = some (nI (spN S kn k c)) := by rw [ldn (by omega) (by omega), i2 c q]
        have s1 : ∀ x, stI w1 116 0 (nI c) 7 x = some (setI w1 116 0 c x) := fun x => stn (by omega) (by omega)
        have e1 : nI c + (1 : Int32) = nI (c + 1) := nI_add c 1
        simp only [fX12_laySpent_51, lt, ↓bnd l1, ↓bnd (s1 _), ↓e1, ↓reduceIte, callW_eq]
        refine ih (c + 1) _ (by omega) (by omega) ⟨Fr_setI i1 rfl, fun g hg => ?_, fun g hg => ?_⟩
        · rw [gg_I, if_neg (by omega)]; exact i2 g hg
        · rw [gg_I]
          by_cases y : g = c
          · subst y; rw [if_pos ⟨rfl, rfl, rfl⟩]
          · rw [if_neg (fun z => y z.2.2)]; exact i3 g (by omega)
      · have : c = 7 := by omega
        subst this
        have lt : (nI 7 < (7 : Int32)) = False := eq_false (by decide)
        simp only [fX12_laySpent_51, lt, ↓reduceIte]
        exact ok_some ⟨i1, i3⟩
  have k2 : ∀ fuel c w1, c ≤ 7 → 7 - c < fuel → (Fr [117] w w1 ∧ ∀ g, g < c → gI w1 117 0 g = nI (spN S kn k g)) → Ok (fX12_laySpent_2 N (nI k) fuel (fX12_laySpent_49 N) (nI c) w1) (fun w' => Fr [116, 117] w w' ∧ ∀ g, g < 7 → gI w' 116 0 g = nI (spN S kn k g)) := by
    intro fuel
    induction fuel with
    | zero => intro c _ _ h; omega
    | succ f ih =>
      intro c w1 hc hf hI
      obtain ⟨i1, i2⟩ := hI
      rcases Nat.lt_or_ge c 7 with q | q
      · have lt : (nI c < (7 : Int32)) = True := eq_true ((nI_ltI (a := c) (b := 7) (by omega) (by omega)).mpr q)
        have e9 := m_sp9 (N := N) (w := w1) (S := S) (a1 := nI k) (fun g hg => ⟨((i1 116 0 g rfl).1).trans (hS g hg).1, (hS g hg).2⟩) q (fX12_laySpent_33 N (nI k) (fX12_laySpent_2 N (nI k) f (fX12_laySpent_49 N))) N 0 (by omega) (by omega)
        have l1 : ldI w1 111 0 (nI c) 7 = some (nI (kn c)) := by rw [ldn (by omega) (by omega), (i1 111 0 c rfl).1, (hkn c q).1]
        have hk8 := (hkn c q).2
        have go := m_isOf (N := N) (w := w1) (x := kn c) (k := k) (by omega) (by omega)
        have s1 : ∀ x, stI w1 117 0 (nI c) 7 x = some (setI w1 117 0 c x) := fun x => stn (by omega) (by omega)
        have e1 : nI c + (1 : Int32) = nI (c + 1) := nI_add c 1
        have e := ih (c + 1) (setI w1 117 0 c (nI (spN S kn k c))) (by omega) (by omega) ⟨Fr_setI i1 rfl, fun g hg => by
          rw [gg_I]
          by_cases y : g = c
          · subst y; rw [if_pos ⟨rfl, rfl, rfl⟩]
          · rw [if_neg (fun z => y z.2.2)]; exact i2 g (by omega)⟩
        simp only [fX12_laySpent_2, lt, ↓reduceIte, callW_eq]
        have e99 : (99 : Int32) = nI (mnF (fun g => S g + c1 g c) 99 0) := rfl
        rw [e99, li0, e9]
        by_cases y : (kn c).testBit k = true
        · rw [y] at go
          have z0 : (zB true = (0 : Int32)) = False := eq_false (by decide)
          have ee : spN S kn k c = mnF (fun g => S g + c1 g c) 99 7 := if_pos y
          rw [ee] at e
          simp only [fX12_laySpent_33, ↓bnd l1, ↓cbnd go, z0, ↓bnd (s1 _), ↓e1, ↓reduceIte]
          exact e
        · have ee : spN S kn k c = 99 := if_neg y
          rw [Bool.not_eq_true] at y
          rw [y] at go
          have z0 : (zB false = (0 : Int32)) = True := eq_true (by decide)
          rw [ee] at e
          simp only [fX12_laySpent_33, ↓bnd l1, ↓cbnd go, z0, ↓bnd (s1 _), ↓e1, ↓reduceIte]
          exact e
      · have : c = 7 := by omega
        subst this
        have lt : (nI 7 < (7 : Int32)) = False := eq_false (by decide)
        simp only [fX12_laySpent_2, fX12_laySpent_49, lt, ↓reduceIte, callW_eq]
        rw [li0]
        exact k51 N 0 w1 (by omega) (by omega) ⟨Fr_mono i1 rfl, i2, fun g h => by omega⟩
  unfold pX12_laySpent
  rw [callW_eq, li0]
  exact k2 N 0 w (by omega) (by omega) ⟨Fr_refl _ _, fun g h => by omega⟩
end

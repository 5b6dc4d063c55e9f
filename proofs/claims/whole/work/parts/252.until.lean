/-! ===== up to which night a part learned is known ===== -/
def utN (v : Vw) (p k n : Nat) : Nat → Nat
  | 0 => n + v 8 p
  | s + 1 => if v 14 s = k ∧ n < v 15 s then (if utN v p k n s ≤ v 15 s - 1 then utN v p k n s else v 15 s - 1) else utN v p k n s
theorem utN_iff (v : Vw) (p k n x c : Nat) : x ≤ utN v p k n c ↔ x ≤ n + v 8 p ∧ ∀ s, s < c → v 14 s = k → n < v 15 s → x < v 15 s := by
  induction c with
  | zero => exact ⟨fun h => ⟨h, fun s hs => by omega⟩, fun h => h.1⟩
  | succ c ih =>
    rw [utN]
    by_cases y : v 14 c = k ∧ n < v 15 c
    · rw [if_pos y]
      constructor
      · intro h
        have h1 : x ≤ utN v p k n c ∧ x ≤ v 15 c - 1 := by
          split at h <;> omega
        have h2 := ih.mp h1.1
        refine ⟨h2.1, fun s hs e1 e2 => ?_⟩
        rcases Nat.lt_or_ge s c with z | z
        · exact h2.2 s z e1 e2
        · have : s = c := by omega
          subst this; omega
      · intro h
        have h1 := ih.mpr ⟨h.1, fun s hs => h.2 s (by omega)⟩
        have h2 := h.2 c (by omega) y.1 y.2
        split <;> omega
    · rw [if_neg y, ih]
      constructor
      · intro h
        refine ⟨h.1, fun s hs e1 e2 => ?_⟩
        rcases Nat.lt_or_ge s c with z | z
        · exact h.2 s z e1 e2
        · have : s = c := by omega
          subst this; exact absurd ⟨e1, e2⟩ y
      · exact fun h => ⟨h.1, fun s hs => h.2 s (by omega)⟩
theorem utN_le (v : Vw) (p k n c : Nat) : utN v p k n c ≤ n + v 8 p := ((utN_iff v p k n _ c).mp (Nat.le_refl _)).1
theorem opV_16o {v : Vw} {p i k : Nat} {r : Nat → Nat} (h : ∀ j, j < i → r j ≠ k) : opV v p r i 16 (8 * p + k) = v 16 (8 * p + k) := by
  induction i with
  | zero => rfl
  | succ i ih =>
    have := h i (by omega)
    rw [opV, up2_ne (by omega), up2_nj (by omega), ih (fun j hj => h j (by omega))]
theorem opV_16s {v : Vw} {p i j : Nat} {r : Nat → Nat} (hj : j < i) (hr : ∀ a b, a < b → b < i → r a ≠ r b) : opV v p r i 16 (8 * p + r j) = v 0 5 + j + 2 := by
  induction i with
  | zero => omega
  | succ i ih =>
    rw [opV, up2_ne (by omega)]
    rcases Nat.lt_or_ge j i with y | y
    · have := hr j i y (by omega)
      rw [up2_nj (by omega)]
      exact ih y (fun a b h1 h2 => hr a b h1 (by omega))
    · have : j = i := by omega
      subst this
      rw [up2_eq]
/-- what a person knows along a row: what was not lost anew, as before -/
theorem know_o {v : Vw} {p i k n : Nat} {r : Nat → Nat} (h : ∀ j, j < i → r j ≠ k) : sKnow (opV v p r i) p k n = sKnow v p k n := by
  have o : ∀ a b, a ≠ 16 → a ≠ 18 → a ≠ 19 → opV v p r i a b = v a b := fun a b h1 h2 h3 => by rw [opV_o v p r i h1 h2, noLost, if_neg h3]
  have e14 : ∀ j, opV v p r i 14 j = v 14 j := fun j => o 14 j (by omega) (by omega) (by omega)
  have e15 : ∀ j, opV v p r i 15 j = v 15 j := fun j => o 15 j (by omega) (by omega) (by omega)
  have e6 : opV v p r i 0 6 = v 0 6 := o 0 6 (by omega) (by omega) (by omega)
  have ek : ∀ L, sKill (opV v p r i) L k n = sKill v L k n := fun L => by
    funext s
    rw [sKill, sKill, e14, e15]
  rw [sKnow, sKnow, sThere, sThere, sLrn, sLrn, opV_16o h, ek, e6, o 17 p (by omega) (by omega) (by omega), o 6 p (by omega) (by omega) (by omega), o 7 p (by omega) (by omega) (by omega), o 8 p (by omega) (by omega) (by omega)]
/-- .. what was lost on an earlier night of the row -/
theorem know_s {v : Vw} {p i j : Nat} {r : Nat → Nat} (hj : j < i) (hr : ∀ a b, a < b → b < i → r a ≠ r b) : sKnow (opV v p r i) p (r j) (v 0 5 + i) = (sThere v p (v 0 5 + i) && decide (v 0 5 + i ≤ utN v p (r j) (v 0 5 + j) (v 0 6))) := by
  have o : ∀ a b, a ≠ 16 → a ≠ 18 → a ≠ 19 → opV v p r i a b = v a b := fun a b h1 h2 h3 => by rw [opV_o v p r i h1 h2, noLost, if_neg h3]
  have e14 : ∀ j, opV v p r i 14 j = v 14 j := fun j => o 14 j (by omega) (by omega) (by omega)
  have e15 : ∀ j, opV v p r i 15 j = v 15 j := fun j => o 15 j (by omega) (by omega) (by omega)
  have e6 : opV v p r i 0 6 = v 0 6 := o 0 6 (by omega) (by omega) (by omega)
  rw [sKnow, sThere, sThere, sLrn, opV_16s hj hr, e6, o 17 p (by omega) (by omega) (by omega), o 6 p (by omega) (by omega) (by omega), o 7 p (by omega) (by omega) (by omega), o 8 p (by omega) (by omega) (by omega)]
  congr 1
  rw [Bool.eq_iff_iff, decide_eq_true_eq, utN_iff]
  simp only [Bool.and_eq_true, decide_eq_true_eq, Bool.not_eq_true', anyB_false]
  constructor
  · rintro ⟨⟨_, h1, h2⟩, h3⟩
    refine ⟨by omega, fun s hs e1 e2 => ?_⟩
    have := h3 s hs
    rw [sKill, e14, e15, e1] at this
    simp at this
    have h4 : ¬ v 15 s ≤ v 0 5 + i := fun z => by
      have := this z
      omega
    omega
  · rintro ⟨h1, h2⟩
    refine ⟨⟨by omega, by omega, by omega⟩, fun s hs => ?_⟩
    rw [sKill, e14, e15]
    by_cases y : v 14 s = r j
    · by_cases z : v 0 5 + j < v 15 s
      · have := h2 s hs y z
        have q : ¬ v 15 s ≤ v 0 5 + i := by omega
        simp [q]
      · have q : ¬ v 0 5 + j + 2 - 2 < v 15 s := by omega
        have q2 : ¬ v 0 5 + j + 2 = 1 := by omega
        simp [z]
    · simp [y]

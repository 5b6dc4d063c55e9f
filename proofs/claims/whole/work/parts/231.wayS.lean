/-! ===== the best way, its parts and its guides ===== -/
def isBst (D : Nat → Nat) (w g k h : Nat) : Bool := decide (D (7 * k + h) < 99999) && D (7 * w + g) == D (7 * k + h) + 1 + cst g h
def nxS (D : Nat → Nat) (w A k : Nat) : Nat := mkB (fun h => anyB (fun g => A.testBit g && isBst D w g k h) 7) 7
def wyS (v : Vw) (D : Nat → Nat) (f : Nat) : Nat → Nat × Nat
  | 0 => (f, mkB (fun g => D (7 * f + g) == lsF D f 7) 7)
  | i + 1 => (fnd (fun k => (v 3 (wyS v D f i).1).testBit k && nxS D (wyS v D f i).1 (wyS v D f i).2 k != 0) 8 0, nxS D (wyS v D f i).1 (wyS v D f i).2 (fnd (fun k => (v 3 (wyS v D f i).1).testBit k && nxS D (wyS v D f i).1 (wyS v D f i).2 k != 0) 8 0))
theorem bit_ne0 {x k : Nat} (h : x.testBit k = true) : x ≠ 0 := by
  intro z
  rw [z, Nat.zero_testBit] at h
  cases h
theorem ne0_bit {x : Nat} (h : x ≠ 0) : ∃ k, x.testBit k = true := by
  apply Classical.byContradiction
  intro q
  apply h
  apply Nat.eq_of_testBit_eq
  intro k
  rw [Nat.zero_testBit]
  cases z : x.testBit k with
  | false => rfl
  | true => exact absurd ⟨k, z⟩ q
theorem bit_lt {x n k : Nat} (hx : x < 2 ^ n) (h : x.testBit k = true) : k < n := by
  apply Classical.byContradiction
  intro q
  rw [bit_hi hx (by omega)] at h
  cases h
theorem isBst_iff (D : Nat → Nat) (w g k h : Nat) : isBst D w g k h = true ↔ D (7 * k + h) < 99999 ∧ D (7 * w + g) = D (7 * k + h) + 1 + cst g h := by
  unfold isBst
  rw [Bool.and_eq_true, decide_eq_true_eq, beq_iff_eq]
theorem nxS_bit (D : Nat → Nat) (w A k h : Nat) : (nxS D w A k).testBit h = true ↔ h < 7 ∧ ∃ g, g < 7 ∧ A.testBit g = true ∧ D (7 * k + h) < 99999 ∧ D (7 * w + g) = D (7 * k + h) + 1 + cst g h := by
  rw [nxS, mkB_bit, Bool.and_eq_true, decide_eq_true_eq, anyB_true]
  constructor
  · rintro ⟨a, g, b, c⟩
    rw [Bool.and_eq_true, isBst_iff] at c
    exact ⟨a, g, b, c.1, c.2.1, c.2.2⟩
  · rintro ⟨a, g, b, c, d, e⟩
    exact ⟨a, g, b, by rw [Bool.and_eq_true, isBst_iff]; exact ⟨c, d, e⟩⟩
theorem wyS_lt (v : Vw) (D : Nat → Nat) (f i : Nat) : (wyS v D f i).2 < 2 ^ 7 := by
  cases i with
  | zero => exact mkB_lt _ _
  | succ i => exact mkB_lt _ _
section
variable {v : Vw} {kn : Nat → Nat} {to : Nat} {D : Nat → Nat} {f : Nat}
theorem cst_or (g h : Nat) : cst g h = 0 ∨ cst g h = 100 := by unfold cst; split <;> omega
theorem FD_best (hD : FD v kn to D) (ht : to < 8) (hf : f < 8) (hb : lsF D f 7 < 99999) : lsF D f 7 % 100 ≤ 8 ∧ lsF D f 7 / 100 + 1 ≤ lsF D f 7 % 100 := by
  obtain ⟨l1, l2, l3⟩ := lsF_le D f 7
  rcases l3 with e | ⟨g, hg, e⟩
  · omega
  · rw [e]
    exact FD_hp hD ht hf hg (by omega)
theorem way_facts (hF : WF v) (hD : FD v kn to D) (ht : to < 8) (hf : f < v 0 0) (hb : lsF D f 7 < 99999) : ∀ i, i < lsF D f 7 % 100 → (wyS v D f i).1 < v 0 0 ∧ (wyS v D f i).2 ≠ 0 ∧ ∀ g, (wyS v D f i).2.testBit g = true → g < 7 ∧ D (7 * (wyS v D f i).1 + g) < 99999 ∧ D (7 * (wyS v D f i).1 + g) % 100 = lsF D f 7 % 100 - i := by
  have h2 := WF_parts hF
  intro i
  induction i with
  | zero =>
    intro _
    obtain ⟨l1, l2, l3⟩ := lsF_le D f 7
    refine ⟨hf, ?_, fun g hg => ?_⟩
    · rcases l3 with e | ⟨g, hg, e⟩
      · omega
      · refine bit_ne0 (k := g) ?_
        show (mkB _ 7).testBit g = true
        rw [mkB_bit, e]
        simp [hg]
    · have hg' : (mkB (fun g => D (7 * f + g) == lsF D f 7) 7).testBit g = true := hg
      rw [mkB_bit, Bool.and_eq_true, decide_eq_true_eq, beq_iff_eq] at hg'
      refine ⟨hg'.1, ?_, ?_⟩
      · show D (7 * f + g) < 99999
        omega
      · show D (7 * f + g) % 100 = _
        rw [hg'.2]; omega
  | succ i ih =>
    intro hi
    obtain ⟨a1, a2, a3⟩ := ih (by omega)
    generalize hs : wyS v D f i = s at *
    obtain ⟨g, hg⟩ := ne0_bit a2
    obtain ⟨b1, b2, b3⟩ := a3 g hg
    have ex : ∃ k, k < 8 ∧ ((v 3 s.1).testBit k && nxS D s.1 s.2 k != 0) = true := by
      rcases FD_go hD (show s.1 < 8 by omega) b1 b2 with ⟨e, e1⟩ | ⟨k', g', c1, c2, c3, c4⟩
      · omega
      · refine ⟨k', c1, ?_⟩
        rw [Bool.and_eq_true, bne_iff_ne]
        refine ⟨c3, bit_ne0 (k := g') ((nxS_bit D s.1 s.2 k' g').mpr ⟨c2, g, b1, hg, by omega, c4⟩)⟩
    have e1 : wyS v D f (i + 1) = (fnd (fun k => (v 3 s.1).testBit k && nxS D s.1 s.2 k != 0) 8 0, nxS D s.1 s.2 (fnd (fun k => (v 3 s.1).testBit k && nxS D s.1 s.2 k != 0) 8 0)) := by
      rw [wyS, hs]
    rw [e1]
    rcases fnd_spec (fun k => (v 3 s.1).testBit k && nxS D s.1 s.2 k != 0) 8 0 with q | q
    · obtain ⟨k, hk, hk'⟩ := ex
      rw [q.2 k (by omega) (by omega)] at hk'
      cases hk'
    · generalize fnd (fun k => (v 3 s.1).testBit k && nxS D s.1 s.2 k != 0) 8 0 = K at *
      have hK := q.2.2.1
      rw [Bool.and_eq_true, bne_iff_ne] at hK
      refine ⟨(adj_lt hF hK.1).2, hK.2, fun h hh => ?_⟩
      obtain ⟨c1, g2, c2, c3, c4, c5⟩ := (nxS_bit D s.1 s.2 K h).mp hh
      obtain ⟨d1, d2, d3⟩ := a3 g2 c3
      refine ⟨c1, c4, ?_⟩
      have hp := FD_hp hD ht (show s.1 < 8 by omega) d1 d2
      have hp' := FD_hp hD ht (show K < 8 by omega) c1 c4
      show D (7 * K + h) % 100 = _
      clear ex
      rcases cst_or g2 h with z | z <;> rw [z] at c5 <;> omega
theorem way_adj (hF : WF v) (hD : FD v kn to D) (ht : to < 8) (hf : f < v 0 0) (hb : lsF D f 7 < 99999) {i : Nat} (hi : i + 1 < lsF D f 7 % 100) : (v 3 (wyS v D f i).1).testBit (wyS v D f (i + 1)).1 = true ∧ (wyS v D f (i + 1)).2 = nxS D (wyS v D f i).1 (wyS v D f i).2 (wyS v D f (i + 1)).1 ∧ (∀ k, k < (wyS v D f (i + 1)).1 → ((v 3 (wyS v D f i).1).testBit k && nxS D (wyS v D f i).1 (wyS v D f i).2 k != 0) = false) := by
  have h2 := WF_parts hF
  obtain ⟨b1, b2, b3⟩ := way_facts hF hD ht hf hb (i + 1) hi
  have e1 : (wyS v D f (i + 1)).1 = fnd (fun k => (v 3 (wyS v D f i).1).testBit k && nxS D (wyS v D f i).1 (wyS v D f i).2 k != 0) 8 0 := rfl
  have e2 : (wyS v D f (i + 1)).2 = nxS D (wyS v D f i).1 (wyS v D f i).2 (wyS v D f (i + 1)).1 := rfl
  rw [e1] at b1 e2 ⊢
  rcases fnd_spec (fun k => (v 3 (wyS v D f i).1).testBit k && nxS D (wyS v D f i).1 (wyS v D f i).2 k != 0) 8 0 with q | q
  · omega
  · have hK := q.2.2.1
    rw [Bool.and_eq_true] at hK
    exact ⟨hK.1, e2, fun k hk => q.2.2.2 k (by omega) hk⟩
/-- from the end: the guides with whom the rest is the best -/
def bS (v : Vw) (D : Nat → Nat) (f len : Nat) : Nat → Nat
  | 0 => (wyS v D f (len - 1)).2
  | j + 1 => mkB (fun g => (wyS v D f (len - 1 - (j + 1))).2.testBit g && anyB (fun h => (bS v D f len j).testBit h && isBst D (wyS v D f (len - 1 - (j + 1))).1 g (wyS v D f (len - 1 - j)).1 h) 7) 7
def gS (v : Vw) (D : Nat → Nat) (f len : Nat) : Nat → Nat
  | 0 => fnd (fun g => (bS v D f len (len - 1)).testBit g) 7 0
  | i + 1 => fnd (fun h => (bS v D f len (len - 1 - (i + 1))).testBit h && isBst D (wyS v D f i).1 (gS v D f len i) (wyS v D f (i + 1)).1 h) 7 0
theorem bS_lt (v : Vw) (D : Nat → Nat) (f len j : Nat) : bS v D f len j < 2 ^ 7 := by
  cases j with
  | zero => exact wyS_lt v D f _
  | succ j => exact mkB_lt _ _
theorem bS_bit {len j : Nat} (g : Nat) : (bS v D f len (j + 1)).testBit g = true ↔ g < 7 ∧ (wyS v D f (len - 1 - (j + 1))).2.testBit g = true ∧ ∃ h, h < 7 ∧ (bS v D f len j).testBit h = true ∧ isBst D (wyS v D f (len - 1 - (j + 1))).1 g (wyS v D f (len - 1 - j)).1 h = true := by
  rw [bS, mkB_bit, Bool.and_eq_true, decide_eq_true_eq, Bool.and_eq_true, anyB_true]
  constructor
  · rintro ⟨a, b, h, c, d⟩
    rw [Bool.and_eq_true] at d
    exact ⟨a, b, h, c, d.1, d.2⟩
  · rintro ⟨a, b, h, c, d, e⟩
    exact ⟨a, b, h, c, by rw [Bool.and_eq_true]; exact ⟨d, e⟩⟩
theorem bS_sub {len : Nat} : ∀ j g, (bS v D f len j).testBit g = true → (wyS v D f (len - 1 - j)).2.testBit g = true := by
  intro j g h
  cases j with
  | zero => exact h
  | succ j => exact (bS_bit g).mp h |>.2.1
theorem bS_ne0 (hF : WF v) (hD : FD v kn to D) (ht : to < 8) (hf : f < v 0 0) (hb : lsF D f 7 < 99999) : ∀ j, j < lsF D f 7 % 100 → bS v D f (lsF D f 7 % 100) j ≠ 0 := by
  intro j
  induction j with
  | zero => intro h; exact (way_facts hF hD ht hf hb _ (by omega)).2.1
  | succ j ih =>
    intro h
    obtain ⟨h', hh⟩ := ne0_bit (ih (by omega))
    have hA := bS_sub j h' hh
    have hi : lsF D f 7 % 100 - 1 - j = (lsF D f 7 % 100 - 1 - (j + 1)) + 1 := by omega
    have adj := way_adj hF hD ht hf hb (i := lsF D f 7 % 100 - 1 - (j + 1)) (by omega)
    rw [hi] at hA
    rw [adj.2.1] at hA
    obtain ⟨c1, g, c2, c3, c4, c5⟩ := (nxS_bit _ _ _ _ _).mp hA
    refine bit_ne0 (k := g) ((bS_bit g).mpr ⟨c2, c3, h', c1, hh, ?_⟩)
    rw [isBst_iff, hi]
    exact ⟨c4, c5⟩
theorem gS_facts (hF : WF v) (hD : FD v kn to D) (ht : to < 8) (hf : f < v 0 0) (hb : lsF D f 7 < 99999) : ∀ i, i < lsF D f 7 % 100 → gS v D f (lsF D f 7 % 100) i < 7 ∧ (bS v D f (lsF D f 7 % 100) (lsF D f 7 % 100 - 1 - i)).testBit (gS v D f (lsF D f 7 % 100) i) = true := by
  intro i
  induction i with
  | zero =>
    intro h
    obtain ⟨g, hg⟩ := ne0_bit (bS_ne0 hF hD ht hf hb (lsF D f 7 % 100 - 1) (by omega))
    have hg7 := bit_lt (bS_lt v D f _ _) hg
    rcases fnd_spec (fun g => (bS v D f (lsF D f 7 % 100) (lsF D f 7 % 100 - 1)).testBit g) 7 0 with q | q
    · rw [q.2 g (by omega) (by omega)] at hg; cases hg
    · exact ⟨by have := q.2.1; rw [gS]; omega, q.2.2.1⟩
  | succ i ih =>
    intro h
    obtain ⟨a1, a2⟩ := ih (by omega)
    have hj : lsF D f 7 % 100 - 1 - i = (lsF D f 7 % 100 - 1 - (i + 1)) + 1 := by omega
    rw [hj] at a2
    obtain ⟨b1, b2, h', b3, b4, b5⟩ := (bS_bit _).mp a2
    have e1 : lsF D f 7 % 100 - 1 - ((lsF D f 7 % 100 - 1 - (i + 1)) + 1) = i := by omega
    have e2 : lsF D f 7 % 100 - 1 - (lsF D f 7 % 100 - 1 - (i + 1)) = i + 1 := by omega
    rw [e1, e2] at b5
    rcases fnd_spec (fun h => (bS v D f (lsF D f 7 % 100) (lsF D f 7 % 100 - 1 - (i + 1))).testBit h && isBst D (wyS v D f i).1 (gS v D f (lsF D f 7 % 100) i) (wyS v D f (i + 1)).1 h) 7 0 with q | q
    · have := q.2 h' (by omega) (by omega)
      rw [b4, b5] at this
      cases this
    · have h3 := q.2.2.1
      rw [Bool.and_eq_true] at h3
      exact ⟨by have := q.2.1; rw [gS]; omega, h3.1⟩
theorem gS_step (hF : WF v) (hD : FD v kn to D) (ht : to < 8) (hf : f < v 0 0) (hb : lsF D f 7 < 99999) {i : Nat} (h : i + 1 < lsF D f 7 % 100) : isBst D (wyS v D f i).1 (gS v D f (lsF D f 7 % 100) i) (wyS v D f (i + 1)).1 (gS v D f (lsF D f 7 % 100) (i + 1)) = true := by
  obtain ⟨a1, a2⟩ := gS_facts hF hD ht hf hb (i + 1) h
  rcases fnd_spec (fun h => (bS v D f (lsF D f 7 % 100) (lsF D f 7 % 100 - 1 - (i + 1))).testBit h && isBst D (wyS v D f i).1 (gS v D f (lsF D f 7 % 100) i) (wyS v D f (i + 1)).1 h) 7 0 with q | q
  · have : gS v D f (lsF D f 7 % 100) (i + 1) = 99 := q.1
    omega
  · have h3 := q.2.2.1
    rw [Bool.and_eq_true] at h3
    exact h3.2
/-- the way's end -/
theorem way_end (hF : WF v) (hD : FD v kn to D) (ht : to < 8) (hf : f < v 0 0) (hb : lsF D f 7 < 99999) : (wyS v D f (lsF D f 7 % 100 - 1)).1 = to := by
  have h2 := WF_parts hF
  have hp := FD_best hD ht (show f < 8 by omega) hb
  obtain ⟨a1, a2, a3⟩ := way_facts hF hD ht hf hb (lsF D f 7 % 100 - 1) (by omega)
  obtain ⟨g, hg⟩ := ne0_bit a2
  obtain ⟨b1, b2, b3⟩ := a3 g hg
  rcases lT_go hD ht (show _ < 8 by omega) b1 b2 with ⟨e, _, _⟩ | ⟨k', g', c1, c2, c3, c4, c5, c6⟩
  · exact e
  · have := FD_hp hD ht c1 c2 c4
    omega
end

/-! ===== hands spent and hands to come along the way ===== -/
def mnF (y : Nat → Nat) (b : Nat) : Nat → Nat
  | 0 => b
  | n + 1 => if y n < mnF y b n then y n else mnF y b n
theorem mnF_spec (y : Nat → Nat) (b n : Nat) : mnF y b n ≤ b ∧ (∀ g, g < n → mnF y b n ≤ y g) ∧ (mnF y b n = b ∨ ∃ g, g < n ∧ mnF y b n = y g) := by
  induction n with
  | zero => exact ⟨Nat.le_refl _, fun g h => by omega, Or.inl rfl⟩
  | succ n ih =>
    obtain ⟨i1, i2, i3⟩ := ih
    rw [mnF]
    split
    · refine ⟨by omega, fun g hg => ?_, Or.inr ⟨n, by omega, rfl⟩⟩
      rcases Nat.lt_or_ge g n with q | q
      · have := i2 g q; omega
      · have : g = n := by omega
        subst this; exact Nat.le_refl _
    · refine ⟨i1, fun g hg => ?_, ?_⟩
      · rcases Nat.lt_or_ge g n with q | q
        · exact i2 g q
        · have : g = n := by omega
          subst this; omega
      · rcases i3 with i3 | ⟨g, hg, e⟩
        · exact Or.inl i3
        · exact Or.inr ⟨g, by omega, e⟩
def c1 (g h : Nat) : Nat := if g = h then 0 else 1
theorem c1_cst (g h : Nat) : cst g h = 100 * c1 g h := by unfold cst c1; split <;> omega
def spF (v : Vw) (kn D : Nat → Nat) (f : Nat) : Nat → Nat → Nat
  | 0, g => if (kn g).testBit (wyS v D f 0).1 = true then 0 else 99
  | i + 1, h => if (kn h).testBit (wyS v D f (i + 1)).1 = true then mnF (fun g => spF v kn D f i g + c1 g h) 99 7 else 99
def hnF (v : Vw) (kn D : Nat → Nat) (f len : Nat) : Nat → Nat → Nat
  | 0, g => if (kn g).testBit (wyS v D f (len - 1)).1 = true then 0 else 99
  | j + 1, g => if (kn g).testBit (wyS v D f (len - 1 - (j + 1))).1 = true then mnF (fun h => hnF v kn D f len j h + c1 g h) 99 7 else 99
theorem spF_le (v : Vw) (kn D : Nat → Nat) (f i g : Nat) : spF v kn D f i g ≤ 99 := by
  cases i with
  | zero => rw [spF]; split <;> omega
  | succ i => rw [spF]; split; exact (mnF_spec _ _ _).1; omega
theorem hnF_le (v : Vw) (kn D : Nat → Nat) (f len j g : Nat) : hnF v kn D f len j g ≤ 99 := by
  cases j with
  | zero => rw [hnF]; split <;> omega
  | succ j => rw [hnF]; split; exact (mnF_spec _ _ _).1; omega
theorem spF_kn {v : Vw} {kn D : Nat → Nat} {f i g : Nat} (h : spF v kn D f i g ≤ 90) : (kn g).testBit (wyS v D f i).1 = true := by
  cases i with
  | zero =>
    rw [spF] at h
    split at h
    · assumption
    · omega
  | succ i =>
    rw [spF] at h
    split at h
    · assumption
    · omega
theorem hnF_kn {v : Vw} {kn D : Nat → Nat} {f len j g : Nat} (h : hnF v kn D f len j g ≤ 90) : (kn g).testBit (wyS v D f (len - 1 - j)).1 = true := by
  cases j with
  | zero =>
    rw [hnF] at h
    split at h
    · assumption
    · omega
  | succ i =>
    rw [hnF] at h
    split at h
    · assumption
    · omega
section
variable {v : Vw} {kn : Nat → Nat} {to : Nat} {D : Nat → Nat} {f : Nat}
theorem spent_low (hF : WF v) (hD : FD v kn to D) (ht : to < 8) (hf : f < v 0 0) (hb : lsF D f 7 < 99999) : ∀ i, i < lsF D f 7 % 100 → ∀ g, g < 7 → spF v kn D f i g ≤ 90 → D (7 * (wyS v D f i).1 + g) < 99999 → lsF D f 7 ≤ 100 * spF v kn D f i g + i + D (7 * (wyS v D f i).1 + g) := by
  have h2 := WF_parts hF
  intro i
  induction i with
  | zero =>
    intro _ g hg h1 h3
    have := (lsF_le D f 7).2.1 g hg
    show _ ≤ 100 * spF v kn D f 0 g + 0 + D (7 * f + g)
    omega
  | succ i ih =>
    intro hi h hh h1 h3
    obtain ⟨a1, a2, a3⟩ := way_facts hF hD ht hf hb i (by omega)
    obtain ⟨b1, b2, b3⟩ := way_facts hF hD ht hf hb (i + 1) hi
    have adj := (way_adj hF hD ht hf hb hi).1
    have hkn := spF_kn h1
    have e : spF v kn D f (i + 1) h = mnF (fun g => spF v kn D f i g + c1 g h) 99 7 := by rw [spF, if_pos hkn]
    rw [e] at h1 ⊢
    obtain ⟨m1, m2, m3⟩ := mnF_spec (fun g => spF v kn D f i g + c1 g h) 99 7
    rcases m3 with q | ⟨g, hg, q⟩
    · omega
    · have hsp : spF v kn D f i g ≤ 90 := by omega
      have hle := FD_le hD (show (wyS v D f i).1 < 8 by omega) hg (show (wyS v D f (i + 1)).1 < 8 by omega) hh (spF_kn hsp) adj
      rw [c1_cst] at hle
      have hc : c1 g h ≤ 1 := by unfold c1; split <;> omega
      rcases Nat.lt_or_ge (D (7 * (wyS v D f i).1 + g)) 99999 with y | y
      · have := ih (by omega) g hg hsp y
        omega
      · have hbd := FD_hp hD ht (show (wyS v D f (i + 1)).1 < 8 by omega) hh h3
        omega
theorem spent_iff (hF : WF v) (hD : FD v kn to D) (ht : to < 8) (hf : f < v 0 0) (hb : lsF D f 7 < 99999) : ∀ i, i < lsF D f 7 % 100 → ∀ g, g < 7 → ((wyS v D f i).2.testBit g = true ↔ spF v kn D f i g ≤ 90 ∧ 100 * spF v kn D f i g + i + D (7 * (wyS v D f i).1 + g) = lsF D f 7) := by
  have h2 := WF_parts hF
  have hbest := FD_best hD ht (show f < 8 by omega) hb
  intro i
  induction i with
  | zero =>
    intro _ g hg
    have e0 : (wyS v D f 0).2.testBit g = (D (7 * f + g) == lsF D f 7) := by
      show (mkB _ 7).testBit g = _
      rw [mkB_bit]; simp [hg]
    rw [e0, beq_iff_eq]
    constructor
    · intro e
      have hkn : (kn g).testBit f = true := FD_kn hD (by omega) hg (by omega)
      have es : spF v kn D f 0 g = 0 := by
        rw [spF]
        exact if_pos hkn
      rw [es]
      exact ⟨by omega, by show 100 * 0 + 0 + D (7 * f + g) = _; omega⟩
    · rintro ⟨a, b⟩
      have hkn := spF_kn a
      have es : spF v kn D f 0 g = 0 := by rw [spF, if_pos hkn]
      rw [es] at b
      have : 100 * 0 + 0 + D (7 * f + g) = lsF D f 7 := b
      omega
  | succ i ih =>
    intro hi h hh
    obtain ⟨a1, a2, a3⟩ := way_facts hF hD ht hf hb i (by omega)
    obtain ⟨b1, b2, b3⟩ := way_facts hF hD ht hf hb (i + 1) hi
    obtain ⟨adj, enx, _⟩ := way_adj hF hD ht hf hb hi
    obtain ⟨m1, m2, m3⟩ := mnF_spec (fun g => spF v kn D f i g + c1 g h) 99 7
    have hlow := spent_low hF hD ht hf hb (i + 1) hi h hh
    rw [enx, nxS_bit]
    constructor
    · rintro ⟨_, g, hg, hA, hfin, heq⟩
      obtain ⟨p1, p2⟩ := (ih (by omega) g hg).mp hA
      have hkn := FD_kn hD (show (wyS v D f (i + 1)).1 < 8 by omega) hh hfin
      have e : spF v kn D f (i + 1) h = mnF (fun g => spF v kn D f i g + c1 g h) 99 7 := by rw [spF, if_pos hkn]
      have hle := m2 g hg
      have hc : c1 g h ≤ 1 := by unfold c1; split <;> omega
      rw [c1_cst] at heq
      rw [e] at hlow ⊢
      have h90 : mnF (fun g => spF v kn D f i g + c1 g h) 99 7 ≤ 90 := by omega
      have := hlow h90 hfin
      exact ⟨h90, by omega⟩
    · rintro ⟨p1, p2⟩
      have hkn := spF_kn p1
      have e : spF v kn D f (i + 1) h = mnF (fun g => spF v kn D f i g + c1 g h) 99 7 := by rw [spF, if_pos hkn]
      rw [e] at p1 p2
      rcases m3 with q | ⟨g, hg, q⟩
      · omega
      · have hsp : spF v kn D f i g ≤ 90 := by omega
        have hfin : D (7 * (wyS v D f (i + 1)).1 + h) < 99999 := by omega
        have hle := FD_le hD (show (wyS v D f i).1 < 8 by omega) hg (show (wyS v D f (i + 1)).1 < 8 by omega) hh (spF_kn hsp) adj
        rw [c1_cst] at hle
        have hc : c1 g h ≤ 1 := by unfold c1; split <;> omega
        have hfin' : D (7 * (wyS v D f i).1 + g) < 99999 := by
          have hbd := FD_hp hD ht (show (wyS v D f (i + 1)).1 < 8 by omega) hh hfin
          omega
        have hl := spent_low hF hD ht hf hb i (by omega) g hg hsp hfin'
        refine ⟨hh, g, hg, (ih (by omega) g hg).mpr ⟨hsp, by omega⟩, hfin, ?_⟩
        rw [c1_cst]
        omega
theorem hand_up (hF : WF v) (hD : FD v kn to D) (ht : to < 8) (hf : f < v 0 0) (hb : lsF D f 7 < 99999) : ∀ j, j < lsF D f 7 % 100 → ∀ g, g < 7 → hnF v kn D f (lsF D f 7 % 100) j g ≤ 90 → D (7 * (wyS v D f (lsF D f 7 % 100 - 1 - j)).1 + g) ≤ 100 * hnF v kn D f (lsF D f 7 % 100) j g + (j + 1) := by
  have h2 := WF_parts hF
  have hbest := FD_best hD ht (show f < 8 by omega) hb
  intro j
  induction j with
  | zero =>
    intro _ g hg h1
    have hkn := hnF_kn h1
    have he := way_end hF hD ht hf hb
    rw [Nat.sub_zero] at hkn ⊢
    rw [he] at hkn ⊢
    rw [FD_1 hD ht hg hkn]
    omega
  | succ j ih =>
    intro hj g hg h1
    have hkn := hnF_kn h1
    have e : hnF v kn D f (lsF D f 7 % 100) (j + 1) g = mnF (fun h => hnF v kn D f (lsF D f 7 % 100) j h + c1 g h) 99 7 := by rw [hnF, if_pos hkn]
    rw [e] at h1 ⊢
    obtain ⟨m1, m2, m3⟩ := mnF_spec (fun h => hnF v kn D f (lsF D f 7 % 100) j h + c1 g h) 99 7
    rcases m3 with q | ⟨h, hh, q⟩
    · omega
    · have hi : lsF D f 7 % 100 - 1 - j = (lsF D f 7 % 100 - 1 - (j + 1)) + 1 := by omega
      have adj := (way_adj hF hD ht hf hb (i := lsF D f 7 % 100 - 1 - (j + 1)) (by omega)).1
      have hx := ih (by omega) h hh (by omega)
      rw [hi] at hx
      have w1 := (way_facts hF hD ht hf hb (lsF D f 7 % 100 - 1 - (j + 1)) (by omega)).1
      have w2 := (way_facts hF hD ht hf hb (lsF D f 7 % 100 - 1 - (j + 1) + 1) (by omega)).1
      have hle := FD_le hD (show (wyS v D f (lsF D f 7 % 100 - 1 - (j + 1))).1 < 8 by omega) hg (show (wyS v D f (lsF D f 7 % 100 - 1 - (j + 1) + 1)).1 < 8 by omega) hh hkn adj
      rw [c1_cst] at hle
      omega
theorem hand_iff (hF : WF v) (hD : FD v kn to D) (ht : to < 8) (hf : f < v 0 0) (hb : lsF D f 7 < 99999) : ∀ j, j < lsF D f 7 % 100 → ∀ g, g < 7 → ((bS v D f (lsF D f 7 % 100) j).testBit g = true ↔ (wyS v D f (lsF D f 7 % 100 - 1 - j)).2.testBit g = true ∧ hnF v kn D f (lsF D f 7 % 100) j g ≤ 90 ∧ D (7 * (wyS v D f (lsF D f 7 % 100 - 1 - j)).1 + g) = 100 * hnF v kn D f (lsF D f 7 % 100) j g + (j + 1)) := by
  have h2 := WF_parts hF
  have hbest := FD_best hD ht (show f < 8 by omega) hb
  intro j
  induction j with
  | zero =>
    intro _ g hg
    rw [Nat.sub_zero]
    constructor
    · intro h
      have hA : (wyS v D f (lsF D f 7 % 100 - 1)).2.testBit g = true := h
      obtain ⟨a1, a2, a3⟩ := way_facts hF hD ht hf hb (lsF D f 7 % 100 - 1) (by omega)
      obtain ⟨x1, x2, x3⟩ := a3 g hA
      have hkn := FD_kn hD (show _ < 8 by omega) hg x2
      have e : hnF v kn D f (lsF D f 7 % 100) 0 g = 0 := by rw [hnF, if_pos hkn]
      refine ⟨hA, by omega, ?_⟩
      rw [e, way_end hF hD ht hf hb]
      rw [way_end hF hD ht hf hb] at hkn
      rw [FD_1 hD ht hg hkn]
    · exact fun h => h.1
  | succ j ih =>
    intro hj g hg
    have hi : lsF D f 7 % 100 - 1 - j = (lsF D f 7 % 100 - 1 - (j + 1)) + 1 := by omega
    have w1 := (way_facts hF hD ht hf hb (lsF D f 7 % 100 - 1 - (j + 1)) (by omega)).1
    have w2 := (way_facts hF hD ht hf hb (lsF D f 7 % 100 - 1 - (j + 1) + 1) (by omega)).1
    have w3 := (way_facts hF hD ht hf hb (lsF D f 7 % 100 - 1 - (j + 1)) (by omega)).2.2
    obtain ⟨adj, enx, _⟩ := way_adj hF hD ht hf hb (i := lsF D f 7 % 100 - 1 - (j + 1)) (by omega)
    rw [bS_bit]
    rw [hi] at ih
    rw [hi]
    obtain ⟨m1, m2, m3⟩ := mnF_spec (fun h => hnF v kn D f (lsF D f 7 % 100) j h + c1 g h) 99 7
    have hup1 := hand_up hF hD ht hf hb (j + 1) hj g hg
    have hup0 := hand_up hF hD ht hf hb j (by omega)
    rw [hi] at hup0
    have hun : (kn g).testBit (wyS v D f (lsF D f 7 % 100 - 1 - (j + 1))).1 = true → hnF v kn D f (lsF D f 7 % 100) (j + 1) g = mnF (fun h => hnF v kn D f (lsF D f 7 % 100) j h + c1 g h) 99 7 := fun q => by rw [hnF, if_pos q]
    constructor
    · rintro ⟨_, hA, h, hh, hB, hbst⟩
      obtain ⟨p1, p2, p3⟩ := (ih (by omega) h hh).mp hB
      rw [isBst_iff, c1_cst] at hbst
      obtain ⟨x1, x2, x3⟩ := w3 g hA
      have hkn := FD_kn hD (show (wyS v D f (lsF D f 7 % 100 - 1 - (j + 1))).1 < 8 by omega) hg x2
      have e := hun hkn
      have hle := m2 h hh
      have hc : c1 g h ≤ 1 := by unfold c1; split <;> omega
      have hbd := FD_hp hD ht (show (wyS v D f (lsF D f 7 % 100 - 1 - (j + 1) + 1)).1 < 8 by omega) hh hbst.1
      rw [e] at hup1 ⊢
      have h90 : mnF (fun h => hnF v kn D f (lsF D f 7 % 100) j h + c1 g h) 99 7 ≤ 90 := by omega
      have := hup1 h90
      exact ⟨hA, h90, by omega⟩
    · rintro ⟨hA, h90, heq⟩
      have hkn := hnF_kn h90
      have e := hun hkn
      rw [e] at h90 heq
      rcases m3 with q | ⟨h, hh, q⟩
      · omega
      · have hj90 : hnF v kn D f (lsF D f 7 % 100) j h ≤ 90 := by omega
        have hx := hup0 h hh hj90
        have hle := FD_le hD (show (wyS v D f (lsF D f 7 % 100 - 1 - (j + 1))).1 < 8 by omega) hg (show (wyS v D f (lsF D f 7 % 100 - 1 - (j + 1) + 1)).1 < 8 by omega) hh hkn adj
        rw [c1_cst] at hle
        have hfin : D (7 * (wyS v D f (lsF D f 7 % 100 - 1 - (j + 1) + 1)).1 + h) < 99999 := by omega
        have heq2 : D (7 * (wyS v D f (lsF D f 7 % 100 - 1 - (j + 1))).1 + g) = D (7 * (wyS v D f (lsF D f 7 % 100 - 1 - (j + 1) + 1)).1 + h) + 1 + cst g h := by rw [c1_cst]; omega
        refine ⟨hg, hA, h, hh, (ih (by omega) h hh).mpr ⟨?_, hj90, by omega⟩, (isBst_iff _ _ _ _ _).mpr ⟨hfin, heq2⟩⟩
        rw [enx]
        exact (nxS_bit _ _ _ _ _).mpr ⟨hh, g, hg, hA, hfin, heq2⟩
/-- how the reference names the guides -/
theorem guide0 (hF : WF v) (hD : FD v kn to D) (ht : to < 8) (hf : f < v 0 0) (hb : lsF D f 7 < 99999) {g : Nat} (hg : g < 7) : (bS v D f (lsF D f 7 % 100) (lsF D f 7 % 100 - 1)).testBit g = true ↔ hnF v kn D f (lsF D f 7 % 100) (lsF D f 7 % 100 - 1) g = lsF D f 7 / 100 := by
  have h2 := WF_parts hF
  have hbest := FD_best hD ht (show f < 8 by omega) hb
  have h := hand_iff hF hD ht hf hb (lsF D f 7 % 100 - 1) (by omega) g hg
  have hup := hand_up hF hD ht hf hb (lsF D f 7 % 100 - 1) (by omega) g hg
  have e0 : lsF D f 7 % 100 - 1 - (lsF D f 7 % 100 - 1) = 0 := by omega
  rw [e0] at h hup
  have ew : (wyS v D f 0).1 = f := rfl
  have eA : (wyS v D f 0).2.testBit g = (D (7 * f + g) == lsF D f 7) := by
    show (mkB _ 7).testBit g = _
    rw [mkB_bit]; simp [hg]
  rw [ew, eA, beq_iff_eq] at h
  rw [ew] at hup
  have hmin := (lsF_le D f 7).2.1 g hg
  rw [h]
  constructor
  · rintro ⟨a, b, c⟩; omega
  · intro e
    have := hup (by omega)
    exact ⟨by omega, by omega, by omega⟩
theorem guide1 (hF : WF v) (hD : FD v kn to D) (ht : to < 8) (hf : f < v 0 0) (hb : lsF D f 7 < 99999) {i g h : Nat} (hi : i + 1 < lsF D f 7 % 100) (hg : g < 7) (hh : h < 7) (hB : (bS v D f (lsF D f 7 % 100) (lsF D f 7 % 100 - 1 - i)).testBit g = true) :
    ((bS v D f (lsF D f 7 % 100) (lsF D f 7 % 100 - 1 - (i + 1))).testBit h && isBst D (wyS v D f i).1 g (wyS v D f (i + 1)).1 h) = true ↔ hnF v kn D f (lsF D f 7 % 100) (lsF D f 7 % 100 - 1 - (i + 1)) h + c1 g h = hnF v kn D f (lsF D f 7 % 100) (lsF D f 7 % 100 - 1 - i) g := by
  have h2 := WF_parts hF
  have hbest := FD_best hD ht (show f < 8 by omega) hb
  have hg1 := (hand_iff hF hD ht hf hb (lsF D f 7 % 100 - 1 - i) (by omega) g hg).mp hB
  have hh1 := hand_iff hF hD ht hf hb (lsF D f 7 % 100 - 1 - (i + 1)) (by omega) h hh
  have hup := hand_up hF hD ht hf hb (lsF D f 7 % 100 - 1 - (i + 1)) (by omega) h hh
  have e1 : lsF D f 7 % 100 - 1 - (lsF D f 7 % 100 - 1 - i) = i := by omega
  have e2 : lsF D f 7 % 100 - 1 - (lsF D f 7 % 100 - 1 - (i + 1)) = i + 1 := by omega
  rw [e1] at hg1
  rw [e2] at hh1 hup
  obtain ⟨p1, p2, p3⟩ := hg1
  obtain ⟨adj, enx, _⟩ := way_adj hF hD ht hf hb hi
  have w1 := (way_facts hF hD ht hf hb i (by omega)).1
  have w2 := (way_facts hF hD ht hf hb (i + 1) hi).1
  have hc : c1 g h ≤ 1 := by unfold c1; split <;> omega
  rw [Bool.and_eq_true, hh1, isBst_iff, c1_cst]
  constructor
  · rintro ⟨⟨q1, q2, q3⟩, q4, q5⟩; omega
  · intro e
    have hx := hup (by omega)
    have hkn : (kn g).testBit (wyS v D f i).1 = true := by
      have := hnF_kn p2
      rw [e1] at this
      exact this
    have hle := FD_le hD (show (wyS v D f i).1 < 8 by omega) hg (show (wyS v D f (i + 1)).1 < 8 by omega) hh hkn adj
    rw [c1_cst] at hle
    have hfin : D (7 * (wyS v D f (i + 1)).1 + h) < 99999 := by omega
    have heq : D (7 * (wyS v D f i).1 + g) = D (7 * (wyS v D f (i + 1)).1 + h) + 1 + 100 * c1 g h := by omega
    refine ⟨⟨?_, by omega, by omega⟩, hfin, heq⟩
    rw [enx]
    exact (nxS_bit _ _ _ _ _).mpr ⟨hh, g, hg, p1, hfin, by rw [c1_cst]; exact heq⟩
end

/-! ===== rows of parts, in their order ===== -/
/-- r (of length n) names each part of S once -/
def arr (S n : Nat) (r : Nat → Nat) : Prop := (∀ i, i < n → S.testBit (r i) = true) ∧ (∀ i j, i < j → j < n → r i ≠ r j) ∧ (∀ k, S.testBit k = true → ∃ i, i < n ∧ r i = k)
/-- r comes before s -/
def lx (n : Nat) (r s : Nat → Nat) : Prop := ∃ m, m < n ∧ (∀ j, j < m → r j = s j) ∧ r m < s m
theorem lx_tri (n : Nat) (r s : Nat → Nat) : lx n r s ∨ lx n s r ∨ ∀ j, j < n → r j = s j := by
  induction n with
  | zero => exact Or.inr (Or.inr (fun j h => by omega))
  | succ n ih =>
    rcases ih with ⟨m, a, b, c⟩ | ⟨m, a, b, c⟩ | h
    · exact Or.inl ⟨m, by omega, b, c⟩
    · exact Or.inr (Or.inl ⟨m, by omega, b, c⟩)
    · rcases Nat.lt_trichotomy (r n) (s n) with y | y | y
      · exact Or.inl ⟨n, by omega, h, y⟩
      · refine Or.inr (Or.inr (fun j hj => ?_))
        rcases Nat.lt_or_ge j n with z | z
        · exact h j z
        · have : j = n := by omega
          subst this; exact y
      · exact Or.inr (Or.inl ⟨n, by omega, fun j hj => (h j hj).symm, y⟩)
theorem lx_asym {n : Nat} {r s : Nat → Nat} (h : lx n r s) (h' : lx n s r) : False := by
  obtain ⟨m, a, b, c⟩ := h
  obtain ⟨m', a', b', c'⟩ := h'
  rcases Nat.lt_trichotomy m m' with y | y | y
  · have := b' m y; omega
  · subst y; omega
  · have := b m' y; omega
theorem lx_trans {n : Nat} {r s t : Nat → Nat} (h : lx n r s) (h' : lx n s t) : lx n r t := by
  obtain ⟨m, a, b, c⟩ := h
  obtain ⟨m', a', b', c'⟩ := h'
  rcases Nat.lt_trichotomy m m' with y | y | y
  · exact ⟨m, a, fun j hj => (b j hj).trans (b' j (by omega)), by rw [← b' m y]; exact c⟩
  · subst y
    exact ⟨m, a, fun j hj => (b j hj).trans (b' j hj), by omega⟩
  · exact ⟨m', a', fun j hj => (b j (by omega)).trans (b' j hj), by rw [b m' y]; exact c'⟩
theorem lx_cong {n : Nat} {r s r' s' : Nat → Nat} (hr : ∀ j, j < n → r j = r' j) (hs : ∀ j, j < n → s j = s' j) (h : lx n r s) : lx n r' s' := by
  obtain ⟨m, a, b, c⟩ := h
  exact ⟨m, a, fun j hj => by rw [← hr j (by omega), ← hs j (by omega)]; exact b j hj, by rw [← hr m a, ← hs m a]; exact c⟩
/-- a row as a number, for the fuel -/
def cdR (r : Nat → Nat) : Nat → Nat
  | 0 => 0
  | n + 1 => 8 * cdR r n + r n
theorem cdR_eq {r s : Nat → Nat} {n : Nat} (h : ∀ j, j < n → r j = s j) : cdR r n = cdR s n := by
  induction n with
  | zero => rfl
  | succ n ih => rw [cdR, cdR, ih (fun j hj => h j (by omega)), h n (by omega)]
theorem cdR_lt {r s : Nat → Nat} {n : Nat} (hr : ∀ j, j < n → r j < 8) (h : lx n r s) : cdR r n < cdR s n := by
  obtain ⟨m, a, b, c⟩ := h
  induction n with
  | zero => omega
  | succ n ih =>
    rw [cdR, cdR]
    rcases Nat.lt_or_ge m n with y | y
    · have := ih (fun j hj => hr j (by omega)) y
      have := hr n (by omega)
      omega
    · have : m = n := by omega
      subst this
      rw [cdR_eq b]
      omega
theorem cdR_bd {r : Nat → Nat} {n : Nat} (hr : ∀ j, j < n → r j < 8) : cdR r n < 8 ^ n := by
  induction n with
  | zero => exact Nat.one_pos
  | succ n ih =>
    have := ih (fun j hj => hr j (by omega))
    have := hr n (by omega)
    rw [cdR, Nat.pow_succ]
    omega
/-- two rows that agree before m name the same from m on -/
theorem arr_rest {S n : Nat} {r s : Nat → Nat} (hr : arr S n r) (hs : arr S n s) {m : Nat} (he : ∀ j, j < m → r j = s j) {j : Nat} (hj : m ≤ j) (hn : j < n) : ∃ i, m ≤ i ∧ i < n ∧ s j = r i := by
  obtain ⟨i, hi, e⟩ := hr.2.2 (s j) (hs.1 j hn)
  refine ⟨i, ?_, hi, e.symm⟩
  apply Classical.byContradiction
  intro q
  have h1 := he i (by omega)
  have h2 := hs.2.1 i j (by omega) hn
  rw [← h1] at h2
  exact h2 e
def swp (r : Nat → Nat) (a b : Nat) : Nat → Nat := fun j => if j = a then r b else if j = b then r a else r j
theorem swp_a (r : Nat → Nat) (a b : Nat) : swp r a b a = r b := if_pos rfl
theorem swp_b (r : Nat → Nat) {a b : Nat} (h : a ≠ b) : swp r a b b = r a := by
  unfold swp
  rw [if_neg (fun z => h z.symm), if_pos rfl]
theorem swp_o (r : Nat → Nat) {a b j : Nat} (h : j ≠ a) (h' : j ≠ b) : swp r a b j = r j := by
  unfold swp
  rw [if_neg h, if_neg h']
theorem arr_inj {S n : Nat} {r : Nat → Nat} (h : arr S n r) {i j : Nat} (hi : i < n) (hj : j < n) (e : r i = r j) : i = j := by
  rcases Nat.lt_trichotomy i j with y | y | y
  · exact absurd e (h.2.1 i j y hj)
  · exact y
  · exact absurd e.symm (h.2.1 j i y hi)
theorem arr_swp {S n : Nat} {r : Nat → Nat} (h : arr S n r) {a b : Nat} (ha : a < n) (hb : b < n) : arr S n (swp r a b) := by
  have pi : ∀ j, j < n → ∃ i, i < n ∧ swp r a b j = r i ∧ ((j = a ∧ i = b) ∨ (j ≠ a ∧ j = b ∧ i = a) ∨ (j ≠ a ∧ j ≠ b ∧ i = j)) := by
    intro j hj
    by_cases y : j = a
    · exact ⟨b, hb, by rw [y]; exact swp_a r a b, Or.inl ⟨y, rfl⟩⟩
    · by_cases z : j = b
      · exact ⟨a, ha, by unfold swp; rw [if_neg y, if_pos z], Or.inr (Or.inl ⟨y, z, rfl⟩)⟩
      · exact ⟨j, hj, swp_o r y z, Or.inr (Or.inr ⟨y, z, rfl⟩)⟩
  refine ⟨fun i hi => ?_, fun i j hij hj e => ?_, fun k hk => ?_⟩
  · obtain ⟨i', h1, h2, _⟩ := pi i hi
    rw [h2]; exact h.1 i' h1
  · obtain ⟨i', h1, h2, h3⟩ := pi i (by omega)
    obtain ⟨j', g1, g2, g3⟩ := pi j hj
    rw [h2, g2] at e
    have := arr_inj h h1 g1 e
    omega
  · obtain ⟨i, hi, e⟩ := h.2.2 k hk
    by_cases y : i = a
    · refine ⟨b, hb, ?_⟩
      by_cases z : a = b
      · rw [← z, swp_a, ← y, e]
      · rw [swp_b r z, ← y, e]
    · by_cases z : i = b
      · exact ⟨a, ha, by rw [swp_a, ← z, e]⟩
      · exact ⟨i, hi, by rw [swp_o r y z, e]⟩
/-- a descending end, an ascending end -/
theorem desc_lt {r : Nat → Nat} {k n : Nat} (h : ∀ j, k < j → j + 1 < n → r (j + 1) < r j) : ∀ d i, k < i → i + d + 1 < n → r (i + d + 1) < r i := by
  intro d
  induction d with
  | zero => intro i hi hn; exact h i hi (by omega)
  | succ d ih =>
    intro i hi hn
    have h1 := ih i hi (by omega)
    have h2 := h (i + d + 1) (by omega) (by omega)
    have : i + (d + 1) + 1 = i + d + 1 + 1 := by omega
    rw [this]
    omega
theorem asc_lt {r : Nat → Nat} {k n : Nat} (h : ∀ j, k < j → j + 1 < n → r j < r (j + 1)) : ∀ d i, k < i → i + d + 1 < n → r i < r (i + d + 1) := by
  intro d
  induction d with
  | zero => intro i hi hn; exact h i hi (by omega)
  | succ d ih =>
    intro i hi hn
    have h1 := ih i hi (by omega)
    have h2 := h (i + d + 1) (by omega) (by omega)
    have : i + (d + 1) + 1 = i + d + 1 + 1 := by omega
    rw [this]
    omega
theorem desc_le {r : Nat → Nat} {k n i j : Nat} (h : ∀ j, k < j → j + 1 < n → r (j + 1) < r j) (hi : k < i) (hij : i ≤ j) (hj : j < n) : r j ≤ r i := by
  rcases Nat.lt_or_ge i j with y | y
  · have := desc_lt h (j - i - 1) i hi (by omega)
    rw [show i + (j - i - 1) + 1 = j by omega] at this
    omega
  · have : i = j := by omega
    subst this; exact Nat.le_refl _
theorem asc_le {r : Nat → Nat} {k n i j : Nat} (h : ∀ j, k < j → j + 1 < n → r j < r (j + 1)) (hi : k < i) (hij : i ≤ j) (hj : j < n) : r i ≤ r j := by
  rcases Nat.lt_or_ge i j with y | y
  · have := asc_lt h (j - i - 1) i hi (by omega)
    rw [show i + (j - i - 1) + 1 = j by omega] at this
    omega
  · have : i = j := by omega
    subst this; exact Nat.le_refl _
/-- the next row -/
theorem next_up {S n k i : Nat} {r r' : Nat → Nat} (hk : k + 1 < n) (hi : k < i) (hin : i < n) (hri : r k < r i) (e0 : ∀ j, j < k → r' j = r j) (e1 : r' k = r i) : lx n r r' :=
  ⟨k, by omega, fun j hj => (e0 j hj).symm, by rw [e1]; exact hri⟩
theorem next_least {S n k i : Nat} {r r' : Nat → Nat} (hr : arr S n r) (hr' : arr S n r') (hk : k + 1 < n) (hd : ∀ j, k < j → j + 1 < n → r (j + 1) < r j) (hi : k < i) (hin : i < n) (hil : ∀ j, i < j → j < n → r j < r k)
    (e0 : ∀ j, j < k → r' j = r j) (e1 : r' k = r i) (ha : ∀ j, k < j → j + 1 < n → r' j < r' (j + 1)) {s : Nat → Nat} (hs : arr S n s) (h : lx n r s) : ¬ lx n s r' := by
  intro hbad
  obtain ⟨m, a, b, c⟩ := h
  rcases Nat.lt_trichotomy m k with y | y | y
  · have : lx n r' s := ⟨m, a, fun j hj => by rw [e0 j (by omega)]; exact b j hj, by rw [e0 m y]; exact c⟩
    exact lx_asym hbad this
  · subst y
    obtain ⟨j, j1, j2, j3⟩ := arr_rest hr hs b (Nat.le_refl m) a
    have hjm : m < j := by
      rcases Nat.lt_or_ge m j with z | z
      · exact z
      · have : j = m := by omega
        subst this; omega
    have hji : j ≤ i := by
      apply Classical.byContradiction
      intro z
      have := hil j (by omega) j2
      omega
    have hge : r i ≤ s m := by rw [j3]; exact desc_le hd hjm hji hin
    rcases Nat.lt_or_ge (r i) (s m) with z | z
    · have : lx n r' s := ⟨m, a, fun j hj => by rw [e0 j hj]; exact b j hj, by rw [e1]; exact z⟩
      exact lx_asym hbad this
    · have eqm : ∀ j, j < m + 1 → r' j = s j := fun j hj => by
        rcases Nat.lt_or_ge j m with u | u
        · rw [e0 j u]; exact b j u
        · have : j = m := by omega
          subst this
          rw [e1]; omega
      obtain ⟨p, p1, p2, p3⟩ := hbad
      have hp : m < p := by
        apply Classical.byContradiction
        intro u
        have := eqm p (by omega)
        omega
      obtain ⟨t, t1, t2, t3⟩ := arr_rest hr' hs (fun j hj => (p2 j hj).symm) (Nat.le_refl p) p1
      have := asc_le ha hp t1 t2
      omega
  · obtain ⟨j, j1, j2, j3⟩ := arr_rest hr hs b (Nat.le_refl m) a
    have := desc_le hd y j1 j2
    omega
/-- a descending row is the last -/
theorem desc_last {S n : Nat} {r : Nat → Nat} (hr : arr S n r) (hd : ∀ j, j + 1 < n → r (j + 1) < r j) {s : Nat → Nat} (hs : arr S n s) : ¬ lx n r s := by
  rintro ⟨m, a, b, c⟩
  obtain ⟨j, j1, j2, j3⟩ := arr_rest hr hs b (Nat.le_refl m) a
  have h2 : r j ≤ r m := by
    rcases Nat.eq_zero_or_pos m with z | z
    · subst z
      rcases Nat.eq_zero_or_pos j with u | u
      · subst u; exact Nat.le_refl _
      · have h1 : r 1 < r 0 := hd 0 (by omega)
        have := desc_le (k := 0) (fun j _ hj => hd j hj) (show 0 < 1 by omega) u j2
        omega
    · exact desc_le (k := 0) (fun j _ hj => hd j hj) z j1 j2
  omega
/-- an ascending row is the first -/
theorem asc_first {S n : Nat} {r : Nat → Nat} (hr : arr S n r) (hd : ∀ i j, i < j → j < n → r i < r j) {s : Nat → Nat} (hs : arr S n s) : ¬ lx n s r := by
  rintro ⟨m, a, b, c⟩
  obtain ⟨j, j1, j2, j3⟩ := arr_rest hr hs (fun j hj => (b j hj).symm) (Nat.le_refl m) a
  rcases Nat.lt_or_ge m j with y | y
  · have := hd m j y j2
    omega
  · have : j = m := by omega
    subst this; omega

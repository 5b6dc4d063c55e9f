/-! ===== best ways with guides: what the table says ===== -/
def cst (g h : Nat) : Nat := if g = h then 0 else 100
theorem cst_tri (a b c : Nat) : cst a c ≤ cst a b + cst b c := by
  unfold cst
  split <;> split <;> split <;> omega
theorem cst_comm (a b : Nat) : cst a b = cst b a := by
  unfold cst
  split <;> split <;> omega
section
variable {v : Vw} {kn : Nat → Nat} {to : Nat} {D : Nat → Nat}
theorem FD_bd (h : FD v kn to D) {k g : Nat} (hk : k < 8) (hg : g < 7) : D (7 * k + g) ≤ 99999 ∧ 1 ≤ D (7 * k + g) := h.1 _ (by omega)
theorem FD_kn (h : FD v kn to D) {k g : Nat} (hk : k < 8) (hg : g < 7) (hf : D (7 * k + g) < 99999) : (kn g).testBit k = true := by
  have := (h.2.2.2 (7 * k + g) (by omega) hf).1
  rw [show (7 * k + g) % 7 = g by omega, show (7 * k + g) / 7 = k by omega] at this
  exact this
theorem FD_go (h : FD v kn to D) {k g : Nat} (hk : k < 8) (hg : g < 7) (hf : D (7 * k + g) < 99999) : (k = to ∧ D (7 * k + g) = 1) ∨ ∃ k' g', k' < 8 ∧ g' < 7 ∧ (v 3 k).testBit k' = true ∧ D (7 * k + g) = D (7 * k' + g') + 1 + cst g g' := by
  have := (h.2.2.2 (7 * k + g) (by omega) hf).2
  rw [show (7 * k + g) % 7 = g by omega, show (7 * k + g) / 7 = k by omega] at this
  rcases this with e | ⟨t, ht, hE, e⟩
  · exact Or.inl e
  · refine Or.inr ⟨t / 7, t % 7, by omega, by omega, hE, ?_⟩
    rw [show 7 * (t / 7) + t % 7 = t by omega, e]
    unfold cst
    by_cases q : t % 7 = g
    · rw [if_pos q, if_pos q.symm]
    · rw [if_neg q, if_neg (fun z => q z.symm)]
theorem FD_le (h : FD v kn to D) {k g k' g' : Nat} (hk : k < 8) (hg : g < 7) (hk' : k' < 8) (hg' : g' < 7) (hn : (kn g).testBit k = true) (hE : (v 3 k).testBit k' = true) : D (7 * k + g) ≤ D (7 * k' + g') + 1 + cst g g' := by
  have := h.2.2.1 (7 * k + g) (7 * k' + g') (by omega) (by omega) (by rw [show (7 * k + g) % 7 = g by omega, show (7 * k + g) / 7 = k by omega]; exact hn) (by rw [show (7 * k + g) / 7 = k by omega, show (7 * k' + g') / 7 = k' by omega]; exact hE)
  rw [show (7 * k + g) % 7 = g by omega, show (7 * k' + g') % 7 = g' by omega] at this
  unfold cst
  by_cases q : g' = g
  · rw [if_pos q] at this; rw [if_pos q.symm]; exact this
  · rw [if_neg q] at this; rw [if_neg (fun z => q z.symm)]; exact this
theorem FD_1 (h : FD v kn to D) {g : Nat} (ht : to < 8) (hg : g < 7) (hn : (kn g).testBit to = true) : D (7 * to + g) = 1 :=
  h.2.1 (7 * to + g) (by omega) (by omega) (by rw [show (7 * to + g) % 7 = g by omega, show (7 * to + g) / 7 = to by omega]; exact hn)
/-- one place, two guides -/
theorem FD_two (h : FD v kn to D) (ht : to < 8) {k g g' : Nat} (hk : k < 8) (hg : g < 7) (hg' : g' < 7) (hn : (kn g).testBit k = true) (hf : D (7 * k + g') < 99999) : D (7 * k + g) ≤ D (7 * k + g') + cst g g' := by
  by_cases q : g = g'
  · subst q; simp [cst]
  · rcases FD_go h hk hg' hf with ⟨e, e1⟩ | ⟨k2, g2, a1, a2, a3, a4⟩
    · subst e
      rw [FD_1 h ht hg hn, e1]; omega
    · have := FD_le h hk hg a1 a2 hn a3
      have c1 : cst g g2 ≤ 100 := by unfold cst; split <;> omega
      have c2 : cst g g' = 100 := if_neg q
      omega
theorem FD_parts (h : FD v kn to D) (ht : to < 8) : ∀ x k g, k < 8 → g < 7 → D (7 * k + g) = x → x < 99999 →
    ∃ (f : Nat → Bool) (hd : Nat), f k = true ∧ D (7 * k + g) = 100 * hd + cnt f 8 ∧ hd + 1 ≤ cnt f 8 ∧ ∀ k', k' < 8 → f k' = true → ∃ g', g' < 7 ∧ D (7 * k' + g') < 99999 ∧ D (7 * k' + g') + cst g' g ≤ D (7 * k + g) := by
  intro x
  induction x using Nat.strongRecOn with
  | ind x ih =>
    intro k g hk hg hx hlt
    rcases FD_go h hk hg (by omega) with ⟨e, e1⟩ | ⟨k2, g2, a1, a2, a3, a4⟩
    · have hone : ∀ n, n ≤ 8 → cnt (fun j => j == k) n = if k < n then 1 else 0 := by
        intro n
        induction n with
        | zero => intro _; simp [cnt]
        | succ n ih2 =>
          intro hn
          rw [cnt, ih2 (by omega)]
          by_cases q : n = k
          · subst q; simp
          · have : (n == k) = false := by simp [q]
            rw [this]
            simp only [Bool.false_eq_true, if_false, Nat.add_zero]
            by_cases q2 : k < n
            · rw [if_pos q2, if_pos (show k < n + 1 by omega)]
            · rw [if_neg q2, if_neg (show ¬ k < n + 1 by omega)]
      refine ⟨fun j => j == k, 0, by simp, ?_, ?_, fun k' _ hk' => ⟨g, hg, ?_⟩⟩
      · rw [hone 8 (by omega), if_pos hk, e1]
      · rw [hone 8 (by omega), if_pos hk]; omega
      · have : k' = k := by simpa using hk'
        subst this
        exact ⟨by omega, by simp [cst]⟩
    · obtain ⟨f, hd, b1, b2, b3, b4⟩ := ih (D (7 * k2 + g2)) (by omega) k2 g2 a1 a2 rfl (by omega)
      have hfk : f k = false := by
        cases z : f k with
        | false => rfl
        | true =>
          exfalso
          obtain ⟨g', c1, c2, c3⟩ := b4 k hk z
          have := FD_two h ht hk hg c1 (FD_kn h hk hg (by omega)) c2
          have t1 : cst g g' ≤ cst g' g2 + cst g g2 := by
            have := cst_tri g g2 g'
            rw [cst_comm g2 g'] at this
            omega
          omega
      have hcnt : cnt (fun j => f j || j == k) 8 = cnt f 8 + 1 := by
        have key : ∀ n, n ≤ 8 → cnt (fun j => f j || j == k) n = cnt f n + if k < n then 1 else 0 := by
          intro n
          induction n with
          | zero => intro _; simp [cnt]
          | succ n ih2 =>
            intro hn
            rw [cnt, cnt, ih2 (by omega)]
            by_cases q : n = k
            · subst q
              rw [hfk]
              simp
            · have : (n == k) = false := by simp [q]
              rw [this, Bool.or_false]
              by_cases q2 : k < n
              · rw [if_pos q2, if_pos (show k < n + 1 by omega)]; omega
              · rw [if_neg q2, if_neg (show ¬ k < n + 1 by omega)]; omega
        rw [key 8 (by omega), if_pos hk]
      have hc : cst g g2 = 0 ∨ cst g g2 = 100 := by unfold cst; split <;> omega
      refine ⟨fun j => f j || j == k, hd + cst g g2 / 100, by simp, ?_, ?_, fun k' hk' hf' => ?_⟩
      · rw [hcnt, a4, b2]
        rcases hc with q | q <;> rw [q] <;> omega
      · rw [hcnt]
        rcases hc with q | q <;> rw [q] <;> omega
      · by_cases q : k' = k
        · subst q
          exact ⟨g, hg, by omega, by simp [cst]⟩
        · have : f k' = true := by
            simp only [Bool.or_eq_true, beq_iff_eq] at hf'
            rcases hf' with z | z
            · exact z
            · exact absurd z q
          obtain ⟨g', c1, c2, c3⟩ := b4 k' hk' this
          refine ⟨g', c1, c2, ?_⟩
          have t1 : cst g' g ≤ cst g' g2 + cst g g2 := by
            have := cst_tri g' g2 g
            rw [cst_comm g2 g] at this
            omega
          omega
/-- hands and parts of a best way -/
theorem FD_hp (h : FD v kn to D) (ht : to < 8) {k g : Nat} (hk : k < 8) (hg : g < 7) (hf : D (7 * k + g) < 99999) : D (7 * k + g) % 100 ≤ 8 ∧ D (7 * k + g) / 100 + 1 ≤ D (7 * k + g) % 100 := by
  obtain ⟨f, hd, b1, b2, b3, b4⟩ := FD_parts h ht _ k g hk hg rfl hf
  have := cnt_le f 8
  omega
/-- as the class counts -/
def ph (x : Nat) : Nat := if x < 99999 then 16 * (x / 100) + x % 100 else 1048576
theorem ph_le {x y c : Nat} (hx : x % 100 ≤ 8) (hx' : x / 100 + 1 ≤ x % 100) (hy : y % 100 ≤ 8) (hy' : y / 100 + 1 ≤ y % 100) (hc : c = 0 ∨ c = 100) : x ≤ y + 1 + c ↔ ph x ≤ 1 + ph y + (if c = 0 then 0 else 16) := by
  have e1 : x < 99999 := by omega
  have e2 : y < 99999 := by omega
  unfold ph
  rw [if_pos e1, if_pos e2]
  rcases hc with rfl | rfl
  · simp only [if_true]; omega
  · rw [if_neg (by omega)]; omega
theorem ph_eq {x y c : Nat} (hx : x % 100 ≤ 8) (hx' : x / 100 + 1 ≤ x % 100) (hy : y % 100 ≤ 8) (hy' : y / 100 + 1 ≤ y % 100) (hc : c = 0 ∨ c = 100) : x = y + 1 + c ↔ ph x = 1 + (if c = 0 then 0 else 16) + ph y := by
  have e1 : x < 99999 := by omega
  have e2 : y < 99999 := by omega
  unfold ph
  rw [if_pos e1, if_pos e2]
  rcases hc with rfl | rfl
  · simp only [if_true]; omega
  · rw [if_neg (by omega)]; omega
theorem ph_mono {x y : Nat} (hx : x % 100 ≤ 8) (hx' : x / 100 + 1 ≤ x % 100) (hy : y % 100 ≤ 8) (hy' : y / 100 + 1 ≤ y % 100) : x ≤ y ↔ ph x ≤ ph y := by
  have e1 : x < 99999 := by omega
  have e2 : y < 99999 := by omega
  unfold ph
  rw [if_pos e1, if_pos e2]
  omega
theorem ph_far {x : Nat} : ph x < 1048576 ↔ x < 99999 := by
  unfold ph
  split <;> omega
theorem ph_bd (x : Nat) : ph x ≤ 1048576 := by
  unfold ph
  split <;> omega
/-- the class's table of a place and a guide -/
def lT (D : Nat → Nat) (k g : Nat) : Nat := ph (D (7 * k + g))
theorem lT_le (h : FD v kn to D) (ht : to < 8) {k g k' g' : Nat} (hk : k < 8) (hg : g < 7) (hk' : k' < 8) (hg' : g' < 7) (hn : (kn g).testBit k = true) (hE : (v 3 k).testBit k' = true) : lT D k g ≤ 1 + lT D k' g' + (if g = g' then 0 else 16) := by
  unfold lT
  rcases Nat.lt_or_ge (D (7 * k' + g')) 99999 with q | q
  · have h1 := FD_le h hk hg hk' hg' hn hE
    have hd' := FD_hp h ht hk' hg' q
    have hfk : D (7 * k + g) < 99999 := by
      have : cst g g' ≤ 100 := by unfold cst; split <;> omega
      omega
    have hd := FD_hp h ht hk hg hfk
    have := (ph_le hd.1 hd.2 hd'.1 hd'.2 (c := cst g g') (by unfold cst; split <;> omega)).mp h1
    unfold cst at this
    by_cases z : g = g'
    · simpa [z] using this
    · simpa [z] using this
  · have : ph (D (7 * k' + g')) = 1048576 := by unfold ph; rw [if_neg (by omega)]
    have := ph_bd (D (7 * k + g))
    omega
theorem lT_go (h : FD v kn to D) (ht : to < 8) {k g : Nat} (hk : k < 8) (hg : g < 7) (hf : D (7 * k + g) < 99999) : (k = to ∧ lT D k g = 1 ∧ D (7 * k + g) % 100 = 1) ∨ ∃ k' g', k' < 8 ∧ g' < 7 ∧ (v 3 k).testBit k' = true ∧ D (7 * k' + g') < 99999 ∧ lT D k g = 1 + (if g = g' then 0 else 16) + lT D k' g' ∧ D (7 * k + g) % 100 = D (7 * k' + g') % 100 + 1 := by
  rcases FD_go h hk hg hf with ⟨e, e1⟩ | ⟨k', g', a1, a2, a3, a4⟩
  · left
    refine ⟨e, ?_, ?_⟩
    · unfold lT; rw [e1]; rfl
    · rw [e1]
  · right
    have hf' : D (7 * k' + g') < 99999 := by omega
    have hd := FD_hp h ht hk hg hf
    have hd' := FD_hp h ht a1 a2 hf'
    have hc : cst g g' = 0 ∨ cst g g' = 100 := by unfold cst; split <;> omega
    refine ⟨k', g', a1, a2, a3, hf', ?_, ?_⟩
    · have := (ph_eq hd.1 hd.2 hd'.1 hd'.2 hc).mp a4
      unfold lT
      rw [this]
      unfold cst
      by_cases z : g = g'
      · simp [z]
      · simp [z]
    · rcases hc with q | q <;> rw [q] at a4 <;> omega
end

/-! ===== the class: it tries the rows with a bound ===== -/
theorem arr_of {S n P : Nat} {t : Nat → Nat} (hS : S < 2 ^ P) (hn : cnt (fun k => S.testBit k) P = n) (h1 : ∀ i, i < n → S.testBit (t i) = true) (h2 : ∀ i j, i < j → j < n → t i ≠ t j) : arr S n t := by
  refine ⟨h1, h2, fun k hk => ?_⟩
  apply Classical.byContradiction
  intro q
  have hit := cnt_hit (t := t) (P := P) n (fun i hi => bit_lt hS (h1 i hi)) h2
  have lt := cnt_lt (f := fun k => anyB (fun j => t j == k) n) (g := fun k => S.testBit k) (n := P) (k := k) (fun k' _ h => by
    obtain ⟨j, hj, e⟩ := anyB_true.mp h
    rw [← beq_iff_eq.mp e]
    exact h1 j hj) (bit_lt hS hk) (anyB_false.mpr (fun j hj => beq_eq_false_iff_ne.mpr (fun e => q ⟨j, hj, e⟩))) hk
  omega
section
variable {N : Nat} {v : Vw} {p S n : Nat}
/-- what is kept of the rows in D -/
def bsO (w : Wd) (v : Vw) (p S n : Nat) (D : (Nat → Nat) → Prop) : Prop :=
  (gL w 9 0 10 = (-1 : Int64) ∧ ∀ s, arr S n s → ¬ D s) ∨ ∃ b, arr S n b ∧ gL w 9 0 10 = lN (opP v p b n) ∧ (∀ j, j < n → gI w 47 0 j = nI (b j)) ∧ D b ∧ ∀ s, arr S n s → D s → noW v p n b s
theorem bsO_ext {w : Wd} {D E : (Nat → Nat) → Prop} (h : ∀ s, arr S n s → (D s ↔ E s)) (H : bsO w v p S n D) : bsO w v p S n E := by
  rcases H with ⟨a, b⟩ | ⟨b, h1, h2, h3, h4, h5⟩
  · exact Or.inl ⟨a, fun s hs z => b s hs ((h s hs).mpr z)⟩
  · exact Or.inr ⟨b, h1, h2, h3, (h b h1).mp h4, fun s hs z => h5 s hs ((h s hs).mpr z)⟩
def kGo : List Nat := [10010, 46, 47]
/-- the tables that trying reads -/
def goT (w : Wd) (v : Vw) (p S n : Nat) : Prop := RC w 0 v ∧ gI w 9 0 2 = nI S ∧ gI w 9 0 12 = nI n ∧ orT w v p S n n ∧ btT w v p S n 0
theorem orT_fr {l : List Nat} {w w' : Wd} {d : Nat} (f : Fr l w w') (h : orT w v p S n d) (hl : dis l [40, 41, 43, 44, 10007] = true := by decide) : orT w' v p S n d := by
  obtain ⟨h1, h2, h3, L, h4, h5, h6⟩ := h
  have g : ∀ k i j, 16 < k → [40, 41, 43, 44, 10007].contains k = true → gI w' k i j = gI w k i j ∧ gL w' k i j = gL w k i j ∧ gR w' k i j = gR w k i j := fun k i j hk hc => f k i j (by
    unfold ky
    rw [if_neg (by omega)]
    exact dis_of hl hc)
  have g7 : gI w' 9 0 7 = gI w 9 0 7 := (f 9 0 7 (dis_of hl (k := 10007) rfl)).1
  refine ⟨fun i a => ?_, fun i k a b c => ⟨?_, fun e he => ?_⟩, fun i a => ?_, L, h4, g7.trans h5, h6⟩
  · rw [(g 41 0 i (by omega) rfl).1]; exact h1 i a
  · rw [(g 43 k i (by omega) rfl).1]; exact (h2 i k a b c).1
  · rw [(g 40 0 _ (by omega) rfl).1]; exact (h2 i k a b c).2 e he
  · rw [(g 44 0 i (by omega) rfl).1]; exact h3 i a
theorem btT_fr {l : List Nat} {w w' : Wd} {d : Nat} (f : Fr l w w') (h : btT w v p S n d) (hl : dis l [45] = true := by decide) : btT w' v p S n d := by
  intro us a b c
  obtain ⟨m, h1, h2⟩ := h us a b c
  refine ⟨m, ?_, h2⟩
  rw [(f 45 0 us (dis_of hl (k := 45) rfl)).2.1]
  exact h1
theorem goT_fr {w w' : Wd} (f : Fr kGo w w') (h : goT w v p S n) : goT w' v p S n :=
  ⟨RC_fr f h.1, ((f 9 0 2 rfl).1).trans h.2.1, ((f 9 0 12 rfl).1).trans h.2.2.1, orT_fr f h.2.2.2.1, btT_fr f h.2.2.2.2⟩
/-- rows before the prefix t of length s, or with it -/
def upO (t : Nat → Nat) (s : Nat) (r : Nat → Nat) : Prop := lx s r t ∨ ∀ j, j < s → r j = t j
def bcO (t : Nat → Nat) (s c : Nat) (r : Nat → Nat) : Prop := lx s r t ∨ ((∀ j, j < s → r j = t j) ∧ r s < c)
def exO (t : Nat → Nat) (s c : Nat) : Nat → Nat := fun j => if j = s then c else t j
theorem exO_s (t : Nat → Nat) (s c : Nat) : exO t s c s = c := if_pos rfl
theorem exO_o (t : Nat → Nat) {s c j : Nat} (h : j < s) : exO t s c j = t j := if_neg (by omega)
theorem lx_ex {t r : Nat → Nat} {s c : Nat} : lx (s + 1) r (exO t s c) ↔ bcO t s c r := by
  constructor
  · rintro ⟨m, a, b, d⟩
    rcases Nat.lt_or_ge m s with y | y
    · rw [exO_o t y] at d
      exact Or.inl ⟨m, y, fun j hj => by rw [b j hj, exO_o t (by omega)], d⟩
    · have : m = s := by omega
      subst this
      rw [exO_s] at d
      exact Or.inr ⟨fun j hj => by rw [b j hj, exO_o t hj], d⟩
  · rintro (⟨m, a, b, d⟩ | ⟨b, d⟩)
    · exact ⟨m, by omega, fun j hj => by rw [b j hj, exO_o t (by omega)], by rw [exO_o t a]; exact d⟩
    · exact ⟨s, by omega, fun j hj => by rw [b j hj, exO_o t hj], by rw [exO_s]; exact d⟩
theorem up_ex {t r : Nat → Nat} {s c : Nat} : upO (exO t s c) (s + 1) r ↔ bcO t s (c + 1) r := by
  unfold upO
  rw [lx_ex]
  constructor
  · rintro ((h | h) | h)
    · exact Or.inl h
    · exact Or.inr ⟨h.1, by omega⟩
    · have := h s (by omega)
      rw [exO_s] at this
      exact Or.inr ⟨fun j hj => by rw [h j (by omega), exO_o t hj], by omega⟩
  · rintro (h | ⟨h1, h2⟩)
    · exact Or.inl (Or.inl h)
    · rcases Nat.lt_or_ge (r s) c with y | y
      · exact Or.inl (Or.inr ⟨h1, y⟩)
      · refine Or.inr (fun j hj => ?_)
        rcases Nat.lt_or_ge j s with z | z
        · rw [h1 j z, exO_o t z]
        · have : j = s := by omega
          subst this
          rw [exO_s]; omega
/-- a prefix -/
def pfO (S s : Nat) (t : Nat → Nat) : Prop := (∀ i, i < s → S.testBit (t i) = true) ∧ ∀ i j, i < j → j < s → t i ≠ t j
def goQ (w : Wd) (v : Vw) (p S n s : Nat) (t : Nat → Nat) (w' : Wd) : Prop := Fr kGo w w' ∧ (∀ j, j < s → gI w' 46 0 j = gI w 46 0 j) ∧ bsO w' v p S n (upO t s)
end

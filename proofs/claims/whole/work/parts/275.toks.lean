/-! ===== tokens: what both cut a text into ===== -/
/-- on from i while P holds, before n -/
def rnG (P : Nat → Bool) (n : Nat) : Nat → Nat → Nat
  | 0, i => i
  | d + 1, i => if i < n ∧ P i = true then rnG P n d (i + 1) else i
def rn (P : Nat → Bool) (n i : Nat) : Nat := rnG P n (n - i) i
theorem rnG_st {P : Nat → Bool} {n : Nat} : ∀ d d' i, n - i ≤ d → n - i ≤ d' → rnG P n d i = rnG P n d' i := by
  intro d
  induction d with
  | zero =>
    intro d' i h h'
    cases d' with
    | zero => rfl
    | succ d' => rw [rnG, rnG, if_neg (fun z => by omega)]
  | succ d ih =>
    intro d' i h h'
    cases d' with
    | zero => rw [rnG, rnG, if_neg (fun z => by omega)]
    | succ d' =>
      rw [rnG, rnG]
      by_cases y : i < n ∧ P i = true
      · rw [if_pos y, if_pos y, ih d' (i + 1) (by omega) (by omega)]
      · rw [if_neg y, if_neg y]
theorem rn_go {P : Nat → Bool} {n i : Nat} (h : i < n) (hP : P i = true) : rn P n i = rn P n (i + 1) := by
  unfold rn
  obtain ⟨d, hd⟩ : ∃ d, n - i = d + 1 := ⟨n - i - 1, by omega⟩
  rw [hd, rnG, if_pos ⟨h, hP⟩, show n - (i + 1) = d by omega]
theorem rn_end {P : Nat → Bool} {n i : Nat} (h : n ≤ i) : rn P n i = i := by
  unfold rn
  rw [show n - i = 0 by omega, rnG]
theorem rn_no {P : Nat → Bool} {n i : Nat} (hP : P i = false) : rn P n i = i := by
  unfold rn
  cases n - i with
  | zero => rfl
  | succ d => rw [rnG, if_neg (fun z => by rw [hP] at z; cases z.2)]
theorem rn_ge (P : Nat → Bool) (n i : Nat) : i ≤ rn P n i := by
  unfold rn
  have : ∀ d i, i ≤ rnG P n d i := by
    intro d
    induction d with
    | zero => intro i; exact Nat.le_refl _
    | succ d ih =>
      intro i
      rw [rnG]
      split
      · have := ih (i + 1); omega
      · exact Nat.le_refl _
  exact this _ _
theorem rn_le (P : Nat → Bool) {n i : Nat} (h : i ≤ n) : rn P n i ≤ n := by
  unfold rn
  have : ∀ d i, i ≤ n → rnG P n d i ≤ n := by
    intro d
    induction d with
    | zero => intro i h; exact h
    | succ d ih =>
      intro i h
      rw [rnG]
      split
      · rename_i z; exact ih (i + 1) (by omega)
      · exact h
  exact this _ _ h
theorem rn_stop (P : Nat → Bool) {n i : Nat} (h : rn P n i < n) : P (rn P n i) = false := by
  have : ∀ d i, n - i ≤ d → rnG P n d i < n → P (rnG P n d i) = false := by
    intro d
    induction d with
    | zero =>
      intro i h1 h2
      rw [rnG] at h2
      omega
    | succ d ih =>
      intro i h1 h2
      rw [rnG] at h2 ⊢
      by_cases y : i < n ∧ P i = true
      · rw [if_pos y] at h2 ⊢; exact ih (i + 1) (by omega) h2
      · rw [if_neg y] at h2 ⊢
        cases hp : P i with
        | false => rfl
        | true => exact absurd ⟨h2, hp⟩ y
  exact this _ _ (Nat.le_refl _) h
theorem rn_in (P : Nat → Bool) {n i j : Nat} (h1 : i ≤ j) (h2 : j < rn P n i) : j < n ∧ P j = true := by
  have : ∀ d i, i ≤ j → j < rnG P n d i → j < n ∧ P j = true := by
    intro d
    induction d with
    | zero => intro i a b; rw [rnG] at b; omega
    | succ d ih =>
      intro i a b
      rw [rnG] at b
      by_cases y : i < n ∧ P i = true
      · rw [if_pos y] at b
        rcases Nat.lt_or_ge i j with z | z
        · exact ih (i + 1) (by omega) b
        · have : i = j := by omega
          subst this; exact y
      · rw [if_neg y] at b; omega
  exact this _ _ h1 h2
def isL (c : Nat) : Bool := decide (97 ≤ c) && decide (c ≤ 122)
def isD (c : Nat) : Bool := decide (48 ≤ c) && decide (c ≤ 57)
def isBl (c : Nat) : Bool := c == 10 || c == 32
/-- the letters from i to j, 5 bits each -/
def pkL (b : Nat → Nat) (i : Nat) : Nat → Nat
  | 0 => 0
  | d + 1 => 32 * pkL b i d + (b (i + d) - 96)
/-- which word stands from i to i + d: its number, or 24 -/
def wdN (b : Nat → Nat) (i d : Nat) : Nat := if d ≤ 12 then wlL.idxOf (pkL b i d) else 24
/-- a number's value, as it grows: 1000000 stands for all that is beyond -/
def nuG (b : Nat → Nat) (i : Nat) : Nat → Nat
  | 0 => 0
  | d + 1 => if 99999 < nuG b i d then nuG b i d else 10 * nuG b i d + (b (i + d) - 48)
/-- the sign's number: of two signs first -/
def sgN (c d : Nat) : Nat := if c = 60 ∧ d = 61 then 40 else if c = 60 ∧ d = 62 then 42 else if c = 62 ∧ d = 61 then 43 else if c = 59 then 32 else if c = 40 then 33 else if c = 41 then 34 else if c = 43 then 35 else if c = 45 then 36 else if c = 42 then 37 else if c = 47 then 38 else if c = 60 then 39 else if c = 61 then 41 else if c = 62 then 44 else 50
/-- a token: its kind (words 0 .. 23, signs 32 .. 44; 50 none, 60 the end, 61 a number, 62 a name), what it says, where it ends -/
def tkN (b : Nat → Nat) (n i : Nat) : Nat × Nat × Nat :=
  if isL (b i) = true then
    (if wdN b i (rn (fun j => isL (b j)) n i - i) < 24 then (wdN b i (rn (fun j => isL (b j)) n i - i), 0, rn (fun j => isL (b j)) n i)
    else if rn (fun j => isL (b j)) n i - i ≤ 6 then (62, pkL b i (rn (fun j => isL (b j)) n i - i) * 32 ^ (6 - (rn (fun j => isL (b j)) n i - i)), rn (fun j => isL (b j)) n i)
    else (50, 0, rn (fun j => isL (b j)) n i))
  else if isD (b i) = true then (61, nuG b i (rn (fun j => isD (b j)) n i - i), rn (fun j => isD (b j)) n i)
  else (sgN (b i) (if i + 1 < n then b (i + 1) else 0), 0, if sgN (b i) (if i + 1 < n then b (i + 1) else 0) = 40 ∨ sgN (b i) (if i + 1 < n then b (i + 1) else 0) = 42 ∨ sgN (b i) (if i + 1 < n then b (i + 1) else 0) = 43 then i + 2 else i + 1)
/-- the next place that is no blank -/
def skB (b : Nat → Nat) (n q : Nat) : Nat := rn (fun j => isBl (b j)) n q
def tkQ (b : Nat → Nat) (n q : Nat) : Nat × Nat × Nat := if skB b n q < n then tkN b n (skB b n q) else (60, 0, n)
/-- where the search for token k begins -/
def qs (b : Nat → Nat) (n : Nat) : Nat → Nat
  | 0 => 0
  | k + 1 => (tkQ b n (qs b n k)).2.2
def tK (b : Nat → Nat) (n k : Nat) : Nat := (tkQ b n (qs b n k)).1
def tV (b : Nat → Nat) (n k : Nat) : Nat := (tkQ b n (qs b n k)).2.1
def tP (b : Nat → Nat) (n k : Nat) : Nat := skB b n (qs b n k)
section
variable {b : Nat → Nat} {n : Nat}
theorem sgN_two {c d : Nat} (h : sgN c d = 40 ∨ sgN c d = 42 ∨ sgN c d = 43) : d = 61 ∨ d = 62 := by
  unfold sgN at h
  by_cases h0 : c = 60 ∧ d = 61
  · rw [if_pos h0] at h; omega
  rw [if_neg h0] at h
  by_cases h1 : c = 60 ∧ d = 62
  · rw [if_pos h1] at h; omega
  rw [if_neg h1] at h
  by_cases h2 : c = 62 ∧ d = 61
  · rw [if_pos h2] at h; omega
  rw [if_neg h2] at h
  by_cases h3 : c = 59
  · rw [if_pos h3] at h; omega
  rw [if_neg h3] at h
  by_cases h4 : c = 40
  · rw [if_pos h4] at h; omega
  rw [if_neg h4] at h
  by_cases h5 : c = 41
  · rw [if_pos h5] at h; omega
  rw [if_neg h5] at h
  by_cases h6 : c = 43
  · rw [if_pos h6] at h; omega
  rw [if_neg h6] at h
  by_cases h7 : c = 45
  · rw [if_pos h7] at h; omega
  rw [if_neg h7] at h
  by_cases h8 : c = 42
  · rw [if_pos h8] at h; omega
  rw [if_neg h8] at h
  by_cases h9 : c = 47
  · rw [if_pos h9] at h; omega
  rw [if_neg h9] at h
  by_cases h10 : c = 60
  · rw [if_pos h10] at h; omega
  rw [if_neg h10] at h
  by_cases h11 : c = 61
  · rw [if_pos h11] at h; omega
  rw [if_neg h11] at h
  by_cases h12 : c = 62
  · rw [if_pos h12] at h; omega
  rw [if_neg h12] at h
  omega
theorem tkN_next {i : Nat} (hi : i < n) : i < (tkN b n i).2.2 ∧ (tkN b n i).2.2 ≤ n := by
  unfold tkN
  by_cases y : isL (b i) = true
  · rw [if_pos y]
    have h1 : i < rn (fun j => isL (b j)) n i := by
      rw [rn_go hi (P := fun j => isL (b j)) y]
      have := rn_ge (fun j => isL (b j)) n (i + 1)
      omega
    have h2 := rn_le (fun j => isL (b j)) (n := n) (i := i) (by omega)
    split
    · exact ⟨h1, h2⟩
    · split
      · exact ⟨h1, h2⟩
      · exact ⟨h1, h2⟩
  · rw [if_neg y]
    by_cases z : isD (b i) = true
    · rw [if_pos z]
      have h1 : i < rn (fun j => isD (b j)) n i := by
        rw [rn_go hi (P := fun j => isD (b j)) z]
        have := rn_ge (fun j => isD (b j)) n (i + 1)
        omega
      exact ⟨h1, rn_le (fun j => isD (b j)) (n := n) (i := i) (by omega)⟩
    · rw [if_neg z]
      by_cases u : sgN (b i) (if i + 1 < n then b (i + 1) else 0) = 40 ∨ sgN (b i) (if i + 1 < n then b (i + 1) else 0) = 42 ∨ sgN (b i) (if i + 1 < n then b (i + 1) else 0) = 43
      · rw [if_pos u]
        have hd := sgN_two u
        have : i + 1 < n := by
          apply Classical.byContradiction
          intro q
          rw [if_neg q] at hd
          omega
        exact ⟨show i < i + 2 by omega, show i + 2 ≤ n by omega⟩
      · rw [if_neg u]
        exact ⟨show i < i + 1 by omega, show i + 1 ≤ n by omega⟩
theorem skB_le {q : Nat} (h : q ≤ n) : skB b n q ≤ n := rn_le _ h
theorem tkQ_next {q : Nat} (h : q ≤ n) : skB b n q ≤ (tkQ b n q).2.2 ∧ (tkQ b n q).2.2 ≤ n ∧ (skB b n q < n → skB b n q < (tkQ b n q).2.2) := by
  unfold tkQ
  by_cases y : skB b n q < n
  · rw [if_pos y]
    have := tkN_next (b := b) y
    exact ⟨by omega, this.2, fun _ => this.1⟩
  · rw [if_neg y]
    exact ⟨skB_le h, Nat.le_refl n, fun z => absurd z y⟩
theorem qs_le (k : Nat) : qs b n k ≤ n := by
  induction k with
  | zero => exact Nat.zero_le _
  | succ k ih => exact (tkQ_next ih).2.1
theorem tP_le (k : Nat) : tP b n k ≤ n := skB_le (qs_le k)
/-- kinds -/
theorem sgN_kind (c d : Nat) : (32 ≤ sgN c d ∧ sgN c d ≤ 44) ∨ sgN c d = 50 := by
  unfold sgN
  by_cases h0 : c = 60 ∧ d = 61
  · rw [if_pos h0]; omega
  rw [if_neg h0]
  by_cases h1 : c = 60 ∧ d = 62
  · rw [if_pos h1]; omega
  rw [if_neg h1]
  by_cases h2 : c = 62 ∧ d = 61
  · rw [if_pos h2]; omega
  rw [if_neg h2]
  by_cases h3 : c = 59
  · rw [if_pos h3]; omega
  rw [if_neg h3]
  by_cases h4 : c = 40
  · rw [if_pos h4]; omega
  rw [if_neg h4]
  by_cases h5 : c = 41
  · rw [if_pos h5]; omega
  rw [if_neg h5]
  by_cases h6 : c = 43
  · rw [if_pos h6]; omega
  rw [if_neg h6]
  by_cases h7 : c = 45
  · rw [if_pos h7]; omega
  rw [if_neg h7]
  by_cases h8 : c = 42
  · rw [if_pos h8]; omega
  rw [if_neg h8]
  by_cases h9 : c = 47
  · rw [if_pos h9]; omega
  rw [if_neg h9]
  by_cases h10 : c = 60
  · rw [if_pos h10]; omega
  rw [if_neg h10]
  by_cases h11 : c = 61
  · rw [if_pos h11]; omega
  rw [if_neg h11]
  by_cases h12 : c = 62
  · rw [if_pos h12]; omega
  rw [if_neg h12]
  omega
theorem tkN_kind {i : Nat} : (tkN b n i).1 < 24 ∨ (32 ≤ (tkN b n i).1 ∧ (tkN b n i).1 ≤ 44) ∨ (tkN b n i).1 = 50 ∨ (tkN b n i).1 = 61 ∨ (tkN b n i).1 = 62 := by
  unfold tkN
  by_cases y : isL (b i) = true
  · rw [if_pos y]
    by_cases z : wdN b i (rn (fun j => isL (b j)) n i - i) < 24
    · rw [if_pos z]; exact Or.inl z
    · rw [if_neg z]
      split
      · exact Or.inr (Or.inr (Or.inr (Or.inr rfl)))
      · exact Or.inr (Or.inr (Or.inl rfl))
  · rw [if_neg y]
    split
    · exact Or.inr (Or.inr (Or.inr (Or.inl rfl)))
    · rcases sgN_kind (b i) (if i + 1 < n then b (i + 1) else 0) with h | h
      · exact Or.inr (Or.inl h)
      · exact Or.inr (Or.inr (Or.inl h))
theorem tK_end {k : Nat} : tK b n k = 60 ↔ tP b n k = n := by
  have hle := tP_le (b := b) (n := n) k
  unfold tK tP tkQ
  unfold tP at hle
  by_cases y : skB b n (qs b n k) < n
  · rw [if_pos y]
    have := tkN_kind (b := b) (n := n) (i := skB b n (qs b n k))
    constructor
    · intro h; omega
    · intro h; omega
  · rw [if_neg y]
    exact ⟨fun _ => by omega, fun _ => rfl⟩
theorem tP_lt {k : Nat} (h : tK b n k ≠ 60) : tP b n k < tP b n (k + 1) ∧ tP b n k < n := by
  have hle := tP_le (b := b) (n := n) k
  have hn : tP b n k ≠ n := fun z => h (tK_end.mpr z)
  have hlt : tP b n k < n := by omega
  have h1 := (tkQ_next (b := b) (qs_le (b := b) (n := n) k)).2.2 hlt
  have h2 : qs b n (k + 1) ≤ tP b n (k + 1) := rn_ge _ _ _
  have h3 : qs b n (k + 1) = (tkQ b n (qs b n k)).2.2 := rfl
  refine ⟨?_, hlt⟩
  unfold tP at *
  omega
theorem tP_ge (k : Nat) (h : ∀ j, j < k → tK b n j ≠ 60) : k ≤ tP b n k := by
  induction k with
  | zero => exact Nat.zero_le _
  | succ k ih =>
    have := ih (fun j hj => h j (by omega))
    have := tP_lt (h k (by omega))
    omega
/-- once at the end, always -/
theorem tK_stay {k : Nat} (h : tK b n k = 60) : tK b n (k + 1) = 60 ∧ tP b n (k + 1) = n := by
  have h1 := tK_end.mp h
  have h2 : qs b n (k + 1) = n := by
    show (tkQ b n (qs b n k)).2.2 = n
    unfold tkQ
    unfold tP at h1
    rw [if_neg (by omega)]
  have h3 : tP b n (k + 1) = n := by
    unfold tP
    rw [h2]
    exact rn_end (Nat.le_refl _)
  exact ⟨tK_end.mpr h3, h3⟩
end

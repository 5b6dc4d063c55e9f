/-! ===== the greatest that divides both ===== -/
def eucl : Nat → Nat → Nat → Nat × Nat
  | 0, a, b => (a, b)
  | f + 1, a, b => if b = 0 then (a, b) else eucl f b (a % b)
def fibG : Nat → Nat × Nat
  | 0 => (1, 1)
  | f + 1 => ((fibG f).2, (fibG f).1 + (fibG f).2)
theorem eucl_big : ∀ f a b, b ≤ a → (eucl f a b).2 ≠ 0 → (fibG f).1 ≤ b ∧ (fibG f).2 ≤ a := by
  intro f
  induction f with
  | zero =>
    intro a b h h0
    have h0' : b ≠ 0 := h0
    exact ⟨show 1 ≤ b by omega, show 1 ≤ a by omega⟩
  | succ f ih =>
    intro a b h h0
    rw [eucl] at h0
    by_cases y : b = 0
    · rw [if_pos y] at h0; exact absurd y h0
    · rw [if_neg y] at h0
      have hlt : a % b < b := Nat.mod_lt _ (by omega)
      have hi := ih b (a % b) (by omega) h0
      have hd : b * (a / b) + a % b = a := Nat.div_add_mod a b
      have hq : 1 ≤ a / b := (Nat.one_le_div_iff (by omega)).mpr h
      have hm : b * 1 ≤ b * (a / b) := Nat.mul_le_mul_left b hq
      exact ⟨hi.2, show (fibG f).1 + (fibG f).2 ≤ a by omega⟩
theorem eucl_gcd : ∀ f a b, (eucl f a b).2 = 0 → (eucl f a b).1 = Nat.gcd b a := by
  intro f
  induction f with
  | zero =>
    intro a b h
    have h' : b = 0 := h
    subst h'
    exact (Nat.gcd_zero_left a).symm
  | succ f ih =>
    intro a b h
    rw [eucl] at h ⊢
    by_cases y : b = 0
    · rw [if_pos y, y]; exact (Nat.gcd_zero_left a).symm
    · rw [if_neg y] at h ⊢
      rw [ih b (a % b) h, ← Nat.gcd_rec]
theorem fib100 : 100 ^ 8 < (fibG 100).1 := by decide +kernel
theorem eucl_100 {a b : Nat} (h : b ≤ a) (hb : b ≤ 100 ^ 8) : (eucl 100 a b).2 = 0 := by
  apply Classical.byContradiction
  intro q
  have := (eucl_big 100 a b h q).1
  have := fib100
  omega
section
variable {N : Nat} {w : Wd}
theorem lN0 {b : Nat} (hb : b < 2 ^ 60) : (lN b = (0 : Int64)) ↔ b = 0 := pk_lEQ (b := 0) (by omega) (by omega)
theorem c_div10 {R : Type} {K : Int64 → Wd → Option (Int64 × Wd)} : ∀ f fuel a b, f ≤ 100 → f < fuel → a < 2 ^ 60 → b < 2 ^ 60 → fX5_divisor_10 N fuel K (lN a) (lN b) (nI (100 - f)) w = K (lN (eucl f a b).1) w := by
  intro f
  induction f with
  | zero =>
    intro fuel a b _ hf ha hb
    obtain ⟨m, rfl⟩ : ∃ m, fuel = m + 1 := ⟨fuel - 1, by omega⟩
    have lt : (nI (100 - 0) < (100 : Int32)) = False := eq_false (by decide)
    simp only [fX5_divisor_10, ↓lt, ↓reduceIte]
    rfl
  | succ f ih =>
    intro fuel a b hf1 hf ha hb
    obtain ⟨m, rfl⟩ : ∃ m, fuel = m + 1 := ⟨fuel - 1, by omega⟩
    have lt : (nI (100 - (f + 1)) < (100 : Int32)) = True := eq_true ((nI_ltI (b := 100) (by omega) (by omega)).mpr (by omega))
    rw [eucl]
    by_cases y : b = 0
    · have q : (lg_cmp (lN b) (0 : Int64) = 0) = True := eq_true ((lg_eq _ _).mpr ((lN0 hb).mpr y))
      rw [if_pos y]
      simp only [fX5_divisor_10, ↓lt, ↓q, ↓reduceIte]
    · have q : (lg_cmp (lN b) (0 : Int64) = 0) = False := eq_false (fun z => y ((lN0 hb).mp ((lg_eq _ _).mp z)))
      have q2 : (lN b = 0) = False := eq_false (fun z => y ((lN0 hb).mp z))
      have er : lN a - lN a / lN b * lN b = lN (a % b) := pk_lRem (by omega) (by omega) (by omega)
      have e1 : nI (100 - (f + 1)) + (1 : Int32) = nI (100 - f) := by
        rw [li1, nI_add]
        congr 1
        omega
      have hlt : a % b < b := Nat.mod_lt _ (by omega)
      rw [if_neg y]
      simp only [fX5_divisor_10, ↓lt, ↓q, ↓q2, ↓er, ↓e1, ↓reduceIte, callW_eq]
      exact ih m b (a % b) (by omega) (by omega) hb (by omega)
theorem m_ord34 {a3 : Int32} {v4 : Int64} {K : Int64 → Int64 → Wd → Option (Int64 × Wd)} : ∀ b a fuel, b < fuel → a < 2 ^ 60 → b < 2 ^ 60 → fX12_order_34 N a3 fuel K v4 (lN a) (lN b) w = K v4 (lN (Nat.gcd b a)) w := by
  intro b
  induction b using Nat.strongRecOn with
  | _ b ih =>
    intro a fuel hf ha hb
    obtain ⟨m, rfl⟩ : ∃ m, fuel = m + 1 := ⟨fuel - 1, by omega⟩
    by_cases y : b = 0
    · have q : (lg_cmp (lN b) (0 : Int64) = 0) = True := eq_true ((lg_eq _ _).mpr ((lN0 hb).mpr y))
      simp only [fX12_order_34, ↓q, ↓reduceIte]
      rw [y, Nat.gcd_zero_left]
    · have q : (lg_cmp (lN b) (0 : Int64) = 0) = False := eq_false (fun z => y ((lN0 hb).mp ((lg_eq _ _).mp z)))
      have q2 : (lN b = 0) = False := eq_false (fun z => y ((lN0 hb).mp z))
      have er : lN a - lN a / lN b * lN b = lN (a % b) := pk_lRem (by omega) (by omega) (by omega)
      have hlt : a % b < b := Nat.mod_lt _ (by omega)
      simp only [fX12_order_34, ↓q, ↓q2, ↓er, ↓reduceIte, callW_eq]
      rw [ih (a % b) hlt b m (by omega) hb (by omega), ← Nat.gcd_rec]
theorem c_hundreds {n : Nat} (hN : 100 ≤ N) (hn : n ≤ 8) (h11 : gI w 9 0 12 = nI n) : pX5_hundreds N w = some (lN (100 ^ n), w) := by
  have key : ∀ fuel c, c ≤ n → n - c < fuel → fX5_hundreds_4 N fuel (lN (100 ^ c)) (nI c) w = some (lN (100 ^ n), w) := by
    intro fuel
    induction fuel with
    | zero => intro c _ h; omega
    | succ f ih =>
      intro c hc hf
      rcases Nat.lt_or_ge c n with y | y
      · have lt : (nI c < gI w 9 0 12) = True := eq_true (by rw [h11]; exact (nI_ltI (by omega) (by omega)).mpr y)
        have e1 : nI c + (1 : Int32) = nI (c + 1) := nI_add c 1
        have e2 : lN (100 ^ c) * (100 : Int64) = lN (100 ^ (c + 1)) := by
          rw [show (100 : Int64) = lN 100 from rfl, lN_mul, Nat.pow_succ]
        simp only [fX5_hundreds_4, ↓lt, ↓e1, ↓e2, ↓reduceIte, callW_eq]
        exact ih (c + 1) (by omega) (by omega)
      · have : c = n := by omega
        subst this
        have lt : (nI c < gI w 9 0 12) = False := eq_false (fun z => by
          rw [h11] at z
          have := (nI_ltI (by omega) (by omega)).mp z
          omega)
        simp only [fX5_hundreds_4, ↓lt, ↓reduceIte]
  unfold pX5_hundreds
  rw [callW_eq]
  exact key N 0 (by omega) (by omega)
theorem c_divisor {n b : Nat} (hN : 200 ≤ N) (hn : n ≤ 8) (h11 : gI w 9 0 12 = nI n) (h9 : gL w 9 0 10 = lN b) (hb : b ≤ 100 ^ n) : pX5_divisor N w = some (lN (Nat.gcd b (100 ^ n)), w) := by
  have h8 : 100 ^ n ≤ 100 ^ 8 := Nat.pow_le_pow_right (by omega) hn
  have h3 : 100 ^ 8 < 2 ^ 60 := by decide
  have hp : 0 < 100 ^ n := Nat.pow_pos (by omega)
  have gh := c_hundreds (N := N) (w := w) (by omega) hn h11
  have gm : pJ9_max_f86c9 N (0 : Int64) (gL w 9 0 10) w = some (lN b, w) := by
    rw [h9]
    unfold pJ9_max_f86c9
    by_cases y : b = 0
    · rw [if_neg (fun z => by
        have := (lg_lt _ _).mp z
        rw [Int64.lt_iff_toInt_lt, lNb (by omega), t00] at this
        omega), y]
      rfl
    · rw [if_pos ((lg_lt _ _).mpr (by rw [Int64.lt_iff_toInt_lt, lNb (by omega), t00]; omega))]
  have e0 := eucl_100 hb (Nat.le_trans hb h8)
  have eg := eucl_gcd 100 (100 ^ n) b e0
  have hg : 0 < Nat.gcd b (100 ^ n) := Nat.gcd_pos_of_pos_right b hp
  have hgl : Nat.gcd b (100 ^ n) ≤ 100 ^ n := Nat.gcd_le_right b hp
  have d := c_div10 (R := Unit) (N := N) (w := w) (K := fX5_divisor_27 N) 100 N (100 ^ n) b (by omega) (by omega) (by omega) (by omega)
  rw [eg] at d
  have gx : pJ9_max_f86c9 N (1 : Int64) (lN (Nat.gcd b (100 ^ n))) w = some (lN (Nat.gcd b (100 ^ n)), w) := by
    unfold pJ9_max_f86c9
    by_cases y : Nat.gcd b (100 ^ n) = 1
    · rw [if_neg (fun z => by
        have := (lg_lt _ _).mp z
        rw [Int64.lt_iff_toInt_lt, lNb (by omega), t01] at this
        omega), y]
      rfl
    · rw [if_pos ((lg_lt _ _).mpr (by rw [Int64.lt_iff_toInt_lt, lNb (by omega), t01]; omega))]
  simp only [pX5_divisor, ↓cbnd gh, ↓cbnd gm]
  rw [callW_eq]
  refine d.trans ?_
  simp only [fX5_divisor_27, ↓cbnd gx]
theorem c_above {n b : Nat} (hN : 200 ≤ N) (hn : n ≤ 8) (h11 : gI w 9 0 12 = nI n) (h9 : gL w 9 0 10 = lN b) (hb : b ≤ 100 ^ n) : pX5_above N w = some (lN (b / Nat.gcd b (100 ^ n)), w) := by
  have h8 : 100 ^ n ≤ 100 ^ 8 := Nat.pow_le_pow_right (by omega) hn
  have h3 : 100 ^ 8 < 2 ^ 60 := by decide
  have hp : 0 < 100 ^ n := Nat.pow_pos (by omega)
  have hg : 0 < Nat.gcd b (100 ^ n) := Nat.gcd_pos_of_pos_right b hp
  have hgl : Nat.gcd b (100 ^ n) ≤ 100 ^ n := Nat.gcd_le_right b hp
  have d := c_divisor (N := N) hN hn h11 h9 hb
  have q : (lN (Nat.gcd b (100 ^ n)) = 0) = False := eq_false (fun z => by
    have := (lN0 (by omega)).mp z
    omega)
  have e : gL w 9 0 10 / lN (Nat.gcd b (100 ^ n)) = lN (b / Nat.gcd b (100 ^ n)) := by
    rw [h9]
    exact pk_lDiv (by omega) hg (by omega)
  simp only [pX5_above, ↓cbnd d, ↓q, ↓e, ↓reduceIte]
theorem c_below {n b : Nat} (hN : 200 ≤ N) (hn : n ≤ 8) (h11 : gI w 9 0 12 = nI n) (h9 : gL w 9 0 10 = lN b) (hb : b ≤ 100 ^ n) : pX5_below N w = some (lN (100 ^ n / Nat.gcd b (100 ^ n)), w) := by
  have h8 : 100 ^ n ≤ 100 ^ 8 := Nat.pow_le_pow_right (by omega) hn
  have h3 : 100 ^ 8 < 2 ^ 60 := by decide
  have hp : 0 < 100 ^ n := Nat.pow_pos (by omega)
  have hg : 0 < Nat.gcd b (100 ^ n) := Nat.gcd_pos_of_pos_right b hp
  have hgl : Nat.gcd b (100 ^ n) ≤ 100 ^ n := Nat.gcd_le_right b hp
  have gh := c_hundreds (N := N) (w := w) (by omega) hn h11
  have d := c_divisor (N := N) hN hn h11 h9 hb
  have q : (lN (Nat.gcd b (100 ^ n)) = 0) = False := eq_false (fun z => by
    have := (lN0 (by omega)).mp z
    omega)
  have e : lN (100 ^ n) / lN (Nat.gcd b (100 ^ n)) = lN (100 ^ n / Nat.gcd b (100 ^ n)) := pk_lDiv (by omega) hg (by omega)
  simp only [pX5_below, ↓cbnd gh, ↓cbnd d, ↓q, ↓e, ↓reduceIte]
end

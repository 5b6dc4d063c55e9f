/-! ===== PURE PART: numbers, bits, reads and writes, loops ===== -/
theorem nz_and (a b : Nat) : nI a &&& nI b = nI (a &&& b) := by
  apply Int32.toBitVec_inj.1
  show BitVec.ofNat 32 a &&& BitVec.ofNat 32 b = BitVec.ofNat 32 (a &&& b)
  apply BitVec.eq_of_getLsbD_eq
  intro i hi
  simp [hi]
theorem nz_or (a b : Nat) : nI a ||| nI b = nI (a ||| b) := by
  apply Int32.toBitVec_inj.1
  show BitVec.ofNat 32 a ||| BitVec.ofNat 32 b = BitVec.ofNat 32 (a ||| b)
  apply BitVec.eq_of_getLsbD_eq
  intro i hi
  simp [hi]
theorem nz_xor (a b : Nat) : nI a ^^^ nI b = nI (a ^^^ b) := by
  apply Int32.toBitVec_inj.1
  show BitVec.ofNat 32 a ^^^ BitVec.ofNat 32 b = BitVec.ofNat 32 (a ^^^ b)
  apply BitVec.eq_of_getLsbD_eq
  intro i hi
  simp [hi]
theorem nz_s : ∀ n, n < 32 → ((nI n &&& nI 31).toBitVec.smod 32).toNat = n := by decide +kernel
theorem nz_shl {k : Nat} (hk : k < 32) : nI 1 <<< nI (k &&& 31) = nI (2 ^ k) := by
  rw [← nz_and]
  have h := pk_shlN (n := 1) (nI k &&& nI 31) k (nz_s k hk) (by rw [Nat.one_mul]; exact Nat.pow_lt_pow_right (by omega) hk)
  rw [h, Nat.one_mul]
theorem nz_shr {x k : Nat} (hx : x < 2 ^ 31) (hk : k < 32) : nI x >>> nI (k &&& 31) = nI (x / 2 ^ k) := by
  rw [← nz_and]
  exact pk_shrN hx _ k (nz_s k hk)
theorem nz_bit {x k : Nat} (hx : x < 2 ^ 31) (hk : k < 32) : (nI x >>> nI (k &&& 31)) &&& nI 1 = nI (if x.testBit k then 1 else 0) := by
  rw [nz_shr hx hk, nz_and, Nat.and_one_is_mod]
  congr 1
  rw [Nat.testBit_eq_decide_div_mod_eq]
  have : x / 2 ^ k % 2 < 2 := Nat.mod_lt _ (by omega)
  generalize x / 2 ^ k % 2 = z at *
  by_cases h : z = 1
  · simp [h]
  · have : z = 0 := by omega
    simp [this]
theorem nz_b1 (b : Bool) : (nI (if b then 1 else 0) = nI 0) ↔ b = false := by cases b <;> decide
theorem nz_b2 (b : Bool) : (nI (if b then 1 else 0) = nI 1) ↔ b = true := by cases b <;> decide
theorem nz_all {a b : Nat} : nI a = nI b ↔ a % 2 ^ 32 = b % 2 ^ 32 := by
  constructor
  · intro h
    have := congrArg (fun x : Int32 => x.toBitVec.toNat) h
    simpa [nI] using this
  · intro h
    apply Int32.toBitVec_inj.1
    apply BitVec.eq_of_toNat_eq
    simpa [nI] using h
theorem nz_m1 : -nI 1 = nI (2 ^ 32 - 1) := by decide +kernel
theorem nz_m2 : -nI 2 = nI (2 ^ 32 - 2) := by decide +kernel
theorem nz_not {x y : Nat} (hx : x < 2 ^ 32) : nI x &&& (nI y ^^^ -nI 1) = nI (x ^^^ (x &&& y)) := by
  rw [nz_m1, nz_xor, nz_and]
  congr 1
  apply Nat.eq_of_testBit_eq
  intro i
  simp only [Nat.testBit_and, Nat.testBit_xor, Nat.testBit_two_pow_sub_one]
  rcases Nat.lt_or_ge i 32 with h | h
  · simp [h]; cases x.testBit i <;> cases y.testBit i <;> rfl
  · have : x.testBit i = false := Nat.testBit_lt_two_pow (Nat.lt_of_lt_of_le hx (Nat.pow_le_pow_right (by omega) h))
    simp [this]
theorem nz_ne1 {a : Nat} (h : a < 2 ^ 31) : nI a ≠ -nI 1 := by
  rw [nz_m1]
  intro e
  rw [nz_all] at e
  omega
theorem nz_neg1 : -nI 1 < nI 0 := by decide +kernel
theorem nz_neg2 : -nI 2 < nI 0 := by decide +kernel
theorem nz_ge0 {a : Nat} (h : a < 2 ^ 31) : ¬ nI a < nI 0 := by rw [nI_ltI h (by omega)]; omega
/-! reads and writes -/
theorem gg_I (w : Wd) (k i j : Nat) (x : Int32) (k' i' j' : Nat) : gI (setI w k i j x) k' i' j' = if k' = k ∧ i' = i ∧ j' = j then x else gI w k' i' j' := rfl
theorem gg_LI (w : Wd) (k i j : Nat) (x : Int32) (k' i' j' : Nat) : gL (setI w k i j x) k' i' j' = gL w k' i' j' := rfl
theorem gg_RI (w : Wd) (k i j : Nat) (x : Int32) (k' i' j' : Nat) : gR (setI w k i j x) k' i' j' = gR w k' i' j' := rfl
theorem gg_L (w : Wd) (k i j : Nat) (x : Int64) (k' i' j' : Nat) : gL (setL w k i j x) k' i' j' = if k' = k ∧ i' = i ∧ j' = j then x else gL w k' i' j' := rfl
theorem gg_IL (w : Wd) (k i j : Nat) (x : Int64) (k' i' j' : Nat) : gI (setL w k i j x) k' i' j' = gI w k' i' j' := rfl
theorem gg_RL (w : Wd) (k i j : Nat) (x : Int64) (k' i' j' : Nat) : gR (setL w k i j x) k' i' j' = gR w k' i' j' := rfl
theorem gg_R (w : Wd) (k i j : Nat) (x : Nat) (k' i' j' : Nat) : gR (setR w k i j x) k' i' j' = if k' = k ∧ i' = i ∧ j' = j then x else gR w k' i' j' := rfl
theorem gg_IR (w : Wd) (k i j : Nat) (x : Nat) (k' i' j' : Nat) : gI (setR w k i j x) k' i' j' = gI w k' i' j' := rfl
theorem gg_LR (w : Wd) (k i j : Nat) (x : Nat) (k' i' j' : Nat) : gL (setR w k i j x) k' i' j' = gL w k' i' j' := rfl
theorem gg_row (w : Wd) (k i : Nat) (g : Nat → Int32) (k' i' j' : Nat) : gI (setRowI w k i g) k' i' j' = if k' = k ∧ i' = i then g j' else gI w k' i' j' := by
  show (if k' = k ∧ i' = i then g else w.1 k' i') j' = _
  split <;> rfl
theorem gg_Lrow (w : Wd) (k i : Nat) (g : Nat → Int32) (k' i' j' : Nat) : gL (setRowI w k i g) k' i' j' = gL w k' i' j' := rfl
theorem gg_Rrow (w : Wd) (k i : Nat) (g : Nat → Int32) (k' i' j' : Nat) : gR (setRowI w k i g) k' i' j' = gR w k' i' j' := rfl
theorem ldn {w : Wd} {k i j n : Nat} (h : j < n) (hn : n < 2 ^ 31) : ldI w k i (nI j) n = some (gI w k i j) := by
  rw [ldI_eq, if_neg (nI_in h hn), nI_clamp (by omega)]
theorem ldLn {w : Wd} {k i j n : Nat} (h : j < n) (hn : n < 2 ^ 31) : ldL w k i (nI j) n = some (gL w k i j) := by
  rw [ldL_eq, if_neg (nI_in h hn), nI_clamp (by omega)]
theorem ldRn {i j n : Nat} (h : j < n) (hn : n < 2 ^ 31) : ldR (nI j) n i = some (j + n * i) := by
  rw [ldR_eq, if_neg (nI_in h hn), nI_clamp (by omega)]
theorem stn {w : Wd} {k i j n : Nat} {x : Int32} (h : j < n) (hn : n < 2 ^ 31) : stI w k i (nI j) n x = some (setI w k i j x) := by
  rw [stI_eq, if_neg (nI_in h hn), nI_clamp (by omega)]
theorem stLn {w : Wd} {k i j n : Nat} {x : Int64} (h : j < n) (hn : n < 2 ^ 31) : stL w k i (nI j) n x = some (setL w k i j x) := by
  rw [stL_eq, if_neg (nI_in h hn), nI_clamp (by omega)]
theorem cpn {w : Wd} {k1 i1 sp n1 k2 i2 dp n2 n : Nat} (h1 : sp + n ≤ n1) (h2 : dp + n ≤ n2) (b1 : n1 < 2 ^ 31) (b2 : n2 < 2 ^ 31) :
    cpI w k1 i1 (nI sp) n1 k2 i2 (nI dp) n2 (nI n) = some (setRowI w k2 i2 (va_cpy (gI w k1 i1) (gI w k2 i2) sp dp n)) := by
  rw [cpI_eq, nI_clamp (by omega), nI_clamp (by omega), nI_clamp (by omega), if_neg]
  simp only [not_or]
  exact ⟨nI_pos (by omega), nI_pos (by omega), nI_pos (by omega), by omega, by omega⟩
/-! loops -/
theorem lupI {σ β : Type} (F : Nat → σ → Nat → β) (I : Nat → σ → Prop) (B : Nat) (Q : β → Prop)
    (hs : ∀ n c s, c < B → I c s → (∀ s', I (c + 1) s' → Q (F n s' (c + 1))) → Q (F (n + 1) s c))
    (he : ∀ n s, I B s → Q (F (n + 1) s B)) : ∀ n c s, c ≤ B → B - c < n → I c s → Q (F n s c) := by
  intro n
  induction n with
  | zero => intro c s _ h; omega
  | succ n ih =>
    intro c s hc hn hI
    rcases Nat.lt_or_ge c B with h | h
    · exact hs n c s h hI (fun s' h' => ih (c + 1) s' (by omega) (by omega) h')
    · have : c = B := by omega
      subst this
      exact he n s hI
/-- down from c to 0: the loop's number is c, its place c - 1 -/
theorem ldnI {σ β : Type} (F : Nat → σ → Nat → β) (I : Nat → σ → Prop) (Q : β → Prop)
    (hs : ∀ n c s, I (c + 1) s → (∀ s', I c s' → Q (F n s' c)) → Q (F (n + 1) s (c + 1)))
    (he : ∀ n s, I 0 s → Q (F (n + 1) s 0)) : ∀ n c s, c < n → I c s → Q (F n s c) := by
  intro n
  induction n with
  | zero => intro c s h; omega
  | succ n ih =>
    intro c s hn hI
    cases c with
    | zero => exact he n s hI
    | succ c => exact hs n c s hI (fun s' h' => ih c s' (by omega) h')
/-- a loop with a measure -/
theorem lmuI {σ β : Type} (F : Nat → σ → β) (I : σ → Prop) (μ : σ → Nat) (Q : β → Prop)
    (hs : ∀ n s, I s → (∀ s', I s' → μ s' < μ s → Q (F n s')) → Q (F (n + 1) s)) : ∀ n s, μ s < n → I s → Q (F n s) := by
  intro n
  induction n with
  | zero => intro s h; omega
  | succ n ih =>
    intro s hn hI
    exact hs n s hI (fun s' h' hm => ih s' (by omega) h')
/-! counts and sets of bits -/
def cnt (f : Nat → Bool) : Nat → Nat
  | 0 => 0
  | n + 1 => cnt f n + if f n then 1 else 0
def mkB (f : Nat → Bool) : Nat → Nat
  | 0 => 0
  | n + 1 => mkB f n ||| if f n then 2 ^ n else 0
theorem mkB_bit (f : Nat → Bool) (n k : Nat) : (mkB f n).testBit k = (decide (k < n) && f k) := by
  induction n with
  | zero => simp [mkB]
  | succ n ih =>
    rw [mkB, Nat.testBit_or, ih]
    by_cases h : k = n
    · subst h
      cases hf : f k <;> simp
    · have h2 : ((if f n then 2 ^ n else 0 : Nat)).testBit k = false := by
        split
        · rw [Nat.testBit_two_pow]; simp; omega
        · simp
      rw [h2, Bool.or_false]
      congr 1
      simp only [decide_eq_decide]
      omega
theorem mkB_lt (f : Nat → Bool) (n : Nat) : mkB f n < 2 ^ n := by
  induction n with
  | zero => simp [mkB]
  | succ n ih =>
    rw [mkB]
    apply Nat.or_lt_two_pow
    · exact Nat.lt_of_lt_of_le ih (Nat.pow_le_pow_right (by omega) (by omega))
    · split
      · exact Nat.pow_lt_pow_right (by omega) (by omega)
      · exact Nat.two_pow_pos _
theorem mkB_ext {f g : Nat → Bool} {n : Nat} (h : ∀ k, k < n → f k = g k) : mkB f n = mkB g n := by
  induction n with
  | zero => rfl
  | succ n ih => rw [mkB, mkB, ih (fun k hk => h k (by omega)), h n (by omega)]
theorem cnt_ext {f g : Nat → Bool} {n : Nat} (h : ∀ k, k < n → f k = g k) : cnt f n = cnt g n := by
  induction n with
  | zero => rfl
  | succ n ih => rw [cnt, cnt, ih (fun k hk => h k (by omega)), h n (by omega)]
theorem cnt_le (f : Nat → Bool) (n : Nat) : cnt f n ≤ n := by
  induction n with
  | zero => exact Nat.le_refl _
  | succ n ih => rw [cnt]; split <;> omega
theorem bit_hi {x n k : Nat} (hx : x < 2 ^ n) (hk : n ≤ k) : x.testBit k = false := Nat.testBit_lt_two_pow (Nat.lt_of_lt_of_le hx (Nat.pow_le_pow_right (by omega) hk))
theorem mkB_self {x n : Nat} (hx : x < 2 ^ n) : mkB (fun k => x.testBit k) n = x := by
  apply Nat.eq_of_testBit_eq
  intro k
  rw [mkB_bit]
  rcases Nat.lt_or_ge k n with h | h
  · simp [h]
  · simp [bit_hi hx h]
/-! numbers as they stand in the code -/
theorem li0 : (0 : Int32) = nI 0 := rfl
theorem li1 : (1 : Int32) = nI 1 := rfl
theorem li2 : (2 : Int32) = nI 2 := rfl
theorem li3 : (3 : Int32) = nI 3 := rfl
theorem li4 : (4 : Int32) = nI 4 := rfl
theorem li5 : (5 : Int32) = nI 5 := rfl
theorem li6 : (6 : Int32) = nI 6 := rfl
theorem li7 : (7 : Int32) = nI 7 := rfl
theorem li8 : (8 : Int32) = nI 8 := rfl
theorem li9 : (9 : Int32) = nI 9 := rfl
theorem li10 : (10 : Int32) = nI 10 := rfl
theorem li11 : (11 : Int32) = nI 11 := rfl
theorem li12 : (12 : Int32) = nI 12 := rfl
theorem li13 : (13 : Int32) = nI 13 := rfl
theorem li14 : (14 : Int32) = nI 14 := rfl
theorem li15 : (15 : Int32) = nI 15 := rfl
theorem li16 : (16 : Int32) = nI 16 := rfl
theorem li17 : (17 : Int32) = nI 17 := rfl
theorem li18 : (18 : Int32) = nI 18 := rfl
theorem li19 : (19 : Int32) = nI 19 := rfl
theorem li20 : (20 : Int32) = nI 20 := rfl
theorem li21 : (21 : Int32) = nI 21 := rfl
theorem li22 : (22 : Int32) = nI 22 := rfl
theorem li23 : (23 : Int32) = nI 23 := rfl
theorem li24 : (24 : Int32) = nI 24 := rfl
theorem li25 : (25 : Int32) = nI 25 := rfl
theorem li26 : (26 : Int32) = nI 26 := rfl
theorem li27 : (27 : Int32) = nI 27 := rfl
theorem li28 : (28 : Int32) = nI 28 := rfl
theorem li29 : (29 : Int32) = nI 29 := rfl
theorem li30 : (30 : Int32) = nI 30 := rfl
theorem li31 : (31 : Int32) = nI 31 := rfl
theorem li32 : (32 : Int32) = nI 32 := rfl
theorem li33 : (33 : Int32) = nI 33 := rfl
theorem li34 : (34 : Int32) = nI 34 := rfl
theorem li35 : (35 : Int32) = nI 35 := rfl
theorem li36 : (36 : Int32) = nI 36 := rfl
theorem li37 : (37 : Int32) = nI 37 := rfl
theorem li38 : (38 : Int32) = nI 38 := rfl
theorem li39 : (39 : Int32) = nI 39 := rfl
theorem li40 : (40 : Int32) = nI 40 := rfl
theorem li41 : (41 : Int32) = nI 41 := rfl
theorem li42 : (42 : Int32) = nI 42 := rfl
theorem li43 : (43 : Int32) = nI 43 := rfl
theorem li44 : (44 : Int32) = nI 44 := rfl
theorem li45 : (45 : Int32) = nI 45 := rfl
theorem li47 : (47 : Int32) = nI 47 := rfl
theorem li48 : (48 : Int32) = nI 48 := rfl
theorem li50 : (50 : Int32) = nI 50 := rfl
theorem li56 : (56 : Int32) = nI 56 := rfl
theorem li57 : (57 : Int32) = nI 57 := rfl
theorem li59 : (59 : Int32) = nI 59 := rfl
theorem li60 : (60 : Int32) = nI 60 := rfl
theorem li61 : (61 : Int32) = nI 61 := rfl
theorem li62 : (62 : Int32) = nI 62 := rfl
theorem li63 : (63 : Int32) = nI 63 := rfl
theorem li64 : (64 : Int32) = nI 64 := rfl
theorem li90 : (90 : Int32) = nI 90 := rfl
theorem li96 : (96 : Int32) = nI 96 := rfl
theorem li97 : (97 : Int32) = nI 97 := rfl
theorem li99 : (99 : Int32) = nI 99 := rfl
theorem li100 : (100 : Int32) = nI 100 := rfl
theorem li122 : (122 : Int32) = nI 122 := rfl
theorem li200 : (200 : Int32) = nI 200 := rfl
theorem li255 : (255 : Int32) = nI 255 := rfl
theorem li256 : (256 : Int32) = nI 256 := rfl
theorem li900 : (900 : Int32) = nI 900 := rfl
theorem li999 : (999 : Int32) = nI 999 := rfl
theorem li1000 : (1000 : Int32) = nI 1000 := rfl
theorem li9999 : (9999 : Int32) = nI 9999 := rfl
theorem li65536 : (65536 : Int32) = nI 65536 := rfl
theorem li99999 : (99999 : Int32) = nI 99999 := rfl
theorem li1000000 : (1000000 : Int32) = nI 1000000 := rfl
theorem li1048576 : (1048576 : Int32) = nI 1048576 := rfl

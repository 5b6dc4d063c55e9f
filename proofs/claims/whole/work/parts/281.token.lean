/-! ===== the reference's token ===== -/
def pk6 (b : Nat → Nat) (i d : Nat) : Nat → Nat
  | 0 => 0
  | c + 1 => 32 * pk6 b i d c + (if c < d then b (i + c) - 96 else 0)
theorem pk6_le {b : Nat → Nat} {i d : Nat} : ∀ c, c ≤ d → pk6 b i d c = pkL b i c := by
  intro c
  induction c with
  | zero => intro _; rfl
  | succ c ih => intro h; rw [pk6, pkL, ih (by omega), if_pos (by omega)]
theorem pk6_ge {b : Nat → Nat} {i d : Nat} : ∀ e, pk6 b i d (d + e) = pkL b i d * 32 ^ e := by
  intro e
  induction e with
  | zero => rw [Nat.add_zero, pk6_le d (Nat.le_refl _), Nat.pow_zero, Nat.mul_one]
  | succ e ih =>
    rw [← Nat.add_assoc, pk6, ih, if_neg (by omega), Nat.pow_succ, Nat.add_zero, Nat.mul_comm 32, Nat.mul_assoc]
theorem pk6_lt {b : Nat → Nat} {i d : Nat} (hl : ∀ j, j < d → isL (b (i + j)) = true) : ∀ c, pk6 b i d c < 2 ^ (5 * c) := by
  intro c
  induction c with
  | zero => exact Nat.one_pos
  | succ c ih =>
    rw [pk6, show 5 * (c + 1) = 5 * c + 5 by omega, Nat.pow_add]
    split
    · rename_i z
      have h2 := hl c z
      unfold isL at h2
      rw [Bool.and_eq_true, decide_eq_true_eq, decide_eq_true_eq] at h2
      omega
    · omega
section
variable {N : Nat} {w w' : Wd} {b : Nat → Nat} {n : Nat}
theorem m_isSmall (hM : BM w b n) {i : Nat} (hi : i ≤ n) : pX12_isSmall N (nI i) w = some (zB (decide (i < n) && isL (b i)), w) := by
  obtain ⟨h1, h2, h3⟩ := hM
  by_cases y : i < n
  · have lt : (nI i < gI w 16 0 6) = True := eq_true (by rw [h1]; exact (nI_ltI (by omega) (by omega)).mpr y)
    have hb8 := (h3 i y).1
    have l1 : ldI w 73 0 (nI i) 900 = some (nI (b i)) := by rw [ldn (by omega) (by omega), (h3 i y).2]
    have e0 : decide (i < n) = true := decide_eq_true y
    rw [e0, Bool.true_and]
    unfold isL
    by_cases y1 : b i < 97
    · have q : (nI (b i) < (97 : Int32)) = True := eq_true ((nI_ltI (b := 97) (by omega) (by omega)).mpr y1)
      have e : decide (97 ≤ b i) = false := decide_eq_false (by omega)
      simp only [pX12_isSmall, ↓lt, ↓bnd l1, ↓q, ↓reduceIte, e, Bool.false_and]
      rfl
    · have q : (nI (b i) < (97 : Int32)) = False := eq_false (fun z => y1 ((nI_ltI (b := 97) (by omega) (by omega)).mp z))
      have e : decide (97 ≤ b i) = true := decide_eq_true (by omega)
      by_cases y2 : 122 < b i
      · have q2 : ((122 : Int32) < nI (b i)) = True := eq_true ((nI_ltI (a := 122) (by omega) (by omega)).mpr y2)
        have e2 : decide (b i ≤ 122) = false := decide_eq_false (by omega)
        simp only [pX12_isSmall, ↓lt, ↓bnd l1, ↓q, ↓q2, ↓reduceIte, e, e2, Bool.true_and]
        rfl
      · have q2 : ((122 : Int32) < nI (b i)) = False := eq_false (fun z => y2 ((nI_ltI (a := 122) (by omega) (by omega)).mp z))
        have e2 : decide (b i ≤ 122) = true := decide_eq_true (by omega)
        simp only [pX12_isSmall, ↓lt, ↓bnd l1, ↓q, ↓q2, ↓reduceIte, e, e2, Bool.true_and]
        rfl
  · have lt : (nI i < gI w 16 0 6) = False := eq_false (fun z => by rw [h1] at z; exact y ((nI_ltI (by omega) (by omega)).mp z))
    have e0 : decide (i < n) = false := decide_eq_false y
    simp only [pX12_isSmall, ↓lt, ↓reduceIte, e0, Bool.false_and]
    rfl
theorem m_isDigit (hM : BM w b n) {i : Nat} (hi : i ≤ n) : pX12_isDigit N (nI i) w = some (zB (decide (i < n) && isD (b i)), w) := by
  obtain ⟨h1, h2, h3⟩ := hM
  by_cases y : i < n
  · have lt : (nI i < gI w 16 0 6) = True := eq_true (by rw [h1]; exact (nI_ltI (by omega) (by omega)).mpr y)
    have hb8 := (h3 i y).1
    have l1 : ldI w 73 0 (nI i) 900 = some (nI (b i)) := by rw [ldn (by omega) (by omega), (h3 i y).2]
    have e0 : decide (i < n) = true := decide_eq_true y
    rw [e0, Bool.true_and]
    unfold isD
    by_cases y1 : b i < 48
    · have q : (nI (b i) < (48 : Int32)) = True := eq_true ((nI_ltI (b := 48) (by omega) (by omega)).mpr y1)
      have e : decide (48 ≤ b i) = false := decide_eq_false (by omega)
      simp only [pX12_isDigit, ↓lt, ↓bnd l1, ↓q, ↓reduceIte, e, Bool.false_and]
      rfl
    · have q : (nI (b i) < (48 : Int32)) = False := eq_false (fun z => y1 ((nI_ltI (b := 48) (by omega) (by omega)).mp z))
      have e : decide (48 ≤ b i) = true := decide_eq_true (by omega)
      by_cases y2 : 57 < b i
      · have q2 : ((57 : Int32) < nI (b i)) = True := eq_true ((nI_ltI (a := 57) (by omega) (by omega)).mpr y2)
        have e2 : decide (b i ≤ 57) = false := decide_eq_false (by omega)
        simp only [pX12_isDigit, ↓lt, ↓bnd l1, ↓q, ↓q2, ↓reduceIte, e, e2, Bool.true_and]
        rfl
      · have q2 : ((57 : Int32) < nI (b i)) = False := eq_false (fun z => y2 ((nI_ltI (a := 57) (by omega) (by omega)).mp z))
        have e2 : decide (b i ≤ 57) = true := decide_eq_true (by omega)
        simp only [pX12_isDigit, ↓lt, ↓bnd l1, ↓q, ↓q2, ↓reduceIte, e, e2, Bool.true_and]
        rfl
  · have lt : (nI i < gI w 16 0 6) = False := eq_false (fun z => by rw [h1] at z; exact y ((nI_ltI (by omega) (by omega)).mp z))
    have e0 : decide (i < n) = false := decide_eq_false y
    simp only [pX12_isDigit, ↓lt, ↓reduceIte, e0, Bool.false_and]
    rfl
theorem m_packed (hM : BM w b n) (hN : 100 ≤ N) {i d : Nat} (hin : i + d ≤ n) (hd : d ≤ 6) (hl : ∀ j, j < d → isL (b (i + j)) = true) : pX12_packed N (nI i) (nI (i + d)) w = some (nI (pkL b i d * 32 ^ (6 - d)), w) := by
  have hn := hM.2.1
  have key : ∀ r c fuel, c + r = 6 → r < fuel → fX12_packed_4 N (nI i) (nI (i + d)) fuel (nI (pk6 b i d c)) (nI (i + c)) w = some (nI (pk6 b i d 6), w) := by
    intro r
    induction r with
    | zero =>
      intro c fuel hc hf
      obtain ⟨m, rfl⟩ : ∃ m, fuel = m + 1 := ⟨fuel - 1, by omega⟩
      have e : c = 6 := by omega
      subst e
      have e6 : nI i + (6 : Int32) = nI (i + 6) := nI_add i 6
      have lt : (nI (i + 6) < nI i + (6 : Int32)) = False := eq_false (by
        rw [e6]
        intro z
        have := (nI_ltI (by omega) (by omega)).mp z
        omega)
      simp only [fX12_packed_4, ↓lt, ↓reduceIte]
    | succ r ih =>
      intro c fuel hc hf
      obtain ⟨m, rfl⟩ : ∃ m, fuel = m + 1 := ⟨fuel - 1, by omega⟩
      have e6 : nI i + (6 : Int32) = nI (i + 6) := nI_add i 6
      have lt : (nI (i + c) < nI i + (6 : Int32)) = True := eq_true (by
        rw [e6]
        exact (nI_ltI (by omega) (by omega)).mpr (by omega))
      have e1 : nI (i + c) + (1 : Int32) = nI (i + (c + 1)) := nI_add _ 1
      have hlt := pk6_lt (b := b) (i := i) (d := d) hl c
      have h25 : 2 ^ (5 * c) ≤ 2 ^ 25 := Nat.pow_le_pow_right (by omega) (by omega)
      have es : nI (pk6 b i d c) <<< ((5 : Int32) &&& (31 : Int32)) = nI (pk6 b i d c * 2 ^ 5) := by
        rw [show (5 : Int32) = nI 5 from rfl, li31]
        exact pk_shlN (nI 5 &&& nI 31) 5 (nz_s 5 (by omega)) (by omega)
      have en := ih (c + 1) m (by omega) (by omega)
      rw [pk6] at en
      by_cases y : c < d
      · have lt2 : (nI (i + c) < nI (i + d)) = True := eq_true ((nI_ltI (by omega) (by omega)).mpr (by omega))
        have l1 : ldI w 73 0 (nI (i + c)) 900 = some (nI (b (i + c))) := by rw [ldn (by omega) (by omega), (hM.2.2 _ (by omega)).2]
        have h2 := hl c y
        unfold isL at h2
        rw [Bool.and_eq_true, decide_eq_true_eq, decide_eq_true_eq] at h2
        have ev : (nI (pk6 b i d c) <<< ((5 : Int32) &&& (31 : Int32))) ||| (nI (b (i + c)) - (96 : Int32)) = nI (32 * pk6 b i d c + (b (i + c) - 96)) := by
          rw [es, show (96 : Int32) = nI 96 from rfl, nI_sb (by omega), nz_or, or32 (by omega)]
        rw [if_pos y] at en
        simp only [fX12_packed_4, ↓lt, ↓lt2, ↓bnd l1, ↓ev, ↓e1, ↓reduceIte, callW_eq]
        exact en
      · have lt2 : (nI (i + c) < nI (i + d)) = False := eq_false (fun z => by
          have := (nI_ltI (by omega) (by omega)).mp z
          omega)
        have ev : (nI (pk6 b i d c) <<< ((5 : Int32) &&& (31 : Int32))) ||| (0 : Int32) = nI (32 * pk6 b i d c + 0) := by
          rw [es, li0, nz_or, or32 (by omega)]
        rw [if_neg y] at en
        simp only [fX12_packed_4, ↓lt, ↓lt2, ↓ev, ↓e1, ↓reduceIte, callW_eq]
        exact en
  have e := pk6_ge (b := b) (i := i) (d := d) (6 - d)
  rw [show d + (6 - d) = 6 by omega] at e
  unfold pX12_packed
  rw [callW_eq, ← e]
  exact key 6 0 N (by omega) (by omega)
end

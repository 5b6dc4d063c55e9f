/-! ===== counting, and what is left of a row ===== -/
theorem cnt_one {f g : Nat → Bool} {n x : Nat} (hx : x < n) (hf : f x = false) (hg : ∀ k, k < n → g k = (f k || k == x)) : cnt g n = cnt f n + 1 := by
  induction n with
  | zero => omega
  | succ n ih =>
    rw [cnt, cnt, hg n (by omega)]
    rcases Nat.lt_or_ge x n with y | y
    · rw [ih y (fun k hk => hg k (by omega))]
      have : (n == x) = false := beq_eq_false_iff_ne.mpr (by omega)
      rw [this, Bool.or_false]
      omega
    · have : x = n := by omega
      subst this
      rw [cnt_ext (f := g) (g := f) (fun k hk => by rw [hg k (by omega), beq_eq_false_iff_ne.mpr (show k ≠ x by omega), Bool.or_false]), hf]
      simp
theorem cnt_hit {t : Nat → Nat} {P : Nat} : ∀ n, (∀ i, i < n → t i < P) → (∀ i j, i < j → j < n → t i ≠ t j) → cnt (fun k => anyB (fun j => t j == k) n) P = n := by
  intro n
  induction n with
  | zero =>
    intro _ _
    have : ∀ P, cnt (fun k => anyB (fun j => t j == k) 0) P = 0 := by
      intro P
      induction P with
      | zero => rfl
      | succ P ih => rw [cnt, ih]; rfl
    exact this P
  | succ n ih =>
    intro h1 h2
    have := ih (fun i hi => h1 i (by omega)) (fun i j a b => h2 i j a (by omega))
    rw [cnt_one (x := t n) (f := fun k => anyB (fun j => t j == k) n) (h1 n (by omega)) (anyB_false.mpr (fun j hj => beq_eq_false_iff_ne.mpr (h2 j n hj (by omega)))) (fun k _ => by
      show (anyB (fun j => t j == k) n || (t n == k)) = _
      congr 1
      rw [Bool.eq_iff_iff, beq_iff_eq, beq_iff_eq]
      exact ⟨fun z => z.symm, fun z => z.symm⟩), this]
theorem cnt_or (f g : Nat → Bool) (n : Nat) : cnt (fun k => f k || g k) n ≤ cnt f n + cnt g n := by
  induction n with
  | zero => exact Nat.le_refl _
  | succ n ih =>
    have h : ∀ a b : Bool, (if (a || b) = true then 1 else 0) ≤ (if a = true then 1 else 0) + (if b = true then 1 else 0) := by decide
    show cnt (fun k => f k || g k) n + (if (f n || g n) = true then 1 else 0) ≤ (cnt f n + if f n = true then 1 else 0) + (cnt g n + if g n = true then 1 else 0)
    exact Nat.le_trans (Nat.add_le_add ih (h (f n) (g n))) (Nat.le_of_eq (Nat.add_add_add_comm _ _ _ _))
theorem cnt_eqx (x K : Nat) : cnt (fun k => x == k) K ≤ if x < K then 1 else 0 := by
  induction K with
  | zero => exact Nat.zero_le _
  | succ K ih =>
    rw [cnt]
    by_cases y : x < K
    · rw [if_pos y] at ih
      rw [if_pos (show x < K + 1 by omega), beq_eq_false_iff_ne.mpr (show x ≠ K by omega), if_neg (by decide)]
      exact ih
    · rw [if_neg y] at ih
      by_cases z : x = K
      · rw [if_pos (show x < K + 1 by omega), beq_iff_eq.mpr z, if_pos rfl]
        omega
      · rw [beq_eq_false_iff_ne.mpr z, if_neg (by decide)]
        omega
theorem cnt_xb (x : Nat) (b : Bool) (K : Nat) : cnt (fun k => x == k && b) K ≤ if b = true then 1 else 0 := by
  cases b with
  | false =>
    have : cnt (fun k => x == k && false) K = 0 := by
      induction K with
      | zero => rfl
      | succ K ih => rw [cnt, ih, Bool.and_false]; rfl
    rw [this]
    exact Nat.zero_le _
  | true =>
    have e : cnt (fun k => x == k && true) K = cnt (fun k => x == k) K := cnt_ext (fun k _ => Bool.and_true _)
    rw [e, if_pos rfl]
    refine Nat.le_trans (cnt_eqx x K) ?_
    split <;> omega
theorem cnt_any (r : Nat → Nat) (P : Nat → Bool) (K m : Nat) : cnt (fun k => anyB (fun j => r j == k && P j) m) K ≤ cnt P m := by
  induction m with
  | zero =>
    have : ∀ K, cnt (fun k => anyB (fun j => r j == k && P j) 0) K = 0 := by
      intro K
      induction K with
      | zero => rfl
      | succ K ih => rw [cnt, ih]; rfl
    rw [this]
    exact Nat.zero_le _
  | succ m ih =>
    have h1 := cnt_or (fun k => anyB (fun j => r j == k && P j) m) (fun k => r m == k && P m) K
    have h2 := cnt_xb (r m) (P m) K
    exact Nat.le_trans h1 (Nat.add_le_add ih h2)
theorem and2_iff {x c : Nat} : x &&& 2 ^ c = 0 ↔ x.testBit c = false := by
  constructor
  · intro h
    have h1 : (x &&& 2 ^ c).testBit c = false := by rw [h, Nat.zero_testBit]
    rw [Nat.testBit_and, Nat.testBit_two_pow_self, Bool.and_true] at h1
    exact h1
  · intro h
    apply Nat.eq_of_testBit_eq
    intro i
    rw [Nat.testBit_and, Nat.testBit_two_pow, Nat.zero_testBit]
    by_cases y : c = i
    · subst y; rw [h]; rfl
    · simp [y]
theorem free_iff {S us c : Nat} (hS : S < 2 ^ 8) (hc : c < 8) : (nI S &&& (nI us ^^^ (-1 : Int32))) &&& ((1 : Int32) <<< (nI c &&& (31 : Int32))) = 0 ↔ (S.testBit c && !us.testBit c) = false := by
  have e1 : nI S &&& (nI us ^^^ (-1 : Int32)) = nI (S ^^^ (S &&& us)) := nz_not (by omega)
  have hlt : S ^^^ (S &&& us) < 2 ^ 8 := andnot_lt hS
  have e2 : (1 : Int32) <<< (nI c &&& (31 : Int32)) = nI (2 ^ c) := by
    rw [li1, li31, nz_and]
    exact nz_shl (by omega)
  have hle : (S ^^^ (S &&& us)) &&& 2 ^ c ≤ S ^^^ (S &&& us) := Nat.and_le_left
  rw [e1, e2, nz_and, show (0 : Int32) = nI 0 from rfl, nI_eq (by omega) (by omega), and2_iff, bit_andnot]
theorem p100 {c : Nat} (h : c ≤ 8) {x : Nat} (hx : x ≤ 100 ^ c) : x < 2 ^ 60 := by
  have h2 : 100 ^ c ≤ 100 ^ 8 := Nat.pow_le_pow_right (by omega) h
  have h3 : 100 ^ 8 < 2 ^ 60 := by decide
  omega
def prF (v : Vw) (p : Nat) (r : Nat → Nat) : Nat → Nat → Nat
  | _, 0 => 1
  | s, d + 1 => opC v p r s * prF v p r (s + 1) d
theorem opP_prF (v : Vw) (p : Nat) (r : Nat → Nat) : ∀ d s, opP v p r (s + d) = opP v p r s * prF v p r s d := by
  intro d
  induction d with
  | zero => intro s; rw [prF, Nat.mul_one]; rfl
  | succ d ih =>
    intro s
    have := ih (s + 1)
    rw [show s + (d + 1) = s + 1 + d by omega, this, opP, prF, Nat.mul_assoc]
theorem usO_bit {t : Nat → Nat} {i k : Nat} (hk : k < 8) : (usO t i).testBit k = anyB (fun j => t j == k) i := by
  rw [usO, mkB_bit]
  simp [hk]
theorem usO_succ {t : Nat → Nat} {i : Nat} (ht : t i < 8) : usO t (i + 1) = usO t i ||| 2 ^ t i := by
  apply Nat.eq_of_testBit_eq
  intro k
  rw [usO, usO, Nat.testBit_or, mkB_bit, mkB_bit, Nat.testBit_two_pow, anyB]
  by_cases y : t i = k
  · subst y; simp [ht]
  · rw [beq_eq_false_iff_ne.mpr y, Bool.or_false, decide_eq_false y, Bool.or_false]
theorem usO_sub {S : Nat} {t : Nat → Nat} {i : Nat} (ht : ∀ j, j < i → S.testBit (t j) = true) : ∀ k, (usO t i).testBit k = true → S.testBit k = true := by
  intro k hk
  have h8 := bit_lt (mkB_lt _ 8) hk
  rw [usO_bit h8] at hk
  obtain ⟨j, hj, e⟩ := anyB_true.mp hk
  rw [← beq_iff_eq.mp e]
  exact ht j hj
theorem pc_usO {S : Nat} {t : Nat → Nat} {i : Nat} (hS : S < 2 ^ 8) (ht : ∀ j, j < i → S.testBit (t j) = true) (hn : ∀ a b, a < b → b < i → t a ≠ t b) : pc (usO t i) = i := by
  rw [usO, pc_mkB _ (by omega)]
  exact cnt_hit i (fun j hj => bit_lt hS (ht j hj)) hn
theorem pc_or {us c : Nat} (hc : c < 8) (hb : us.testBit c = false) : pc (us ||| 2 ^ c) = pc us + 1 := by
  refine cnt_one (x := c) (by omega) hb (fun k _ => ?_)
  rw [Nat.testBit_or, Nat.testBit_two_pow]
  congr 1
  rw [Bool.eq_iff_iff, decide_eq_true_eq, beq_iff_eq]
  exact ⟨fun z => z.symm, fun z => z.symm⟩
/-- m is at least what any row brings behind the parts us -/
def bhO (v : Vw) (p S n us m : Nat) : Prop := m ≤ 100 ^ (n - pc us) ∧ ∀ r st, arr S n r → st ≤ n → usO r st = us → prF v p r st (n - st) ≤ m
/-- the chance that a row meets lies between those looked at -/
theorem ar_lo {v : Vw} {p n st l : Nat} {r : Nat → Nat} (hF : WF v) (hst : st < n) (hl : ∀ k, l.testBit k = true → ∀ i, i < n → n ≤ unO v p i k + 1) :
    pc (v 3 (r st) &&& ((sBits v p (v 0 5 + st) ^^^ (sBits v p (v 0 5 + st) &&& usO r st)) ||| (l &&& usO r st))) ≤ pc (knC v p r st &&& v 3 (r st)) := by
  have h2 := WF_parts hF
  refine cnt_mono (fun k _ h => ?_)
  simp only [Nat.testBit_and, Nat.testBit_or, bit_andnot, Bool.and_eq_true, Bool.or_eq_true] at h ⊢
  obtain ⟨h1, h3⟩ := h
  have hkP := bit_lt (WF_beside hF _) h1
  have hk8 : k < 8 := by omega
  refine ⟨?_, h1⟩
  rw [knC, mkB_bit, Bool.and_eq_true, Bool.or_eq_true, Bool.and_eq_true]
  refine ⟨decide_eq_true hkP, ?_⟩
  rcases h3 with ⟨a, b⟩ | ⟨a, b⟩
  · rw [sBits, mkB_bit, Bool.and_eq_true] at a
    rw [usO_bit hk8] at b
    exact Or.inr ⟨a.2, b⟩
  · rw [usO_bit hk8] at b
    obtain ⟨j, hj, e⟩ := anyB_true.mp b
    refine Or.inl (anyB_true.mpr ⟨j, hj, ?_⟩)
    rw [Bool.and_eq_true, decide_eq_true_eq]
    have h4 := hl k a j (by omega)
    have h5 := utN_ge v p k (v 0 5 + j) (v 0 6)
    unfold unO at h4
    exact ⟨e, by omega⟩
theorem ar_hi1 {v : Vw} {p st : Nat} {r : Nat → Nat} (hF : WF v) :
    pc (knC v p r st &&& v 3 (r st)) ≤ pc (v 3 (r st) &&& ((sBits v p (v 0 5 + st) ^^^ (sBits v p (v 0 5 + st) &&& usO r st)) ||| usO r st)) := by
  have h2 := WF_parts hF
  refine cnt_mono (fun k _ h => ?_)
  simp only [Nat.testBit_and, Nat.testBit_or, bit_andnot, Bool.and_eq_true, Bool.or_eq_true] at h ⊢
  obtain ⟨h3, h1⟩ := h
  have hkP := bit_lt (WF_beside hF _) h1
  have hk8 : k < 8 := by omega
  refine ⟨h1, ?_⟩
  rw [knC, mkB_bit, Bool.and_eq_true, Bool.or_eq_true, Bool.and_eq_true] at h3
  rcases h3.2 with a | ⟨a, b⟩
  · obtain ⟨j, hj, e⟩ := anyB_true.mp a
    rw [Bool.and_eq_true] at e
    exact Or.inr (by rw [usO_bit hk8]; exact anyB_true.mpr ⟨j, hj, e.1⟩)
  · refine Or.inl ⟨?_, by rw [usO_bit hk8]; exact b⟩
    rw [sBits, mkB_bit, Bool.and_eq_true]
    exact ⟨decide_eq_true hkP, a⟩
theorem ar_hi2 {v : Vw} {p st : Nat} {r : Nat → Nat} (hF : WF v) :
    pc (knC v p r st &&& v 3 (r st)) ≤ pc (v 3 (r st) &&& (sBits v p (v 0 5 + st) ^^^ (sBits v p (v 0 5 + st) &&& usO r st))) + cnt (fun j => decide (st ≤ unO v p j (r j))) st := by
  have h2 := WF_parts hF
  have s1 : pc (knC v p r st &&& v 3 (r st)) ≤ cnt (fun k => (v 3 (r st) &&& (sBits v p (v 0 5 + st) ^^^ (sBits v p (v 0 5 + st) &&& usO r st))).testBit k || anyB (fun j => r j == k && decide (st ≤ unO v p j (r j))) st) 12 := by
    refine cnt_mono (fun k _ h => ?_)
    simp only [Nat.testBit_and, bit_andnot, Bool.and_eq_true, Bool.or_eq_true] at h ⊢
    obtain ⟨h3, h1⟩ := h
    have hkP := bit_lt (WF_beside hF _) h1
    have hk8 : k < 8 := by omega
    rw [knC, mkB_bit, Bool.and_eq_true, Bool.or_eq_true, Bool.and_eq_true] at h3
    rcases h3.2 with a | ⟨a, b⟩
    · obtain ⟨j, hj, e⟩ := anyB_true.mp a
      rw [Bool.and_eq_true, decide_eq_true_eq] at e
      refine Or.inr (anyB_true.mpr ⟨j, hj, ?_⟩)
      rw [Bool.and_eq_true, decide_eq_true_eq]
      refine ⟨e.1, ?_⟩
      rw [beq_iff_eq.mp e.1]
      have h4 := e.2
      unfold unO
      omega
    · refine Or.inl ⟨h1, ?_, by rw [usO_bit hk8]; exact b⟩
      rw [sBits, mkB_bit, Bool.and_eq_true]
      exact ⟨decide_eq_true hkP, a⟩
  have s2 := cnt_or (fun k => (v 3 (r st) &&& (sBits v p (v 0 5 + st) ^^^ (sBits v p (v 0 5 + st) &&& usO r st))).testBit k) (fun k => anyB (fun j => r j == k && decide (st ≤ unO v p j (r j))) st) 12
  have s3 := cnt_any r (fun j => decide (st ≤ unO v p j (r j))) 12 st
  exact Nat.le_trans s1 (Nat.le_trans s2 (Nat.add_le_add (Nat.le_refl _) s3))

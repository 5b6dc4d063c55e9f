/-! ===== no row does better than the bound ===== -/
def prF (v : Vw) (p : Nat) (r : Nat → Nat) : Nat → Nat → Nat
  | _, 0 => 1
  | s, d + 1 => opC v p r s * prF v p r (s + 1) d
theorem opP_prF (v : Vw) (p : Nat) (r : Nat → Nat) : ∀ d s, opP v p r (s + d) = opP v p r s * prF v p r s d := by
  intro d
  induction d with
  | zero => intro s; rw [prF, Nat.mul_one]; rfl
  | succ d ih =>
    intro s
    have := ih (s + 1)
    rw [show s + (d + 1) = s + 1 + d by omega, this, opP, prF, Nat.mul_assoc]
theorem opC_mx {v : Vw} {p i : Nat} {r : Nat → Nat} (hr : ∀ a b, a < b → b < i → r a ≠ r b) (ht : sThere v p (v 0 5 + i) = true) : opC v p r i ≤ mxO v p i (r i) := by
  rw [opC_eq hr ht]
  refine mxA_ge v p i (r i) (a := pc (knC v p r i &&& v 3 (r i))) ?_
  have : pc (knC v p r i &&& v 3 (r i)) ≤ pc (v 3 (r i)) := cnt_mono (fun k _ h => by
    rw [Nat.testBit_and, Bool.and_eq_true] at h
    exact h.2)
  omega
theorem prF_sm {v : Vw} {p S n : Nat} {r : Nat → Nat} (hS : S < 2 ^ v 0 0) (hA : arr S n r) (ht : ∀ i, i < n → sThere v p (v 0 5 + i) = true) : ∀ d, d ≤ n → prF v p r (n - d) d ≤ smO v p S n d := by
  intro d
  induction d with
  | zero => intro _; exact Nat.le_refl _
  | succ d ih =>
    intro hd
    have h1 := ih (by omega)
    have hin : n - (d + 1) < n := by omega
    have h2 := opC_mx (p := p) (r := r) (i := n - (d + 1)) (fun a b x y => hA.2.1 a b x (by omega)) (ht _ hin)
    have h3 := stM_ge v p S (n - (d + 1)) (bit_lt hS (hA.1 _ hin)) (hA.1 _ hin)
    rw [prF, smO, show n - (d + 1) + 1 = n - d by omega, Nat.mul_comm (smO v p S n d)]
    exact Nat.mul_le_mul (by omega) h1
theorem pmO_ge (v : Vw) (p S n : Nat) {k d i : Nat} (hb : S.testBit k = true) (hi : n - d ≤ i) (hin : i < n) (hd : d ≤ n) : mxO v p i k ≤ pmO v p S n d k := by
  induction d with
  | zero => omega
  | succ d ih =>
    rw [pmO, if_pos hb]
    rcases Nat.lt_or_ge i (n - d) with y | y
    · have : i = n - (d + 1) := by omega
      subst this
      split <;> omega
    · have := ih y (by omega)
      split <;> omega
theorem pbO_use {v : Vw} {p S n us x : Nat} (hb : S.testBit x = true) (hu : us.testBit x = false) : ∀ c, pbO v p S n us c = if x < c then pmO v p S n n x * pbO v p S n (us ||| 2 ^ x) c else pbO v p S n (us ||| 2 ^ x) c := by
  intro c
  induction c with
  | zero => rfl
  | succ c ih =>
    have eb : (us ||| 2 ^ x).testBit c = (us.testBit c || decide (x = c)) := by rw [Nat.testBit_or, Nat.testBit_two_pow]
    rw [pbO, pbO, ih, eb]
    by_cases y : x = c
    · subst y
      rw [if_neg (show ¬ x < x by omega), if_pos (show x < x + 1 by omega), hb, hu]
      simp [Nat.mul_comm]
    · have e0 : (us.testBit c || decide (x = c)) = us.testBit c := by simp [y]
      rw [e0]
      by_cases z : x < c
      · rw [if_pos z, if_pos (show x < c + 1 by omega)]
        split
        · rw [Nat.mul_assoc]
        · rfl
      · rw [if_neg z, if_neg (show ¬ x < c + 1 by omega)]
theorem usO_bit {t : Nat → Nat} {i k : Nat} (hk : k < 8) : (usO t i).testBit k = anyB (fun j => t j == k) i := by
  rw [usO, mkB_bit]
  simp [hk]
theorem usO_succ {t : Nat → Nat} {i : Nat} (ht : t i < 8) : usO t (i + 1) = usO t i ||| 2 ^ t i := by
  apply Nat.eq_of_testBit_eq
  intro k
  rw [usO, usO, Nat.testBit_or, mkB_bit, mkB_bit, Nat.testBit_two_pow, anyB]
  by_cases y : t i = k
  · subst y; simp [ht]
  · rw [beq_eq_false_iff_ne.mpr y, Bool.or_false, decide_eq_false y, Bool.or_false]
theorem prF_pb {v : Vw} {p S n : Nat} {r : Nat → Nat} (hF : WF v) (hS : S < 2 ^ v 0 0) (hA : arr S n r) (ht : ∀ i, i < n → sThere v p (v 0 5 + i) = true) : ∀ d, d ≤ n → prF v p r (n - d) d ≤ pbO v p S n (usO r (n - d)) (v 0 0) := by
  have h2 := WF_parts hF
  intro d
  induction d with
  | zero =>
    intro _
    have one : ∀ c, c ≤ v 0 0 → pbO v p S n (usO r (n - 0)) c = 1 := by
      intro c
      induction c with
      | zero => intro _; rfl
      | succ c ih =>
        intro hc
        rw [pbO, ih (by omega), if_neg]
        intro h
        rw [Bool.and_eq_true, usO_bit (by omega)] at h
        obtain ⟨i, hi, e⟩ := hA.2.2 c h.1
        have : anyB (fun j => r j == c) (n - 0) = true := anyB_true.mpr ⟨i, by omega, beq_iff_eq.mpr e⟩
        rw [this] at h
        cases h.2
    rw [one _ (Nat.le_refl _)]
    exact Nat.le_refl _
  | succ d ih =>
    intro hd
    have h1 := ih (by omega)
    have hin : n - (d + 1) < n := by omega
    have hb := hA.1 _ hin
    have hxP := bit_lt hS hb
    have hopc := opC_mx (p := p) (r := r) (i := n - (d + 1)) (fun a b x y => hA.2.1 a b x (by omega)) (ht _ hin)
    have hpm := pmO_ge v p S n (d := n) hb (show n - n ≤ n - (d + 1) by omega) hin (Nat.le_refl _)
    have hu : (usO r (n - (d + 1))).testBit (r (n - (d + 1))) = false := by
      rw [usO_bit (by omega)]
      exact anyB_false.mpr (fun j hj => beq_eq_false_iff_ne.mpr (hA.2.1 j _ hj hin))
    rw [prF, pbO_use hb hu (v 0 0), if_pos hxP, ← usO_succ (show r (n - (d + 1)) < 8 by omega), show n - (d + 1) + 1 = n - d by omega]
    exact Nat.mul_le_mul (by omega) h1
/-- the bound -/
theorem opP_bound {v : Vw} {p S n : Nat} {r : Nat → Nat} (hF : WF v) (hS : S < 2 ^ v 0 0) (hA : arr S n r) (ht : ∀ i, i < n → sThere v p (v 0 5 + i) = true) {st : Nat} (hst : st ≤ n) : opP v p r n ≤ opP v p r st * mbO v p S n st (usO r st) := by
  have e := opP_prF v p r (n - st) st
  have h1 := prF_sm (p := p) hS hA ht (n - st) (by omega)
  have h2 := prF_pb (p := p) hF hS hA ht (n - st) (by omega)
  rw [show n - (n - st) = st by omega] at h1 h2
  rw [show st + (n - st) = n by omega] at e
  rw [e]
  refine Nat.mul_le_mul_left _ ?_
  unfold mbO
  split <;> omega

/-! ===== the class: known at a step ===== -/
/-- the parts named before step i -/
def usO (t : Nat → Nat) (i : Nat) : Nat := mkB (fun k => anyB (fun j => t j == k) i) 8
def kaF (v : Vw) (p : Nat) (t : Nat → Nat) (i : Nat) : Nat → Nat
  | 0 => sBits v p (v 0 5 + i) ^^^ (sBits v p (v 0 5 + i) &&& usO t i)
  | c + 1 => if v 0 5 + i ≤ utN v p (t c) (v 0 5 + c) (v 0 6) then kaF v p t i c ||| 2 ^ t c else kaF v p t i c
theorem kaF_bit {v : Vw} {p i c k : Nat} {t : Nat → Nat} : (kaF v p t i c).testBit k = ((kaF v p t i 0).testBit k || anyB (fun j => t j == k && decide (v 0 5 + i ≤ utN v p (t j) (v 0 5 + j) (v 0 6))) c) := by
  induction c with
  | zero => simp [anyB]
  | succ c ih =>
    have es : kaF v p t i (c + 1) = if v 0 5 + i ≤ utN v p (t c) (v 0 5 + c) (v 0 6) then kaF v p t i c ||| 2 ^ t c else kaF v p t i c := rfl
    rw [es, anyB]
    by_cases y : v 0 5 + i ≤ utN v p (t c) (v 0 5 + c) (v 0 6)
    · rw [if_pos y, Nat.testBit_or, ih, Nat.testBit_two_pow, Bool.or_assoc]
      congr 2
      by_cases z : t c = k
      · simp [z]
        rw [z] at y
        exact y
      · simp [z]
    · rw [if_neg y, ih]
      simp [y]
theorem kaF_lt {v : Vw} {p i : Nat} {t : Nat → Nat} (hF : WF v) (ht : ∀ j, j < i → t j < 8) : ∀ c, c ≤ i → kaF v p t i c < 2 ^ 8 := by
  intro c
  induction c with
  | zero => intro _; exact andnot_lt (sBits_lt hF _ _)
  | succ c ih =>
    intro hc
    rw [kaF]
    split
    · exact Nat.or_lt_two_pow (ih (by omega)) (Nat.pow_lt_pow_right (by omega) (ht c (by omega)))
    · exact ih (by omega)
theorem kaF_knC {v : Vw} {p i : Nat} {t : Nat → Nat} (hF : WF v) (ht : ∀ j, j < i → t j < v 0 0) : kaF v p t i i = knC v p t i := by
  have h2 := WF_parts hF
  apply Nat.eq_of_testBit_eq
  intro k
  rw [kaF_bit, kaF, knC, mkB_bit, bit_andnot, usO, mkB_bit, sBits, mkB_bit]
  have e : anyB (fun j => t j == k && decide (v 0 5 + i ≤ utN v p (t j) (v 0 5 + j) (v 0 6))) i = anyB (fun j => t j == k && decide (v 0 5 + i ≤ utN v p k (v 0 5 + j) (v 0 6))) i := by
    apply anyB_ext
    intro j _
    by_cases y : t j = k
    · rw [y]
    · rw [beq_eq_false_iff_ne.mpr y, Bool.false_and, Bool.false_and]
  rw [e]
  by_cases hk : k < v 0 0
  · have hk8 : k < 8 := by omega
    simp only [hk, hk8, decide_true, Bool.true_and]
    exact Bool.or_comm _ _
  · have h0 : anyB (fun j => t j == k && decide (v 0 5 + i ≤ utN v p k (v 0 5 + j) (v 0 6))) i = false := anyB_false.mpr (fun j hj => by
      have := ht j hj
      rw [beq_eq_false_iff_ne.mpr (by omega), Bool.false_and])
    rw [h0]
    simp [hk]
section
variable {N : Nat} {w : Wd} {v : Vw}
theorem c_knownAt (hF : WF v) (h5 : v 0 5 ≤ 1000) (hN : 100 ≤ N) {p i : Nat} {t : Nat → Nat} (hi : i < 8) (h41 : gI w 41 0 i = nI (sBits v p (v 0 5 + i))) (h46 : ∀ j, j < i → gI w 46 0 j = nI (t j)) (ht : ∀ j, j < i → t j < v 0 0) (h43 : ∀ j, j < i → gI w 43 (t j) j = nI (utN v p (t j) (v 0 5 + j) (v 0 6) - v 0 5)) :
    pX5_knownAt N (nI i) (nI (usO t i)) w = some (nI (knC v p t i), w) := by
  have h2 := WF_parts hF
  have hfo := WF_forget hF p
  have hs := sBits_lt hF p (v 0 5 + i)
  have key : ∀ fuel c, c ≤ i → i - c < fuel → fX5_knownAt_11 N (nI i) fuel (nI (kaF v p t i c)) (nI c) w = some (nI (knC v p t i), w) := by
    intro fuel
    induction fuel with
    | zero => intro c _ h; omega
    | succ f ih =>
      intro c hc hf
      rcases Nat.lt_or_ge c i with y | y
      · have lt : (nI c < nI i) = True := eq_true ((nI_ltI (by omega) (by omega)).mpr y)
        have htc := ht c y
        have hle := utN_le v p (t c) (v 0 5 + c) (v 0 6)
        have hge := utN_ge v p (t c) (v 0 5 + c) (v 0 6)
        have hka := kaF_lt (p := p) hF (fun j hj => by have := ht j hj
                                                       omega) c hc
        have l1 : ldI w 46 0 (nI c) 8 = some (nI (t c)) := by rw [ldn (by omega) (by omega), h46 c y]
        have l2 : ldR (nI (t c)) 8 0 = some (t c) := by rw [ldRn (by omega) (by omega)]; rfl
        have l3 : ldI w 43 (t c) (nI c) 8 = some (nI (utN v p (t c) (v 0 5 + c) (v 0 6) - v 0 5)) := by rw [ldn (by omega) (by omega), h43 c y]
        have e1 : nI c + (1 : Int32) = nI (c + 1) := nI_add c 1
        have en := ih (c + 1) (by omega) (by omega)
        rw [kaF] at en
        by_cases q : v 0 5 + i ≤ utN v p (t c) (v 0 5 + c) (v 0 6)
        · have q' : (nI (utN v p (t c) (v 0 5 + c) (v 0 6) - v 0 5) < nI i) = False := eq_false (fun z => by
            have := (nI_ltI (by omega) (by omega)).mp z
            omega)
          have eo : nI (kaF v p t i c) ||| ((1 : Int32) <<< (nI (t c) &&& (31 : Int32))) = nI (kaF v p t i c ||| 2 ^ t c) := by
            rw [li1, li31, nz_and, nz_shl (by omega), nz_or]
          rw [if_pos q] at en
          simp only [fX5_knownAt_11, ↓lt, ↓bnd l1, ↓bnd l2, ↓bnd l3, ↓q', ↓eo, ↓e1, ↓reduceIte, callW_eq]
          exact en
        · have q' : (nI (utN v p (t c) (v 0 5 + c) (v 0 6) - v 0 5) < nI i) = True := eq_true ((nI_ltI (by omega) (by omega)).mpr (by omega))
          rw [if_neg q] at en
          simp only [fX5_knownAt_11, ↓lt, ↓bnd l1, ↓bnd l2, ↓bnd l3, ↓q', ↓e1, ↓reduceIte, callW_eq]
          exact en
      · have : c = i := by omega
        subst this
        have lt : (nI c < nI c) = False := eq_false (fun z => by
          have := (nI_ltI (by omega) (by omega)).mp z
          omega)
        simp only [fX5_knownAt_11, ↓lt, ↓reduceIte]
        rw [kaF_knC hF ht]
  have l1 : ldI w 41 0 (nI i) 8 = some (nI (sBits v p (v 0 5 + i))) := by rw [ldn (by omega) (by omega), h41]
  have e0 : nI (sBits v p (v 0 5 + i)) &&& (nI (usO t i) ^^^ (-1 : Int32)) = nI (kaF v p t i 0) := nz_not (by omega)
  simp only [pX5_knownAt, ↓bnd l1, ↓e0, callW_eq]
  exact key N 0 (by omega) (by omega)
end

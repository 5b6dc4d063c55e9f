/-! ===== the law's value ===== -/
theorem lg_lt (x y : Int64) : lg_cmp x y < 0 ↔ x < y := by
  unfold lg_cmp
  rw [Int64.lt_iff_toInt_lt]
  by_cases h : x > y
  · have h' := Int64.lt_iff_toInt_lt.mp h
    simp only [if_pos h]
    exact ⟨fun q => absurd q (by decide), fun q => by omega⟩
  · have h' : ¬ y.toInt < x.toInt := fun q => h (Int64.lt_iff_toInt_lt.mpr q)
    simp only [if_neg h]
    by_cases e : x = y
    · subst e
      simp only [if_true]
      exact ⟨fun q => absurd q (by decide), fun q => by omega⟩
    · have e' : ¬ x.toInt = y.toInt := fun q => e (Int64.toInt_inj.mp q)
      simp only [if_neg e]
      exact ⟨fun _ => by omega, fun _ => by decide⟩
theorem lg_gt (x y : Int64) : 0 < lg_cmp x y ↔ y < x := by
  unfold lg_cmp
  by_cases h : x > y
  · simp only [if_pos h]
    exact ⟨fun _ => h, fun _ => by decide⟩
  · simp only [if_neg h]
    by_cases e : x = y
    · simp only [if_pos e]
      exact ⟨fun q => absurd q (by decide), fun q => absurd q h⟩
    · simp only [if_neg e]
      exact ⟨fun q => absurd q (by decide), fun q => absurd q h⟩
theorem lg_eq (x y : Int64) : lg_cmp x y = 0 ↔ x = y := by
  unfold lg_cmp
  by_cases h : x > y
  · simp only [if_pos h]
    refine ⟨fun q => absurd q (by decide), fun q => ?_⟩
    subst q
    have := Int64.lt_iff_toInt_lt.mp h
    omega
  · simp only [if_neg h]
    by_cases e : x = y
    · subst e
      simp
    · simp only [if_neg e]
      exact ⟨fun q => absurd q (by decide), fun q => absurd q e⟩
theorem lgn_lt (x y : Int64) : lg_cmp x y < nI 0 ↔ x < y := lg_lt x y
theorem lgn_gt (x y : Int64) : nI 0 < lg_cmp x y ↔ y < x := lg_gt x y
theorem lgn_eq (x y : Int64) : lg_cmp x y = nI 0 ↔ x = y := lg_eq x y
def bd12 (x : Int64) : Prop := -1000000000000 ≤ x.toInt ∧ x.toInt ≤ 1000000000000
theorem t12 : (1000000000000 : Int64).toInt = 1000000000000 := by decide +kernel
theorem t12m : (-1000000000000 : Int64).toInt = -1000000000000 := by decide +kernel
theorem tmin : (-9223372036854775808 : Int64).toInt = -9223372036854775808 := by decide +kernel
theorem t00 : (0 : Int64).toInt = 0 := by decide +kernel
theorem t01 : (1 : Int64).toInt = 1 := by decide +kernel
theorem t100 : (100 : Int64).toInt = 100 := by decide +kernel
def chk (x : Int64) : Option Int64 := if (1000000000000 : Int64) < x then none else if x < (-1000000000000 : Int64) then none else some x
theorem chk_of {x : Int64} (h : bd12 x) : chk x = some x := by
  unfold chk
  rw [if_neg, if_neg]
  · rw [Int64.lt_iff_toInt_lt, t12m]; have := h.1; omega
  · rw [Int64.lt_iff_toInt_lt, t12]; have := h.2; omega
theorem chk_some {x y : Int64} (h : chk x = some y) : y = x ∧ bd12 x := by
  unfold chk at h
  split at h
  · cases h
  · rename_i h1
    split at h
    · cases h
    · rename_i h2
      rw [Int64.lt_iff_toInt_lt, t12] at h1
      rw [Int64.lt_iff_toInt_lt, t12m] at h2
      exact ⟨(Option.some.inj h).symm, by omega, by omega⟩
theorem chk_min : chk (-9223372036854775808 : Int64) = none := by decide +kernel
theorem bd_0 : bd12 0 := by unfold bd12; rw [t00]; omega
theorem bd_1 : bd12 1 := by unfold bd12; rw [t01]; omega
theorem bd_N {n : Nat} (h : n < 2 ^ 31) : bd12 (lN n) := by unfold bd12; rw [lN_toInt h]; omega
def ab6 (x : Int64) : Int64 := if x < 0 then -x else x
theorem ab6_toInt {x : Int64} (h : bd12 x) : (ab6 x).toInt = if x.toInt < 0 then -x.toInt else x.toInt := by
  have h1 := h.1
  have h2 := h.2
  unfold ab6
  by_cases q : x.toInt < 0
  · have q' : x < 0 := by rw [Int64.lt_iff_toInt_lt, t00]; exact q
    rw [if_pos q', if_pos q, Int64.toInt_neg, Int.bmod_eq_of_le] <;> omega
  · have q' : ¬ x < 0 := by rw [Int64.lt_iff_toInt_lt, t00]; exact q
    rw [if_neg q', if_neg q]
theorem ab6_ne {x : Int64} (h : x ≠ 0) : ab6 x ≠ 0 := by
  unfold ab6
  split
  · intro q
    apply h
    have := congrArg (fun z => -z) q
    simpa using this
  · exact h
def jn (K : Nat) (a b : Int64) : Option Int64 :=
  if K = 3 then some (if a = 0 then 0 else if b = 0 then 0 else 1)
  else if K = 4 then some (if a = 0 then (if b = 0 then 0 else 1) else 1)
  else if K = 5 then some (if a < b then 1 else 0)
  else if K = 6 then some (if b < a then 0 else 1)
  else if K = 7 then some (if a = b then 1 else 0)
  else if K = 8 then some (if a = b then 0 else 1)
  else if K = 9 then some (if a < b then 0 else 1)
  else if K = 10 then some (if b < a then 1 else 0)
  else if K = 11 then chk (a + b)
  else if K = 12 then chk (a - b)
  else if K = 13 then (if a = 0 then some (a * b) else if (1000000000000 : Int64) / ab6 a < ab6 b then none else some (a * b))
  else (if b = 0 then none else some (a / b))
theorem bd_ite {p : Prop} [Decidable p] {x y : Int64} (hx : bd12 x) (hy : bd12 y) : bd12 (if p then x else y) := by split <;> assumption
theorem bd_mul {a b : Int64} (ha : bd12 a) (hb : bd12 b) (h : a = 0 ∨ ¬ (1000000000000 : Int64) / ab6 a < ab6 b) : bd12 (a * b) := by
  have key : -1000000000000 ≤ a.toInt * b.toInt ∧ a.toInt * b.toInt ≤ 1000000000000 := by
    rcases h with h | h
    · rw [h, t00]; omega
    · rw [Int64.lt_iff_toInt_lt, Int64.toInt_div, t12, ab6_toInt ha, ab6_toInt hb] at h
      have a1 := ha.1
      have a2 := ha.2
      have b1 := hb.1
      have b2 := hb.2
      generalize a.toInt = A at *
      generalize b.toInt = B at *
      by_cases hA0 : A = 0
      · subst hA0; omega
      · have hAp : ∃ C : Int, 0 < C ∧ (if A < 0 then -A else A) = C ∧ (A = C ∨ A = -C) := by
          by_cases q : A < 0
          · exact ⟨-A, by omega, by rw [if_pos q], Or.inr (by omega)⟩
          · exact ⟨A, by omega, by rw [if_neg q], Or.inl rfl⟩
        have hBp : ∃ D : Int, 0 ≤ D ∧ (if B < 0 then -B else B) = D ∧ (B = D ∨ B = -D) := by
          by_cases q : B < 0
          · exact ⟨-B, by omega, by rw [if_pos q], Or.inr (by omega)⟩
          · exact ⟨B, by omega, by rw [if_neg q], Or.inl rfl⟩
        obtain ⟨C, hC, eC, oC⟩ := hAp
        obtain ⟨D, hD, eD, oD⟩ := hBp
        rw [eC, eD] at h
        have q1 : (1000000000000 : Int).tdiv C = 1000000000000 / C := by rw [Int.tdiv_eq_ediv_of_nonneg (by omega)]
        have q2 : 1000000000000 / C ≤ 1000000000000 := Int.ediv_le_self _ (by omega)
        have q3 : 0 ≤ 1000000000000 / C := Int.ediv_nonneg (by omega) (by omega)
        rw [q1, Int.bmod_eq_of_le (by omega) (by omega)] at h
        have q4 : D ≤ 1000000000000 / C := by omega
        have q5 : D * C ≤ 1000000000000 := Int.le_trans (Int.mul_le_mul_of_nonneg_right q4 (by omega)) (Int.ediv_mul_le _ (by omega))
        have q6 : 0 ≤ D * C := Int.mul_nonneg hD (by omega)
        have e1 : C * D = D * C := Int.mul_comm _ _
        rcases oC with rfl | rfl <;> rcases oD with rfl | rfl
        · omega
        · rw [Int.mul_neg]; omega
        · rw [Int.neg_mul]; omega
        · rw [Int.neg_mul_neg]; omega
  unfold bd12
  rw [Int64.toInt_mul, Int.bmod_eq_of_le (by omega) (by omega)]
  exact key
theorem bd_div {a b : Int64} (ha : bd12 a) : bd12 (a / b) := by
  have a1 := ha.1
  have a2 := ha.2
  have key : -1000000000000 ≤ a.toInt.tdiv b.toInt ∧ a.toInt.tdiv b.toInt ≤ 1000000000000 := by
    have h := Int.natAbs_tdiv_le_natAbs a.toInt b.toInt
    omega
  unfold bd12
  rw [Int64.toInt_div, Int.bmod_eq_of_le (by omega) (by omega)]
  exact key
theorem jn_bd {K : Nat} {a b y : Int64} (ha : bd12 a) (hb : bd12 b) (h : jn K a b = some y) : bd12 y := by
  unfold jn at h
  by_cases k3 : K = 3
  · rw [if_pos k3] at h
    have e := Option.some.inj h
    subst e
    exact bd_ite bd_0 (bd_ite bd_0 bd_1)
  rw [if_neg k3] at h
  by_cases k4 : K = 4
  · rw [if_pos k4] at h
    have e := Option.some.inj h
    subst e
    exact bd_ite (bd_ite bd_0 bd_1) bd_1
  rw [if_neg k4] at h
  by_cases k5 : K = 5
  · rw [if_pos k5] at h
    have e := Option.some.inj h
    subst e
    exact bd_ite bd_1 bd_0
  rw [if_neg k5] at h
  by_cases k6 : K = 6
  · rw [if_pos k6] at h
    have e := Option.some.inj h
    subst e
    exact bd_ite bd_0 bd_1
  rw [if_neg k6] at h
  by_cases k7 : K = 7
  · rw [if_pos k7] at h
    have e := Option.some.inj h
    subst e
    exact bd_ite bd_1 bd_0
  rw [if_neg k7] at h
  by_cases k8 : K = 8
  · rw [if_pos k8] at h
    have e := Option.some.inj h
    subst e
    exact bd_ite bd_0 bd_1
  rw [if_neg k8] at h
  by_cases k9 : K = 9
  · rw [if_pos k9] at h
    have e := Option.some.inj h
    subst e
    exact bd_ite bd_0 bd_1
  rw [if_neg k9] at h
  by_cases k10 : K = 10
  · rw [if_pos k10] at h
    have e := Option.some.inj h
    subst e
    exact bd_ite bd_1 bd_0
  rw [if_neg k10] at h
  by_cases k11 : K = 11
  · rw [if_pos k11] at h
    have e := chk_some h
    rw [e.1]; exact e.2
  rw [if_neg k11] at h
  by_cases k12 : K = 12
  · rw [if_pos k12] at h
    have e := chk_some h
    rw [e.1]; exact e.2
  rw [if_neg k12] at h
  by_cases k13 : K = 13
  · rw [if_pos k13] at h
    by_cases z : a = 0
    · rw [if_pos z] at h
      have e := Option.some.inj h
      subst e
      exact bd_mul ha hb (Or.inl z)
    · rw [if_neg z] at h
      by_cases z2 : (1000000000000 : Int64) / ab6 a < ab6 b
      · rw [if_pos z2] at h; cases h
      · rw [if_neg z2] at h
        have e := Option.some.inj h
        subst e
        exact bd_mul ha hb (Or.inr z2)
  rw [if_neg k13] at h
  by_cases z : b = 0
  · rw [if_pos z] at h; cases h
  · rw [if_neg z] at h
    have e := Option.some.inj h
    subst e
    exact bd_div ha
/-! which knots a knot speaks of: the stack's depth and its places -/
def sd (K : Nat → Nat) : Nat → Nat
  | 0 => 0
  | j + 1 => if K j ≤ 1 then sd K j + 1 else if K j = 2 then sd K j else sd K j - 1
def sp (K : Nat → Nat) : Nat → Nat → Nat
  | 0, _ => 0
  | j + 1, i => if i + 1 = sd K (j + 1) then j else sp K j i
theorem sd_le (K : Nat → Nat) (j : Nat) : sd K j ≤ j := by
  induction j with
  | zero => exact Nat.le_refl _
  | succ j ih => rw [sd]; split; omega; split <;> omega
theorem sd_up (K : Nat → Nat) (j : Nat) : sd K (j + 1) ≤ sd K j + 1 := by
  rw [sd]; split; omega; split <;> omega
theorem sp_lt (K : Nat → Nat) : ∀ j i, i < sd K j → sp K j i < j := by
  intro j
  induction j with
  | zero => intro i h; rw [sd] at h; omega
  | succ j ih =>
    intro i h
    rw [sp]
    split
    · omega
    · have := sd_up K j
      have := ih i (by omega)
      omega
def lK (v : Vw) (a j : Nat) : Nat := v (21 + 2 * a) j
def lX (v : Vw) (a j : Nat) : Nat := v (22 + 2 * a) j
def vo (nm : Nat → Int64) (K X : Nat → Nat) (t : Nat → Int64) (j : Nat) : Option Int64 :=
  if K j = 0 then some (lN (X j)) else if K j = 1 then some (nm (X j)) else if K j = 2 then some (if t (sp K j (sd K j - 1)) = 0 then 1 else 0)
  else jn (K j) (t (sp K j (sd K j - 2))) (t (sp K j (sd K j - 1)))
def tb (nm : Nat → Int64) (K X : Nat → Nat) : Nat → Option (Nat → Int64)
  | 0 => some (fun _ => 0)
  | j + 1 => (tb nm K X j).bind fun t => (vo nm K X t j).bind fun x => some (fun i => if i = j then x else t i)
def evl (nm : Nat → Int64) (K X : Nat → Nat) (n : Nat) : Option Int64 := if n = 0 then none else (tb nm K X n).bind fun t => some (t (n - 1))
theorem tb_none {nm : Nat → Int64} {K X : Nat → Nat} {j : Nat} (h : tb nm K X j = none) : ∀ d, tb nm K X (j + d) = none := by
  intro d
  induction d with
  | zero => exact h
  | succ d ih => rw [← Nat.add_assoc, tb, ih]; rfl
/-- what the text's laws keep -/
def WL (v : Vw) : Prop := ∀ a, a < 2 → (∀ j, j < v 20 a → (lK v a j = 2 → 1 ≤ sd (lK v a) j) ∧ (3 ≤ lK v a j → 2 ≤ sd (lK v a) j)) ∧ (0 < v 20 a → sd (lK v a) (v 20 a) = 1)
def TL (w : Wd) (v : Vw) : Prop := ∀ a, a < 2 → 0 < v 20 a → ∃ f, f + v 20 a ≤ 64 ∧ gI w 92 0 a = nI f ∧ gI w 93 0 a = nI (f + v 20 a) ∧ ∀ j, j < v 20 a →
  gI w 94 0 (f + j) = nI (lK v a j) ∧ (lK v a j ≤ 1 → gI w 95 0 (f + j) = nI (lX v a j)) ∧ (2 ≤ lK v a j → gI w 95 0 (f + j) = nI (f + sp (lK v a) j (sd (lK v a) j - (if lK v a j = 2 then 1 else 2)))) ∧
  (3 ≤ lK v a j → gI w 96 0 (f + j) = nI (f + sp (lK v a) j (sd (lK v a) j - 1)))
def kTL : List Nat := [92, 93, 94, 95, 96]
theorem TL_fr {l : List Nat} {w w' : Wd} {v : Vw} (f : Fr l w w') (T : TL w v) (hl : dis l kTL = true := by decide) : TL w' v := by
  have e92 : ∀ i j, gI w' 92 i j = gI w 92 i j := fun i j => (f 92 i j (dis_of hl (k := 92) (by decide))).1
  have e93 : ∀ i j, gI w' 93 i j = gI w 93 i j := fun i j => (f 93 i j (dis_of hl (k := 93) (by decide))).1
  have e94 : ∀ i j, gI w' 94 i j = gI w 94 i j := fun i j => (f 94 i j (dis_of hl (k := 94) (by decide))).1
  have e95 : ∀ i j, gI w' 95 i j = gI w 95 i j := fun i j => (f 95 i j (dis_of hl (k := 95) (by decide))).1
  have e96 : ∀ i j, gI w' 96 i j = gI w 96 i j := fun i j => (f 96 i j (dis_of hl (k := 96) (by decide))).1
  unfold TL at T ⊢
  simp only [e92, e93, e94, e95, e96]
  exact T
/-! the class's join -/
section
variable {N : Nat} {w : Wd}
theorem c_abs (x : Int64) : pJ9_abs_067f4 N x w = some (ab6 x, w) := by
  unfold pJ9_abs_067f4 ab6
  simp only [lg_lt]
  split <;> rfl
theorem jI {a b : Nat} (ha : a < 2 ^ 31) (hb : b < 2 ^ 31) : (nI a = nI b) = (a = b) := propext (nI_eq ha hb)
theorem c_join {K : Nat} (h3 : 3 ≤ K) (h14 : K ≤ 14) {a b : Int64} (ha : bd12 a) (hb : bd12 b) : Ok (pX1_join N (nI (tko K)) a b w) (fun r => r.2 = w ∧ chk r.1 = jn K a b) := by
  have hK : K = 3 ∨ K = 4 ∨ K = 5 ∨ K = 6 ∨ K = 7 ∨ K = 8 ∨ K = 9 ∨ K = 10 ∨ K = 11 ∨ K = 12 ∨ K = 13 ∨ K = 14 := by omega
  have c0 := chk_of bd_0
  have c1 := chk_of bd_1
  rcases hK with rfl | rfl | rfl | rfl | rfl | rfl | rfl | rfl | rfl | rfl | rfl | rfl
  all_goals simp (disch := first | assumption | omega) only [pX1_join, tko, jn, nI_eq, lg_lt, lg_gt, lg_eq, lgn_lt, lgn_gt, lgn_eq, callW_eq, Option.bind_some, li0, li1, li2, li3, li4, li5, li6, li7, li8, li9, li10, li11, li12, li13, li14, li15, li16, li17, li18, li19, li20, li21, li22, li23, li24, li25, li26, li27, li28, li29, li30, li31, li32, li33, li34, li35, li36, li37, li38, li39, li40, li41, li42, li43, li44, li45, li47, li48, li50, li56, li57, li59, li60, li61, li62, li63, li64, li90, li96, li97, li99, li100, li122, li200, li255, li256, li900, li999, li1000, li9999, li65536, li99999, li1000000, li1048576, gg_I, gg_LI, gg_RI, gg_L, gg_IL, gg_RL, gg_R, gg_IR, gg_LR, gg_row, gg_Lrow, gg_Rrow, nI_add, pk_mul, Nat.reduceEqDiff, Nat.reduceAdd, Nat.reduceSub, Nat.reduceMul, Nat.reducePow, Nat.reduceLT, Nat.reduceLeDiff, ↓reduceIte, reduceCtorEq, and_true, true_and, and_false, false_and, and_self, not_true_eq_false, not_false_eq_true, if_true, if_false]
  · by_cases q : a = 0
    · simp only [q, if_true]; exact ok_some ⟨rfl, c0⟩
    · by_cases q2 : b = 0
      · simp only [q, q2, if_true, if_false]; exact ok_some ⟨rfl, c0⟩
      · simp only [q, q2, if_false]; exact ok_some ⟨rfl, c1⟩
  · by_cases q : a = 0
    · by_cases q2 : b = 0
      · simp only [q, q2, if_true]; exact ok_some ⟨rfl, c0⟩
      · simp only [q, q2, if_true, if_false]; exact ok_some ⟨rfl, c1⟩
    · simp only [q, if_false]; exact ok_some ⟨rfl, c1⟩
  · split <;> exact ok_some ⟨rfl, by assumption⟩
  · split <;> exact ok_some ⟨rfl, by assumption⟩
  · split <;> exact ok_some ⟨rfl, by assumption⟩
  · split <;> exact ok_some ⟨rfl, by assumption⟩
  · split <;> exact ok_some ⟨rfl, by assumption⟩
  · split <;> exact ok_some ⟨rfl, by assumption⟩
  · exact ok_some ⟨rfl, rfl⟩
  · exact ok_some ⟨rfl, rfl⟩
  · by_cases q : a = 0
    · simp only [q, if_true]
      exact ok_some ⟨rfl, chk_of (bd_mul bd_0 hb (Or.inl rfl))⟩
    · simp only [q, if_false, c_abs, Option.bind_some, if_neg (ab6_ne q)]
      by_cases q2 : (1000000000000 : Int64) / ab6 a < ab6 b
      · simp only [q2, if_true]; exact ok_some ⟨rfl, chk_min⟩
      · simp only [q2, if_false]; exact ok_some ⟨rfl, chk_of (bd_mul ha hb (Or.inr q2))⟩
  · by_cases q : b = 0
    · simp only [q, if_true]; exact ok_some ⟨rfl, chk_min⟩
    · simp only [q, if_false]; exact ok_some ⟨rfl, chk_of (bd_div ha)⟩
end

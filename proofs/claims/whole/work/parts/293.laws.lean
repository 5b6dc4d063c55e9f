/-! ===== laws: levels, ranks, values ===== -/
def rnk (o : Nat) : Nat := if o = 2 then 3 else if o = 3 then 2 else if o = 4 then 1 else if o < 5 then 0 else if o < 11 then 4 else if o < 13 then 5 else 6
def tkS (o : Nat) : Nat := if o = 0 then 33 else tko o
def lvK (K : Nat) : Nat := if 39 ≤ K ∧ K ≤ 44 then 4 else if K = 16 then 1 else if K = 17 then 2 else if K = 18 then 3 else if K = 35 ∨ K = 36 then 5 else if K = 37 ∨ K = 38 then 6 else 0
def lv8 (a : Int32) : Int32 := if a = (16 : Int32) then (1 : Int32) else if a = (17 : Int32) then (2 : Int32) else if a = (18 : Int32) then (3 : Int32) else if a = (19 : Int32) then (0 : Int32) else if a = (20 : Int32) then (0 : Int32) else if a = (21 : Int32) then (0 : Int32) else if a = (22 : Int32) then (0 : Int32) else if a = (23 : Int32) then (0 : Int32) else if a = (24 : Int32) then (0 : Int32) else if a = (25 : Int32) then (0 : Int32) else if a = (26 : Int32) then (0 : Int32) else if a = (27 : Int32) then (0 : Int32) else if a = (28 : Int32) then (0 : Int32) else if a = (29 : Int32) then (0 : Int32) else if a = (30 : Int32) then (0 : Int32) else if a = (31 : Int32) then (0 : Int32) else if a = (32 : Int32) then (0 : Int32) else if a = (33 : Int32) then (0 : Int32) else if a = (34 : Int32) then (0 : Int32) else if a = (35 : Int32) then (5 : Int32) else if a = (36 : Int32) then (5 : Int32) else if a = (37 : Int32) then (6 : Int32) else if a = (38 : Int32) then (6 : Int32) else (0 : Int32)
def lv (a : Int32) : Int32 := if a < (39 : Int32) then lv8 a else if (44 : Int32) < a then lv8 a else (4 : Int32)
section
variable {N : Nat} {w w' w0 w1 wc wm : Wd} {b : Nat → Nat} {n m d k i : Nat} {u u' : Vw}
theorem c_lv8 (a : Int32) : fX7_level_8 N a w = some (lv8 a, w) := by
  unfold fX7_level_8 lv8
  by_cases h16 : a = (16 : Int32)
  · rw [if_pos h16, if_pos h16]
  rw [if_neg h16, if_neg h16]
  by_cases h17 : a = (17 : Int32)
  · rw [if_pos h17, if_pos h17]
  rw [if_neg h17, if_neg h17]
  by_cases h18 : a = (18 : Int32)
  · rw [if_pos h18, if_pos h18]
  rw [if_neg h18, if_neg h18]
  by_cases h19 : a = (19 : Int32)
  · rw [if_pos h19, if_pos h19]
  rw [if_neg h19, if_neg h19]
  by_cases h20 : a = (20 : Int32)
  · rw [if_pos h20, if_pos h20]
  rw [if_neg h20, if_neg h20]
  by_cases h21 : a = (21 : Int32)
  · rw [if_pos h21, if_pos h21]
  rw [if_neg h21, if_neg h21]
  by_cases h22 : a = (22 : Int32)
  · rw [if_pos h22, if_pos h22]
  rw [if_neg h22, if_neg h22]
  by_cases h23 : a = (23 : Int32)
  · rw [if_pos h23, if_pos h23]
  rw [if_neg h23, if_neg h23]
  by_cases h24 : a = (24 : Int32)
  · rw [if_pos h24, if_pos h24]
  rw [if_neg h24, if_neg h24]
  by_cases h25 : a = (25 : Int32)
  · rw [if_pos h25, if_pos h25]
  rw [if_neg h25, if_neg h25]
  by_cases h26 : a = (26 : Int32)
  · rw [if_pos h26, if_pos h26]
  rw [if_neg h26, if_neg h26]
  by_cases h27 : a = (27 : Int32)
  · rw [if_pos h27, if_pos h27]
  rw [if_neg h27, if_neg h27]
  by_cases h28 : a = (28 : Int32)
  · rw [if_pos h28, if_pos h28]
  rw [if_neg h28, if_neg h28]
  by_cases h29 : a = (29 : Int32)
  · rw [if_pos h29, if_pos h29]
  rw [if_neg h29, if_neg h29]
  by_cases h30 : a = (30 : Int32)
  · rw [if_pos h30, if_pos h30]
  rw [if_neg h30, if_neg h30]
  by_cases h31 : a = (31 : Int32)
  · rw [if_pos h31, if_pos h31]
  rw [if_neg h31, if_neg h31]
  by_cases h32 : a = (32 : Int32)
  · rw [if_pos h32, if_pos h32]
  rw [if_neg h32, if_neg h32]
  by_cases h33 : a = (33 : Int32)
  · rw [if_pos h33, if_pos h33]
  rw [if_neg h33, if_neg h33]
  by_cases h34 : a = (34 : Int32)
  · rw [if_pos h34, if_pos h34]
  rw [if_neg h34, if_neg h34]
  by_cases h35 : a = (35 : Int32)
  · rw [if_pos h35, if_pos h35]
  rw [if_neg h35, if_neg h35]
  by_cases h36 : a = (36 : Int32)
  · rw [if_pos h36, if_pos h36]
  rw [if_neg h36, if_neg h36]
  by_cases h37 : a = (37 : Int32)
  · rw [if_pos h37, if_pos h37]
  rw [if_neg h37, if_neg h37]
  by_cases h38 : a = (38 : Int32)
  · rw [if_pos h38, if_pos h38]
  rw [if_neg h38, if_neg h38]
theorem c_lev (a : Int32) : pX7_level N a w = some (lv a, w) := by
  unfold pX7_level lv
  rw [callW_eq, c_lv8]
  split
  · rfl
  · split <;> rfl
theorem lv_K : ∀ K, K < 64 → lv (kC K) = nI (lvK K) := by decide +kernel
theorem lv_S : ∀ o, o < 15 → o ≠ 1 → lv (nI (tkS o)) = nI (rnk o) ∧ lvK (tkS o) = rnk o ∧ kC (tkS o) = nI (tkS o) ∧ tkS o < 64 := by decide +kernel
/-- rank -/
def rkI (a : Int32) : Int32 := if a < (13 : Int32) then (if a < (11 : Int32) then (if a < (5 : Int32) then (if a = (2 : Int32) then (3 : Int32) else if a = (3 : Int32) then (2 : Int32) else if a = (4 : Int32) then (1 : Int32) else (0 : Int32)) else (4 : Int32)) else (5 : Int32)) else (6 : Int32)
theorem m_rk (a : Int32) : pX12_rank N a w = some (rkI a, w) := by
  unfold pX12_rank rkI
  by_cases h1 : a < (13 : Int32)
  · rw [if_pos h1, if_pos h1]
    by_cases h2 : a < (11 : Int32)
    · rw [if_pos h2, if_pos h2]
      by_cases h3 : a < (5 : Int32)
      · rw [if_pos h3, if_pos h3]
        by_cases h4 : a = (2 : Int32)
        · rw [if_pos h4, if_pos h4]
        rw [if_neg h4, if_neg h4]
        by_cases h5 : a = (3 : Int32)
        · rw [if_pos h5, if_pos h5]
        rw [if_neg h5, if_neg h5]
        by_cases h6 : a = (4 : Int32)
        · rw [if_pos h6, if_pos h6]
        rw [if_neg h6, if_neg h6]
      · rw [if_neg h3, if_neg h3]
    · rw [if_neg h2, if_neg h2]
  · rw [if_neg h1, if_neg h1]
theorem rnk_I : ∀ o, o < 15 → rkI (nI o) = nI (rnk o) := by decide +kernel
theorem rnk_f : ∀ o, o < 15 → rnk o ≤ 6 ∧ (2 ≤ o → 1 ≤ rnk o) ∧ (3 ≤ o → rnk o ≠ 3) ∧ (o = 0 → rnk o = 0) := by decide +kernel
theorem m_rank {o : Nat} (h : o < 15) : pX12_rank N (nI o) w = some (nI (rnk o), w) := by rw [m_rk, rnk_I o h]
theorem c_levS {o : Nat} (h : o < 15) (h1 : o ≠ 1) : pX7_level N (nI (tkS o)) w = some (nI (rnk o), w) := by rw [c_lev, (lv_S o h h1).1]
theorem c_levK {K : Nat} (h : K < 64) : pX7_level N (kC K) w = some (nI (lvK K), w) := by rw [c_lev, lv_K K h]
/-- values -/
def isV (K : Nat) : Bool := K == 61 || K == 4 || K == 9 || (decide (19 ≤ K) && decide (K ≤ 23))
def vlI (a : Int32) : Int32 := if a = (-3 : Int32) then (1 : Int32) else if a = (4 : Int32) then (1 : Int32) else if a = (9 : Int32) then (1 : Int32) else if a < (19 : Int32) then (0 : Int32) else if (23 : Int32) < a then (0 : Int32) else (1 : Int32)
theorem c_vl (a : Int32) : pX7_isValue N a w = some (vlI a, w) := by
  unfold pX7_isValue vlI
  rw [callW_eq]
  unfold pX10_isName
  by_cases h1 : a = (-3 : Int32)
  · rw [if_pos h1, if_pos h1]
  rw [if_neg h1, if_neg h1]
  by_cases h2 : a = (4 : Int32)
  · rw [if_pos h2, if_pos h2]; rfl
  rw [if_neg h2, if_neg h2]
  by_cases h3 : a = (9 : Int32)
  · rw [if_pos h3, if_pos h3]; rfl
  rw [if_neg h3, if_neg h3]
  by_cases h4 : a < (19 : Int32)
  · rw [if_pos h4, if_pos h4]; rfl
  rw [if_neg h4, if_neg h4]
  by_cases h5 : (23 : Int32) < a
  · rw [if_pos h5, if_pos h5]; rfl
  rw [if_neg h5, if_neg h5]; rfl
theorem vl_K : ∀ K, K < 64 → vlI (kC K) = zB (isV K) := by decide +kernel
theorem c_isVal {K : Nat} (h : K < 64) : pX7_isValue N (kC K) w = some (zB (isV K), w) := by rw [c_vl, vl_K K h]
/-- names in the reference: 7 where there is none -/
def nmX (K : Nat) : Nat := if K = 19 then 0 else if K = 20 then 1 else if K = 9 then 2 else if K = 21 then 3 else if K = 22 then 4 else if K = 4 then 5 else if K = 23 then 6 else 7
theorem nmX_f : ∀ K, K < 64 → (nmX K < 7 ↔ isV K = true ∧ K ≠ 61) ∧ nmX K ≤ 7 ∧ (nmX K < 7 → tkn (nmX K) = K) := by decide +kernel
def nmW (a : Int32) : Int32 := if a = (3 : Int32) then (2 : Int32) else if a = (4 : Int32) then (-1 : Int32) else if a = (5 : Int32) then (-1 : Int32) else if a = (6 : Int32) then (-1 : Int32) else if a = (7 : Int32) then (-1 : Int32) else if a = (8 : Int32) then (-1 : Int32) else if a = (9 : Int32) then (-1 : Int32) else if a = (10 : Int32) then (5 : Int32) else if a = (11 : Int32) then (-1 : Int32) else if a = (12 : Int32) then (-1 : Int32) else if a = (13 : Int32) then (-1 : Int32) else if a = (14 : Int32) then (-1 : Int32) else if a = (15 : Int32) then (-1 : Int32) else if a = (16 : Int32) then (-1 : Int32) else if a = (17 : Int32) then (-1 : Int32) else if a = (18 : Int32) then (-1 : Int32) else if a = (19 : Int32) then (0 : Int32) else if a = (20 : Int32) then (1 : Int32) else if a = (21 : Int32) then (3 : Int32) else if a = (22 : Int32) then (4 : Int32) else if a = (23 : Int32) then (6 : Int32) else (-1 : Int32)
theorem nmW_K : ∀ K, K < 24 → nmW (nI (wrL.getD K 0)) = (if nmX K < 7 then nI (nmX K) else (-1 : Int32)) := by decide +kernel
theorem m_nmW (q : (gI w 16 0 8 = (1 : Int32)) = True) : pX12_nameMet N w = some (nmW (gI w 16 0 9), w) := by
  unfold pX12_nameMet nmW
  simp only [↓q, ↓reduceIte]
  by_cases h3 : gI w 16 0 9 = (3 : Int32)
  · rw [if_pos h3, if_pos h3]
  rw [if_neg h3, if_neg h3]
  by_cases h4 : gI w 16 0 9 = (4 : Int32)
  · rw [if_pos h4, if_pos h4]
  rw [if_neg h4, if_neg h4]
  by_cases h5 : gI w 16 0 9 = (5 : Int32)
  · rw [if_pos h5, if_pos h5]
  rw [if_neg h5, if_neg h5]
  by_cases h6 : gI w 16 0 9 = (6 : Int32)
  · rw [if_pos h6, if_pos h6]
  rw [if_neg h6, if_neg h6]
  by_cases h7 : gI w 16 0 9 = (7 : Int32)
  · rw [if_pos h7, if_pos h7]
  rw [if_neg h7, if_neg h7]
  by_cases h8 : gI w 16 0 9 = (8 : Int32)
  · rw [if_pos h8, if_pos h8]
  rw [if_neg h8, if_neg h8]
  by_cases h9 : gI w 16 0 9 = (9 : Int32)
  · rw [if_pos h9, if_pos h9]
  rw [if_neg h9, if_neg h9]
  by_cases h10 : gI w 16 0 9 = (10 : Int32)
  · rw [if_pos h10, if_pos h10]
  rw [if_neg h10, if_neg h10]
  by_cases h11 : gI w 16 0 9 = (11 : Int32)
  · rw [if_pos h11, if_pos h11]
  rw [if_neg h11, if_neg h11]
  by_cases h12 : gI w 16 0 9 = (12 : Int32)
  · rw [if_pos h12, if_pos h12]
  rw [if_neg h12, if_neg h12]
  by_cases h13 : gI w 16 0 9 = (13 : Int32)
  · rw [if_pos h13, if_pos h13]
  rw [if_neg h13, if_neg h13]
  by_cases h14 : gI w 16 0 9 = (14 : Int32)
  · rw [if_pos h14, if_pos h14]
  rw [if_neg h14, if_neg h14]
  by_cases h15 : gI w 16 0 9 = (15 : Int32)
  · rw [if_pos h15, if_pos h15]
  rw [if_neg h15, if_neg h15]
  by_cases h16 : gI w 16 0 9 = (16 : Int32)
  · rw [if_pos h16, if_pos h16]
  rw [if_neg h16, if_neg h16]
  by_cases h17 : gI w 16 0 9 = (17 : Int32)
  · rw [if_pos h17, if_pos h17]
  rw [if_neg h17, if_neg h17]
  by_cases h18 : gI w 16 0 9 = (18 : Int32)
  · rw [if_pos h18, if_pos h18]
  rw [if_neg h18, if_neg h18]
  by_cases h19 : gI w 16 0 9 = (19 : Int32)
  · rw [if_pos h19, if_pos h19]
  rw [if_neg h19, if_neg h19]
  by_cases h20 : gI w 16 0 9 = (20 : Int32)
  · rw [if_pos h20, if_pos h20]
  rw [if_neg h20, if_neg h20]
  by_cases h21 : gI w 16 0 9 = (21 : Int32)
  · rw [if_pos h21, if_pos h21]
  rw [if_neg h21, if_neg h21]
  by_cases h22 : gI w 16 0 9 = (22 : Int32)
  · rw [if_pos h22, if_pos h22]
  rw [if_neg h22, if_neg h22]
  by_cases h23 : gI w 16 0 9 = (23 : Int32)
  · rw [if_pos h23, if_pos h23]
  rw [if_neg h23, if_neg h23]
theorem m_nameMet (h : JM w b n k) : pX12_nameMet N w = some (if nmX (tK b n k) < 7 then nI (nmX (tK b n k)) else (-1 : Int32), w) := by
  by_cases y : tK b n k < 24
  · rw [m_nmW (eq_true ((JM_8 h).2.1.mpr y)), ((JM_kd h).1 y).2, nmW_K _ y]
  · have q : (gI w 16 0 8 = (1 : Int32)) = False := eq_false (fun z => y ((JM_8 h).2.1.mp z))
    have no : ¬ nmX (tK b n k) < 7 := fun z => by
      unfold nmX at z
      have : tK b n k ≠ 19 ∧ tK b n k ≠ 20 ∧ tK b n k ≠ 9 ∧ tK b n k ≠ 21 ∧ tK b n k ≠ 22 ∧ tK b n k ≠ 4 ∧ tK b n k ≠ 23 := by omega
      obtain ⟨a1, a2, a3, a4, a5, a6, a7⟩ := this
      rw [if_neg a1, if_neg a2, if_neg a3, if_neg a4, if_neg a5, if_neg a6, if_neg a7] at z
      omega
    rw [if_neg no]
    simp only [pX12_nameMet, ↓q, ↓reduceIte]
/-! knots -/
def up1 (g : Nat → Nat) (j x : Nat) : Nat → Nat := fun i => if i = j then x else g i
theorem up1_e {g : Nat → Nat} {j x : Nat} : up1 g j x j = x := if_pos rfl
theorem up1_n {g : Nat → Nat} {j x i : Nat} (h : i ≠ j) : up1 g j x i = g i := if_neg h
theorem sd_ext {K K' : Nat → Nat} : ∀ j, (∀ i, i < j → K' i = K i) → sd K' j = sd K j := by
  intro j
  induction j with
  | zero => intro _; rfl
  | succ j ih => intro h; rw [sd, sd, h j (by omega), ih (fun i hi => h i (by omega))]
theorem sp_ext {K K' : Nat → Nat} : ∀ j, (∀ i, i < j → K' i = K i) → ∀ i, sp K' j i = sp K j i := by
  intro j
  induction j with
  | zero => intro _ _; rfl
  | succ j ih => intro h i; rw [sp, sp, sd_ext (j + 1) h, ih (fun i hi => h i (by omega)) i]
def PF (f j s C op : Nat) (K X st : Nat → Nat) (wt : Bool) : Prop :=
  f + j + cnt (fun i => decide (2 ≤ st i)) s = C ∧ C ≤ 64 ∧ op ≤ 8 ∧ cnt (fun i => st i == 0) s = op ∧ s = op + cnt (fun i => decide (2 ≤ st i)) s ∧ (∀ i, i < s → st i = 0 ∨ (2 ≤ st i ∧ st i ≤ 14)) ∧ sd K j = cnt (fun i => decide (3 ≤ st i)) s + (if wt then 0 else 1) ∧
  ∀ i, i < j → K i ≤ 14 ∧ X i ≤ 9999 ∧ (K i = 1 → X i ≤ 6) ∧ (K i = 2 → 1 ≤ sd K i) ∧ (3 ≤ K i → 2 ≤ sd K i)
variable {f j s C op : Nat} {K X st : Nat → Nat} {wt : Bool}
theorem PF_pop (h : PF f j (s + 1) C op K X st false) (h2 : 2 ≤ st s) : PF f (j + 1) s C op (up1 K j (st s)) (up1 X j 0) st false ∧ (st s = 2 → 1 ≤ sd K j) ∧ (3 ≤ st s → 2 ≤ sd K j) := by
  obtain ⟨h1, hC, h8, h4, h5, h6, h7, h9⟩ := h
  rw [cnt, if_pos (by simp only [decide_eq_true_eq]; exact h2)] at h1 h5
  rw [cnt, if_neg (by simp only [beq_iff_eq]; omega)] at h4
  rw [cnt] at h7
  have e1 := sd_ext (K := K) (K' := up1 K j (st s)) j (fun i hi => up1_n (by omega))
  have h14 := h6 s (by omega)
  simp only [Bool.false_eq_true, if_false] at h7
  have k2 : st s = 2 → 1 ≤ sd K j := fun _ => by omega
  have k3 : 3 ≤ st s → 2 ≤ sd K j := fun z => by
    rw [if_pos (by simp only [decide_eq_true_eq]; exact z)] at h7
    omega
  refine ⟨⟨by omega, hC, h8, by omega, by omega, fun i hi => h6 i (by omega), ?_, fun i hi => ?_⟩, k2, k3⟩
  · rw [sd, up1_e, if_neg (by omega), e1]
    simp only [Bool.false_eq_true, if_false]
    by_cases z : st s = 2
    · rw [if_pos z]
      rw [if_neg (by simp only [decide_eq_true_eq]; omega)] at h7
      omega
    · rw [if_neg z]
      rw [if_pos (by simp only [decide_eq_true_eq]; omega)] at h7
      omega
  · have e2 := sd_ext (K := K) (K' := up1 K j (st s)) i (fun i' hi' => up1_n (by omega))
    rw [e2]
    rcases Nat.lt_or_ge i j with z | z
    · rw [up1_n (by omega), up1_n (by omega)]
      exact h9 i z
    · have : i = j := by omega
      subst this
      rw [up1_e, up1_e]
      exact ⟨by omega, by omega, by omega, k2, k3⟩
theorem cnt_up {p : Nat → Bool} {o : Nat} : cnt (fun i => p (up1 st s o i)) (s + 1) = cnt (fun i => p (st i)) s + if p o then 1 else 0 := by
  rw [cnt]
  congr 1
  · exact cnt_ext (fun i hi => by rw [up1_n (by omega)])
  · rw [up1_e]
theorem PF_push {o : Nat} {wt' : Bool} (h : PF f j s C op K X st wt) (ho : 2 ≤ o) (ho2 : o ≤ 14) (hC : C < 64) (hw : (o = 2 ∧ wt' = wt) ∨ (3 ≤ o ∧ wt = false ∧ wt' = true)) : PF f j (s + 1) (C + 1) op K X (up1 st s o) wt' := by
  obtain ⟨h1, _, h8, h4, h5, h6, h7, h9⟩ := h
  have c2 := cnt_up (st := st) (s := s) (o := o) (p := fun x => decide (2 ≤ x))
  have c0 := cnt_up (st := st) (s := s) (o := o) (p := fun x => x == 0)
  have c3 := cnt_up (st := st) (s := s) (o := o) (p := fun x => decide (3 ≤ x))
  rw [if_pos (by simp only [decide_eq_true_eq]; exact ho)] at c2
  rw [if_neg (by simp only [beq_iff_eq]; omega)] at c0
  refine ⟨by rw [c2]; omega, by omega, h8, by rw [c0]; omega, by rw [c2]; omega, fun i hi => ?_, ?_, h9⟩
  · rcases Nat.lt_or_ge i s with z | z
    · rw [up1_n (by omega)]; exact h6 i z
    · have : i = s := by omega
      subst this
      rw [up1_e]; omega
  · rw [c3, h7]
    rcases hw with ⟨rfl, rfl⟩ | ⟨h3, rfl, rfl⟩
    · rfl
    · rw [if_pos (show decide (3 ≤ o) = true from decide_eq_true h3)]
      simp only [Bool.false_eq_true, if_false, if_true]
theorem PF_open (h : PF f j s C op K X st true) (h8' : op < 8) : PF f j (s + 1) C (op + 1) K X (up1 st s 0) true := by
  obtain ⟨h1, hC, h8, h4, h5, h6, h7, h9⟩ := h
  have c2 := cnt_up (st := st) (s := s) (o := 0) (p := fun x => decide (2 ≤ x))
  have c0 := cnt_up (st := st) (s := s) (o := 0) (p := fun x => x == 0)
  have c3 := cnt_up (st := st) (s := s) (o := 0) (p := fun x => decide (3 ≤ x))
  rw [if_neg (by decide)] at c2 c3
  rw [if_pos (by decide)] at c0
  refine ⟨by rw [c2]; omega, hC, by omega, by rw [c0]; omega, by rw [c2]; omega, fun i hi => ?_, by rw [c3, h7]; rfl, h9⟩
  rcases Nat.lt_or_ge i s with z | z
  · rw [up1_n (by omega)]; exact h6 i z
  · have : i = s := by omega
    subst this
    rw [up1_e]; omega
theorem PF_leaf {c x : Nat} (h : PF f j s C op K X st true) (hC : C < 64) (hc : c ≤ 1) (hx : x ≤ 9999) (hcx : c = 1 → x ≤ 6) : PF f (j + 1) s (C + 1) op (up1 K j c) (up1 X j x) st false := by
  obtain ⟨h1, _, h8, h4, h5, h6, h7, h9⟩ := h
  have e1 := sd_ext (K := K) (K' := up1 K j c) j (fun i hi => up1_n (by omega))
  refine ⟨by omega, by omega, h8, h4, h5, h6, ?_, fun i hi => ?_⟩
  · rw [sd, up1_e, if_pos hc, e1, h7]
    rfl
  · have e2 := sd_ext (K := K) (K' := up1 K j c) i (fun i' hi' => up1_n (by omega))
    rw [e2]
    rcases Nat.lt_or_ge i j with z | z
    · rw [up1_n (by omega), up1_n (by omega)]
      exact h9 i z
    · have : i = j := by omega
      subst this
      rw [up1_e, up1_e]
      exact ⟨by omega, hx, hcx, by omega, by omega⟩
theorem PF_close (h : PF f j (s + 1) C op K X st false) (h0 : st s = 0) : 0 < op ∧ PF f j s C (op - 1) K X st false := by
  obtain ⟨h1, hC, h8, h4, h5, h6, h7, h9⟩ := h
  rw [cnt, if_neg (by simp only [decide_eq_true_eq]; omega)] at h1 h5 h7
  rw [cnt, if_pos (by simp only [beq_iff_eq]; exact h0)] at h4
  exact ⟨by omega, by omega, hC, by omega, by omega, by omega, fun i hi => h6 i (by omega), h7, h9⟩
end

/-! ===== the reference's value of a knot ===== -/
theorem fput0 (w : Wd) (k i f : Nat) : fput w k i f 1 (0, 0, 0) (.inl (nI 0)) = some (setI w k i f (nI 0)) := by
  simp only [fput]
  rw [if_pos (Or.inr (by decide))]
theorem fput1 (w : Wd) (k i f : Nat) : fput w k i f 1 (0, 0, 0) (.inl (nI 1)) = some (setI w k i f (nI 1)) := by
  simp only [fput]
  rw [if_pos (Or.inr (by decide))]
theorem div_ge0 {a : Int64} (ha : bd12 a) (h0 : a ≠ 0) : ¬ (1000000000000 : Int64) / ab6 a < ab6 0 := by
  rw [Int64.lt_iff_toInt_lt, Int64.toInt_div, t12, ab6_toInt ha, ab6_toInt bd_0, t00]
  have a1 := ha.1
  have a2 := ha.2
  have hz : a.toInt ≠ 0 := fun q => h0 (Int64.toInt_inj.mp (by rw [q, t00]))
  generalize a.toInt = A at *
  have hAp : ∃ C : Int, 0 < C ∧ (if A < 0 then -A else A) = C := by
    by_cases q : A < 0
    · exact ⟨-A, by omega, by rw [if_pos q]⟩
    · exact ⟨A, by omega, by rw [if_neg q]⟩
  obtain ⟨C, hC, eC⟩ := hAp
  have q1 : (1000000000000 : Int).tdiv C = 1000000000000 / C := by rw [Int.tdiv_eq_ediv_of_nonneg (by omega)]
  have q2 : 1000000000000 / C ≤ 1000000000000 := Int.ediv_le_self _ (by omega)
  have q3 : 0 ≤ 1000000000000 / C := Int.ediv_nonneg (by omega) (by omega)
  rw [eC, q1, Int.bmod_eq_of_le (by omega) (by omega)]
  simp
  omega
theorem bnd {α β : Type} {o : Option α} {r : α} (h : o = some r) (f : α → Option β) : o.bind f = f r := by rw [h]; rfl
theorem cbnd {α β : Type} {p : Wd → Option α} {w : Wd} {r : α} (h : p w = some r) (f : α → Option β) : (callW p w).bind f = f r := by rw [callW_eq, h]; rfl
section
variable {N : Nat} {w : Wd}
/-- with or without an error so far -/
def vQ (w : Wd) (o : Option Int64) (r : Int64 × Wd) : Prop := Fr [17063] w r.2 ∧ (∀ x, o = some x → r.1 = x ∧ gI r.2 16 0 63 = nI 0) ∧ (o = none → gI r.2 16 0 63 = nI 1)
theorem vQ_some {x : Int64} (h : gI w 16 0 63 = nI 0) : vQ w (some x) (x, w) := ⟨Fr_refl _ _, fun _ e => ⟨Option.some.inj e, h⟩, fun e => by cases e⟩
theorem vQ_set0 {x : Int64} : vQ w (some x) (x, setI w 16 0 63 (nI 0)) := ⟨Fr_setI (Fr_refl _ _) rfl, fun _ e => ⟨Option.some.inj e, by rw [gg_I]; exact if_pos ⟨rfl, rfl, rfl⟩⟩, fun e => by cases e⟩
theorem vQ_set1 {x : Int64} : vQ w none (x, setI w 16 0 63 (nI 1)) := ⟨Fr_setI (Fr_refl _ _) rfl, fun _ e => (by cases e), fun _ => by rw [gg_I]; exact if_pos ⟨rfl, rfl, rfl⟩⟩
theorem vQ_one {x : Int64} (h : gI w 16 0 63 = nI 1) : vQ w none (x, w) := ⟨Fr_refl _ _, fun _ e => (by cases e), fun _ => h⟩
theorem m_bounded0 (x : Int64) (h : gI w 16 0 63 = nI 0) : Ok (pX12_bounded N x w) (vQ w (chk x)) := by
  unfold chk
  by_cases q : (1000000000000 : Int64) < x
  · simp only [pX12_bounded, fX12_bounded_12, fX12_bounded_15, h, lg_lt, lg_gt, lg_eq, lgn_lt, lgn_gt, lgn_eq, q, callW_eq, li0, li1, fput1, Option.bind_some, gg_I, true_and, and_self, if_true]
    rw [if_neg (by decide)]
    exact ok_some vQ_set1
  · by_cases q2 : x < (-1000000000000 : Int64)
    · simp only [pX12_bounded, fX12_bounded_12, fX12_bounded_15, h, lg_lt, lg_gt, lg_eq, lgn_lt, lgn_gt, lgn_eq, q, q2, callW_eq, li0, li1, fput1, Option.bind_some, gg_I, true_and, and_self, if_true, if_false]
      rw [if_neg (by decide)]
      exact ok_some vQ_set1
    · simp only [pX12_bounded, fX12_bounded_12, fX12_bounded_15, h, lg_lt, lg_gt, lg_eq, lgn_lt, lgn_gt, lgn_eq, q, q2, callW_eq, li0, li1, fput0, Option.bind_some, gg_I, true_and, and_self, if_true, if_false]
      exact ok_some vQ_set0
theorem m_bounded1 (x : Int64) (h : gI w 16 0 63 = nI 1) : Ok (pX12_bounded N x w) (vQ w none) := by
  have n10 : ¬ nI 1 = nI 0 := by decide
  simp only [pX12_bounded, fX12_bounded_12, fX12_bounded_15, h, n10, callW_eq, li0, li1, fput1, Option.bind_some, gg_I, true_and, and_self, if_true, if_false]
  exact ok_some vQ_set1
theorem m_times0 {a b : Int64} (ha : bd12 a) (hb : bd12 b) (h : gI w 16 0 63 = nI 0) : Ok (pX12_times N a b w) (vQ w (jn 13 a b)) := by
  have n10 : ¬ nI 1 = nI 0 := by decide
  have ej : jn 13 a b = (if a = 0 then some (a * b) else if (1000000000000 : Int64) / ab6 a < ab6 b then none else some (a * b)) := by simp [jn]
  rw [ej]
  have z30 : Ok (fX12_times_30 N a b w) (vQ w (some (a * b))) := by
    simp only [fX12_times_30, fX12_times_31, fX12_times_41, h, callW_eq, li0, fput0, Option.bind_some, gg_I, true_and, and_self, if_true]
    exact ok_some vQ_set0
  by_cases q : a = 0
  · simp only [pX12_times, lg_lt, lg_gt, lg_eq, lgn_lt, lgn_gt, lgn_eq, q, if_true, callW_eq]
    rw [q] at z30
    exact z30
  · by_cases q2 : b = 0
    · have := div_ge0 ha q
      simp only [pX12_times, lg_lt, lg_gt, lg_eq, lgn_lt, lgn_gt, lgn_eq, q, q2, if_true, if_false, callW_eq, this]
      rw [q2] at z30
      exact z30
    · have e16 : pX12_times N a b w = fX12_times_16 N a b (ab6 b) w := by
        simp only [pX12_times, lg_lt, lg_gt, lg_eq, lgn_lt, lgn_gt, lgn_eq, q, q2, if_false, callW_eq, ab6]
        split <;> rfl
      have e25 : fX12_times_16 N a b (ab6 b) w = fX12_times_25 N a b (ab6 a) (1000000000000 : Int64) (ab6 b) w := by
        simp only [fX12_times_16, lg_lt, lg_gt, lg_eq, lgn_lt, lgn_gt, lgn_eq, callW_eq, ab6]
        split <;> rfl
      rw [e16, e25]
      simp only [fX12_times_25, if_neg (ab6_ne q), lg_lt, lg_gt, lg_eq, lgn_lt, lgn_gt, lgn_eq, if_neg q, callW_eq]
      by_cases q3 : (1000000000000 : Int64) / ab6 a < ab6 b
      · simp only [q3, if_true, fX12_times_31, fX12_times_38, fX12_times_41, h, callW_eq, li0, li1, n10, fput1, Option.bind_some, gg_I, true_and, and_self, if_false]
        exact ok_some vQ_set1
      · simp only [q3, if_false]
        exact z30
theorem m_times1 (a b : Int64) (h : gI w 16 0 63 = nI 1) : Ok (pX12_times N a b w) (vQ w none) := by
  have n10 : ¬ nI 1 = nI 0 := by decide
  have z31 : ∀ s, Ok (fX12_times_31 N a b s w) (vQ w none) := by
    intro s
    simp only [fX12_times_31, fX12_times_38, fX12_times_41, h, callW_eq, li0, li1, n10, fput1, Option.bind_some, gg_I, true_and, and_self, if_true, if_false]
    exact ok_some vQ_set1
  have z30 : Ok (fX12_times_30 N a b w) (vQ w none) := by
    rw [fX12_times_30, callW_eq]; exact z31 _
  by_cases q : a = 0
  · simp only [pX12_times, lg_lt, lg_gt, lg_eq, lgn_lt, lgn_gt, lgn_eq, q, if_true, callW_eq]
    rw [q] at z30
    exact z30
  · by_cases q2 : b = 0
    · simp only [pX12_times, lg_lt, lg_gt, lg_eq, lgn_lt, lgn_gt, lgn_eq, q, q2, if_true, if_false, callW_eq]
      rw [q2] at z30
      exact z30
    · have e16 : pX12_times N a b w = fX12_times_16 N a b (ab6 b) w := by
        simp only [pX12_times, lg_lt, lg_gt, lg_eq, lgn_lt, lgn_gt, lgn_eq, q, q2, if_false, callW_eq, ab6]
        split <;> rfl
      have e25 : fX12_times_16 N a b (ab6 b) w = fX12_times_25 N a b (ab6 a) (1000000000000 : Int64) (ab6 b) w := by
        simp only [fX12_times_16, lg_lt, lg_gt, lg_eq, lgn_lt, lgn_gt, lgn_eq, callW_eq, ab6]
        split <;> rfl
      rw [e16, e25]
      simp only [fX12_times_25, if_neg (ab6_ne q), lg_lt, lg_gt, lg_eq, lgn_lt, lgn_gt, lgn_eq, callW_eq]
      split
      · exact z31 _
      · exact z30
theorem m_cmp {K : Nat} (h5 : 5 ≤ K) (h10 : K ≤ 10) (a b : Int64) : (callW (pX12_compares N (nI K) a b) w).bind (fun r => if r.1 = 0 then some ((0 : Int64), r.2) else some ((1 : Int64), r.2)) = some ((jn K a b).getD 0, w) := by
  have hK : K = 5 ∨ K = 6 ∨ K = 7 ∨ K = 8 ∨ K = 9 ∨ K = 10 := by omega
  have n10 : ¬ nI 1 = nI 0 := by decide
  rcases hK with rfl | rfl | rfl | rfl | rfl | rfl
  all_goals simp (disch := first | assumption | omega) only [pX12_compares, jn, nI_eq, lg_lt, lg_gt, lg_eq, lgn_lt, lgn_gt, lgn_eq, callW_eq, Option.bind_some, li0, li1, li2, li3, li4, li5, li6, li7, li8, li9, li10, li11, li12, li13, li14, li15, li16, li17, li18, li19, li20, li21, li22, li23, li24, li25, li26, li27, li28, li29, li30, li31, li32, li33, li34, li35, li36, li37, li38, li39, li40, li41, li42, li43, li44, li45, li47, li48, li50, li56, li57, li59, li60, li61, li62, li63, li64, li90, li96, li97, li99, li100, li122, li200, li255, li256, li900, li999, li1000, li9999, li65536, li99999, li1000000, li1048576, gg_I, gg_LI, gg_RI, gg_L, gg_IL, gg_RL, gg_R, gg_IR, gg_LR, gg_row, gg_Lrow, gg_Rrow, nI_add, pk_mul, Nat.reduceEqDiff, Nat.reduceAdd, Nat.reduceSub, Nat.reduceMul, Nat.reducePow, Nat.reduceLT, Nat.reduceLeDiff, ↓reduceIte, reduceCtorEq, and_true, true_and, and_false, false_and, and_self, not_true_eq_false, not_false_eq_true, if_true, if_false]
  all_goals split <;> simp [li0, li1, n10]
/-- the knot's three numbers -/
def knM (w : Wd) (q K A B : Nat) : Prop := gI w 94 0 q = nI K ∧ gI w 95 0 q = nI A ∧ gI w 96 0 q = nI B
theorem m_valB {q K A : Nat} {a b : Int64} {B : Nat} (hq : q < 64) (hA : A < 64) (hB : B < 64) (h3 : 3 ≤ K) (h14 : K ≤ 14) (g4 : gI w 94 0 q = nI K) (g5 : gI w 95 0 q = nI A) (g6 : gI w 96 0 q = nI B) (g7 : gL w 100 0 A = a) (g8 : gL w 100 0 B = b) :
    (gI w 16 0 63 = nI 0 → bd12 a → bd12 b → Ok (pX12_valueOf N (nI q) w) (vQ w (jn K a b))) ∧ (gI w 16 0 63 = nI 1 → Ok (pX12_valueOf N (nI q) w) (vQ w none)) := by
  have n10 : ¬ nI 1 = nI 0 := by decide
  have hK : K = 3 ∨ K = 4 ∨ K = 5 ∨ K = 6 ∨ K = 7 ∨ K = 8 ∨ K = 9 ∨ K = 10 ∨ K = 11 ∨ K = 12 ∨ K = 13 ∨ K = 14 := by omega
  have cmp : ∀ K, 5 ≤ K → K ≤ 10 → (gI w 16 0 63 = nI 0 → Ok (some ((jn K a b).getD 0, w)) (vQ w (jn K a b))) ∧ (gI w 16 0 63 = nI 1 → Ok (some ((jn K a b).getD 0, w)) (vQ w none)) := by
    intro K h5 h10
    refine ⟨fun h => ?_, fun h => ok_some (vQ_one h)⟩
    have hK : K = 5 ∨ K = 6 ∨ K = 7 ∨ K = 8 ∨ K = 9 ∨ K = 10 := by omega
    have hj : ∃ x, jn K a b = some x := by
      rcases hK with rfl | rfl | rfl | rfl | rfl | rfl <;> simp [jn]
    obtain ⟨x, hx⟩ := hj
    rw [hx]
    exact ok_some (vQ_some h)
  have e5 := m_cmp (N := N) (w := w) (K := 5) (by omega) (by omega) a b
  have e6 := m_cmp (N := N) (w := w) (K := 6) (by omega) (by omega) a b
  have e7 := m_cmp (N := N) (w := w) (K := 7) (by omega) (by omega) a b
  have e8 := m_cmp (N := N) (w := w) (K := 8) (by omega) (by omega) a b
  have e9 := m_cmp (N := N) (w := w) (K := 9) (by omega) (by omega) a b
  have e10 := m_cmp (N := N) (w := w) (K := 10) (by omega) (by omega) a b
  have l4 : ldI w 94 0 (nI q) 128 = some (nI K) := by rw [ldn (by omega) (by omega), g4]
  have l5 : ldI w 95 0 (nI q) 128 = some (nI A) := by rw [ldn (by omega) (by omega), g5]
  have l6 : ldI w 96 0 (nI q) 128 = some (nI B) := by rw [ldn (by omega) (by omega), g6]
  have l7 : ldL w 100 0 (nI A) 64 = some a := by rw [ldLn hA (by omega), g7]
  have l8 : ldL w 100 0 (nI B) 64 = some b := by rw [ldLn hB (by omega), g8]
  rcases hK with rfl | rfl | rfl | rfl | rfl | rfl | rfl | rfl | rfl | rfl | rfl | rfl
  all_goals simp (decide := true) only [pX12_valueOf, ↓bnd l4, ↓bnd l5, ↓bnd l6, ↓bnd l7, ↓bnd l8, ↓reduceIte, lg_lt, lg_gt, lg_eq, lgn_lt, lgn_gt, lgn_eq, ↓e5, ↓e6, ↓e7, ↓e8, ↓e9, ↓e10, callW_eq]
  · refine ⟨fun h _ _ => ?_, fun h => ?_⟩
    · by_cases q : a = 0
      · simp only [q, if_true]
        have : jn 3 0 b = some 0 := by simp [jn]
        rw [this]; exact ok_some (vQ_some h)
      · by_cases q2 : b = 0
        · simp only [q, q2, if_true, if_false]
          have : jn 3 a 0 = some 0 := by simp [jn, q]
          rw [this]; exact ok_some (vQ_some h)
        · simp only [q, q2, if_false]
          have : jn 3 a b = some 1 := by simp [jn, q, q2]
          rw [this]; exact ok_some (vQ_some h)
    · split
      · exact ok_some (vQ_one h)
      · split <;> exact ok_some (vQ_one h)
  · refine ⟨fun h _ _ => ?_, fun h => ?_⟩
    · by_cases q : a = 0
      · by_cases q2 : b = 0
        · simp only [q, q2, if_true]
          have : jn 4 0 0 = some 0 := by simp [jn]
          rw [this]; exact ok_some (vQ_some h)
        · simp only [q, q2, if_true, if_false]
          have : jn 4 0 b = some 1 := by simp [jn, q2]
          rw [this]; exact ok_some (vQ_some h)
      · simp only [q, if_false]
        have : jn 4 a b = some 1 := by simp [jn, q]
        rw [this]; exact ok_some (vQ_some h)
    · split
      · split <;> exact ok_some (vQ_one h)
      · exact ok_some (vQ_one h)
  · exact ⟨fun h _ _ => (cmp 5 (by omega) (by omega)).1 h, (cmp 5 (by omega) (by omega)).2⟩
  · exact ⟨fun h _ _ => (cmp 6 (by omega) (by omega)).1 h, (cmp 6 (by omega) (by omega)).2⟩
  · exact ⟨fun h _ _ => (cmp 7 (by omega) (by omega)).1 h, (cmp 7 (by omega) (by omega)).2⟩
  · exact ⟨fun h _ _ => (cmp 8 (by omega) (by omega)).1 h, (cmp 8 (by omega) (by omega)).2⟩
  · exact ⟨fun h _ _ => (cmp 9 (by omega) (by omega)).1 h, (cmp 9 (by omega) (by omega)).2⟩
  · exact ⟨fun h _ _ => (cmp 10 (by omega) (by omega)).1 h, (cmp 10 (by omega) (by omega)).2⟩
  · have j11 : jn 11 a b = chk (a + b) := by simp [jn]
    rw [j11]
    exact ⟨fun h _ _ => ok_bind (m_bounded0 _ h) (fun r hr => ok_some hr), fun h => ok_bind (m_bounded1 _ h) (fun r hr => ok_some hr)⟩
  · have j12 : jn 12 a b = chk (a - b) := by simp [jn]
    rw [j12]
    exact ⟨fun h _ _ => ok_bind (m_bounded0 _ h) (fun r hr => ok_some hr), fun h => ok_bind (m_bounded1 _ h) (fun r hr => ok_some hr)⟩
  · exact ⟨fun h ha hb => ok_bind (m_times0 ha hb h) (fun r hr => ok_some hr), fun h => ok_bind (m_times1 _ _ h) (fun r hr => ok_some hr)⟩
  · refine ⟨fun h _ _ => ?_, fun h => ?_⟩
    · have ej : jn 14 a b = (if b = 0 then none else some (a / b)) := by simp [jn]
      rw [ej]
      by_cases q : b = 0
      · simp only [h, q, if_true, fX12_valueOf_109, fX12_valueOf_112, callW_eq, li0, li1, fput1, n10, Option.bind_some, gg_I, true_and, and_self, if_false]
        exact ok_some vQ_set1
      · simp only [h, q, if_true, if_false, fX12_valueOf_109, fX12_valueOf_112, callW_eq, li0, li1, fput0, Option.bind_some, gg_I, true_and, and_self]
        exact ok_some vQ_set0
    · simp only [h, n10, fX12_valueOf_109, fX12_valueOf_112, callW_eq, li0, li1, fput1, Option.bind_some, gg_I, true_and, and_self, if_true, if_false]
      exact ok_some vQ_set1
theorem m_val {f n : Nat} {K X : Nat → Nat} {nm t : Nat → Int64} {j : Nat} (hfn : f + n ≤ 64) (hj : j < n) (c5 : K j ≤ 14 ∧ X j ≤ 9999 ∧ (K j = 1 → X j ≤ 6)) (c6 : (K j = 2 → 1 ≤ sd K j) ∧ (3 ≤ K j → 2 ≤ sd K j))
    (g4 : gI w 94 0 (f + j) = nI (K j)) (g5 : K j ≤ 1 → gI w 95 0 (f + j) = nI (X j)) (g6 : 2 ≤ K j → gI w 95 0 (f + j) = nI (f + sp K j (sd K j - (if K j = 2 then 1 else 2)))) (g7 : 3 ≤ K j → gI w 96 0 (f + j) = nI (f + sp K j (sd K j - 1)))
    (hnm : ∀ x, x ≤ 6 → gL w 99 0 x = nm x) :
    (gI w 16 0 63 = nI 0 → (∀ i, i < j → bd12 (t i) ∧ gL w 100 0 (f + i) = t i) → Ok (pX12_valueOf N (nI (f + j)) w) (vQ w (vo nm K X t j))) ∧ (gI w 16 0 63 = nI 1 → Ok (pX12_valueOf N (nI (f + j)) w) (vQ w none)) := by
  have hlt := sp_lt K j
  have hsd := sd_le K j
  obtain ⟨k1, k2, k3⟩ := c5
  obtain ⟨k4, k5⟩ := c6
  have cases3 : K j = 0 ∨ K j = 1 ∨ K j = 2 ∨ 3 ≤ K j := by omega
  rcases cases3 with q | q | q | q
  · have e5 := g5 (by omega)
    have hvo : vo nm K X t j = some (lN (X j)) := by rw [vo, if_pos q]
    have l4 : ldI w 94 0 (nI (f + j)) 128 = some (nI 0) := by rw [ldn (by omega) (by omega), g4, q]
    have l5 : ldI w 95 0 (nI (f + j)) 128 = some (nI (X j)) := by rw [ldn (by omega) (by omega), e5]
    rw [hvo, ← nI_l (show X j < 2 ^ 31 by omega)]
    simp (decide := true) only [pX12_valueOf, ↓bnd l4, ↓bnd l5, ↓reduceIte]
    exact ⟨fun h _ => ok_some (vQ_some h), fun h => ok_some (vQ_one h)⟩
  · have e5 := g5 (by omega)
    have e3 := k3 q
    have hvo : vo nm K X t j = some (nm (X j)) := by rw [vo, if_neg (by omega), if_pos q]
    have en := hnm (X j) e3
    have l4 : ldI w 94 0 (nI (f + j)) 128 = some (nI 1) := by rw [ldn (by omega) (by omega), g4, q]
    have l5 : ldI w 95 0 (nI (f + j)) 128 = some (nI (X j)) := by rw [ldn (by omega) (by omega), e5]
    have l6 : ldL w 99 0 (nI (X j)) 7 = some (nm (X j)) := by rw [ldLn (by omega) (by omega), en]
    rw [hvo]
    simp (decide := true) only [pX12_valueOf, ↓bnd l4, ↓bnd l5, ↓bnd l6, ↓reduceIte]
    exact ⟨fun h _ => ok_some (vQ_some h), fun h => ok_some (vQ_one h)⟩
  · have e5 := g6 (by omega)
    have e4 := k4 q
    rw [if_pos q] at e5
    have e8 := hlt (sd K j - 1) (by omega)
    have l4 : ldI w 94 0 (nI (f + j)) 128 = some (nI 2) := by rw [ldn (by omega) (by omega), g4, q]
    have l5 : ldI w 95 0 (nI (f + j)) 128 = some (nI (f + sp K j (sd K j - 1))) := by rw [ldn (by omega) (by omega), e5]
    have l6 : ldL w 100 0 (nI (f + sp K j (sd K j - 1))) 64 = some (gL w 100 0 (f + sp K j (sd K j - 1))) := by rw [ldLn (by omega) (by omega)]
    simp (decide := true) only [pX12_valueOf, ↓bnd l4, ↓bnd l5, ↓bnd l6, ↓reduceIte, lg_lt, lg_gt, lg_eq, lgn_lt, lgn_gt, lgn_eq]
    have hvo : vo nm K X t j = some (if t (sp K j (sd K j - 1)) = 0 then 1 else 0) := by rw [vo, if_neg (by omega), if_neg (by omega), if_pos q]
    refine ⟨fun h ht => ?_, fun h => ?_⟩
    · rw [(ht _ e8).2, hvo]
      split <;> exact ok_some (vQ_some h)
    · split <;> exact ok_some (vQ_one h)
  · have e5 := g6 (by omega)
    rw [if_neg (by omega)] at e5
    have e6 := g7 q
    have e4 := k5 q
    have e8 := hlt (sd K j - 1) (by omega)
    have e9 := hlt (sd K j - 2) (by omega)
    have hvo : vo nm K X t j = jn (K j) (t (sp K j (sd K j - 2))) (t (sp K j (sd K j - 1))) := by rw [vo, if_neg (by omega), if_neg (by omega), if_neg (by omega)]
    have z := m_valB (N := N) (w := w) (q := f + j) (K := K j) (A := f + sp K j (sd K j - 2)) (B := f + sp K j (sd K j - 1)) (by omega) (by omega) (by omega) q k1 g4 e5 e6 rfl rfl
    refine ⟨fun h ht => ?_, z.2⟩
    have p1 := ht _ e8
    have p2 := ht _ e9
    have := z.1 h (by rw [p2.2]; exact p2.1) (by rw [p1.2]; exact p1.1)
    rw [hvo]
    rw [p1.2, p2.2] at this
    exact this
end

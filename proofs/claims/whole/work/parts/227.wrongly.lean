/-! ===== claims that can't all be ===== -/
def okS (v e : Vw) (s : Nat) : Bool := !anyB (fun i => !s.testBit i && anyB (fun j => !s.testBit j && cn v e i j) (e 0 3)) (e 0 3)
def isW (v e : Vw) (b : Nat) : Prop := b < 2 ^ e 0 3 ∧ okS v e b = true ∧ ∀ s, s < 2 ^ e 0 3 → okS v e s = true → pc b < pc s ∨ (pc b = pc s ∧ b ≤ s)
theorem isW_uniq {v e : Vw} {b b' : Nat} (h : isW v e b) (h' : isW v e b') : b = b' := by
  have h1 := h.2.2 b' h'.1 h'.2.1
  have h2 := h'.2.2 b h.1 h.2.1
  omega
theorem okS_iff (v e : Vw) (s : Nat) : okS v e s = true ↔ ∀ i j, i < e 0 3 → j < e 0 3 → s.testBit i = false → s.testBit j = false → cn v e i j = false := by
  unfold okS
  rw [Bool.not_eq_true', anyB_false]
  constructor
  · intro h i j hi hj h1 h2
    have := h i hi
    rw [h1] at this
    simp only [Bool.not_false, Bool.true_and] at this
    have := anyB_false.mp this j hj
    rw [h2] at this
    simpa using this
  · intro h i hi
    cases z : s.testBit i with
    | true => rfl
    | false =>
      simp only [Bool.not_false, Bool.true_and]
      apply anyB_false.mpr
      intro j hj
      cases y : s.testBit j with
      | true => rfl
      | false => rw [h i j hi hj z y]; rfl
/-- all but the first: one alone can be -/
theorem okS_one {v e : Vw} (h0 : 0 < e 0 3) (h12 : e 0 3 ≤ 12) : okS v e (2 ^ e 0 3 - 2) = true ∧ pc (2 ^ e 0 3 - 2) < e 0 3 ∧ 2 ^ e 0 3 - 2 < 2 ^ e 0 3 := by
  obtain ⟨n, hn⟩ : ∃ n, e 0 3 = n + 1 := ⟨e 0 3 - 1, by omega⟩
  have hp := Nat.two_pow_pos n
  have hb : ∀ i, i < e 0 3 → (2 ^ e 0 3 - 2).testBit i = decide (i ≠ 0) := by
    intro i hi
    rw [hn, Nat.pow_succ, show 2 ^ n * 2 - 2 = 2 * (2 ^ n - 1) by omega]
    cases i with
    | zero => simp
    | succ i =>
      rw [Nat.testBit_succ, Nat.mul_div_cancel_left _ (by omega), Nat.testBit_two_pow_sub_one]
      simp; omega
  refine ⟨(okS_iff v e _).mpr (fun i j hi hj h1 h2 => ?_), ?_, by rw [hn, Nat.pow_succ]; omega⟩
  · rw [hb i hi] at h1
    rw [hb j hj] at h2
    simp only [ne_eq, decide_not, Bool.not_eq_false', decide_eq_true_eq] at h1 h2
    subst h1
    subst h2
    simp [cn]
  · have hlt : 2 ^ e 0 3 - 2 < 2 ^ e 0 3 := by rw [hn, Nat.pow_succ]; omega
    have h1 := cnt_lt (f := fun k => (2 ^ e 0 3 - 2).testBit k) (g := fun k => decide (k < e 0 3)) (n := 12) (k := 0) (fun k _ hk => by
      simp only [decide_eq_true_eq]
      apply Classical.byContradiction
      intro q
      rw [bit_hi hlt (by omega)] at hk
      cases hk) (by omega) (by rw [hb 0 h0]; simp) (by simp [h0])
    have h2 : ∀ m, cnt (fun k => decide (k < e 0 3)) m ≤ e 0 3 := by
      intro m
      induction m with
      | zero => exact Nat.zero_le _
      | succ m ih =>
        rcases Nat.lt_or_ge m (e 0 3) with q | q
        · exact Nat.le_trans (cnt_le _ _) q
        · have : decide (m < e 0 3) = false := by simp; omega
          rw [cnt, this]; simpa using ih
    have := h2 12
    unfold pc
    omega
section
variable {N : Nat} {w : Wd} {v e : Vw}
theorem c_others (hC : CC w v e) (hW : WC v e) (hN : 100 ≤ N) {s : Nat} (hs : s < 2 ^ e 0 3) : pX0_othersCanBe N (nI s) w = some (zB (okS v e s), w) := by
  have hw := hW.1
  have hp : 2 ^ e 0 3 ≤ 2 ^ 12 := Nat.pow_le_pow_right (by omega) hw
  have key : ∀ fuel c, c ≤ e 0 3 → e 0 3 - c < fuel → anyB (fun i => !s.testBit i && anyB (fun j => !s.testBit j && cn v e i j) (e 0 3)) c = false → fX0_othersCanBe_2 N (nI s) fuel (nI c) w = some (zB (okS v e s), w) := by
    intro fuel
    induction fuel with
    | zero => intro c _ h; omega
    | succ f ih =>
      intro c hc hf hno
      have e1 : nI c + (1 : Int32) = nI (c + 1) := nI_add c 1
      rcases Nat.lt_or_ge c (e 0 3) with h | h
      · have lt : (nI c < gI w 4 0 0) = True := eq_true (by rw [hC.1]; exact (nI_ltI (by omega) (by omega)).mpr h)
        have eb : ((nI s >>> (nI c &&& (31 : Int32))) &&& (1 : Int32)) = zB (s.testBit c) := by
          rw [li31, li1, nz_and, nz_bit (by omega) (by omega)]; rfl
        cases z : s.testBit c with
        | true =>
          rw [z] at eb
          have z0 : (zB true = 0) = False := eq_false (by decide)
          simp only [fX0_othersCanBe_2, ↓lt, ↓eb, ↓z0, ↓reduceIte, callW_eq, ↓e1]
          exact ih (c + 1) (by omega) (by omega) (by rw [anyB, hno, z]; rfl)
        | false =>
          rw [z] at eb
          have z0 : (zB false = 0) = True := eq_true rfl
          have hm := mkB_lt (cn v e c) (e 0 3)
          have l1 : ldI w 20 0 (nI c) 12 = some (nI (mkB (cn v e c) (e 0 3))) := by rw [ldn (by omega) (by omega), (hC.2 c h).2.2.2]
          have ex : nI (mkB (cn v e c) (e 0 3)) &&& (nI s ^^^ (-1 : Int32)) = nI (mkB (cn v e c) (e 0 3) ^^^ (mkB (cn v e c) (e 0 3) &&& s)) := by
            rw [li1]; exact nz_not (by omega)
          have hx8 : mkB (cn v e c) (e 0 3) ^^^ (mkB (cn v e c) (e 0 3) &&& s) < 2 ^ e 0 3 := andnot_lt hm
          have hz : (mkB (cn v e c) (e 0 3) ^^^ (mkB (cn v e c) (e 0 3) &&& s) = 0) ↔ anyB (fun j => !s.testBit j && cn v e c j) (e 0 3) = false := by
            rw [anyB_false]
            constructor
            · intro h0 j hj
              have := congrArg (fun x => x.testBit j) h0
              simp only [bit_andnot, mkB_bit, Nat.zero_testBit] at this
              have hj' : decide (j < e 0 3) = true := by simp [hj]
              rw [hj', Bool.true_and] at this
              rw [Bool.and_comm]; exact this
            · intro h0
              apply Nat.eq_of_testBit_eq
              intro j
              rw [bit_andnot, mkB_bit, Nat.zero_testBit]
              by_cases hj : j < e 0 3
              · have := h0 j hj
                rw [Bool.and_comm] at this
                have hj' : decide (j < e 0 3) = true := by simp [hj]
                rw [hj', Bool.true_and]; exact this
              · have hj' : decide (j < e 0 3) = false := by simp [hj]
                rw [hj']; rfl
          by_cases q : mkB (cn v e c) (e 0 3) ^^^ (mkB (cn v e c) (e 0 3) &&& s) = 0
          · have q' : (nI (mkB (cn v e c) (e 0 3)) &&& (nI s ^^^ (-1 : Int32)) = 0) = True := eq_true (by rw [ex, q]; rfl)
            simp only [fX0_othersCanBe_2, ↓lt, ↓eb, ↓z0, ↓bnd l1, ↓q', ↓reduceIte, callW_eq, ↓e1]
            exact ih (c + 1) (by omega) (by omega) (by rw [anyB, hno, z, hz.mp q]; rfl)
          · have q' : (nI (mkB (cn v e c) (e 0 3)) &&& (nI s ^^^ (-1 : Int32)) = 0) = False := eq_false (by rw [ex]; exact fun y => q ((nI_eq (by omega) (by omega)).mp (show _ = nI 0 from y)))
            simp only [fX0_othersCanBe_2, ↓lt, ↓eb, ↓z0, ↓bnd l1, ↓q', ↓reduceIte]
            have ht : anyB (fun j => !s.testBit j && cn v e c j) (e 0 3) = true := by
              cases y : anyB (fun j => !s.testBit j && cn v e c j) (e 0 3) with
              | true => rfl
              | false => exact absurd (hz.mpr y) q
            have : okS v e s = false := by
              rw [okS, anyB_true.mpr ⟨c, h, by rw [z, ht]; rfl⟩]; rfl
            rw [this]; rfl
      · have : c = e 0 3 := by omega
        subst this
        have lt : (nI (e 0 3) < gI w 4 0 0) = False := eq_false (by rw [hC.1]; exact fun z => by have := (nI_ltI (by omega) (by omega)).mp z; omega)
        simp only [fX0_othersCanBe_2, ↓lt, ↓reduceIte]
        rw [okS, hno]; rfl
  unfold pX0_othersCanBe
  rw [callW_eq, li0]
  exact key N 0 (by omega) (by omega) rfl
theorem c_false (hC : CC w v e) (hW : WC v e) (hN : 5000 ≤ N) : Ok (pX0_falseOnes N w) (fun r => r.2 = w ∧ ∃ b, isW v e b ∧ r.1 = nI b) := by
  have hw := hW.1
  have hp : 2 ^ e 0 3 ≤ 2 ^ 12 := Nat.pow_le_pow_right (by omega) hw
  have hP1 := Nat.two_pow_pos (e 0 3)
  have e1s : (1 : Int32) <<< (gI w 4 0 0 &&& (31 : Int32)) = nI (2 ^ e 0 3) := by
    rw [hC.1, li1, li31, nz_and]
    exact nz_shl (by omega)
  have key : ∀ fuel c x Y, c ≤ 2 ^ e 0 3 → 2 ^ e 0 3 - c < fuel → Y ≤ 13 → ((x = nI 0 ∧ Y = 13 ∧ ∀ s, s < c → okS v e s = false) ∨ (∃ b, b < c ∧ x = nI b ∧ Y = pc b ∧ okS v e b = true ∧ ∀ s, s < c → okS v e s = true → pc b < pc s ∨ (pc b = pc s ∧ b ≤ s))) →
      Ok (fX0_falseOnes_6 N fuel x (nI Y) (nI c) w) (fun r => r.2 = w ∧ ∃ b, isW v e b ∧ r.1 = nI b) := by
    intro fuel
    induction fuel with
    | zero => intro c x Y _ h; omega
    | succ f ih =>
      intro c x Y hc hf hY hS
      have e1 : nI c + (1 : Int32) = nI (c + 1) := nI_add c 1
      rcases Nat.lt_or_ge c (2 ^ e 0 3) with h | h
      · have hc1 : c + 1 ≤ 2 ^ e 0 3 := h
        have hf1 : 2 ^ e 0 3 - (c + 1) < f := by clear hS; omega
        have lt : (nI c < (1 : Int32) <<< (gI w 4 0 0 &&& (31 : Int32))) = True := eq_true (by rw [e1s]; exact (nI_ltI (by omega) (by omega)).mpr h)
        have gb := c_bits (N := N) (w := w) (x := c) (by omega)
        have gl := c_others (N := N) hC hW (by omega) h
        have hpc := pc_le c
        have keep : (okS v e c = false ∨ Y ≤ pc c) → Ok (fX0_falseOnes_6 N f x (nI Y) (nI (c + 1)) w) (fun r => r.2 = w ∧ ∃ b, isW v e b ∧ r.1 = nI b) := by
          intro hz
          refine ih (c + 1) x Y hc1 hf1 hY ?_
          rcases hS with ⟨a1, a2, a3⟩ | ⟨b, b1, b2, b3, b4, b5⟩
          · left
            refine ⟨a1, a2, fun s hs => ?_⟩
            rcases Nat.lt_or_ge s c with q | q
            · exact a3 s q
            · have : s = c := by omega
              subst this
              rcases hz with hz | hz
              · exact hz
              · omega
          · right
            refine ⟨b, by omega, b2, b3, b4, fun s hs ha => ?_⟩
            rcases Nat.lt_or_ge s c with q | q
            · exact b5 s q ha
            · have : s = c := by omega
              subst this
              rcases hz with hz | hz
              · rw [hz] at ha; cases ha
              · omega
        by_cases q1 : pc c < Y
        · have q1' : (nI (pc c) < nI Y) = True := eq_true ((nI_ltI (by omega) (by omega)).mpr q1)
          cases z : okS v e c with
          | false =>
            rw [z] at gl
            have z0 : (zB false = 0) = True := eq_true rfl
            simp only [fX0_falseOnes_6, ↓lt, ↓cbnd gb, ↓q1', ↓cbnd gl, ↓z0, ↓reduceIte, callW_eq, ↓e1]
            exact keep (Or.inl z)
          | true =>
            rw [z] at gl
            have z0 : (zB true = 0) = False := eq_false (by decide)
            simp only [fX0_falseOnes_6, ↓lt, ↓cbnd gb, ↓q1', ↓cbnd gl, ↓z0, ↓reduceIte, callW_eq, ↓e1]
            refine ih (c + 1) (nI c) (pc c) hc1 hf1 (by omega) (Or.inr ⟨c, Nat.lt_succ_self c, rfl, rfl, z, fun s hs ha => ?_⟩)
            rcases Nat.lt_or_ge s c with q | q
            · rcases hS with ⟨a1, a2, a3⟩ | ⟨b, b1, b2, b3, b4, b5⟩
              · rw [a3 s q] at ha; cases ha
              · have := b5 s q ha
                omega
            · have : s = c := by omega
              subst this
              omega
        · have q1' : (nI (pc c) < nI Y) = False := eq_false (fun z => q1 ((nI_ltI (by omega) (by omega)).mp z))
          simp only [fX0_falseOnes_6, ↓lt, ↓cbnd gb, ↓q1', ↓reduceIte, callW_eq, ↓e1]
          exact keep (Or.inr (by omega))
      · have : c = 2 ^ e 0 3 := by omega
        subst this
        have lt : (nI (2 ^ e 0 3) < (1 : Int32) <<< (gI w 4 0 0 &&& (31 : Int32))) = False := eq_false (by rw [e1s]; exact fun z => by have := (nI_ltI (by omega) (by omega)).mp z; omega)
        simp only [fX0_falseOnes_6, ↓lt, ↓reduceIte]
        refine ok_some ⟨rfl, ?_⟩
        rcases hS with ⟨a1, a2, a3⟩ | ⟨b, b1, b2, b3, b4, b5⟩
        · exfalso
          have hfull : okS v e (2 ^ e 0 3 - 1) = true := (okS_iff v e _).mpr (fun i j hi hj h1 h2 => by
            rw [Nat.testBit_two_pow_sub_one] at h1
            simp at h1
            omega)
          rw [a3 (2 ^ e 0 3 - 1) (by omega)] at hfull
          cases hfull
        · exact ⟨b, ⟨b1, b4, b5⟩, b2⟩
  unfold pX0_falseOnes
  rw [callW_eq, li0]
  exact key N 0 (nI 0) 13 (by omega) (by omega) (by omega) (Or.inl ⟨rfl, rfl, fun s h => by omega⟩)
/-! the reference -/
theorem m_cannot (hR : RM w 0 v) (hF : WF v) (hC : CM w e) (hW : WC v e) {a b : Nat} (ha : a < e 0 3) (hb : b < e 0 3) : pX12_cannot N (nI a) (nI b) w = some (zB (cn v e a b), w) := by
  have h2 := WF_parts hF
  have h4 := WF_near hF
  have hw := hW.1
  obtain ⟨T, S, L, D⟩ := hR
  obtain ⟨a1, a2, a3⟩ := hW.2 a ha
  obtain ⟨b1, b2, b3⟩ := hW.2 b hb
  obtain ⟨p1, p2, p3⟩ := hC.2 a ha
  obtain ⟨q1, q2, q3⟩ := hC.2 b hb
  by_cases y0 : a = b
  · have y0' : (nI a = nI b) = True := eq_true (by rw [y0])
    simp only [pX12_cannot, ↓y0', ↓reduceIte]
    subst y0
    simp [cn]; rfl
  · have y0' : (nI a = nI b) = False := eq_false (fun z => y0 ((nI_eq (by omega) (by omega)).mp z))
    have l1 : ldI w 122 0 (nI a) 12 = some (nI (e 5 a)) := by rw [ldn (by omega) (by omega), p2]
    have l2 : ldI w 122 0 (nI b) 12 = some (nI (e 5 b)) := by rw [ldn (by omega) (by omega), q2]
    have hb0 : (a != b) = true := by simp [y0]
    by_cases y1 : e 5 a = e 5 b
    · have y1' : (nI (e 5 a) = nI (e 5 b)) = True := eq_true (by rw [y1])
      have hb1 : (e 5 a == e 5 b) = true := by simp [y1]
      have l3 : ldI w 121 0 (nI a) 12 = some (nI (e 4 a)) := by rw [ldn (by omega) (by omega), p1]
      have l4 : ldI w 121 0 (nI b) 12 = some (nI (e 4 b)) := by rw [ldn (by omega) (by omega), q1]
      have l5 : ldI w 123 0 (nI a) 12 = some (nI (e 6 a)) := by rw [ldn (by omega) (by omega), p3]
      have l6 : ldI w 123 0 (nI b) 12 = some (nI (e 6 b)) := by rw [ldn (by omega) (by omega), q3]
      by_cases y2 : e 4 a = e 4 b
      · have y2' : (nI (e 4 a) = nI (e 4 b)) = True := eq_true (by rw [y2])
        have ec : cn v e a b = (e 6 a != e 6 b) := by rw [cn, hb0, hb1, if_pos y2, Bool.true_and, Bool.true_and]
        rw [ec]
        by_cases y3 : e 6 a = e 6 b
        · have y3' : (nI (e 6 a) = nI (e 6 b)) = True := eq_true (by rw [y3])
          simp only [pX12_cannot, ↓y0', ↓bnd l1, ↓bnd l2, ↓y1', ↓bnd l3, ↓bnd l4, ↓y2', ↓bnd l5, ↓bnd l6, ↓y3', ↓reduceIte]
          rw [y3]; simp; rfl
        · have y3' : (nI (e 6 a) = nI (e 6 b)) = False := eq_false (fun z => y3 ((nI_eq (by omega) (by omega)).mp z))
          have yb : (e 6 a != e 6 b) = true := by simp [y3]
          simp only [pX12_cannot, ↓y0', ↓bnd l1, ↓bnd l2, ↓y1', ↓bnd l3, ↓bnd l4, ↓y2', ↓bnd l5, ↓bnd l6, ↓y3', ↓reduceIte]
          rw [yb]; rfl
      · have y2' : (nI (e 4 a) = nI (e 4 b)) = False := eq_false (fun z => y2 ((nI_eq (by omega) (by omega)).mp z))
        have ec : cn v e a b = sNear v (e 6 a) (e 6 b) := by rw [cn, hb0, hb1, if_neg y2, Bool.true_and, Bool.true_and]
        have hlt : gD (v 3) (v 0 0) (2 ^ v 0 0 - 1) (e 6 a) (e 6 b) < 2 ^ 31 := by
          rcases gD_lt (v 3) (v 0 0) (2 ^ v 0 0 - 1) (e 6 a) (e 6 b) with z | z <;> omega
        have l9 : ldI w 107 0 ((8 : Int32) * nI (e 6 a) + nI (e 6 b)) 64 = some (nI (gD (v 3) (v 0 0) (2 ^ v 0 0 - 1) (e 6 a) (e 6 b))) := by
          rw [li8, pk_mul, nI_add, ldn (by omega) (by omega), D _ _ a3 b3]
        rw [ec]
        by_cases y3 : gD (v 3) (v 0 0) (2 ^ v 0 0 - 1) (e 6 a) (e 6 b) ≤ v 0 4
        · have y3' : (gI w 16 0 17 < nI (gD (v 3) (v 0 0) (2 ^ v 0 0 - 1) (e 6 a) (e 6 b))) = False := eq_false (by rw [TM_near T]; exact fun z => by have := (nI_ltI (by omega) hlt).mp z; omega)
          simp only [pX12_cannot, ↓y0', ↓bnd l1, ↓bnd l2, ↓y1', ↓bnd l3, ↓bnd l4, ↓y2', ↓bnd l5, ↓bnd l6, ↓bnd l9, ↓y3', ↓reduceIte]
          have : sNear v (e 6 a) (e 6 b) = true := by simp [sNear, y3]
          rw [this]; rfl
        · have y3' : (gI w 16 0 17 < nI (gD (v 3) (v 0 0) (2 ^ v 0 0 - 1) (e 6 a) (e 6 b))) = True := eq_true (by rw [TM_near T]; exact (nI_ltI (by omega) hlt).mpr (by omega))
          simp only [pX12_cannot, ↓y0', ↓bnd l1, ↓bnd l2, ↓y1', ↓bnd l3, ↓bnd l4, ↓y2', ↓bnd l5, ↓bnd l6, ↓bnd l9, ↓y3', ↓reduceIte]
          have : sNear v (e 6 a) (e 6 b) = false := by simp [sNear]; omega
          rw [this]; rfl
    · have y1' : (nI (e 5 a) = nI (e 5 b)) = False := eq_false (fun z => y1 ((nI_eq (by omega) (by omega)).mp z))
      have hb1 : (e 5 a == e 5 b) = false := by simp [y1]
      simp only [pX12_cannot, ↓y0', ↓bnd l1, ↓bnd l2, ↓y1', ↓reduceIte]
      rw [cn, hb0, hb1]; rfl
theorem m_canAll (hR : RM w 0 v) (hF : WF v) (hC : CM w e) (hW : WC v e) (hN : 100 ≤ N) {s : Nat} : pX12_canAll N (nI ((2 ^ e 0 3 - 1) ^^^ ((2 ^ e 0 3 - 1) &&& s))) w = some (zB (okS v e s), w) := by
  have hw := hW.1
  have hp : 2 ^ e 0 3 ≤ 2 ^ 12 := Nat.pow_le_pow_right (by omega) hw
  have hP1 := Nat.two_pow_pos (e 0 3)
  have hb31 : (2 ^ e 0 3 - 1) ^^^ ((2 ^ e 0 3 - 1) &&& s) < 2 ^ 12 := andnot_lt (by omega)
  have hbit : ∀ i, i < e 0 3 → ((2 ^ e 0 3 - 1) ^^^ ((2 ^ e 0 3 - 1) &&& s)).testBit i = !s.testBit i := by
    intro i hi
    rw [bit_andnot, Nat.testBit_two_pow_sub_one]
    simp [hi]
  generalize (2 ^ e 0 3 - 1) ^^^ ((2 ^ e 0 3 - 1) &&& s) = B at *
  have bad : ∀ a b, a < e 0 3 → b < e 0 3 → B.testBit a = true → B.testBit b = true → cn v e a b = true → zB (okS v e s) = (0 : Int32) := by
    intro a b ha hb h1 h2 h3
    rw [hbit a ha] at h1
    rw [hbit b hb] at h2
    cases z : okS v e s with
    | false => rfl
    | true =>
      have := (okS_iff v e s).mp z a b ha hb (by simpa using h1) (by simpa using h2)
      rw [h3] at this; cases this
  have inner : ∀ (a : Nat), a < e 0 3 → ∀ (k28 : Int32 → Wd → Option (Int32 × Wd)), ((∀ b, b < a → B.testBit a = true → B.testBit b = true → cn v e a b = false) → k28 (nI a) w = some (zB (okS v e s), w)) →
      ∀ fuel c, c ≤ a → a - c < fuel → (∀ b, b < c → B.testBit a = true → B.testBit b = true → cn v e a b = false) → fX12_canAll_8 N (nI B) fuel k28 (nI a) (nI c) w = some (zB (okS v e s), w) := by
    intro a ha k28 hk fuel
    induction fuel with
    | zero => intro c _ h; omega
    | succ f ih =>
      intro c hc hf hno
      have e1 : nI c + (1 : Int32) = nI (c + 1) := nI_add c 1
      rcases Nat.lt_or_ge c a with h | h
      · have lt : (nI c < nI a) = True := eq_true ((nI_ltI (by omega) (by omega)).mpr h)
        have g1 := m_isOf (N := N) (w := w) (x := B) (k := a) (by omega) (by omega)
        have g2 := m_isOf (N := N) (w := w) (x := B) (k := c) (by omega) (by omega)
        have g3 := m_cannot (N := N) hR hF hC hW ha (show c < e 0 3 by omega)
        have nxt : (B.testBit a = true → B.testBit c = true → cn v e a c = false) → fX12_canAll_8 N (nI B) f k28 (nI a) (nI (c + 1)) w = some (zB (okS v e s), w) := by
          intro hz
          refine ih (c + 1) (by omega) (by omega) (fun b hb h1 h2 => ?_)
          rcases Nat.lt_or_ge b c with q | q
          · exact hno b q h1 h2
          · have : b = c := by omega
            subst this
            exact hz h1 h2
        cases z1 : B.testBit a with
        | false =>
          rw [z1] at g1
          have z0 : (zB false = 0) = True := eq_true rfl
          simp only [fX12_canAll_8, ↓lt, ↓cbnd g1, ↓z0, ↓reduceIte, callW_eq, ↓e1]
          exact nxt (fun y => by rw [z1] at y; cases y)
        | true =>
          rw [z1] at g1
          have z0 : (zB true = 0) = False := eq_false (by decide)
          cases z2 : B.testBit c with
          | false =>
            rw [z2] at g2
            have z0' : (zB false = 0) = True := eq_true rfl
            simp only [fX12_canAll_8, ↓lt, ↓cbnd g1, ↓z0, ↓cbnd g2, ↓z0', ↓reduceIte, callW_eq, ↓e1]
            exact nxt (fun _ y => by rw [z2] at y; cases y)
          | true =>
            rw [z2] at g2
            cases z3 : cn v e a c with
            | false =>
              rw [z3] at g3
              have z0' : (zB false = 0) = True := eq_true rfl
              simp only [fX12_canAll_8, ↓lt, ↓cbnd g1, ↓z0, ↓cbnd g2, ↓cbnd g3, ↓z0', ↓reduceIte, callW_eq, ↓e1]
              exact nxt (fun _ _ => z3)
            | true =>
              rw [z3] at g3
              simp only [fX12_canAll_8, ↓lt, ↓cbnd g1, ↓z0, ↓cbnd g2, ↓cbnd g3, ↓reduceIte]
              rw [bad a c ha (by omega) z1 z2 z3]
      · have : c = a := by omega
        subst this
        have lt : (nI c < nI c) = False := eq_false (fun z => by have := (nI_ltI (by omega) (by omega)).mp z; omega)
        simp only [fX12_canAll_8, ↓lt, ↓reduceIte]
        exact hk hno
  have outer : ∀ fuel a, a ≤ e 0 3 → e 0 3 - a < fuel → (∀ i j, i < a → j < i → B.testBit i = true → B.testBit j = true → cn v e i j = false) → fX12_canAll_2 N (nI B) fuel (nI a) w = some (zB (okS v e s), w) := by
    intro fuel
    induction fuel with
    | zero => intro c _ h; omega
    | succ f ih =>
      intro a hc hf hno
      have e1 : nI a + (1 : Int32) = nI (a + 1) := nI_add a 1
      rcases Nat.lt_or_ge a (e 0 3) with h | h
      · have lt : (nI a < gI w 16 0 93) = True := eq_true (by rw [hC.1]; exact (nI_ltI (by omega) (by omega)).mpr h)
        simp only [fX12_canAll_2, ↓lt, ↓reduceIte, callW_eq, li0]
        refine inner a h _ ?_ N 0 (by omega) (by omega) (fun b hb => by omega)
        intro hz
        simp only [fX12_canAll_28, ↓e1]
        refine ih (a + 1) (by omega) (by omega) (fun i j hi hj h1 h2 => ?_)
        rcases Nat.lt_or_ge i a with q | q
        · exact hno i j q hj h1 h2
        · have : i = a := by omega
          subst this
          exact hz j hj h1 h2
      · have : a = e 0 3 := by omega
        subst this
        have lt : (nI (e 0 3) < gI w 16 0 93) = False := eq_false (by rw [hC.1]; exact fun z => by have := (nI_ltI (by omega) (by omega)).mp z; omega)
        simp only [fX12_canAll_2, ↓lt, ↓reduceIte]
        have : okS v e s = true := (okS_iff v e s).mpr (fun i j hi hj h1 h2 => by
          have b1 : B.testBit i = true := by rw [hbit i hi, h1]; rfl
          have b2 : B.testBit j = true := by rw [hbit j hj, h2]; rfl
          rcases Nat.lt_trichotomy i j with q | q | q
          · rw [cn_sym hF]; exact hno j i hj q b2 b1
          · subst q; simp [cn]
          · exact hno i j hi q b1 b2)
        rw [this]; rfl
  unfold pX12_canAll
  rw [callW_eq, li0]
  exact outer N 0 (by omega) (by omega) (fun i j h => by omega)
theorem m_wrongly (hR : RM w 0 v) (hF : WF v) (hC : CM w e) (hW : WC v e) (hN : 5000 ≤ N) : Ok (fX12_wrongly_12 N N (nI (2 ^ e 0 3 - 1)) (nI 0) w) (fun r => r.2 = w ∧ ∃ b, isW v e b ∧ r.1 = nI b) := by
  have hw := hW.1
  have hp : 2 ^ e 0 3 ≤ 2 ^ 12 := Nat.pow_le_pow_right (by omega) hw
  have hP1 := Nat.two_pow_pos (e 0 3)
  have inner : ∀ (n : Nat), n < e 0 3 → (∀ s, s < 2 ^ e 0 3 → okS v e s = true → n ≤ pc s) → ∀ (k37 : Int32 → Int32 → Wd → Option (Int32 × Wd)),
      ((∀ s, s < 2 ^ e 0 3 → okS v e s = true → n + 1 ≤ pc s) → Ok (k37 (nI (2 ^ e 0 3 - 1)) (nI n) w) (fun r => r.2 = w ∧ ∃ b, isW v e b ∧ r.1 = nI b)) →
      ∀ fuel c, c ≤ 2 ^ e 0 3 → 2 ^ e 0 3 - c < fuel → (∀ s, s < c → pc s = n → okS v e s = false) → Ok (fX12_wrongly_18 N fuel k37 (nI (2 ^ e 0 3 - 1)) (nI n) (nI c) w) (fun r => r.2 = w ∧ ∃ b, isW v e b ∧ r.1 = nI b) := by
    intro n hn hlow k37 hk fuel
    induction fuel with
    | zero => intro c _ h; omega
    | succ f ih =>
      intro c hc hf hno
      have e1 : nI c + (1 : Int32) = nI (c + 1) := nI_add c 1
      rcases Nat.lt_or_ge c (2 ^ e 0 3) with h | h
      · have lt : (nI (2 ^ e 0 3 - 1) < nI c) = False := eq_false (fun z => by have := (nI_ltI (by omega) (by omega)).mp z; omega)
        have g1 := m_many (N := N) (w := w) (by omega) (x := c) (by omega)
        have hpc := pc_le c
        have keep : (pc c = n → okS v e c = false) → Ok (fX12_wrongly_18 N f k37 (nI (2 ^ e 0 3 - 1)) (nI n) (nI (c + 1)) w) (fun r => r.2 = w ∧ ∃ b, isW v e b ∧ r.1 = nI b) := by
          intro hz
          refine ih (c + 1) (by omega) (by omega) (fun s hs hp => ?_)
          rcases Nat.lt_or_ge s c with q | q
          · exact hno s q hp
          · have : s = c := by omega
            subst this
            exact hz hp
        by_cases q1 : pc c = n
        · have q1' : (nI (pc c) = nI n) = True := eq_true (by rw [q1])
          have g2 := m_canAll (N := N) (s := c) hR hF hC hW (by omega)
          have ex : nI (2 ^ e 0 3 - 1) &&& (nI c ^^^ (-1 : Int32)) = nI ((2 ^ e 0 3 - 1) ^^^ ((2 ^ e 0 3 - 1) &&& c)) := by
            rw [li1]; exact nz_not (by omega)
          rw [← ex] at g2
          cases z : okS v e c with
          | false =>
            rw [z] at g2
            have z0 : (zB false = 0) = True := eq_true rfl
            simp only [fX12_wrongly_18, ↓lt, ↓cbnd g1, ↓q1', ↓cbnd g2, ↓z0, ↓reduceIte, callW_eq, ↓e1]
            exact keep (fun _ => z)
          | true =>
            rw [z] at g2
            have z0 : (zB true = 0) = False := eq_false (by decide)
            simp only [fX12_wrongly_18, ↓lt, ↓cbnd g1, ↓q1', ↓cbnd g2, ↓z0, ↓reduceIte]
            refine ok_some ⟨rfl, c, ⟨h, z, fun s hs ha => ?_⟩, rfl⟩
            have l1 := hlow s hs ha
            rcases Nat.lt_or_ge (pc c) (pc s) with y | y
            · exact Or.inl y
            · refine Or.inr ⟨by omega, ?_⟩
              rcases Nat.lt_or_ge s c with yy | yy
              · rw [hno s yy (by omega)] at ha; cases ha
              · exact yy
        · have q1' : (nI (pc c) = nI n) = False := eq_false (fun z => q1 ((nI_eq (by omega) (by omega)).mp z))
          simp only [fX12_wrongly_18, ↓lt, ↓cbnd g1, ↓q1', ↓reduceIte, callW_eq, ↓e1]
          exact keep (fun z => absurd z q1)
      · have : c = 2 ^ e 0 3 := by omega
        subst this
        have lt : (nI (2 ^ e 0 3 - 1) < nI (2 ^ e 0 3)) = True := eq_true ((nI_ltI (by omega) (by omega)).mpr (by omega))
        simp only [fX12_wrongly_18, ↓lt, ↓reduceIte]
        refine hk (fun s hs ha => ?_)
        have := hlow s hs ha
        rcases Nat.lt_or_ge n (pc s) with y | y
        · omega
        · rw [hno s hs (by omega)] at ha; cases ha
  have outer : ∀ fuel n, n ≤ e 0 3 → e 0 3 - n < fuel → (∀ s, s < 2 ^ e 0 3 → okS v e s = true → n ≤ pc s) → Ok (fX12_wrongly_12 N fuel (nI (2 ^ e 0 3 - 1)) (nI n) w) (fun r => r.2 = w ∧ ∃ b, isW v e b ∧ r.1 = nI b) := by
    intro fuel
    induction fuel with
    | zero => intro c _ h; omega
    | succ f ih =>
      intro n hc hf hlow
      have e1 : nI n + (1 : Int32) = nI (n + 1) := nI_add n 1
      rcases Nat.lt_or_ge n (e 0 3) with h | h
      · have lt : (nI n < gI w 16 0 93) = True := eq_true (by rw [hC.1]; exact (nI_ltI (by omega) (by omega)).mpr h)
        simp only [fX12_wrongly_12, ↓lt, ↓reduceIte, callW_eq, li0]
        refine inner n h hlow _ ?_ N 0 (by omega) (by omega) (fun s h => by omega)
        intro hlow1
        simp only [fX12_wrongly_37, ↓e1]
        exact ih (n + 1) (by omega) (by omega) hlow1
      · have : n = e 0 3 := by omega
        subst this
        have lt : (nI (e 0 3) < gI w 16 0 93) = False := eq_false (by rw [hC.1]; exact fun z => by have := (nI_ltI (by omega) (by omega)).mp z; omega)
        simp only [fX12_wrongly_12, ↓lt, ↓reduceIte]
        refine ok_some ⟨rfl, 0, ?_, rfl⟩
        rcases Nat.eq_zero_or_pos (e 0 3) with h0 | h0
        · refine ⟨hP1, (okS_iff v e 0).mpr (fun i j hi => by omega), fun s hs _ => ?_⟩
          rw [h0] at hs
          have : s = 0 := by omega
          subst this
          exact Or.inr ⟨rfl, Nat.le_refl _⟩
        · obtain ⟨o1, o2, o3⟩ := okS_one (v := v) h0 hw
          have := hlow _ o3 o1
          omega
  exact outer N 0 (by omega) (by omega) (fun s _ _ => by omega)
theorem m_against (hR : RM w 0 v) (hF : WF v) (hC : CM w e) (hW : WC v e) (hN : 100 ≤ N) {a : Nat} (ha : a < e 0 3) : fX12_against_15 N (nI a) N (nI 0) (nI 0) w = some (nI (cnt (cn v e a) (e 0 3)), w) := by
  have hw := hW.1
  have key : ∀ fuel c, c ≤ e 0 3 → e 0 3 - c < fuel → fX12_against_15 N (nI a) fuel (nI (cnt (cn v e a) c)) (nI c) w = some (nI (cnt (cn v e a) (e 0 3)), w) := by
    intro fuel
    induction fuel with
    | zero => intro c _ h; omega
    | succ f ih =>
      intro c hc hf
      have e1 : nI c + (1 : Int32) = nI (c + 1) := nI_add c 1
      rcases Nat.lt_or_ge c (e 0 3) with h | h
      · have lt : (nI c < gI w 16 0 93) = True := eq_true (by rw [hC.1]; exact (nI_ltI (by omega) (by omega)).mpr h)
        have g := m_cannot (N := N) hR hF hC hW ha h
        have ee := ih (c + 1) (by omega) (by omega)
        rw [cnt] at ee
        cases z : cn v e a c with
        | false =>
          rw [z] at g
          have z0 : (zB false = 0) = True := eq_true rfl
          simp only [fX12_against_15, ↓lt, ↓cbnd g, ↓z0, ↓reduceIte, callW_eq, ↓e1, li0, nI_add]
          rw [z] at ee
          simpa using ee
        | true =>
          rw [z] at g
          have z0 : (zB true = 0) = False := eq_false (by decide)
          simp only [fX12_against_15, ↓lt, ↓cbnd g, ↓z0, ↓reduceIte, callW_eq, ↓e1, li1, nI_add]
          rw [z] at ee
          simpa using ee
      · have : c = e 0 3 := by omega
        subst this
        have lt : (nI (e 0 3) < gI w 16 0 93) = False := eq_false (by rw [hC.1]; exact fun z => by have := (nI_ltI (by omega) (by omega)).mp z; omega)
        simp only [fX12_against_15, ↓lt, ↓reduceIte]
  exact key N 0 (by omega) (by omega)
end

/-! ===== laws: the whole expression, the line ===== -/
section
variable {N : Nat} {w w' w0 w1 wc wm wc' wm' wc1 wm1 : Wd} {b : Nat → Nat} {n m d k i : Nat} {u u' : Vw} {a f j s C op h : Nat} {K X st : Nat → Nat} {wt : Bool}
def FmG (b : Nat → Nat) (n m d a f k : Nat) (wc wm : Wd) (c m' : Option (Int32 × Wd)) : Prop := ∃ k' j C K X st w1 w2, k ≤ k' ∧ PF f j 0 C 0 K X st false ∧ c = some ((1 : Int32), w1) ∧ m' = some ((1 : Int32), w2) ∧ JC w1 b n m d k' ∧ JM w2 b n k' ∧ CF wc w1 d a j 0 C 0 K X st ∧ MFh wm w2 f j 0 C 0 K X st (sd K j)
theorem StB_L {c m' : Option (Int32 × Wd)} (h : StB b n d k wc wm c m') : LnB d wc wm c m' := by
  obtain ⟨f', h1, h2⟩ := h
  exact ⟨f', tP b n k, h1, h2⟩
theorem LnB_bind {c m' : Option (Int32 × Wd)} {g h : Int32 × Wd → Option (Int32 × Wd)} (hb : LnB d wc wm c m') (hg : ∀ w, g ((0 : Int32), w) = some ((0 : Int32), w)) (hh : ∀ w, h ((0 : Int32), w) = some ((0 : Int32), w)) : LnB d wc wm (c.bind g) (m'.bind h) := by
  obtain ⟨f', p, h1, h2⟩ := hb
  refine ⟨f', p, ok_bind h1 ?_, ok_bind h2 ?_⟩
  · rintro ⟨x, w⟩ ⟨e, h⟩
    simp only at e h
    subst e
    exact ok_of (hg w) ⟨rfl, h⟩
  · rintro ⟨x, w⟩ ⟨e, h⟩
    simp only at e h
    subst e
    exact ok_of (hh w) ⟨rfl, h⟩
theorem j_floop (hN : 1000 ≤ N) (ha : a < 2) : ∀ r k' i fc fm wc' wm' j s C op K X st wt, k' + r = m → r < fc → r < fm → i ≤ k' → JC wc' b n m d k' → JM wm' b n k' → FS d a f wc wm wc' wm' j s C op K X st wt → k ≤ k' →
    LnB d wc wm (fX7_readFormula_10 N (2 * d + a) fc (fX7_readFormula_75 N) (zB wt) (nI i) wc') (fX12_sumRead_15 N fm (fX12_sumRead_37 N) wm') ∨ FmG b n m d a f k wc wm (fX7_readFormula_10 N (2 * d + a) fc (fX7_readFormula_75 N) (zB wt) (nI i) wc') (fX12_sumRead_15 N fm (fX12_sumRead_37 N) wm') := by
  intro r
  induction r with
  | zero =>
    intro k' i fc fm wc' wm' j s C op K X st wt hr hfc hfm hi hc hm S hk
    obtain ⟨fc, rfl⟩ : ∃ z, fc = z + 1 := ⟨fc - 1, by omega⟩
    obtain ⟨fm, rfl⟩ : ∃ z, fm = z + 1 := ⟨fm - 1, by omega⟩
    have e : k' = m := by omega
    have hm9 : m ≤ 900 := hc.1.1
    have h60 : tK b n k' = 60 := by rw [e]; exact hc.1.2.1
    have lt : ((900 : Int32) < nI i) = False := eq_false (fun z => by
      have := (nI_ltI (a := 900) (by omega) (by omega)).mp z
      omega)
    have q32 : (gI wc' 14 0 8 = (32 : Int32)) = False := (JC_is hc (c := 32) (by omega)).trans (eq_false (by omega))
    have q34 : (gI wc' 14 0 8 = (34 : Int32)) = False := (JC_is hc (c := 34) (by omega)).trans (eq_false (by omega))
    have gs : pX12_isSign N (59 : Int32) wm' = some (zB (decide (tK b n k' = 32)), wm') := m_isSign (N := N) hm (c := 32) (by omega) (by omega)
    rw [decide_eq_false (by omega)] at gs
    have gv := c_isVal (N := N) (w := wc') (K := tK b n k') (tK_lt b n k')
    rw [← hc.2.2.1.1] at gv
    have e59 := S.2.2.2.1
    left
    cases wt with
    | true =>
      have q59 : (gI wm' 16 0 59 = 0) = False := eq_false (by rw [e59]; decide)
      have Cc : fX7_readFormula_10 N (2 * d + a) (fc + 1) (fX7_readFormula_75 N) (zB true) (nI i) wc' = (pX7_readBeginning N (2 * d + a) wc').bind fun r2 => if r2.1 = 0 then some ((0 : Int32), r2.2) else fX7_readFormula_56 N (2 * d + a) (fX7_readFormula_10 N (2 * d + a) fc (fX7_readFormula_75 N)) (zB true) (nI i) (zB (isV (tK b n k'))) (0 : Int32) r2.2 := by
        simp only [fX7_readFormula_10, ↓lt, ↓z1, fX7_readFormula_29, ↓cbnd gv, ↓q34, fX7_readFormula_42, ↓reduceIte, callW_eq]
      have Cm : fX12_sumRead_15 N (fm + 1) (fX12_sumRead_37 N) wm' = (pX12_leafRead N wm').bind fun r2 => if r2.1 = 0 then some ((0 : Int32), r2.2) else fX12_sumRead_15 N fm (fX12_sumRead_37 N) r2.2 := by
        simp only [fX12_sumRead_15, ↓cbnd gs, ↓z2, fX12_sumRead_25, ↓q59, ↓reduceIte, callW_eq]
      rw [Cc, Cm]
      rcases j_begin hN ha hc hm S with z | ⟨_, _, _, _, _, _, _, _, _, _, _, _, _, _, z⟩
      · exact LnB_bind (StB_L z) (fun w => by simp only [↓n0_0, ↓reduceIte]) (fun w => by simp only [↓n0_0, ↓reduceIte])
      · exact absurd h60 z
    | false =>
      have q59 : (gI wm' 16 0 59 = 0) = True := eq_true (by rw [e59]; rfl)
      have Cc : fX7_readFormula_10 N (2 * d + a) (fc + 1) (fX7_readFormula_75 N) (zB false) (nI i) wc' = (pX7_readSign N (2 * d + a) wc').bind fun r2 => if r2.1 = 0 then some ((0 : Int32), r2.2) else fX7_readFormula_56 N (2 * d + a) (fX7_readFormula_10 N (2 * d + a) fc (fX7_readFormula_75 N)) (zB false) (nI i) (zB (isV (tK b n k'))) (0 : Int32) r2.2 := by
        by_cases yo : gI wc' 11 0 6 = 0
        · have qo : (gI wc' 11 0 6 = 0) = True := eq_true yo
          simp only [fX7_readFormula_10, ↓lt, ↓z2, ↓qo, ↓q32, fX7_readFormula_29, ↓cbnd gv, ↓q34, fX7_readFormula_42, ↓reduceIte, callW_eq]
        · have qo : (gI wc' 11 0 6 = 0) = False := eq_false yo
          simp only [fX7_readFormula_10, ↓lt, ↓z2, ↓qo, fX7_readFormula_29, ↓cbnd gv, ↓q34, fX7_readFormula_42, ↓reduceIte, callW_eq]
      have Cm : fX12_sumRead_15 N (fm + 1) (fX12_sumRead_37 N) wm' = (pX12_signs N wm').bind fun r2 => if r2.1 = 0 then some ((0 : Int32), r2.2) else fX12_sumRead_15 N fm (fX12_sumRead_37 N) r2.2 := by
        simp only [fX12_sumRead_15, ↓cbnd gs, ↓z2, fX12_sumRead_25, ↓q59, ↓reduceIte, callW_eq]
      rw [Cc, Cm]
      rcases j_signs hN ha hc hm S with z | ⟨_, _, _, _, _, _, _, _, _, _, _, _, _, _, z⟩
      · exact LnB_bind (StB_L z) (fun w => by simp only [↓n0_0, ↓reduceIte]) (fun w => by simp only [↓n0_0, ↓reduceIte])
      · exact absurd h60 z
  | succ r ih =>
    intro k' i fc fm wc' wm' j s C op K X st wt hr hfc hfm hi hc hm S hk
    obtain ⟨fc, rfl⟩ : ∃ z, fc = z + 1 := ⟨fc - 1, by omega⟩
    obtain ⟨fm, rfl⟩ : ∃ z, fm = z + 1 := ⟨fm - 1, by omega⟩
    have hm9 : m ≤ 900 := hc.1.1
    have lt : ((900 : Int32) < nI i) = False := eq_false (fun z => by
      have := (nI_ltI (a := 900) (by omega) (by omega)).mp z
      omega)
    have ei : nI i + (1 : Int32) = nI (i + 1) := nI_add _ 1
    have q32 := JC_is hc (c := 32) (by omega)
    have q34 := JC_is hc (c := 34) (by omega)
    have gs : pX12_isSign N (59 : Int32) wm' = some (zB (decide (tK b n k' = 32)), wm') := m_isSign (N := N) hm (c := 32) (by omega) (by omega)
    have gv := c_isVal (N := N) (w := wc') (K := tK b n k') (tK_lt b n k')
    rw [← hc.2.2.1.1] at gv
    have e59 := S.2.2.2.1
    cases wt with
    | true =>
      have q59 : (gI wm' 16 0 59 = 0) = False := eq_false (by rw [e59]; decide)
      have Cc : ∃ cl : Int32, fX7_readFormula_10 N (2 * d + a) (fc + 1) (fX7_readFormula_75 N) (zB true) (nI i) wc' = (pX7_readBeginning N (2 * d + a) wc').bind fun r2 => if r2.1 = 0 then some ((0 : Int32), r2.2) else fX7_readFormula_56 N (2 * d + a) (fX7_readFormula_10 N (2 * d + a) fc (fX7_readFormula_75 N)) (zB true) (nI i) (zB (isV (tK b n k'))) cl r2.2 := by
        by_cases y34 : tK b n k' = 34
        · have q : (gI wc' 14 0 8 = (34 : Int32)) = True := q34.trans (eq_true y34)
          refine ⟨(1 : Int32), ?_⟩
          simp only [fX7_readFormula_10, ↓lt, ↓z1, fX7_readFormula_29, ↓cbnd gv, ↓q, fX7_readFormula_42, ↓reduceIte, callW_eq]
        · have q : (gI wc' 14 0 8 = (34 : Int32)) = False := q34.trans (eq_false y34)
          refine ⟨(0 : Int32), ?_⟩
          simp only [fX7_readFormula_10, ↓lt, ↓z1, fX7_readFormula_29, ↓cbnd gv, ↓q, fX7_readFormula_42, ↓reduceIte, callW_eq]
      have Cm : fX12_sumRead_15 N (fm + 1) (fX12_sumRead_37 N) wm' = (pX12_leafRead N wm').bind fun r2 => if r2.1 = 0 then some ((0 : Int32), r2.2) else fX12_sumRead_15 N fm (fX12_sumRead_37 N) r2.2 := by
        cases hd : decide (tK b n k' = 32) with
        | true =>
          rw [hd] at gs
          simp only [fX12_sumRead_15, ↓cbnd gs, ↓z1, ↓q59, fX12_sumRead_25, ↓reduceIte, callW_eq]
        | false =>
          rw [hd] at gs
          simp only [fX12_sumRead_15, ↓cbnd gs, ↓z2, ↓q59, fX12_sumRead_25, ↓reduceIte, callW_eq]
      obtain ⟨cl, Cc⟩ := Cc
      rw [Cc, Cm]
      rcases j_begin hN ha hc hm S with z | ⟨j', s', C', op', K', X', st', w1, w2, ec, em, jc, jm, S', hk60⟩
      · exact Or.inl (LnB_bind (StB_L z) (fun w => by simp only [↓n0_0, ↓reduceIte]) (fun w => by simp only [↓n0_0, ↓reduceIte]))
      · obtain ⟨w3, e3, f3, j3⟩ := c_adv (N := N) jc hk60
        rw [ec, em]
        have Dc : ((some ((1 : Int32), w1)).bind fun r2 => if r2.1 = 0 then some ((0 : Int32), r2.2) else fX7_readFormula_56 N (2 * d + a) (fX7_readFormula_10 N (2 * d + a) fc (fX7_readFormula_75 N)) (zB true) (nI i) (zB (isV (tK b n k'))) cl r2.2) = fX7_readFormula_10 N (2 * d + a) fc (fX7_readFormula_75 N) (zB (!isV (tK b n k'))) (nI (i + 1)) w3 := by
          cases hV : isV (tK b n k') with
          | true => simp only [Option.bind_some, ↓n1_0, fX7_readFormula_56, ↓z1, fX7_readFormula_69, ↓cbnd e3, ↓ei, ↓reduceIte, callW_eq, Bool.not_true]; rw [e3]; rfl
          | false => simp only [Option.bind_some, ↓n1_0, fX7_readFormula_56, ↓z1, ↓z2, fX7_readFormula_69, ↓cbnd e3, ↓ei, ↓reduceIte, callW_eq, Bool.not_false]; rw [e3]; rfl
        have Dm : ((some ((1 : Int32), w2)).bind fun r2 => if r2.1 = 0 then some ((0 : Int32), r2.2) else fX12_sumRead_15 N fm (fX12_sumRead_37 N) r2.2) = fX12_sumRead_15 N fm (fX12_sumRead_37 N) w2 := by
          simp only [Option.bind_some, ↓n1_0, ↓reduceIte]
        rw [Dc, Dm]
        exact ih (k' + 1) (i + 1) fc fm w3 w2 j' s' C' op' K' X' st' _ (by omega) (by omega) (by omega) (by omega) j3 jm ⟨CF_ad S'.1 f3, S'.2⟩ (by omega)
    | false =>
      have q59 : (gI wm' 16 0 59 = 0) = True := eq_true (by rw [e59]; rfl)
      have h8 := S.2.2.1.2.2.1
      by_cases yend : op = 0 ∧ tK b n k' = 32
      · obtain ⟨yo, y32⟩ := yend
        have qo : (gI wc' 11 0 6 = 0) = True := eq_true (by rw [S.1.2.2.2.2.2.2.1, yo]; rfl)
        have qp : ((0 : Int32) < gI wm' 16 0 57) = False := eq_false (by rw [S.2.1.2.2.2.2.2.1, yo]; decide)
        have q : (gI wc' 14 0 8 = (32 : Int32)) = True := q32.trans (eq_true y32)
        rw [decide_eq_true y32] at gs
        have hs : s ≤ 72 := by
          have h1 := S.2.2.1.1
          have hC := S.2.2.1.2.1
          have h5 := S.2.2.1.2.2.2.2.1
          omega
        obtain ⟨s', j', K', X', wc'', wm'', t1, t2, t3, t4, t5, t6, t7, t8, t9⟩ := j_bind (N := N) (wc := wc) (wm := wm) ha (least := 1) (by omega) (by omega) s j K X N N wc' wm' (by omega) (by omega) S.1 S.2.1 S.2.2.1
        have t2' : pX7_release N (2 * d + a) (1 : Int32) wc' = some wc'' := by
          unfold pX7_release
          rw [callW_eq, S.1.2.2.2.2.2.1]
          exact t2
        have t3' : pX12_bind N (1 : Int32) wm' = some wm'' := by
          unfold pX12_bind
          rw [callW_eq]
          exact t3
        have s0 : s' = 0 := by
          rcases Nat.eq_zero_or_pos s' with z | z
          · exact z
          · exfalso
            have e : tpS st s' = st (s' - 1) := by unfold tpS; rw [if_neg (by omega)]
            rw [e] at t7
            have h6 := t6.2.2.2.2.2.1 (s' - 1) (by omega)
            rcases h6 with z2 | z2
            · have h4 := t6.2.2.2.1
              have := cnt_pos (f := fun i => st i == 0) (n := s') (k := s' - 1) (by omega) (by simp only [beq_iff_eq]; exact z2)
              omega
            · have := (rnk_f (st (s' - 1)) (by omega)).2.1 z2.1
              omega
        subst s0
        subst yo
        refine Or.inr ⟨k', j', C, K', X', st, wc'', wm'', hk, t6, ?_, ?_, JC_fr t8 hc, JM_fr t9 hm, t4, t5⟩
        · simp only [fX7_readFormula_10, ↓lt, ↓z2, ↓qo, ↓q, ↓cbnd t2', ↓reduceIte]
        · simp only [fX12_sumRead_15, ↓cbnd gs, ↓z1, ↓q59, ↓qp, fX12_sumRead_37, ↓cbnd t3', ↓reduceIte]
      · have Cc : ∃ cl : Int32, cl = zB (decide (tK b n k' = 34)) ∧ fX7_readFormula_10 N (2 * d + a) (fc + 1) (fX7_readFormula_75 N) (zB false) (nI i) wc' = (pX7_readSign N (2 * d + a) wc').bind fun r2 => if r2.1 = 0 then some ((0 : Int32), r2.2) else fX7_readFormula_56 N (2 * d + a) (fX7_readFormula_10 N (2 * d + a) fc (fX7_readFormula_75 N)) (zB false) (nI i) (zB (isV (tK b n k'))) cl r2.2 := by
          have e29 : fX7_readFormula_10 N (2 * d + a) (fc + 1) (fX7_readFormula_75 N) (zB false) (nI i) wc' = fX7_readFormula_29 N (2 * d + a) (fX7_readFormula_10 N (2 * d + a) fc (fX7_readFormula_75 N)) (zB false) (nI i) wc' := by
            by_cases yo : op = 0
            · have qo : (gI wc' 11 0 6 = 0) = True := eq_true (by rw [S.1.2.2.2.2.2.2.1, yo]; rfl)
              have q : (gI wc' 14 0 8 = (32 : Int32)) = False := q32.trans (eq_false (fun z => yend ⟨yo, z⟩))
              simp only [fX7_readFormula_10, ↓lt, ↓z2, ↓qo, ↓q, ↓reduceIte, callW_eq]
            · have qo : (gI wc' 11 0 6 = 0) = False := eq_false (fun z => yo (by rw [S.1.2.2.2.2.2.2.1] at z; exact (nI_eq (b := 0) (by omega) (by omega)).mp z))
              simp only [fX7_readFormula_10, ↓lt, ↓z2, ↓qo, ↓reduceIte, callW_eq]
          rw [e29]
          by_cases y34 : tK b n k' = 34
          · have q : (gI wc' 14 0 8 = (34 : Int32)) = True := q34.trans (eq_true y34)
            refine ⟨(1 : Int32), by rw [decide_eq_true y34]; rfl, ?_⟩
            simp only [fX7_readFormula_29, ↓cbnd gv, ↓q, fX7_readFormula_42, ↓z2, ↓reduceIte, callW_eq]
          · have q : (gI wc' 14 0 8 = (34 : Int32)) = False := q34.trans (eq_false y34)
            refine ⟨(0 : Int32), by rw [decide_eq_false y34]; rfl, ?_⟩
            simp only [fX7_readFormula_29, ↓cbnd gv, ↓q, fX7_readFormula_42, ↓z2, ↓reduceIte, callW_eq]
        have Cm : fX12_sumRead_15 N (fm + 1) (fX12_sumRead_37 N) wm' = (pX12_signs N wm').bind fun r2 => if r2.1 = 0 then some ((0 : Int32), r2.2) else fX12_sumRead_15 N fm (fX12_sumRead_37 N) r2.2 := by
          by_cases y32 : tK b n k' = 32
          · rw [decide_eq_true y32] at gs
            have qp : ((0 : Int32) < gI wm' 16 0 57) = True := eq_true (by
              rw [S.2.1.2.2.2.2.2.1]
              exact (nI_ltI (a := 0) (by omega) (by omega)).mpr (by
                rcases Nat.eq_zero_or_pos op with z | z
                · exact absurd ⟨z, y32⟩ yend
                · exact z))
            simp only [fX12_sumRead_15, ↓cbnd gs, ↓z1, ↓q59, ↓qp, fX12_sumRead_25, ↓reduceIte, callW_eq]
          · rw [decide_eq_false y32] at gs
            simp only [fX12_sumRead_15, ↓cbnd gs, ↓z2, ↓q59, fX12_sumRead_25, ↓reduceIte, callW_eq]
        obtain ⟨cl, hcl, Cc⟩ := Cc
        rw [Cc, Cm]
        rcases j_signs hN ha hc hm S with z | ⟨j', s', C', op', K', X', st', w1, w2, ec, em, jc, jm, S', hk60⟩
        · exact Or.inl (LnB_bind (StB_L z) (fun w => by simp only [↓n0_0, ↓reduceIte]) (fun w => by simp only [↓n0_0, ↓reduceIte]))
        · obtain ⟨w3, e3, f3, j3⟩ := c_adv (N := N) jc hk60
          rw [ec, em, hcl]
          have Dc : ((some ((1 : Int32), w1)).bind fun r2 => if r2.1 = 0 then some ((0 : Int32), r2.2) else fX7_readFormula_56 N (2 * d + a) (fX7_readFormula_10 N (2 * d + a) fc (fX7_readFormula_75 N)) (zB false) (nI i) (zB (isV (tK b n k'))) (zB (decide (tK b n k' = 34))) r2.2) = fX7_readFormula_10 N (2 * d + a) fc (fX7_readFormula_75 N) (zB (!decide (tK b n k' = 34))) (nI (i + 1)) w3 := by
            cases hV : decide (tK b n k' = 34) with
            | true => simp only [Option.bind_some, ↓n1_0, fX7_readFormula_56, ↓z1, ↓z2, fX7_readFormula_69, ↓cbnd e3, ↓ei, ↓reduceIte, callW_eq, Bool.not_true]; rw [e3]; rfl
            | false => simp only [Option.bind_some, ↓n1_0, fX7_readFormula_56, ↓z2, fX7_readFormula_69, ↓cbnd e3, ↓ei, ↓reduceIte, callW_eq, Bool.not_false]; rw [e3]; rfl
          have Dm : ((some ((1 : Int32), w2)).bind fun r2 => if r2.1 = 0 then some ((0 : Int32), r2.2) else fX12_sumRead_15 N fm (fX12_sumRead_37 N) r2.2) = fX12_sumRead_15 N fm (fX12_sumRead_37 N) w2 := by
            simp only [Option.bind_some, ↓n1_0, ↓reduceIte]
          rw [Dc, Dm]
          exact ih (k' + 1) (i + 1) fc fm w3 w2 j' s' C' op' K' X' st' _ (by omega) (by omega) (by omega) (by omega) j3 jm ⟨CF_ad S'.1 f3, S'.2⟩ (by omega)
end

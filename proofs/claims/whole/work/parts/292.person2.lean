/-! ===== line: person, both ===== -/
theorem ms_f : ∀ M, M < 16 → ∀ t, t < 4 → M * 16 ||| 2 ^ (4 + t) = (M ||| 2 ^ t) * 16 ∧ M * 1024 ||| 2 ^ (10 + t) = (M ||| 2 ^ t) * 1024 ∧ (M * 16).testBit (4 + t) = M.testBit t ∧ (M * 1024).testBit (10 + t) = M.testBit t ∧ M ||| 2 ^ t < 16 := by decide +kernel
theorem kC_opt : ∀ K, K < 64 → K ≠ 3 → ¬ (4 ≤ K ∧ K ≤ 7) → (kC K < (4 : Int32) ∨ (7 : Int32) < kC K) := by decide +kernel
theorem wr_opt : ∀ K, K < 24 → K ≠ 3 → ¬ (4 ≤ K ∧ K ≤ 7) → (wrL.getD K 0 < 9 ∨ 13 < wrL.getD K 0) := by decide +kernel
section
variable {N : Nat} {w w' w0 w1 wc wm : Wd} {b : Nat → Nat} {n m d k i : Nat} {u u' : Vw} {nm fi co fr ti fo x : Nat}
theorem PSc_nm (D : DC wc d u) (h : PSc wc w d u nm fi co fr ti fo) : nmC w d u := nmC_fr h.1 (DC_nm D)
theorem PSm_nm (D : DM wm u) (h : PSm wm w u nm fi co fr ti fo) : nmM w u := nmM_fr h.1 (DM_nm D)
/-- the reference: knows -/
theorem m_knows (hN : 1000 ≤ N) (hj : JM w b n k) (D : DM wm u) (h : PSm wm w u nm fi co fr ti fo) (h8 : u 0 0 ≤ 8) (h6 : u 0 1 < 6) (hfi : fi < 256) (hz : otF u fi b n (k + 1) = 0) : ∃ y, pX12_knowsRead N (nI (6 + u 0 1)) w = some ((1 : Int32), y) ∧ JM y b n (k + 1 + 1) ∧ PSm wm y u nm (fi ||| 2 ^ ptN u b n (k + 1)) co fr ti fo := by
  obtain ⟨y1, y2⟩ := otF_0 hz
  have hp := ptF_lt y1
  obtain ⟨w2, e2, f2, j2⟩ := m_adv (N := N) hj hN
  have p2 := PSm_nu h (Fr_mono f2 rfl)
  have g4 := m_met (N := N) j2 (by omega) (PSm_nm D p2) h8 y1
  have f4 : Fr [17011] w2 (setI w2 16 0 11 (nI (ptN u b n (k + 1)))) := Fr_setI (Fr_refl _ _) rfl
  have j4 := JM_fr f4 j2
  have p4 := PSm_nu p2 (Fr_mono f4 rfl)
  have a11 : gI (setI w2 16 0 11 (nI (ptN u b n (k + 1)))) 16 0 11 = nI (ptN u b n (k + 1)) := by rw [gg_I, if_pos ⟨rfl, rfl, rfl⟩]
  generalize setI w2 16 0 11 (nI (ptN u b n (k + 1))) = w4 at g4 f4 j4 p4 a11
  have l4 : ldI w4 79 0 (nI (6 + u 0 1)) 12 = some (nI fi) := by rw [ldn (by omega) (by omega)]; exact congrArg some p4.2.2.2.2.1
  have g5 := m_isOf (N := N) (w := w4) (x := fi) (k := ptN u b n (k + 1)) (by omega) (by omega)
  rw [y2, ← a11] at g5
  have es := s31 (q := ptN u b n (k + 1)) (by omega)
  have s5 : stI w4 79 0 (nI (6 + u 0 1)) 12 (nI fi ||| ((1 : Int32) <<< (gI w4 16 0 11 &&& (31 : Int32)))) = some (setI w4 79 0 (6 + u 0 1) (nI (fi ||| 2 ^ ptN u b n (k + 1)))) := by rw [a11, es, nz_or]; exact stn (by omega) (by omega)
  have p5 := PSm_79 p4 (fi ||| 2 ^ ptN u b n (k + 1))
  have j5 := JM_fr (l := [79]) (w' := setI w4 79 0 (6 + u 0 1) (nI (fi ||| 2 ^ ptN u b n (k + 1)))) (Fr_setI (Fr_refl _ _) rfl) j4
  obtain ⟨w7, e7, f7, j7⟩ := m_adv (N := N) j5 hN
  refine ⟨w7, ?_, j7, PSm_nu p5 (Fr_mono f7 rfl)⟩
  simp only [pX12_knowsRead, ↓cbnd e2, ↓cbnd g4, ↓n1_0, ↓bnd l4, ↓cbnd g5, ↓z2, ↓bnd s5, ↓cbnd e7, ↓reduceIte]
theorem m_knowsF (hN : 1000 ≤ N) (hj : JM w b n k) (D : DM wm u) (h : PSm wm w u nm fi co fr ti fo) (h8 : u 0 0 ≤ 8) (h6 : u 0 1 < 6) (hfi : fi < 256) (hz : otF u fi b n (k + 1) ≠ 0) : Ok (pX12_knowsRead N (nI (6 + u 0 1)) w) (fun y => y.1 = (0 : Int32) ∧ FM wm y.2 ∧ gI y.2 16 0 4 = nI (otF u fi b n (k + 1)) ∧ gI y.2 16 0 5 = nI (tP b n (k + 1))) := by
  obtain ⟨w2, e2, f2, j2⟩ := m_adv (N := N) hj hN
  have p2 := PSm_nu h (Fr_mono f2 rfl)
  by_cases y1 : ptF u b n (k + 1) = 0
  · have hp := ptF_lt y1
    have hbt : fi.testBit (ptN u b n (k + 1)) = true := by
      cases hbt : fi.testBit (ptN u b n (k + 1)) with
      | true => rfl
      | false =>
        exfalso
        apply hz
        unfold otF
        rw [if_pos y1, hbt]
        rfl
    have eF : otF u fi b n (k + 1) = 3 := by
      unfold otF
      rw [if_pos y1, hbt]
      rfl
    have g4 := m_met (N := N) j2 (by omega) (PSm_nm D p2) h8 y1
    have f4 : Fr [17011] w2 (setI w2 16 0 11 (nI (ptN u b n (k + 1)))) := Fr_setI (Fr_refl _ _) rfl
    have j4 := JM_fr f4 j2
    have p4 := PSm_nu p2 (Fr_mono f4 rfl)
    have a11 : gI (setI w2 16 0 11 (nI (ptN u b n (k + 1)))) 16 0 11 = nI (ptN u b n (k + 1)) := by rw [gg_I, if_pos ⟨rfl, rfl, rfl⟩]
    generalize setI w2 16 0 11 (nI (ptN u b n (k + 1))) = w4 at g4 f4 j4 p4 a11
    have l4 : ldI w4 79 0 (nI (6 + u 0 1)) 12 = some (nI fi) := by rw [ldn (by omega) (by omega)]; exact congrArg some p4.2.2.2.2.1
    have g5 := m_isOf (N := N) (w := w4) (x := fi) (k := ptN u b n (k + 1)) (by omega) (by omega)
    rw [hbt, ← a11] at g5
    simp only [pX12_knowsRead, ↓cbnd e2, ↓cbnd g4, ↓n1_0, ↓bnd l4, ↓cbnd g5, ↓z1, ↓reduceIte]
    rw [eF]
    exact ok_mono (m_wrongZ j4 3) (fun y hy => ⟨hy.1, flM_B (FM_PS p4) hy.2⟩)
  · have eF : otF u fi b n (k + 1) = ptF u b n (k + 1) := by
      unfold otF
      rw [if_neg y1]
    simp only [pX12_knowsRead, ↓cbnd e2, callW_eq]
    refine ok_bind (m_metF (N := N) j2 (by omega) (PSm_nm D p2) h8 y1) ?_
    rintro ⟨y, w3⟩ ⟨e, h3⟩
    simp only at e h3
    subst e
    simp only [↓n0_0, ↓reduceIte]
    rw [eF]
    exact ok_some ⟨rfl, flN_B (FM_PS p2) h3⟩
theorem j_ploop (hN : 1000 ≤ N) (hU : WU u) (h6 : u 0 1 < 6) (Dc : DC wc d u) (Dm : DM wm u) (hnm : nm < 2 ^ 30) : ∀ r k' M i fi co fr ti fo fc fm wc' wm', k' + r = m → r < fc → r < fm → i + 2 ≤ k' → M < 16 → fi < 256 → co ≤ 99 → fr ≤ 999 → ti ≤ 999 → fo ≤ 999 → JC wc' b n m d k' → JM wm' b n k' → PSc wc wc' d u nm fi co fr ti fo → PSm wm wm' u nm fi co fr ti fo → k < k' →
    LnR b n m d k wc wm (fX7_readPerson_28 N fc d (nI (u 0 1)) (nI (M * 16)) (nI i) wc') (fX12_personLine_52 N fm (fX12_personLine_186 N) (nI (6 + u 0 1)) (nI (M * 1024)) wm') := by
  have U0 := hU.1.1
  intro r
  induction r using Nat.strongRecOn with
  | _ r ih =>
    intro k' M i fi co fr ti fo fc fm wc' wm' hr hfc hfm hi hM hfi hco hfr hti hfo hc hm pc pm hk
    obtain ⟨fc, rfl⟩ : ∃ z, fc = z + 1 := ⟨fc - 1, by omega⟩
    obtain ⟨fm, rfl⟩ : ∃ z, fm = z + 1 := ⟨fm - 1, by omega⟩
    have hm9 : m ≤ 900 := hc.1.1
    have lt9 : (nI i < (900 : Int32)) = True := eq_true ((nI_ltI (b := 900) (by omega) (by omega)).mpr (by omega))
    have ei : nI i + (1 : Int32) = nI (i + 1) := nI_add _ 1
    have e8 : gI wc' 14 0 8 = kC (tK b n k') := hc.2.2.1.1
    by_cases y3 : tK b n k' = 3
    · have hlt := JC_lt hc (by omega)
      have q3 : (gI wc' 14 0 8 = (3 : Int32)) = True := (JC_is hc (c := 3) (by omega)).trans (eq_true y3)
      have p8 : (gI wm' 16 0 8 = (1 : Int32)) = True := eq_true ((JM_8 hm).2.1.mpr (by omega))
      have e9 : gI wm' 16 0 9 = nI 9 := by rw [((JM_kd hm).1 (by omega)).2, y3]; rfl
      have p9 : (gI wm' 16 0 9 < (9 : Int32)) = False := eq_false (by rw [e9]; decide)
      have p13 : ((13 : Int32) < gI wm' 16 0 9) = False := eq_false (by rw [e9]; decide)
      have pk : (gI wm' 16 0 9 = (9 : Int32)) = True := eq_true e9
      obtain ⟨w1, e1, f1, j1⟩ := c_adv (N := N) hc (by omega)
      have p1 := PSc_ad pc f1
      have l1 : ldI w1 49 d (nI (u 0 1)) 6 = some (nI fi) := by rw [ldn (by omega) (by omega)]; exact congrArg some p1.2.2.2.2.2.1
      by_cases z : otF u fi b n (k' + 1) = 0
      · have hp := ptF_lt (otF_0 z).1
        have hlt2 := JC_lt j1 (by omega)
        obtain ⟨⟨x, w3⟩, e3, ex, f3, j3⟩ := c_other (N := N) j1 (by omega) (PSc_nm Dc p1) U0 (B := fi) (by omega) z
        simp only at ex f3 j3
        subst ex
        have p3 := PSc_ad p1 f3
        have ne0 : (nI (2 ^ ptN u b n (k' + 1)) = 0) = False := eq_false (fun q => by
          have h2 : 2 ^ ptN u b n (k' + 1) ≤ 2 ^ 8 := Nat.pow_le_pow_right (by omega) (by omega)
          have h1 := Nat.two_pow_pos (ptN u b n (k' + 1))
          have := (nI_eq (b := 0) (by omega) (by omega)).mp q
          omega)
        have l3 : ldI w3 49 d (nI (u 0 1)) 6 = some (nI fi) := by rw [ldn (by omega) (by omega)]; exact congrArg some p3.2.2.2.2.2.1
        have s3 : stI w3 49 d (nI (u 0 1)) 6 (nI fi ||| nI (2 ^ ptN u b n (k' + 1))) = some (setI w3 49 d (u 0 1) (nI (fi ||| 2 ^ ptN u b n (k' + 1)))) := by rw [nz_or]; exact stn (by omega) (by omega)
        have Cc : fX7_readPerson_28 N (fc + 1) d (nI (u 0 1)) (nI (M * 16)) (nI i) wc' = fX7_readPerson_28 N fc d (nI (u 0 1)) (nI (M * 16)) (nI (i + 1)) (setI w3 49 d (u 0 1) (nI (fi ||| 2 ^ ptN u b n (k' + 1)))) := by
          simp only [fX7_readPerson_28, ↓lt9, ↓q3, ↓cbnd e1, ↓bnd l1, ↓cbnd e3, ↓ne0, ↓bnd l3, ↓bnd s3, ↓ei, ↓reduceIte, callW_eq]
        obtain ⟨y, ey, jy, py⟩ := m_knows hN hm Dm pm U0 h6 hfi z
        have Cm : fX12_personLine_52 N (fm + 1) (fX12_personLine_186 N) (nI (6 + u 0 1)) (nI (M * 1024)) wm' = fX12_personLine_52 N fm (fX12_personLine_186 N) (nI (6 + u 0 1)) (nI (M * 1024)) y := by
          simp only [fX12_personLine_52, ↓p8, ↓p9, ↓p13, ↓pk, ↓cbnd ey, ↓n1_0, ↓reduceIte, callW_eq]
        rw [Cc, Cm]
        refine ih (m - (k' + 1 + 1)) (by omega) (k' + 1 + 1) M (i + 1) (fi ||| 2 ^ ptN u b n (k' + 1)) co fr ti fo fc fm _ y (by omega) (by omega) (by omega) (by omega) hM ?_ hco hfr hti hfo (JC_fr (l := [49]) (Fr_setI (Fr_refl _ _) rfl) j3) jy (PSc_49 p3 _) py (by omega)
        have : 2 ^ ptN u b n (k' + 1) < 2 ^ 8 := Nat.pow_lt_pow_right (by omega) (by omega)
        exact Nat.or_lt_two_pow (n := 8) hfi this
      · refine Or.inl ⟨otF u fi b n (k' + 1), tP b n (k' + 1), ?_, ?_⟩
        · simp only [fX7_readPerson_28, ↓lt9, ↓q3, ↓cbnd e1, ↓bnd l1, ↓reduceIte, callW_eq]
          refine ok_bind (c_otherF (N := N) j1 (by omega) (PSc_nm Dc p1) U0 (B := fi) (by omega) z) ?_
          rintro ⟨x, w3⟩ ⟨e, h3⟩
          simp only at e h3
          subst e
          simp only [↓n0_0, ↓reduceIte]
          exact ok_some ⟨rfl, flC_B (FC_PS p1) h3⟩
        · simp only [fX12_personLine_52, ↓p8, ↓p9, ↓p13, ↓pk, ↓reduceIte, callW_eq]
          refine ok_bind (m_knowsF hN hm Dm pm U0 h6 hfi z) ?_
          rintro ⟨x, w3⟩ ⟨e, h3⟩
          simp only at e h3
          subst e
          simp only [↓n0_0, ↓reduceIte]
          exact ok_some ⟨rfl, h3⟩
    · have q3 : (gI wc' 14 0 8 = (3 : Int32)) = False := (JC_is hc (c := 3) (by omega)).trans (eq_false y3)
      by_cases yo : 4 ≤ tK b n k' ∧ tK b n k' ≤ 7
      · have hlt := JC_lt hc (by omega)
        have p8 : (gI wm' 16 0 8 = (1 : Int32)) = True := eq_true ((JM_8 hm).2.1.mpr (by omega))
        have cs : tK b n k' = 4 ∨ tK b n k' = 5 ∨ tK b n k' = 6 ∨ tK b n k' = 7 := by omega
        rcases cs with yt | yt | yt | yt
        · have e8' : gI wc' 14 0 8 = nI 4 := by rw [e8, yt]; rfl
          have q4 : (gI wc' 14 0 8 < (4 : Int32)) = False := eq_false (by rw [e8']; decide)
          have q7 : ((7 : Int32) < gI wc' 14 0 8) = False := eq_false (by rw [e8']; decide)
          have e9 : gI wm' 16 0 9 = nI 10 := by rw [((JM_kd hm).1 (by omega)).2, yt]; rfl
          have p9 : (gI wm' 16 0 9 < (9 : Int32)) = False := eq_false (by rw [e9]; decide)
          have p13 : ((13 : Int32) < gI wm' 16 0 9) = False := eq_false (by rw [e9]; decide)
          have pk : (gI wm' 16 0 9 = (9 : Int32)) = False := eq_false (by rw [e9]; decide)
          have c13 : (gI wm' 16 0 9 = (13 : Int32)) = False := eq_false (by rw [e9]; decide)
          have c12 : (gI wm' 16 0 9 = (12 : Int32)) = False := eq_false (by rw [e9]; decide)
          obtain ⟨t1, t2, t3, t4, t5⟩ := ms_f M hM 0 (by omega)
          have gof := m_isOf (N := N) (w := wm') (x := M * 1024) (k := 10) (by omega) (by omega)
          rw [← e9] at gof
          have bb := b31 (B := M * 16) (q := 4) (by omega) (by omega)
          rw [← e8'] at bb
          cases hbit : M.testBit 0 with
          | true =>
            rw [hbit] at t3 t4
            have qb : ((nI (M * 16) >>> (gI wc' 14 0 8 &&& (31 : Int32))) &&& (1 : Int32) = 0) = False := bb.trans (eq_false (by rw [t3]; decide))
            rw [t4] at gof
            refine Or.inl ⟨3, tP b n k', ?_, ?_⟩
            · simp only [fX7_readPerson_28, ↓lt9, ↓q3, ↓q4, ↓q7, ↓qb, fX7_readPerson_76, ↓reduceIte, callW_eq]
              refine ok_bind (c_passF (N := N) hc 3) ?_
              rintro ⟨x, w3⟩ ⟨e, h3⟩
              simp only at e h3
              subst e
              simp only [↓n0_0, ↓reduceIte]
              exact ok_some ⟨rfl, flC_B (FC_PS pc) h3⟩
            · simp only [fX12_personLine_52, ↓p8, ↓p9, ↓p13, ↓pk, ↓cbnd gof, ↓z1, ↓reduceIte]
              exact ok_mono (m_wrongZ hm 3) (fun y hy => ⟨hy.1, flM_B (FM_PS pm) hy.2⟩)
          | false =>
            rw [hbit] at t3 t4
            have qb : ((nI (M * 16) >>> (gI wc' 14 0 8 &&& (31 : Int32))) &&& (1 : Int32) = 0) = True := bb.trans (eq_true t3)
            rw [t4] at gof
            obtain ⟨⟨x, w1⟩, e1, ex, f1, j1⟩ := c_pass (N := N) hc (by omega) (3 : Int32)
            simp only at ex f1 j1
            subst ex
            have p1 := PSc_ad pc f1
            obtain ⟨w2, e2, f2, j2⟩ := m_adv (N := N) hm hN
            have p2 := PSm_nu pm (Fr_mono f2 rfl)
            have eo : nI (M * 16) ||| ((1 : Int32) <<< (gI wc' 14 0 8 &&& (31 : Int32))) = nI ((M ||| 2 ^ 0) * 16) := by rw [e8', s31 (by omega), nz_or, ← t1]
            have eo' : nI (M * 1024) ||| ((1 : Int32) <<< (gI wm' 16 0 9 &&& (31 : Int32))) = nI ((M ||| 2 ^ 0) * 1024) := by rw [e9, s31 (by omega), nz_or, ← t2]
            by_cases z : nmF b n (k' + 1) 0 99 = 0
            · have hrg := nmF_rng z
              have hlt2 := JC_lt j1 (by omega)
              obtain ⟨⟨x, w3⟩, e3, ex, j3, p3⟩ := c_opt0 (N := N) j1 p1 h6 hfr hti z
              simp only at ex j3 p3
              subst ex
              rw [← e8'] at e3
              have Cc : fX7_readPerson_28 N (fc + 1) d (nI (u 0 1)) (nI (M * 16)) (nI i) wc' = fX7_readPerson_28 N fc d (nI (u 0 1)) (nI ((M ||| 2 ^ 0) * 16)) (nI (i + 1)) w3 := by
                simp only [fX7_readPerson_28, ↓lt9, ↓q3, ↓q4, ↓q7, ↓qb, fX7_readPerson_76, ↓cbnd e1, ↓n1_0, ↓cbnd e3, ↓eo, ↓ei, ↓reduceIte, callW_eq]
              obtain ⟨y, ey, jy, py⟩ := m_opt0 hN j2 p2 h6 hfr hti z (fX12_personLine_52 N fm (fX12_personLine_186 N)) (nI ((M ||| 2 ^ 0) * 1024))
              have Cm : fX12_personLine_52 N (fm + 1) (fX12_personLine_186 N) (nI (6 + u 0 1)) (nI (M * 1024)) wm' = fX12_personLine_52 N fm (fX12_personLine_186 N) (nI (6 + u 0 1)) (nI ((M ||| 2 ^ 0) * 1024)) y := by
                simp only [fX12_personLine_52, ↓p8, ↓p9, ↓p13, ↓pk, ↓cbnd gof, ↓z2, ↓cbnd e2, ↓c13, ↓c12, ↓eo', ↓e9, ↓reduceIte, callW_eq]
                exact ey
              rw [Cc, Cm]
              exact ih (m - (k' + 1 + 1)) (by omega) (k' + 1 + 1) (M ||| 2 ^ 0) (i + 1) fi (tV b n (k' + 1)) fr ti fo fc fm w3 y (by omega) (by omega) (by omega) (by omega) t5 hfi (by omega) hfr hti hfo j3 jy p3 py (by omega)
            · refine Or.inl ⟨nmF b n (k' + 1) 0 99, tP b n (k' + 1), ?_, ?_⟩
              · simp only [fX7_readPerson_28, ↓lt9, ↓q3, ↓q4, ↓q7, ↓qb, fX7_readPerson_76, ↓cbnd e1, ↓n1_0, ↓reduceIte, callW_eq]
                rw [e8']
                refine ok_bind (c_opt0F (N := N) j1 p1 h6 hfr hti z) ?_
                rintro ⟨x, w3⟩ ⟨e, h3⟩
                simp only at e h3
                subst e
                simp only [↓n0_0, ↓reduceIte]
                exact ok_some ⟨rfl, h3⟩
              · simp only [fX12_personLine_52, ↓p8, ↓p9, ↓p13, ↓pk, ↓cbnd gof, ↓z2, ↓cbnd e2, ↓c13, ↓c12, ↓eo', ↓e9, ↓reduceIte, callW_eq]
                exact m_opt0F j2 p2 h6 hfr hti z _ _
        · have e8' : gI wc' 14 0 8 = nI 5 := by rw [e8, yt]; rfl
          have q4 : (gI wc' 14 0 8 < (4 : Int32)) = False := eq_false (by rw [e8']; decide)
          have q7 : ((7 : Int32) < gI wc' 14 0 8) = False := eq_false (by rw [e8']; decide)
          have e9 : gI wm' 16 0 9 = nI 11 := by rw [((JM_kd hm).1 (by omega)).2, yt]; rfl
          have p9 : (gI wm' 16 0 9 < (9 : Int32)) = False := eq_false (by rw [e9]; decide)
          have p13 : ((13 : Int32) < gI wm' 16 0 9) = False := eq_false (by rw [e9]; decide)
          have pk : (gI wm' 16 0 9 = (9 : Int32)) = False := eq_false (by rw [e9]; decide)
          have c13 : (gI wm' 16 0 9 = (13 : Int32)) = False := eq_false (by rw [e9]; decide)
          have c12 : (gI wm' 16 0 9 = (12 : Int32)) = False := eq_false (by rw [e9]; decide)
          obtain ⟨t1, t2, t3, t4, t5⟩ := ms_f M hM 1 (by omega)
          have gof := m_isOf (N := N) (w := wm') (x := M * 1024) (k := 11) (by omega) (by omega)
          rw [← e9] at gof
          have bb := b31 (B := M * 16) (q := 5) (by omega) (by omega)
          rw [← e8'] at bb
          cases hbit : M.testBit 1 with
          | true =>
            rw [hbit] at t3 t4
            have qb : ((nI (M * 16) >>> (gI wc' 14 0 8 &&& (31 : Int32))) &&& (1 : Int32) = 0) = False := bb.trans (eq_false (by rw [t3]; decide))
            rw [t4] at gof
            refine Or.inl ⟨3, tP b n k', ?_, ?_⟩
            · simp only [fX7_readPerson_28, ↓lt9, ↓q3, ↓q4, ↓q7, ↓qb, fX7_readPerson_76, ↓reduceIte, callW_eq]
              refine ok_bind (c_passF (N := N) hc 3) ?_
              rintro ⟨x, w3⟩ ⟨e, h3⟩
              simp only at e h3
              subst e
              simp only [↓n0_0, ↓reduceIte]
              exact ok_some ⟨rfl, flC_B (FC_PS pc) h3⟩
            · simp only [fX12_personLine_52, ↓p8, ↓p9, ↓p13, ↓pk, ↓cbnd gof, ↓z1, ↓reduceIte]
              exact ok_mono (m_wrongZ hm 3) (fun y hy => ⟨hy.1, flM_B (FM_PS pm) hy.2⟩)
          | false =>
            rw [hbit] at t3 t4
            have qb : ((nI (M * 16) >>> (gI wc' 14 0 8 &&& (31 : Int32))) &&& (1 : Int32) = 0) = True := bb.trans (eq_true t3)
            rw [t4] at gof
            obtain ⟨⟨x, w1⟩, e1, ex, f1, j1⟩ := c_pass (N := N) hc (by omega) (3 : Int32)
            simp only at ex f1 j1
            subst ex
            have p1 := PSc_ad pc f1
            obtain ⟨w2, e2, f2, j2⟩ := m_adv (N := N) hm hN
            have p2 := PSm_nu pm (Fr_mono f2 rfl)
            have eo : nI (M * 16) ||| ((1 : Int32) <<< (gI wc' 14 0 8 &&& (31 : Int32))) = nI ((M ||| 2 ^ 1) * 16) := by rw [e8', s31 (by omega), nz_or, ← t1]
            have eo' : nI (M * 1024) ||| ((1 : Int32) <<< (gI wm' 16 0 9 &&& (31 : Int32))) = nI ((M ||| 2 ^ 1) * 1024) := by rw [e9, s31 (by omega), nz_or, ← t2]
            by_cases z : nmF b n (k' + 1) 0 ti = 0
            · have hrg := nmF_rng z
              have hlt2 := JC_lt j1 (by omega)
              obtain ⟨⟨x, w3⟩, e3, ex, j3, p3⟩ := c_opt1 (N := N) j1 p1 h6 hfr hti z
              simp only at ex j3 p3
              subst ex
              rw [← e8'] at e3
              have Cc : fX7_readPerson_28 N (fc + 1) d (nI (u 0 1)) (nI (M * 16)) (nI i) wc' = fX7_readPerson_28 N fc d (nI (u 0 1)) (nI ((M ||| 2 ^ 1) * 16)) (nI (i + 1)) w3 := by
                simp only [fX7_readPerson_28, ↓lt9, ↓q3, ↓q4, ↓q7, ↓qb, fX7_readPerson_76, ↓cbnd e1, ↓n1_0, ↓cbnd e3, ↓eo, ↓ei, ↓reduceIte, callW_eq]
              obtain ⟨y, ey, jy, py⟩ := m_opt1 hN j2 p2 h6 hfr hti z (fX12_personLine_52 N fm (fX12_personLine_186 N)) (nI ((M ||| 2 ^ 1) * 1024))
              have Cm : fX12_personLine_52 N (fm + 1) (fX12_personLine_186 N) (nI (6 + u 0 1)) (nI (M * 1024)) wm' = fX12_personLine_52 N fm (fX12_personLine_186 N) (nI (6 + u 0 1)) (nI ((M ||| 2 ^ 1) * 1024)) y := by
                simp only [fX12_personLine_52, ↓p8, ↓p9, ↓p13, ↓pk, ↓cbnd gof, ↓z2, ↓cbnd e2, ↓c13, ↓c12, ↓eo', ↓e9, ↓reduceIte, callW_eq]
                exact ey
              rw [Cc, Cm]
              exact ih (m - (k' + 1 + 1)) (by omega) (k' + 1 + 1) (M ||| 2 ^ 1) (i + 1) fi co (tV b n (k' + 1)) ti fo fc fm w3 y (by omega) (by omega) (by omega) (by omega) t5 hfi hco (by omega) hti hfo j3 jy p3 py (by omega)
            · refine Or.inl ⟨nmF b n (k' + 1) 0 ti, tP b n (k' + 1), ?_, ?_⟩
              · simp only [fX7_readPerson_28, ↓lt9, ↓q3, ↓q4, ↓q7, ↓qb, fX7_readPerson_76, ↓cbnd e1, ↓n1_0, ↓reduceIte, callW_eq]
                rw [e8']
                refine ok_bind (c_opt1F (N := N) j1 p1 h6 hfr hti z) ?_
                rintro ⟨x, w3⟩ ⟨e, h3⟩
                simp only at e h3
                subst e
                simp only [↓n0_0, ↓reduceIte]
                exact ok_some ⟨rfl, h3⟩
              · simp only [fX12_personLine_52, ↓p8, ↓p9, ↓p13, ↓pk, ↓cbnd gof, ↓z2, ↓cbnd e2, ↓c13, ↓c12, ↓eo', ↓e9, ↓reduceIte, callW_eq]
                exact m_opt1F j2 p2 h6 hfr hti z _ _
        · have e8' : gI wc' 14 0 8 = nI 6 := by rw [e8, yt]; rfl
          have q4 : (gI wc' 14 0 8 < (4 : Int32)) = False := eq_false (by rw [e8']; decide)
          have q7 : ((7 : Int32) < gI wc' 14 0 8) = False := eq_false (by rw [e8']; decide)
          have e9 : gI wm' 16 0 9 = nI 12 := by rw [((JM_kd hm).1 (by omega)).2, yt]; rfl
          have p9 : (gI wm' 16 0 9 < (9 : Int32)) = False := eq_false (by rw [e9]; decide)
          have p13 : ((13 : Int32) < gI wm' 16 0 9) = False := eq_false (by rw [e9]; decide)
          have pk : (gI wm' 16 0 9 = (9 : Int32)) = False := eq_false (by rw [e9]; decide)
          have c13 : (gI wm' 16 0 9 = (13 : Int32)) = False := eq_false (by rw [e9]; decide)
          have c12 : (gI wm' 16 0 9 = (12 : Int32)) = True := eq_true e9
          obtain ⟨t1, t2, t3, t4, t5⟩ := ms_f M hM 2 (by omega)
          have gof := m_isOf (N := N) (w := wm') (x := M * 1024) (k := 12) (by omega) (by omega)
          rw [← e9] at gof
          have bb := b31 (B := M * 16) (q := 6) (by omega) (by omega)
          rw [← e8'] at bb
          cases hbit : M.testBit 2 with
          | true =>
            rw [hbit] at t3 t4
            have qb : ((nI (M * 16) >>> (gI wc' 14 0 8 &&& (31 : Int32))) &&& (1 : Int32) = 0) = False := bb.trans (eq_false (by rw [t3]; decide))
            rw [t4] at gof
            refine Or.inl ⟨3, tP b n k', ?_, ?_⟩
            · simp only [fX7_readPerson_28, ↓lt9, ↓q3, ↓q4, ↓q7, ↓qb, fX7_readPerson_76, ↓reduceIte, callW_eq]
              refine ok_bind (c_passF (N := N) hc 3) ?_
              rintro ⟨x, w3⟩ ⟨e, h3⟩
              simp only at e h3
              subst e
              simp only [↓n0_0, ↓reduceIte]
              exact ok_some ⟨rfl, flC_B (FC_PS pc) h3⟩
            · simp only [fX12_personLine_52, ↓p8, ↓p9, ↓p13, ↓pk, ↓cbnd gof, ↓z1, ↓reduceIte]
              exact ok_mono (m_wrongZ hm 3) (fun y hy => ⟨hy.1, flM_B (FM_PS pm) hy.2⟩)
          | false =>
            rw [hbit] at t3 t4
            have qb : ((nI (M * 16) >>> (gI wc' 14 0 8 &&& (31 : Int32))) &&& (1 : Int32) = 0) = True := bb.trans (eq_true t3)
            rw [t4] at gof
            obtain ⟨⟨x, w1⟩, e1, ex, f1, j1⟩ := c_pass (N := N) hc (by omega) (3 : Int32)
            simp only at ex f1 j1
            subst ex
            have p1 := PSc_ad pc f1
            obtain ⟨w2, e2, f2, j2⟩ := m_adv (N := N) hm hN
            have p2 := PSm_nu pm (Fr_mono f2 rfl)
            have eo : nI (M * 16) ||| ((1 : Int32) <<< (gI wc' 14 0 8 &&& (31 : Int32))) = nI ((M ||| 2 ^ 2) * 16) := by rw [e8', s31 (by omega), nz_or, ← t1]
            have eo' : nI (M * 1024) ||| ((1 : Int32) <<< (gI wm' 16 0 9 &&& (31 : Int32))) = nI ((M ||| 2 ^ 2) * 1024) := by rw [e9, s31 (by omega), nz_or, ← t2]
            have l4 : ldI w2 81 0 (nI (6 + u 0 1)) 12 = some (nI fr) := by rw [ldn (by omega) (by omega)]; exact congrArg some p2.2.2.2.2.2.2.1
            by_cases z : nmF b n (k' + 1) fr 999 = 0
            · have hrg := nmF_rng z
              have hlt2 := JC_lt j1 (by omega)
              obtain ⟨⟨x, w3⟩, e3, ex, j3, p3⟩ := c_opt2 (N := N) j1 p1 h6 hfr hti z
              simp only at ex j3 p3
              subst ex
              rw [← e8'] at e3
              have Cc : fX7_readPerson_28 N (fc + 1) d (nI (u 0 1)) (nI (M * 16)) (nI i) wc' = fX7_readPerson_28 N fc d (nI (u 0 1)) (nI ((M ||| 2 ^ 2) * 16)) (nI (i + 1)) w3 := by
                simp only [fX7_readPerson_28, ↓lt9, ↓q3, ↓q4, ↓q7, ↓qb, fX7_readPerson_76, ↓cbnd e1, ↓n1_0, ↓cbnd e3, ↓eo, ↓ei, ↓reduceIte, callW_eq]
              obtain ⟨y, ey, jy, py⟩ := m_opt2 hN j2 p2 h6 hfr hti z (fX12_personLine_52 N fm (fX12_personLine_186 N)) (nI ((M ||| 2 ^ 2) * 1024))
              have Cm : fX12_personLine_52 N (fm + 1) (fX12_personLine_186 N) (nI (6 + u 0 1)) (nI (M * 1024)) wm' = fX12_personLine_52 N fm (fX12_personLine_186 N) (nI (6 + u 0 1)) (nI ((M ||| 2 ^ 2) * 1024)) y := by
                simp only [fX12_personLine_52, ↓p8, ↓p9, ↓p13, ↓pk, ↓cbnd gof, ↓z2, ↓cbnd e2, ↓c13, ↓c12, ↓bnd l4, ↓eo', ↓e9, ↓reduceIte, callW_eq]
                exact ey
              rw [Cc, Cm]
              exact ih (m - (k' + 1 + 1)) (by omega) (k' + 1 + 1) (M ||| 2 ^ 2) (i + 1) fi co fr (tV b n (k' + 1)) fo fc fm w3 y (by omega) (by omega) (by omega) (by omega) t5 hfi hco hfr (by omega) hfo j3 jy p3 py (by omega)
            · refine Or.inl ⟨nmF b n (k' + 1) fr 999, tP b n (k' + 1), ?_, ?_⟩
              · simp only [fX7_readPerson_28, ↓lt9, ↓q3, ↓q4, ↓q7, ↓qb, fX7_readPerson_76, ↓cbnd e1, ↓n1_0, ↓reduceIte, callW_eq]
                rw [e8']
                refine ok_bind (c_opt2F (N := N) j1 p1 h6 hfr hti z) ?_
                rintro ⟨x, w3⟩ ⟨e, h3⟩
                simp only at e h3
                subst e
                simp only [↓n0_0, ↓reduceIte]
                exact ok_some ⟨rfl, h3⟩
              · simp only [fX12_personLine_52, ↓p8, ↓p9, ↓p13, ↓pk, ↓cbnd gof, ↓z2, ↓cbnd e2, ↓c13, ↓c12, ↓bnd l4, ↓eo', ↓e9, ↓reduceIte, callW_eq]
                exact m_opt2F j2 p2 h6 hfr hti z _ _
        · have e8' : gI wc' 14 0 8 = nI 7 := by rw [e8, yt]; rfl
          have q4 : (gI wc' 14 0 8 < (4 : Int32)) = False := eq_false (by rw [e8']; decide)
          have q7 : ((7 : Int32) < gI wc' 14 0 8) = False := eq_false (by rw [e8']; decide)
          have e9 : gI wm' 16 0 9 = nI 13 := by rw [((JM_kd hm).1 (by omega)).2, yt]; rfl
          have p9 : (gI wm' 16 0 9 < (9 : Int32)) = False := eq_false (by rw [e9]; decide)
          have p13 : ((13 : Int32) < gI wm' 16 0 9) = False := eq_false (by rw [e9]; decide)
          have pk : (gI wm' 16 0 9 = (9 : Int32)) = False := eq_false (by rw [e9]; decide)
          have c13 : (gI wm' 16 0 9 = (13 : Int32)) = True := eq_true e9
          have c12 : (gI wm' 16 0 9 = (12 : Int32)) = False := eq_false (by rw [e9]; decide)
          obtain ⟨t1, t2, t3, t4, t5⟩ := ms_f M hM 3 (by omega)
          have gof := m_isOf (N := N) (w := wm') (x := M * 1024) (k := 13) (by omega) (by omega)
          rw [← e9] at gof
          have bb := b31 (B := M * 16) (q := 7) (by omega) (by omega)
          rw [← e8'] at bb
          cases hbit : M.testBit 3 with
          | true =>
            rw [hbit] at t3 t4
            have qb : ((nI (M * 16) >>> (gI wc' 14 0 8 &&& (31 : Int32))) &&& (1 : Int32) = 0) = False := bb.trans (eq_false (by rw [t3]; decide))
            rw [t4] at gof
            refine Or.inl ⟨3, tP b n k', ?_, ?_⟩
            · simp only [fX7_readPerson_28, ↓lt9, ↓q3, ↓q4, ↓q7, ↓qb, fX7_readPerson_76, ↓reduceIte, callW_eq]
              refine ok_bind (c_passF (N := N) hc 3) ?_
              rintro ⟨x, w3⟩ ⟨e, h3⟩
              simp only at e h3
              subst e
              simp only [↓n0_0, ↓reduceIte]
              exact ok_some ⟨rfl, flC_B (FC_PS pc) h3⟩
            · simp only [fX12_personLine_52, ↓p8, ↓p9, ↓p13, ↓pk, ↓cbnd gof, ↓z1, ↓reduceIte]
              exact ok_mono (m_wrongZ hm 3) (fun y hy => ⟨hy.1, flM_B (FM_PS pm) hy.2⟩)
          | false =>
            rw [hbit] at t3 t4
            have qb : ((nI (M * 16) >>> (gI wc' 14 0 8 &&& (31 : Int32))) &&& (1 : Int32) = 0) = True := bb.trans (eq_true t3)
            rw [t4] at gof
            obtain ⟨⟨x, w1⟩, e1, ex, f1, j1⟩ := c_pass (N := N) hc (by omega) (3 : Int32)
            simp only at ex f1 j1
            subst ex
            have p1 := PSc_ad pc f1
            obtain ⟨w2, e2, f2, j2⟩ := m_adv (N := N) hm hN
            have p2 := PSm_nu pm (Fr_mono f2 rfl)
            have eo : nI (M * 16) ||| ((1 : Int32) <<< (gI wc' 14 0 8 &&& (31 : Int32))) = nI ((M ||| 2 ^ 3) * 16) := by rw [e8', s31 (by omega), nz_or, ← t1]
            have eo' : nI (M * 1024) ||| ((1 : Int32) <<< (gI wm' 16 0 9 &&& (31 : Int32))) = nI ((M ||| 2 ^ 3) * 1024) := by rw [e9, s31 (by omega), nz_or, ← t2]
            by_cases z : nmF b n (k' + 1) 1 999 = 0
            · have hrg := nmF_rng z
              have hlt2 := JC_lt j1 (by omega)
              obtain ⟨⟨x, w3⟩, e3, ex, j3, p3⟩ := c_opt3 (N := N) j1 p1 h6 hfr hti z
              simp only at ex j3 p3
              subst ex
              rw [← e8'] at e3
              have Cc : fX7_readPerson_28 N (fc + 1) d (nI (u 0 1)) (nI (M * 16)) (nI i) wc' = fX7_readPerson_28 N fc d (nI (u 0 1)) (nI ((M ||| 2 ^ 3) * 16)) (nI (i + 1)) w3 := by
                simp only [fX7_readPerson_28, ↓lt9, ↓q3, ↓q4, ↓q7, ↓qb, fX7_readPerson_76, ↓cbnd e1, ↓n1_0, ↓cbnd e3, ↓eo, ↓ei, ↓reduceIte, callW_eq]
              obtain ⟨y, ey, jy, py⟩ := m_opt3 hN j2 p2 h6 hfr hti z (fX12_personLine_52 N fm (fX12_personLine_186 N)) (nI ((M ||| 2 ^ 3) * 1024))
              have Cm : fX12_personLine_52 N (fm + 1) (fX12_personLine_186 N) (nI (6 + u 0 1)) (nI (M * 1024)) wm' = fX12_personLine_52 N fm (fX12_personLine_186 N) (nI (6 + u 0 1)) (nI ((M ||| 2 ^ 3) * 1024)) y := by
                simp only [fX12_personLine_52, ↓p8, ↓p9, ↓p13, ↓pk, ↓cbnd gof, ↓z2, ↓cbnd e2, ↓c13, ↓eo', ↓e9, ↓reduceIte, callW_eq]
                exact ey
              rw [Cc, Cm]
              exact ih (m - (k' + 1 + 1)) (by omega) (k' + 1 + 1) (M ||| 2 ^ 3) (i + 1) fi co fr ti (tV b n (k' + 1)) fc fm w3 y (by omega) (by omega) (by omega) (by omega) t5 hfi hco hfr hti (by omega) j3 jy p3 py (by omega)
            · refine Or.inl ⟨nmF b n (k' + 1) 1 999, tP b n (k' + 1), ?_, ?_⟩
              · simp only [fX7_readPerson_28, ↓lt9, ↓q3, ↓q4, ↓q7, ↓qb, fX7_readPerson_76, ↓cbnd e1, ↓n1_0, ↓reduceIte, callW_eq]
                rw [e8']
                refine ok_bind (c_opt3F (N := N) j1 p1 h6 hfr hti z) ?_
                rintro ⟨x, w3⟩ ⟨e, h3⟩
                simp only at e h3
                subst e
                simp only [↓n0_0, ↓reduceIte]
                exact ok_some ⟨rfl, h3⟩
              · simp only [fX12_personLine_52, ↓p8, ↓p9, ↓p13, ↓pk, ↓cbnd gof, ↓z2, ↓cbnd e2, ↓c13, ↓eo', ↓e9, ↓reduceIte, callW_eq]
                exact m_opt3F j2 p2 h6 hfr hti z _ _
      · have qx := kC_opt (tK b n k') (tK_lt b n k') y3 yo
        rw [← e8] at qx
        have Cc : fX7_readPerson_28 N (fc + 1) d (nI (u 0 1)) (nI (M * 16)) (nI i) wc' = some ((1 : Int32), wc') := by
          by_cases q4' : gI wc' 14 0 8 < (4 : Int32)
          · have q4 : (gI wc' 14 0 8 < (4 : Int32)) = True := eq_true q4'
            simp only [fX7_readPerson_28, ↓lt9, ↓q3, ↓q4, ↓reduceIte]
          · have q4 : (gI wc' 14 0 8 < (4 : Int32)) = False := eq_false q4'
            have q7 : ((7 : Int32) < gI wc' 14 0 8) = True := eq_true (qx.resolve_left q4')
            simp only [fX7_readPerson_28, ↓lt9, ↓q3, ↓q4, ↓q7, ↓reduceIte]
        have e21 : gI wm' 16 0 21 + (1 : Int32) = nI (u 0 1 + 1) := by rw [(pm.1 16 0 21 rfl).1, Dm.2.1 (16, 21, 1) (by decide)]; exact nI_add _ 1
        have Ck : fX12_personLine_186 N wm' = some ((1 : Int32), setI wm' 16 0 21 (nI (u 0 1 + 1))) := by
          simp only [fX12_personLine_186, ↓e21]
        have Cm : fX12_personLine_52 N (fm + 1) (fX12_personLine_186 N) (nI (6 + u 0 1)) (nI (M * 1024)) wm' = some ((1 : Int32), setI wm' 16 0 21 (nI (u 0 1 + 1))) := by
          by_cases p8' : tK b n k' < 24
          · have p8 : (gI wm' 16 0 8 = (1 : Int32)) = True := eq_true ((JM_8 hm).2.1.mpr p8')
            have e9 := ((JM_kd hm).1 p8').2
            have hw := wr_lt _ p8'
            by_cases h9 : wrL.getD (tK b n k') 0 < 9
            · have p9 : (gI wm' 16 0 9 < (9 : Int32)) = True := eq_true (by rw [e9]; exact (nI_ltI (b := 9) (by omega) (by omega)).mpr h9)
              simp only [fX12_personLine_52, ↓p8, ↓p9, ↓reduceIte]
              exact Ck
            · have p9 : (gI wm' 16 0 9 < (9 : Int32)) = False := eq_false (fun z => by rw [e9] at z; exact h9 ((nI_ltI (b := 9) (by omega) (by omega)).mp z))
              have p13 : ((13 : Int32) < gI wm' 16 0 9) = True := eq_true (by rw [e9]; exact (nI_ltI (a := 13) (by omega) (by omega)).mpr ((wr_opt _ p8' y3 yo).resolve_left h9))
              simp only [fX12_personLine_52, ↓p8, ↓p9, ↓p13, ↓reduceIte]
              exact Ck
          · have p8 : (gI wm' 16 0 8 = (1 : Int32)) = False := eq_false (fun z => p8' ((JM_8 hm).2.1.mp z))
            simp only [fX12_personLine_52, ↓p8, ↓reduceIte]
            exact Ck
        rw [Cc, Cm]
        exact Or.inr ⟨k', app u 1 (nwQ nm fi co fr ti fo), hk, WU_pers hU h6 hnm hfi hco hfr hti hfo, ok_some ⟨rfl, FC_PS pc, hc, PSc_D Dc pc⟩, ok_some ⟨rfl, FM_setI (FM_PS pm) rfl (by show 0 ≤ _; omega), JM_fr (l := [17021]) (Fr_setI (Fr_refl _ _) rfl) hm, PSm_D Dm pm⟩⟩
theorem j_person (hc : JC wc b n m d k) (hm : JM wm b n k) (hK : tK b n k = 2) (Dc : DC wc d u) (Dm : DM wm u) (hU : WU u) (hN : 1000 ≤ N) : LnR b n m d k wc wm (wrpC N (if u 0 1 = 6 then (1 : Int32) else (0 : Int32)) (2 : Int32) (pX7_readPerson N) wc) (pX12_personLine N wm) := by
  have hU' := hU
  obtain ⟨⟨U0, U1, U2, U3, U4, U6, U7⟩, UB, US, UG, UL⟩ := hU'
  have e21 : gI wm 16 0 21 = nI (u 0 1) := Dm.2.1 (16, 21, 1) (by decide)
  have hk : tK b n k ≠ 60 := by omega
  by_cases y : u 0 1 = 6
  · rw [if_pos y]
    refine Or.inl ⟨2, tP b n k, wrp_F hc 2, ?_⟩
    have q : (gI wm 16 0 21 = (6 : Int32)) = True := eq_true (by rw [e21, y]; rfl)
    simp only [pX12_personLine, ↓q, ↓reduceIte]
    exact ok_mono (m_wrongZ hm 2) (fun x hx => ⟨hx.1, flM_B (FM_refl wm) hx.2⟩)
  rw [if_neg y]
  have q : (gI wm 16 0 21 = (6 : Int32)) = False := eq_false (fun z => y (by rw [e21] at z; exact (nI_eq (b := 6) (by omega) (by omega)).mp z))
  obtain ⟨w2, e2, f2, j2⟩ := m_adv (N := N) hm hN
  have D2 := DM_fr f2 Dm
  have a21 : gI w2 16 0 21 = nI (u 0 1) := D2.2.1 (16, 21, 1) (by decide)
  refine LnR_wrap rfl hc hk (fun w1 f1 j1 => ?_)
  have D1 := DC_fr f1 Dc
  have ed := j1.2.2.2.2
  have c10 : gI w1 10 d 0 = nI (u 0 1) := D1.2.1 (10, 0, 1) (by decide)
  have n1 : ∀ j, j < u 0 1 → gI w1 48 d j = nI (u 4 j) := fun j hj => by have := D1.1 (48, 4, 1, 0) (by decide) j hj; rw [Nat.zero_add] at this; exact this
  have n2 : ∀ j, j < u 0 1 → gI w2 78 0 (6 + j) = nI (u 4 j) := fun j hj => D2.1 (78, 4, 1, 6) (by decide) j hj
  have F1 : FC d wc w1 := FC_ad f1
  have G2 : FM wm w2 := FM_tk f2
  have ltr : (gI w1 10 (gR w1 11 0 1) 0 < (6 : Int32)) = True := eq_true (by rw [ed, c10]; exact (nI_ltI (b := 6) (by omega) (by omega)).mpr (by omega))
  by_cases z : nnF (u 4) (u 0 1) b n (k + 1) = 0
  rotate_left
  · refine Or.inl ⟨nnF (u 4) (u 0 1) b n (k + 1), tP b n (k + 1), ?_, ?_⟩
    · simp only [pX7_readPerson, ↓ltr, ↓ed, ↓c10, ↓reduceIte, callW_eq]
      refine ok_bind (c_newF (N := N) (k1 := 48) (L := 6) j1 (by omega) rfl (by omega) (by omega) n1 z) ?_
      rintro ⟨x, w3⟩ ⟨e, h3⟩
      simp only at e h3
      subst e
      simp only [↓n0_0, ↓reduceIte]
      exact ok_some ⟨rfl, flC_B F1 h3⟩
    · simp only [pX12_personLine, ↓q, ↓cbnd e2, ↓a21, ↓reduceIte, callW_eq]
      refine ok_bind (m_newF (N := N) (k1 := 78) (o := 6) (L := 12) j2 (by omega) rfl (by omega) (by omega) n2 z) ?_
      rintro ⟨x, w3⟩ ⟨e, h3⟩
      simp only at e h3
      subst e
      simp only [↓n0_0, ↓reduceIte]
      exact ok_some ⟨rfl, flM_B G2 h3⟩
  have h62 : tK b n (k + 1) = 62 := by
    unfold nnF at z
    by_cases t : tK b n (k + 1) = 62
    · exact t
    · rw [if_neg t] at z; omega
  obtain ⟨⟨x, w3⟩, e3, ex, ⟨wa, ewa, f3⟩, j3⟩ := c_new (N := N) (k1 := 48) (L := 6) j1 (by omega) rfl (by omega) (by omega) n1 (by decide) rfl z
  simp only at ex f3 j3
  subst ex
  have fa : Fr [48] w1 wa := by rw [ewa]; exact Fr_setI (Fr_refl _ _) rfl
  have e10 : gI w3 10 (gR w1 11 0 1) 0 + (1 : Int32) = nI (u 0 1 + 1) := by rw [ed, (f3 10 d 0 rfl).1, (fa 10 d 0 rfl).1, c10]; exact nI_add _ 1
  have e3' : pX7_readNewName N 48 (gR w1 11 0 1) (gI w1 10 (gR w1 11 0 1) 0) w1 = some ((1 : Int32), w3) := by rw [ed, c10]; exact e3
  have f13 : Fr kPc wc w3 := Fr_trans (Fr_mono f1 rfl) (Fr_trans (Fr_mono fa rfl) (Fr_mono f3 rfl))
  have Pc : PSc wc (setI w3 10 d 0 (nI (u 0 1 + 1))) d u (tV b n (k + 1)) 0 1 0 999 999 := by
    have ho : ∀ kk j, kk = 49 ∨ kk = 50 ∨ kk = 51 ∨ kk = 52 ∨ kk = 53 → gI (setI w3 10 d 0 (nI (u 0 1 + 1))) kk d j = gI wc kk d j := fun kk j hkk => by
      rw [gg_I, if_neg (by omega)]
      rcases hkk with rfl | rfl | rfl | rfl | rfl
      · rw [(f3 49 d j rfl).1, (fa 49 d j rfl).1, (f1 49 d j rfl).1]
      · rw [(f3 50 d j rfl).1, (fa 50 d j rfl).1, (f1 50 d j rfl).1]
      · rw [(f3 51 d j rfl).1, (fa 51 d j rfl).1, (f1 51 d j rfl).1]
      · rw [(f3 52 d j rfl).1, (fa 52 d j rfl).1, (f1 52 d j rfl).1]
      · rw [(f3 53 d j rfl).1, (fa 53 d j rfl).1, (f1 53 d j rfl).1]
    have hpd := Dc.2.2.2.1
    obtain ⟨g1, g2, g3, g4, g5⟩ := hpd (u 0 1) (Nat.le_refl _) (by omega)
    refine ⟨Fr_setI f13 rfl, FC_setI (FC_trans (by rw [ewa]; exact FC_setI F1 rfl (Or.inr rfl)) (FC_ad f3)) rfl (Or.inr rfl), ?_, by rw [gg_I, if_pos ⟨rfl, rfl, rfl⟩], ?_, ?_, ?_, ?_, ?_, ?_, fun j p1 p2 => ?_⟩
    · exact KP_trans (KP_Fr okTc f1 (by decide)) (KP_trans (by rw [ewa]; exact KP_set (c := 1) (o := 0) (by decide) (by omega)) (KP_trans (KP_Fr okTc f3 (by decide)) (KP_Fr okTc (l := [11000]) (Fr_setI (Fr_refl _ _) rfl) (by decide))))
    · rw [gg_I, if_neg (by omega), (f3 48 d _ rfl).1, ewa, gg_I, if_pos ⟨rfl, rfl, rfl⟩]
    · rw [ho 49 _ (by omega)]; exact g1
    · rw [ho 50 _ (by omega)]; exact g2
    · rw [ho 51 _ (by omega)]; exact g3
    · rw [ho 52 _ (by omega)]; exact g4
    · rw [ho 53 _ (by omega)]; exact g5
    · rw [ho 49 _ (by omega), ho 50 _ (by omega), ho 51 _ (by omega), ho 52 _ (by omega), ho 53 _ (by omega)]
      exact hpd j (by omega) p2
  obtain ⟨⟨x, w4⟩, e4, ex, ⟨wb, ewb, f4⟩, j4⟩ := m_new (N := N) (k1 := 78) (o := 6) (L := 12) j2 hN rfl (by omega) (by omega) n2 (by decide) rfl z
  simp only at ex f4 j4
  subst ex
  have fb : Fr [78] w2 wb := by rw [ewb]; exact Fr_setI (Fr_refl _ _) rfl
  have e4' : pX12_newName N 78 0 (6 : Int32) (gI w2 16 0 21) w2 = some ((1 : Int32), w4) := by rw [a21]; exact e4
  have e6 : (6 : Int32) + gI w2 16 0 21 = nI (6 + u 0 1) := by rw [a21, show (6 : Int32) = nI 6 from rfl, nI_add]
  have s0 : stI w4 79 0 ((6 : Int32) + gI w2 16 0 21) 12 (0 : Int32) = some (setI w4 79 0 (6 + u 0 1) (0 : Int32)) := by rw [e6]; exact stn (by omega) (by omega)
  have s1 : stI (setI w4 79 0 (6 + u 0 1) (0 : Int32)) 80 0 ((6 : Int32) + gI w2 16 0 21) 12 (1 : Int32) = some (setI (setI w4 79 0 (6 + u 0 1) (0 : Int32)) 80 0 (6 + u 0 1) (1 : Int32)) := by rw [e6]; exact stn (by omega) (by omega)
  have s2 : stI (setI (setI w4 79 0 (6 + u 0 1) (0 : Int32)) 80 0 (6 + u 0 1) (1 : Int32)) 81 0 ((6 : Int32) + gI w2 16 0 21) 12 (0 : Int32) = some (setI (setI (setI w4 79 0 (6 + u 0 1) (0 : Int32)) 80 0 (6 + u 0 1) (1 : Int32)) 81 0 (6 + u 0 1) (0 : Int32)) := by rw [e6]; exact stn (by omega) (by omega)
  have s3 : stI (setI (setI (setI w4 79 0 (6 + u 0 1) (0 : Int32)) 80 0 (6 + u 0 1) (1 : Int32)) 81 0 (6 + u 0 1) (0 : Int32)) 82 0 ((6 : Int32) + gI w2 16 0 21) 12 (999 : Int32) = some (setI (setI (setI (setI w4 79 0 (6 + u 0 1) (0 : Int32)) 80 0 (6 + u 0 1) (1 : Int32)) 81 0 (6 + u 0 1) (0 : Int32)) 82 0 (6 + u 0 1) (999 : Int32)) := by rw [e6]; exact stn (by omega) (by omega)
  have s4 : stI (setI (setI (setI (setI w4 79 0 (6 + u 0 1) (0 : Int32)) 80 0 (6 + u 0 1) (1 : Int32)) 81 0 (6 + u 0 1) (0 : Int32)) 82 0 (6 + u 0 1) (999 : Int32)) 83 0 ((6 : Int32) + gI w2 16 0 21) 12 (999 : Int32) = some (setI (setI (setI (setI (setI w4 79 0 (6 + u 0 1) (0 : Int32)) 80 0 (6 + u 0 1) (1 : Int32)) 81 0 (6 + u 0 1) (0 : Int32)) 82 0 (6 + u 0 1) (999 : Int32)) 83 0 (6 + u 0 1) (999 : Int32)) := by rw [e6]; exact stn (by omega) (by omega)
  have F5 : Fr [79, 80, 81, 82, 83] w4 (setI (setI (setI (setI (setI w4 79 0 (6 + u 0 1) (0 : Int32)) 80 0 (6 + u 0 1) (1 : Int32)) 81 0 (6 + u 0 1) (0 : Int32)) 82 0 (6 + u 0 1) (999 : Int32)) 83 0 (6 + u 0 1) (999 : Int32)) := Fr_setI (Fr_setI (Fr_setI (Fr_setI (Fr_setI (Fr_refl _ _) rfl) rfl) rfl) rfl) rfl
  have Pm : PSm wm (setI (setI (setI (setI (setI w4 79 0 (6 + u 0 1) (0 : Int32)) 80 0 (6 + u 0 1) (1 : Int32)) 81 0 (6 + u 0 1) (0 : Int32)) 82 0 (6 + u 0 1) (999 : Int32)) 83 0 (6 + u 0 1) (999 : Int32)) u (tV b n (k + 1)) 0 1 0 999 999 := by
    refine ⟨Fr_trans (Fr_mono f2 rfl) (Fr_trans (Fr_mono fb rfl) (Fr_trans (Fr_mono f4 rfl) (Fr_mono F5 rfl))), ?_, ?_, ?_, ?_, ?_, ?_, ?_, ?_⟩
    · exact FM_setI (FM_setI (FM_setI (FM_setI (FM_setI (FM_trans (by rw [ewb]; exact FM_setI G2 rfl (by show 6 ≤ _; omega)) (FM_tk f4)) rfl (by show 6 ≤ _; omega)) rfl (by show 6 ≤ _; omega)) rfl (by show 6 ≤ _; omega)) rfl (by show 6 ≤ _; omega)) rfl (by show 6 ≤ _; omega)
    · exact KP_trans (KP_Fr okTm f2 (by decide)) (KP_trans (by rw [ewb]; exact KP_set (c := 1) (o := 6) (by decide) (Nat.le_refl _)) (KP_trans (KP_Fr okTm f4 (by decide)) (KP_trans (KP_set (c := 1) (o := 6) (by decide) (Nat.le_refl _)) (KP_trans (KP_set (c := 1) (o := 6) (by decide) (Nat.le_refl _)) (KP_trans (KP_set (c := 1) (o := 6) (by decide) (Nat.le_refl _)) (KP_trans (KP_set (c := 1) (o := 6) (by decide) (Nat.le_refl _)) (KP_set (c := 1) (o := 6) (by decide) (Nat.le_refl _))))))))
    · rw [(F5 78 0 _ rfl).1, (f4 78 0 _ rfl).1, ewb, gg_I, if_pos ⟨rfl, rfl, rfl⟩]
    · rw [gg_I, if_neg (by omega), gg_I, if_neg (by omega), gg_I, if_neg (by omega), gg_I, if_neg (by omega), gg_I, if_pos ⟨rfl, rfl, rfl⟩]; rfl
    · rw [gg_I, if_neg (by omega), gg_I, if_neg (by omega), gg_I, if_neg (by omega), gg_I, if_pos ⟨rfl, rfl, rfl⟩]; rfl
    · rw [gg_I, if_neg (by omega), gg_I, if_neg (by omega), gg_I, if_pos ⟨rfl, rfl, rfl⟩]; rfl
    · rw [gg_I, if_neg (by omega), gg_I, if_pos ⟨rfl, rfl, rfl⟩]; rfl
    · rw [gg_I, if_pos ⟨rfl, rfl, rfl⟩]; rfl
  have Cc : pX7_readPerson N w1 = fX7_readPerson_28 N N d (nI (u 0 1)) (nI (0 * 16)) (nI 0) (setI w3 10 d 0 (nI (u 0 1 + 1))) := by
    simp only [pX7_readPerson, ↓ltr, ↓cbnd e3', ↓n1_0, ↓e10, ↓reduceIte, callW_eq]
    rw [ed, c10]
    rfl
  have Cm : pX12_personLine N wm = fX12_personLine_52 N N (fX12_personLine_186 N) (nI (6 + u 0 1)) (nI (0 * 1024)) (setI (setI (setI (setI (setI w4 79 0 (6 + u 0 1) (0 : Int32)) 80 0 (6 + u 0 1) (1 : Int32)) 81 0 (6 + u 0 1) (0 : Int32)) 82 0 (6 + u 0 1) (999 : Int32)) 83 0 (6 + u 0 1) (999 : Int32)) := by
    simp only [pX12_personLine, ↓q, ↓cbnd e2, ↓cbnd e4', ↓n1_0, ↓bnd s0, ↓bnd s1, ↓bnd s2, ↓bnd s3, ↓bnd s4, ↓e6, ↓reduceIte, callW_eq]
    rfl
  rw [Cc, Cm]
  have hm9 : m ≤ 900 := hc.1.1
  have hj := j3.2.1
  exact j_ploop (N := N) hN hU (by omega) Dc Dm (tV_name j2 h62) (m - (k + 1 + 1)) (k + 1 + 1) 0 0 0 1 0 999 999 N N _ _ (by omega) (by omega) (by omega) (by omega) (by omega) (by omega) (by omega) (by omega) (by omega) (by omega) (JC_fr (l := [11000]) (Fr_setI (Fr_refl _ _) rfl) j3) (JM_fr F5 j4) Pc Pm (by omega)
end

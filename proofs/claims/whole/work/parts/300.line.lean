/-! ===== a line of a text, both ===== -/
theorem wr_line : ∀ K, K < 24 → K ≠ 0 → K ≠ 2 → ¬ (8 ≤ K ∧ K ≤ 13) → 7 < wrL.getD K 0 := by decide +kernel
section
variable {N : Nat} {w w' w0 w1 wc wm wc' wm' wc1 wm1 : Wd} {b : Nat → Nat} {n m d k i : Nat} {u u' : Vw}
/-- the class's line with its semicolon -/
noncomputable def clT (N : Nat) (r1 : Int32 × Wd) : Option (Int32 × Wd) := if r1.1 = 0 then some ((0 : Int32), r1.2) else (callW (pX7_pass N (32 : Int32)) r1.2).bind fun r2 => if r2.1 = 0 then some ((0 : Int32), r2.2) else some ((1 : Int32), r2.2)
noncomputable def clC (N : Nat) (w : Wd) : Option (Int32 × Wd) := (callW (pX7_readLine N) w).bind (clT N)
theorem j_end {c m' : Option (Int32 × Wd)} (hN : 1000 ≤ N) (h : LnR b n m d k wc wm c m') : LnR b n m d k wc wm (c.bind (clT N)) (m'.bind fun r => fX12_lineRead_82 N r.1 r.2) := by
  rcases h with h | ⟨k', u', h1, h2, h3, h4⟩
  · exact Or.inl (LnB_bind h (fun w => by simp only [clT, ↓n0_0, ↓reduceIte]) (fun w => by simp only [fX12_lineRead_82, ↓n0_0, ↓reduceIte]))
  · obtain ⟨⟨x, w1⟩, ec, ex, F, jc, Dc⟩ := h3
    simp only at ex F jc Dc
    subst ex
    obtain ⟨⟨x, w2⟩, em, ex, G, jm, Dm⟩ := h4
    simp only at ex G jm Dm
    subst ex
    rw [ec, em]
    have q := JC_is jc (c := 32) (by omega)
    have gs : pX12_isSign N (59 : Int32) w2 = some (zB (decide (tK b n k' = 32)), w2) := m_isSign (N := N) jm (c := 32) (by omega) (by omega)
    by_cases y : tK b n k' = 32
    · have q1 : (gI w1 14 0 8 = (32 : Int32)) = True := q.trans (eq_true y)
      rw [decide_eq_true y] at gs
      obtain ⟨w3, e3, f3, j3⟩ := c_adv (N := N) jc (by omega)
      obtain ⟨w4, e4, f4, j4⟩ := m_adv (N := N) jm hN
      have ep : pX7_pass N (32 : Int32) w1 = some ((1 : Int32), w3) := by
        simp only [pX7_pass, ↓q1, ↓cbnd e3, ↓reduceIte]
      refine Or.inr ⟨k' + 1, u', by omega, h2, ?_, ?_⟩
      · simp only [Option.bind_some, clT, ↓n1_0, ↓cbnd ep, ↓reduceIte]
        exact ok_some ⟨rfl, FC_trans F (FC_ad f3), j3, DC_fr f3 Dc⟩
      · simp only [Option.bind_some, fX12_lineRead_82, ↓n1_0, ↓cbnd gs, ↓z1, ↓cbnd e4, ↓reduceIte]
        exact ok_some ⟨rfl, FM_trans G (FM_tk f4), j4, DM_fr f4 Dm⟩
    · have q1 : (gI w1 14 0 8 = (32 : Int32)) = False := q.trans (eq_false y)
      rw [decide_eq_false y] at gs
      refine Or.inl ⟨1, tP b n k', ?_, ?_⟩
      · simp only [Option.bind_some, clT, ↓n1_0, pX7_pass, ↓q1, ↓reduceIte, callW_eq]
        refine ok_bind (c_badE jc F 1) ?_
        rintro ⟨x, w3⟩ ⟨e, hx⟩
        simp only at e hx
        subst e
        simp only [↓n0_0, ↓reduceIte]
        exact ok_some ⟨rfl, hx⟩
      · simp only [Option.bind_some, fX12_lineRead_82, ↓n1_0, ↓cbnd gs, ↓z2, ↓reduceIte]
        exact m_bad jm G 1
theorem j_line (hc : JC wc b n m d k) (hm : JM wm b n k) (Dc : DC wc d u) (Dm : DM wm u) (hU : WU u) (hN : 1000 ≤ N) : LnR b n m d k wc wm (clC N wc) (pX12_lineRead N wm) := by
  have hU' := hU
  obtain ⟨⟨U0, U1, U2, U3, U4, U6, U7⟩, UB, US, UG, UL⟩ := hU'
  have ed := hc.2.2.2.2
  have p0 : (gI wc 14 0 8 = (0 : Int32)) = (tK b n k = 0) := JC_is hc (c := 0) (by omega)
  have p1 : (gI wc 14 0 8 = (1 : Int32)) = (tK b n k = 1) := JC_is hc (c := 1) (by omega)
  have p2 : (gI wc 14 0 8 = (2 : Int32)) = (tK b n k = 2) := JC_is hc (c := 2) (by omega)
  have p3 : (gI wc 14 0 8 = (3 : Int32)) = (tK b n k = 3) := JC_is hc (c := 3) (by omega)
  have p4 : (gI wc 14 0 8 = (4 : Int32)) = (tK b n k = 4) := JC_is hc (c := 4) (by omega)
  have p5 : (gI wc 14 0 8 = (5 : Int32)) = (tK b n k = 5) := JC_is hc (c := 5) (by omega)
  have p6 : (gI wc 14 0 8 = (6 : Int32)) = (tK b n k = 6) := JC_is hc (c := 6) (by omega)
  have p7 : (gI wc 14 0 8 = (7 : Int32)) = (tK b n k = 7) := JC_is hc (c := 7) (by omega)
  have p8 : (gI wc 14 0 8 = (8 : Int32)) = (tK b n k = 8) := JC_is hc (c := 8) (by omega)
  have p9 : (gI wc 14 0 8 = (9 : Int32)) = (tK b n k = 9) := JC_is hc (c := 9) (by omega)
  have p10 : (gI wc 14 0 8 = (10 : Int32)) = (tK b n k = 10) := JC_is hc (c := 10) (by omega)
  have p11 : (gI wc 14 0 8 = (11 : Int32)) = (tK b n k = 11) := JC_is hc (c := 11) (by omega)
  have p12 : (gI wc 14 0 8 = (12 : Int32)) = (tK b n k = 12) := JC_is hc (c := 12) (by omega)
  have p13 : (gI wc 14 0 8 = (13 : Int32)) = (tK b n k = 13) := JC_is hc (c := 13) (by omega)
  by_cases y0 : tK b n k = 0
  · have t8 : (gI wm 16 0 8 = (1 : Int32)) = True := eq_true ((JM_8 hm).2.1.mpr (by omega))
    have e9 : gI wm 16 0 9 = nI 0 := by rw [((JM_kd hm).1 (by omega)).2, y0]; rfl
    have t7 : ((7 : Int32) < gI wm 16 0 9) = False := eq_false (by rw [e9]; decide)
    have q0 := p0.trans (eq_true y0)
    have s0 : (gI wm 16 0 9 = (0 : Int32)) = True := eq_true e9
    have ec : gI wc 8 (gR wc 11 0 1) 0 = nI (u 0 0) := by rw [ed]; exact Dc.2.1 (8, 0, 0) (by decide)
    have Cc : pX7_readLine N wc = wrpC N (if u 0 0 = 8 then (1 : Int32) else (0 : Int32)) (2 : Int32) (pX7_readPart N) wc := by
      by_cases z : u 0 0 = 8
      · have qz : (gI wc 8 (gR wc 11 0 1) 0 = (8 : Int32)) = True := eq_true (by rw [ec, z]; rfl)
        rw [if_pos z]
        simp only [pX7_readLine, ↓q0, ↓qz, ↓reduceIte]
        rw [callW_eq]
        rfl
      · have qz : (gI wc 8 (gR wc 11 0 1) 0 = (8 : Int32)) = False := eq_false (fun t => z (by rw [ec] at t; exact (nI_eq (b := 8) (by omega) (by omega)).mp t))
        rw [if_neg z]
        simp only [pX7_readLine, ↓q0, ↓qz, ↓reduceIte]
        rw [callW_eq]
        rfl
    have Cm : pX12_lineRead N wm = (pX12_partLine N wm).bind fun r => fX12_lineRead_82 N r.1 r.2 := by
      simp only [pX12_lineRead, ↓t8, ↓t7, ↓s0, ↓reduceIte, callW_eq]
    unfold clC
    rw [callW_eq, Cc, Cm]
    exact j_end hN (j_part hc hm y0 Dc Dm hU hN)
  by_cases y2 : tK b n k = 2
  · have t8 : (gI wm 16 0 8 = (1 : Int32)) = True := eq_true ((JM_8 hm).2.1.mpr (by omega))
    have e9 : gI wm 16 0 9 = nI 1 := by rw [((JM_kd hm).1 (by omega)).2, y2]; rfl
    have t7 : ((7 : Int32) < gI wm 16 0 9) = False := eq_false (by rw [e9]; decide)
    have q0 := p0.trans (eq_false (by omega))
    have q1 := p1.trans (eq_false (by omega))
    have q2 := p2.trans (eq_true y2)
    have s0 : (gI wm 16 0 9 = (0 : Int32)) = False := eq_false (by rw [e9]; decide)
    have s1 : (gI wm 16 0 9 = (1 : Int32)) = True := eq_true e9
    have ec : gI wc 10 (gR wc 11 0 1) 0 = nI (u 0 1) := by rw [ed]; exact Dc.2.1 (10, 0, 1) (by decide)
    have Cc : pX7_readLine N wc = wrpC N (if u 0 1 = 6 then (1 : Int32) else (0 : Int32)) (2 : Int32) (pX7_readPerson N) wc := by
      by_cases z : u 0 1 = 6
      · have qz : (gI wc 10 (gR wc 11 0 1) 0 = (6 : Int32)) = True := eq_true (by rw [ec, z]; rfl)
        rw [if_pos z]
        simp only [pX7_readLine, ↓q0, ↓q1, ↓q2, ↓qz, ↓reduceIte]
        rw [callW_eq]
        rfl
      · have qz : (gI wc 10 (gR wc 11 0 1) 0 = (6 : Int32)) = False := eq_false (fun t => z (by rw [ec] at t; exact (nI_eq (b := 6) (by omega) (by omega)).mp t))
        rw [if_neg z]
        simp only [pX7_readLine, ↓q0, ↓q1, ↓q2, ↓qz, ↓reduceIte]
        rw [callW_eq]
        rfl
    have Cm : pX12_lineRead N wm = (pX12_personLine N wm).bind fun r => fX12_lineRead_82 N r.1 r.2 := by
      simp only [pX12_lineRead, ↓t8, ↓t7, ↓s0, ↓s1, ↓reduceIte, callW_eq]
    unfold clC
    rw [callW_eq, Cc, Cm]
    exact j_end hN (j_person hc hm y2 Dc Dm hU hN)
  by_cases y8 : tK b n k = 8
  · have t8 : (gI wm 16 0 8 = (1 : Int32)) = True := eq_true ((JM_8 hm).2.1.mpr (by omega))
    have e9 : gI wm 16 0 9 = nI 2 := by rw [((JM_kd hm).1 (by omega)).2, y8]; rfl
    have t7 : ((7 : Int32) < gI wm 16 0 9) = False := eq_false (by rw [e9]; decide)
    have q0 := p0.trans (eq_false (by omega))
    have q1 := p1.trans (eq_false (by omega))
    have q2 := p2.trans (eq_false (by omega))
    have q3 := p3.trans (eq_false (by omega))
    have q4 := p4.trans (eq_false (by omega))
    have q5 := p5.trans (eq_false (by omega))
    have q6 := p6.trans (eq_false (by omega))
    have q7 := p7.trans (eq_false (by omega))
    have q8 := p8.trans (eq_true y8)
    have s0 : (gI wm 16 0 9 = (0 : Int32)) = False := eq_false (by rw [e9]; decide)
    have s1 : (gI wm 16 0 9 = (1 : Int32)) = False := eq_false (by rw [e9]; decide)
    have s2 : (gI wm 16 0 9 = (2 : Int32)) = True := eq_true e9
    have ec : gI wc 8 (gR wc 11 0 1) 5 = nI (u 0 2) := by rw [ed]; exact Dc.2.1 (8, 5, 2) (by decide)
    have Cc : pX7_readLine N wc = wrpC N (if u 0 2 = 8 then (1 : Int32) else (0 : Int32)) (2 : Int32) (pX7_readParty N) wc := by
      by_cases z : u 0 2 = 8
      · have qz : (gI wc 8 (gR wc 11 0 1) 5 = (8 : Int32)) = True := eq_true (by rw [ec, z]; rfl)
        rw [if_pos z]
        simp only [pX7_readLine, ↓q0, ↓q1, ↓q2, ↓q3, ↓q4, ↓q5, ↓q6, ↓q7, ↓q8, ↓qz, ↓reduceIte]
        rw [callW_eq]
        rfl
      · have qz : (gI wc 8 (gR wc 11 0 1) 5 = (8 : Int32)) = False := eq_false (fun t => z (by rw [ec] at t; exact (nI_eq (b := 8) (by omega) (by omega)).mp t))
        rw [if_neg z]
        simp only [pX7_readLine, ↓q0, ↓q1, ↓q2, ↓q3, ↓q4, ↓q5, ↓q6, ↓q7, ↓q8, ↓qz, ↓reduceIte]
        rw [callW_eq]
        rfl
    have Cm : pX12_lineRead N wm = (pX12_partyLine N wm).bind fun r => fX12_lineRead_82 N r.1 r.2 := by
      simp only [pX12_lineRead, ↓t8, ↓t7, ↓s0, ↓s1, ↓s2, ↓reduceIte, callW_eq]
    unfold clC
    rw [callW_eq, Cc, Cm]
    exact j_end hN (j_party hc hm y8 Dc Dm hU hN)
  by_cases y9 : tK b n k = 9
  · have t8 : (gI wm 16 0 8 = (1 : Int32)) = True := eq_true ((JM_8 hm).2.1.mpr (by omega))
    have e9 : gI wm 16 0 9 = nI 3 := by rw [((JM_kd hm).1 (by omega)).2, y9]; rfl
    have t7 : ((7 : Int32) < gI wm 16 0 9) = False := eq_false (by rw [e9]; decide)
    have q0 := p0.trans (eq_false (by omega))
    have q1 := p1.trans (eq_false (by omega))
    have q2 := p2.trans (eq_false (by omega))
    have q3 := p3.trans (eq_false (by omega))
    have q4 := p4.trans (eq_false (by omega))
    have q5 := p5.trans (eq_false (by omega))
    have q6 := p6.trans (eq_false (by omega))
    have q7 := p7.trans (eq_false (by omega))
    have q8 := p8.trans (eq_false (by omega))
    have q9 := p9.trans (eq_true y9)
    have s0 : (gI wm 16 0 9 = (0 : Int32)) = False := eq_false (by rw [e9]; decide)
    have s1 : (gI wm 16 0 9 = (1 : Int32)) = False := eq_false (by rw [e9]; decide)
    have s2 : (gI wm 16 0 9 = (2 : Int32)) = False := eq_false (by rw [e9]; decide)
    have s3 : (gI wm 16 0 9 = (3 : Int32)) = True := eq_true e9
    have ec : gI wc 8 (gR wc 11 0 1) 10 = nI (u 0 3) := by rw [ed]; exact Dc.2.1 (8, 10, 3) (by decide)
    have Cc : pX7_readLine N wc = wrpC N (if 0 < u 0 3 then (1 : Int32) else (0 : Int32)) (3 : Int32) (pX7_readWeather N) wc := by
      by_cases z : 0 < u 0 3
      · have qz : ((0 : Int32) < gI wc 8 (gR wc 11 0 1) 10) = True := eq_true (by rw [ec]; exact (nI_ltI (a := 0) (by omega) (by omega)).mpr z)
        rw [if_pos z]
        simp only [pX7_readLine, ↓q0, ↓q1, ↓q2, ↓q3, ↓q4, ↓q5, ↓q6, ↓q7, ↓q8, ↓q9, ↓qz, ↓reduceIte]
        rw [callW_eq]
        rfl
      · have qz : ((0 : Int32) < gI wc 8 (gR wc 11 0 1) 10) = False := eq_false (fun t => z (by rw [ec] at t; exact (nI_ltI (a := 0) (by omega) (by omega)).mp t))
        rw [if_neg z]
        simp only [pX7_readLine, ↓q0, ↓q1, ↓q2, ↓q3, ↓q4, ↓q5, ↓q6, ↓q7, ↓q8, ↓q9, ↓qz, ↓reduceIte]
        rw [callW_eq]
        rfl
    have Cm : pX12_lineRead N wm = (pX12_weatherLine N wm).bind fun r => fX12_lineRead_82 N r.1 r.2 := by
      simp only [pX12_lineRead, ↓t8, ↓t7, ↓s0, ↓s1, ↓s2, ↓s3, ↓reduceIte, callW_eq]
    unfold clC
    rw [callW_eq, Cc, Cm]
    exact j_end hN (j_weather hc hm y9 Dc Dm hU hN)
  by_cases y10 : tK b n k = 10
  · have t8 : (gI wm 16 0 8 = (1 : Int32)) = True := eq_true ((JM_8 hm).2.1.mpr (by omega))
    have e9 : gI wm 16 0 9 = nI 4 := by rw [((JM_kd hm).1 (by omega)).2, y10]; rfl
    have t7 : ((7 : Int32) < gI wm 16 0 9) = False := eq_false (by rw [e9]; decide)
    have q0 := p0.trans (eq_false (by omega))
    have q1 := p1.trans (eq_false (by omega))
    have q2 := p2.trans (eq_false (by omega))
    have q3 := p3.trans (eq_false (by omega))
    have q4 := p4.trans (eq_false (by omega))
    have q5 := p5.trans (eq_false (by omega))
    have q6 := p6.trans (eq_false (by omega))
    have q7 := p7.trans (eq_false (by omega))
    have q8 := p8.trans (eq_false (by omega))
    have q9 := p9.trans (eq_false (by omega))
    have q10 := p10.trans (eq_true y10)
    have s0 : (gI wm 16 0 9 = (0 : Int32)) = False := eq_false (by rw [e9]; decide)
    have s1 : (gI wm 16 0 9 = (1 : Int32)) = False := eq_false (by rw [e9]; decide)
    have s2 : (gI wm 16 0 9 = (2 : Int32)) = False := eq_false (by rw [e9]; decide)
    have s3 : (gI wm 16 0 9 = (3 : Int32)) = False := eq_false (by rw [e9]; decide)
    have s4 : (gI wm 16 0 9 = (4 : Int32)) = True := eq_true e9
    have ec : gI wc 8 (gR wc 11 0 1) 12 = nI (u 0 6) := by rw [ed]; exact Dc.2.1 (8, 12, 6) (by decide)
    have Cc : pX7_readLine N wc = wrpC N (if u 0 6 = 4 then (1 : Int32) else (0 : Int32)) (2 : Int32) (pX7_readSlide N) wc := by
      by_cases z : u 0 6 = 4
      · have qz : (gI wc 8 (gR wc 11 0 1) 12 = (4 : Int32)) = True := eq_true (by rw [ec, z]; rfl)
        rw [if_pos z]
        simp only [pX7_readLine, ↓q0, ↓q1, ↓q2, ↓q3, ↓q4, ↓q5, ↓q6, ↓q7, ↓q8, ↓q9, ↓q10, ↓qz, ↓reduceIte]
        rw [callW_eq]
        rfl
      · have qz : (gI wc 8 (gR wc 11 0 1) 12 = (4 : Int32)) = False := eq_false (fun t => z (by rw [ec] at t; exact (nI_eq (b := 4) (by omega) (by omega)).mp t))
        rw [if_neg z]
        simp only [pX7_readLine, ↓q0, ↓q1, ↓q2, ↓q3, ↓q4, ↓q5, ↓q6, ↓q7, ↓q8, ↓q9, ↓q10, ↓qz, ↓reduceIte]
        rw [callW_eq]
        rfl
    have Cm : pX12_lineRead N wm = (pX12_slideLine N wm).bind fun r => fX12_lineRead_82 N r.1 r.2 := by
      simp only [pX12_lineRead, ↓t8, ↓t7, ↓s0, ↓s1, ↓s2, ↓s3, ↓s4, ↓reduceIte, callW_eq]
    unfold clC
    rw [callW_eq, Cc, Cm]
    exact j_end hN (j_slide hc hm y10 Dc Dm hU hN)
  by_cases y11 : tK b n k = 11
  · have t8 : (gI wm 16 0 8 = (1 : Int32)) = True := eq_true ((JM_8 hm).2.1.mpr (by omega))
    have e9 : gI wm 16 0 9 = nI 5 := by rw [((JM_kd hm).1 (by omega)).2, y11]; rfl
    have t7 : ((7 : Int32) < gI wm 16 0 9) = False := eq_false (by rw [e9]; decide)
    have q0 := p0.trans (eq_false (by omega))
    have q1 := p1.trans (eq_false (by omega))
    have q2 := p2.trans (eq_false (by omega))
    have q3 := p3.trans (eq_false (by omega))
    have q4 := p4.trans (eq_false (by omega))
    have q5 := p5.trans (eq_false (by omega))
    have q6 := p6.trans (eq_false (by omega))
    have q7 := p7.trans (eq_false (by omega))
    have q8 := p8.trans (eq_false (by omega))
    have q9 := p9.trans (eq_false (by omega))
    have q10 := p10.trans (eq_false (by omega))
    have q11 := p11.trans (eq_true y11)
    have s0 : (gI wm 16 0 9 = (0 : Int32)) = False := eq_false (by rw [e9]; decide)
    have s1 : (gI wm 16 0 9 = (1 : Int32)) = False := eq_false (by rw [e9]; decide)
    have s2 : (gI wm 16 0 9 = (2 : Int32)) = False := eq_false (by rw [e9]; decide)
    have s3 : (gI wm 16 0 9 = (3 : Int32)) = False := eq_false (by rw [e9]; decide)
    have s4 : (gI wm 16 0 9 = (4 : Int32)) = False := eq_false (by rw [e9]; decide)
    have s5 : (gI wm 16 0 9 = (5 : Int32)) = True := eq_true e9
    have Cc : pX7_readLine N wc = wrpC N (gI wc 11 0 2) (3 : Int32) (pX7_readNear N) wc := by
      simp only [pX7_readLine, ↓q0, ↓q1, ↓q2, ↓q3, ↓q4, ↓q5, ↓q6, ↓q7, ↓q8, ↓q9, ↓q10, ↓q11, ↓reduceIte]
      rfl
    have Cm : pX12_lineRead N wm = (nearM N wm).bind fun r => fX12_lineRead_82 N r.1 r.2 := by
      by_cases z : gI wm 16 0 29 = 0
      · have qz : (gI wm 16 0 29 = 0) = True := eq_true z
        simp only [pX12_lineRead, ↓t8, ↓t7, ↓s0, ↓s1, ↓s2, ↓s3, ↓s4, ↓s5, ↓qz, nearM, ↓reduceIte, callW_eq, Option.bind_assoc, Option.bind_some]
      · have qz : (gI wm 16 0 29 = 0) = False := eq_false z
        have rz : ∀ w, retZ (0 : Int32) w = some ((0 : Int32), w) := fun w => retZ_b false w
        simp only [pX12_lineRead, ↓t8, ↓t7, ↓s0, ↓s1, ↓s2, ↓s3, ↓s4, ↓s5, ↓qz, nearM, pX12_wrong, ↓reduceIte, callW_eq, Option.bind_some, rz, fX12_lineRead_82, ↓n0_0]
    unfold clC
    rw [callW_eq, Cc, Cm]
    exact j_end hN (j_near hc hm y11 Dc Dm hU hN)
  by_cases y12 : tK b n k = 12
  · have t8 : (gI wm 16 0 8 = (1 : Int32)) = True := eq_true ((JM_8 hm).2.1.mpr (by omega))
    have e9 : gI wm 16 0 9 = nI 6 := by rw [((JM_kd hm).1 (by omega)).2, y12]; rfl
    have t7 : ((7 : Int32) < gI wm 16 0 9) = False := eq_false (by rw [e9]; decide)
    have q0 := p0.trans (eq_false (by omega))
    have q1 := p1.trans (eq_false (by omega))
    have q2 := p2.trans (eq_false (by omega))
    have q3 := p3.trans (eq_false (by omega))
    have q4 := p4.trans (eq_false (by omega))
    have q5 := p5.trans (eq_false (by omega))
    have q6 := p6.trans (eq_false (by omega))
    have q7 := p7.trans (eq_false (by omega))
    have q8 := p8.trans (eq_false (by omega))
    have q9 := p9.trans (eq_false (by omega))
    have q10 := p10.trans (eq_false (by omega))
    have q11 := p11.trans (eq_false (by omega))
    have q12 := p12.trans (eq_true y12)
    have s0 : (gI wm 16 0 9 = (0 : Int32)) = False := eq_false (by rw [e9]; decide)
    have s1 : (gI wm 16 0 9 = (1 : Int32)) = False := eq_false (by rw [e9]; decide)
    have s2 : (gI wm 16 0 9 = (2 : Int32)) = False := eq_false (by rw [e9]; decide)
    have s3 : (gI wm 16 0 9 = (3 : Int32)) = False := eq_false (by rw [e9]; decide)
    have s4 : (gI wm 16 0 9 = (4 : Int32)) = False := eq_false (by rw [e9]; decide)
    have s5 : (gI wm 16 0 9 = (5 : Int32)) = False := eq_false (by rw [e9]; decide)
    have s6 : (gI wm 16 0 9 = (6 : Int32)) = True := eq_true e9
    have Cc : pX7_readLine N wc = wrpC N (gI wc 11 0 3) (3 : Int32) (pX7_readSeed N) wc := by
      simp only [pX7_readLine, ↓q0, ↓q1, ↓q2, ↓q3, ↓q4, ↓q5, ↓q6, ↓q7, ↓q8, ↓q9, ↓q10, ↓q11, ↓q12, ↓reduceIte]
      rfl
    have Cm : pX12_lineRead N wm = (seedM N wm).bind fun r => fX12_lineRead_82 N r.1 r.2 := by
      by_cases z : gI wm 16 0 30 = 0
      · have qz : (gI wm 16 0 30 = 0) = True := eq_true z
        simp only [pX12_lineRead, ↓t8, ↓t7, ↓s0, ↓s1, ↓s2, ↓s3, ↓s4, ↓s5, ↓s6, ↓qz, seedM, ↓reduceIte, callW_eq, Option.bind_assoc, Option.bind_some]
      · have qz : (gI wm 16 0 30 = 0) = False := eq_false z
        have rz : ∀ w, retZ (0 : Int32) w = some ((0 : Int32), w) := fun w => retZ_b false w
        simp only [pX12_lineRead, ↓t8, ↓t7, ↓s0, ↓s1, ↓s2, ↓s3, ↓s4, ↓s5, ↓s6, ↓qz, seedM, pX12_wrong, ↓reduceIte, callW_eq, Option.bind_some, rz, fX12_lineRead_82, ↓n0_0]
    unfold clC
    rw [callW_eq, Cc, Cm]
    exact j_end hN (j_seed hc hm y12 Dc Dm hU hN)
  by_cases y13 : tK b n k = 13
  · have t8 : (gI wm 16 0 8 = (1 : Int32)) = True := eq_true ((JM_8 hm).2.1.mpr (by omega))
    have e9 : gI wm 16 0 9 = nI 7 := by rw [((JM_kd hm).1 (by omega)).2, y13]; rfl
    have t7 : ((7 : Int32) < gI wm 16 0 9) = False := eq_false (by rw [e9]; decide)
    have q0 := p0.trans (eq_false (by omega))
    have q1 := p1.trans (eq_false (by omega))
    have q2 := p2.trans (eq_false (by omega))
    have q3 := p3.trans (eq_false (by omega))
    have q4 := p4.trans (eq_false (by omega))
    have q5 := p5.trans (eq_false (by omega))
    have q6 := p6.trans (eq_false (by omega))
    have q7 := p7.trans (eq_false (by omega))
    have q8 := p8.trans (eq_false (by omega))
    have q9 := p9.trans (eq_false (by omega))
    have q10 := p10.trans (eq_false (by omega))
    have q11 := p11.trans (eq_false (by omega))
    have q12 := p12.trans (eq_false (by omega))
    have q13 := p13.trans (eq_true y13)
    have s0 : (gI wm 16 0 9 = (0 : Int32)) = False := eq_false (by rw [e9]; decide)
    have s1 : (gI wm 16 0 9 = (1 : Int32)) = False := eq_false (by rw [e9]; decide)
    have s2 : (gI wm 16 0 9 = (2 : Int32)) = False := eq_false (by rw [e9]; decide)
    have s3 : (gI wm 16 0 9 = (3 : Int32)) = False := eq_false (by rw [e9]; decide)
    have s4 : (gI wm 16 0 9 = (4 : Int32)) = False := eq_false (by rw [e9]; decide)
    have s5 : (gI wm 16 0 9 = (5 : Int32)) = False := eq_false (by rw [e9]; decide)
    have s6 : (gI wm 16 0 9 = (6 : Int32)) = False := eq_false (by rw [e9]; decide)
    have Cc : pX7_readLine N wc = wrpC N (0 : Int32) (3 : Int32) (pX7_readLaw N) wc := by
      have ep : pX7_pass N (13 : Int32) wc = pX7_passUnless N (0 : Int32) (3 : Int32) wc := by
        simp only [pX7_pass, ↓q13, pX7_passUnless, ↓n0_0, ↓reduceIte]
      simp only [pX7_readLine, ↓q0, ↓q1, ↓q2, ↓q3, ↓q4, ↓q5, ↓q6, ↓q7, ↓q8, ↓q9, ↓q10, ↓q11, ↓q12, ↓q13, ↓reduceIte]
      unfold wrpC
      rw [callW_eq, callW_eq, ep]
    have Cm : pX12_lineRead N wm = (pX12_lawLine N wm).bind fun r => fX12_lineRead_82 N r.1 r.2 := by
      simp only [pX12_lineRead, ↓t8, ↓t7, ↓s0, ↓s1, ↓s2, ↓s3, ↓s4, ↓s5, ↓s6, ↓reduceIte, callW_eq]
    unfold clC
    rw [callW_eq, Cc, Cm]
    exact j_end hN (j_law hc hm y13 Dc Dm hU hN)
  refine Or.inl ⟨1, tP b n k, ?_, ?_⟩
  · have Cc : pX7_readLine N wc = (callW (pX7_fail N (1 : Int32)) wc).bind fun r => retZ r.1 r.2 := by
      have q0 := p0.trans (eq_false y0)
      have q2 := p2.trans (eq_false y2)
      have q8 := p8.trans (eq_false y8)
      have q9 := p9.trans (eq_false y9)
      have q10 := p10.trans (eq_false y10)
      have q11 := p11.trans (eq_false y11)
      have q12 := p12.trans (eq_false y12)
      have q13 := p13.trans (eq_false y13)
      by_cases y1 : tK b n k = 1
      · have q1 := p1.trans (eq_true y1)
        simp only [pX7_readLine, ↓q0, ↓q1, ↓reduceIte]
      have q1 := p1.trans (eq_false y1)
      by_cases y3 : tK b n k = 3
      · have q3 := p3.trans (eq_true y3)
        simp only [pX7_readLine, ↓q0, ↓q1, ↓q2, ↓q3, ↓reduceIte]
      have q3 := p3.trans (eq_false y3)
      by_cases y4 : tK b n k = 4
      · have q4 := p4.trans (eq_true y4)
        simp only [pX7_readLine, ↓q0, ↓q1, ↓q2, ↓q3, ↓q4, ↓reduceIte]
      have q4 := p4.trans (eq_false y4)
      by_cases y5 : tK b n k = 5
      · have q5 := p5.trans (eq_true y5)
        simp only [pX7_readLine, ↓q0, ↓q1, ↓q2, ↓q3, ↓q4, ↓q5, ↓reduceIte]
      have q5 := p5.trans (eq_false y5)
      by_cases y6 : tK b n k = 6
      · have q6 := p6.trans (eq_true y6)
        simp only [pX7_readLine, ↓q0, ↓q1, ↓q2, ↓q3, ↓q4, ↓q5, ↓q6, ↓reduceIte]
      have q6 := p6.trans (eq_false y6)
      by_cases y7 : tK b n k = 7
      · have q7 := p7.trans (eq_true y7)
        simp only [pX7_readLine, ↓q0, ↓q1, ↓q2, ↓q3, ↓q4, ↓q5, ↓q6, ↓q7, ↓reduceIte]
      have q7 := p7.trans (eq_false y7)
      simp only [pX7_readLine, ↓q0, ↓q1, ↓q2, ↓q3, ↓q4, ↓q5, ↓q6, ↓q7, ↓q8, ↓q9, ↓q10, ↓q11, ↓q12, ↓q13, ↓reduceIte]
    unfold clC
    rw [callW_eq, Cc]
    refine ok_bind (c_bad hc (FC_refl d wc) 1) ?_
    rintro ⟨x, w3⟩ ⟨e, hx⟩
    simp only at e hx
    subst e
    simp only [clT, ↓n0_0, ↓reduceIte]
    exact ok_some ⟨rfl, hx⟩
  · have Cm : pX12_lineRead N wm = (callW (pX12_wrong N (1 : Int32)) wm).bind fun r => retZ r.1 r.2 := by
      by_cases z : tK b n k < 24
      · have t8 : (gI wm 16 0 8 = (1 : Int32)) = True := eq_true ((JM_8 hm).2.1.mpr z)
        have hw := wr_lt _ z
        have t7 : ((7 : Int32) < gI wm 16 0 9) = True := eq_true (by rw [((JM_kd hm).1 z).2]; exact (nI_ltI (a := 7) (by omega) (by omega)).mpr (wr_line _ z y0 y2 (by omega)))
        simp only [pX12_lineRead, ↓t8, ↓t7, ↓reduceIte]
      · have t8 : (gI wm 16 0 8 = (1 : Int32)) = False := eq_false (fun t => z ((JM_8 hm).2.1.mp t))
        simp only [pX12_lineRead, ↓t8, ↓reduceIte]
    rw [Cm]
    exact m_bad hm (FM_refl wm) 1
end

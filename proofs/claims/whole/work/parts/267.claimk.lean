/-! ===== calls: claim, season ===== -/
section
variable {N : Nat} {w w' : Wd} {v : Vw}
theorem CC_fr2 {l : List Nat} {e : Vw} (f : Fr l w w') (h : CC w v e) (hl : dis l kCl = true := by decide) : CC w' v e :=
  ⟨by rw [Fr_I f hl (by decide)]; exact h.1, fun c hc => by
    rw [Fr_I f hl (k := 17) rfl, Fr_I f hl (k := 18) rfl, Fr_I f hl (k := 19) rfl, Fr_I f hl (k := 20) rfl]
    exact h.2 c hc⟩
theorem CL_ext {v' : Vw} (hm : ∀ r j, mr r j → v' r j = v r j) (h : CL w v) : CL w v' := by
  obtain ⟨e, h1, h2, h3⟩ := h
  have e0 : v' 0 0 = v 0 0 := hm 0 0 (by simp [mr])
  have e3 : v' 3 = v 3 := by funext j; exact hm 3 j (by simp [mr])
  have e4 : v' 0 4 = v 0 4 := hm 0 4 (by simp [mr])
  have en : ∀ a b, sNear v' a b = sNear v a b := fun a b => by unfold sNear; rw [e0, e3, e4]
  have ec : ∀ a b, cn v' e a b = cn v e a b := fun a b => by unfold cn; rw [en]
  refine ⟨e, ⟨h1.1, fun c hc => ?_⟩, h2, h3.1, fun c hc => by rw [e0]; exact h3.2 c hc⟩
  rw [mkB_ext (fun k _ => ec c k)]
  exact h1.2 c hc
theorem m1n : (-1 : Int32) = -nI 1 := rfl
theorem s_claim (h : Iv w v) (hN : 100 ≤ N) (a b c : Int32) : Sp (pX11_claim N a b c) (pX12_claim N a b c) w := by
  have C := h.1
  have hF := C.2.2.1
  have h1 := WF_people hF
  have h2 := WF_parts hF
  obtain ⟨e, ec, em, ew⟩ := h.2.2.2.2.2.2.2.1
  have hw := ew.1
  have C1 := Cu_t C
  have g1 := c_gWho (N := N) C a
  have g2 := c_gNight (N := N) (w := w) b
  have g3 := c_gPart (N := N) C c
  have em1 : CM (setI w 16 0 2 (0 : Int32)) e := CM_fr (Fr_setI (l := [17002]) (Fr_refl _ _) rfl) em
  have k1 := m_gWho (N := N) C1 a
  have k2 := m_gNight (N := N) (w := setI w 16 0 2 (0 : Int32)) b
  have k3 := m_gPart (N := N) C1 c
  by_cases h12 : e 0 3 = 12
  · have q12 : (gI (setI w 16 0 2 (0 : Int32)) 16 0 93 = (12 : Int32)) = True := eq_true (by rw [em1.1, h12]; rfl)
    have ga := c_add12 (N := N) (m := gR w 15 0 2) ec h12 a b c
    refine Sp_same h (r := (-1 : Int32)) ?_ (by simp only [pX12_claim, ↓q12, ↓reduceIte])
    cases ha : isI a (v 0 1) with
    | false => rw [ha] at g1; simp only [pX11_claim, ↓cbnd g1, ↓z2, ↓reduceIte]
    | true =>
      rw [ha] at g1
      cases hb : isI b 1000 with
      | false => rw [hb] at g2; simp only [pX11_claim, ↓cbnd g1, ↓z1, ↓cbnd g2, ↓z2, ↓reduceIte]
      | true =>
        rw [hb] at g2
        cases hc : isI c (v 0 0) with
        | false => rw [hc] at g3; simp only [pX11_claim, ↓cbnd g1, ↓z1, ↓cbnd g2, ↓cbnd g3, ↓z2, ↓reduceIte]
        | true =>
          rw [hc] at g3
          simp only [pX11_claim, ↓cbnd g1, ↓z1, ↓cbnd g2, ↓cbnd g3, ↓cbnd ga, ↓reduceIte]
          rfl
  · have q12 : (gI (setI w 16 0 2 (0 : Int32)) 16 0 93 = (12 : Int32)) = False := eq_false (fun z => by
      rw [em1.1] at z
      exact h12 ((nI_eq (b := 12) (by omega) (by omega)).mp z))
    cases ha : isI a (v 0 1) with
    | false =>
      rw [ha] at g1 k1
      exact Sp_same h (r := (-1 : Int32)) (by simp only [pX11_claim, ↓cbnd g1, ↓z2, ↓reduceIte]) (by simp only [pX12_claim, ↓q12, ↓cbnd k1, ↓z2, ↓reduceIte])
    | true =>
      rw [ha] at g1 k1
      cases hb : isI b 1000 with
      | false =>
        rw [hb] at g2 k2
        exact Sp_same h (r := (-1 : Int32)) (by simp only [pX11_claim, ↓cbnd g1, ↓z1, ↓cbnd g2, ↓z2, ↓reduceIte]) (by simp only [pX12_claim, ↓q12, ↓cbnd k1, ↓z1, ↓cbnd k2, ↓z2, ↓reduceIte])
      | true =>
        rw [hb] at g2 k2
        cases hc : isI c (v 0 0) with
        | false =>
          rw [hc] at g3 k3
          exact Sp_same h (r := (-1 : Int32)) (by simp only [pX11_claim, ↓cbnd g1, ↓z1, ↓cbnd g2, ↓cbnd g3, ↓z2, ↓reduceIte]) (by simp only [pX12_claim, ↓q12, ↓cbnd k1, ↓z1, ↓cbnd k2, ↓cbnd k3, ↓z2, ↓reduceIte])
        | true =>
          rw [hc] at g3
          obtain ⟨p, hp, ep⟩ := isI_t.mp ha
          obtain ⟨n, hn, en⟩ := isI_t.mp hb
          obtain ⟨k, hk, ek⟩ := isI_t.mp hc
          have T : TC w (gR w 15 0 2) v := by rw [C.2.2.2.2.1]; exact C.1.1
          obtain ⟨⟨x, w1⟩, e1, f1, cc1, wc1, hx⟩ := c_add (N := N) T hF hN ew ec (p := p) (n := n) (k := k) (by omega) (by omega) hk h12
          simp only at f1 cc1 wc1 hx
          rw [← ep, ← en, ← ek] at e1
          have D1 := Cu_fr f1 C
          have D2 := Cu_t D1
          have f2 : Fr [17002] w1 (setI w1 16 0 2 (0 : Int32)) := Fr_setI (Fr_refl _ _) rfl
          have em2 : CM (setI w1 16 0 2 (0 : Int32)) e := CM_fr f2 (CM_fr f1 em)
          have j1 := m_gWho (N := N) D2 a
          have j2 := m_gNight (N := N) (w := setI w1 16 0 2 (0 : Int32)) b
          have j3 := m_gPart (N := N) D2 c
          rw [ha] at j1
          rw [hb] at j2
          rw [hc] at j3
          have p12 : (gI (setI w1 16 0 2 (0 : Int32)) 16 0 93 = (12 : Int32)) = False := eq_false (fun z => by
            rw [em2.1] at z
            exact h12 ((nI_eq (b := 12) (by omega) (by omega)).mp z))
          generalize hw2 : setI w1 16 0 2 (0 : Int32) = w2 at f2 em2 j1 j2 j3 p12 D2
          have s1 : stI w2 121 0 (gI w2 16 0 93) 12 a = some (setI w2 121 0 (e 0 3) a) := by rw [em2.1]; exact stn (by omega) (by omega)
          generalize hw3 : setI w2 121 0 (e 0 3) a = w3 at s1
          have a3 : gI w3 16 0 93 = nI (e 0 3) := by rw [← hw3, gg_I, if_neg (by omega)]; exact em2.1
          have s2 : stI w3 122 0 (gI w3 16 0 93) 12 b = some (setI w3 122 0 (e 0 3) b) := by rw [a3]; exact stn (by omega) (by omega)
          generalize hw4 : setI w3 122 0 (e 0 3) b = w4 at s2
          have a4 : gI w4 16 0 93 = nI (e 0 3) := by rw [← hw4, gg_I, if_neg (by omega)]; exact a3
          have s3 : stI w4 123 0 (gI w4 16 0 93) 12 c = some (setI w4 123 0 (e 0 3) c) := by rw [a4]; exact stn (by omega) (by omega)
          generalize hw5 : setI w4 123 0 (e 0 3) c = w5 at s3
          have a5 : gI w5 16 0 93 + (1 : Int32) = nI (e 0 3 + 1) := by rw [← hw5, gg_I, if_neg (by omega), a4]; exact nI_add _ 1
          have f5 : Fr [17002, 121, 122, 123, 17093] w1 (setI w5 16 0 93 (nI (e 0 3 + 1))) := by
            rw [← hw5, ← hw4, ← hw3]
            exact Fr_setI (Fr_setI (Fr_setI (Fr_setI (Fr_mono f2 rfl) rfl) rfl) rfl) rfl
          have a6 : gI (setI w5 16 0 93 (nI (e 0 3 + 1))) 16 0 93 - (1 : Int32) = nI (e 0 3) := by
            rw [gg_I, if_pos ⟨rfl, rfl, rfl⟩]
            exact (dn_sub _).trans (if_neg (by omega))
          obtain ⟨c1, c2, c3, c4, c5⟩ := ce_facts e p n k
          have cm : CM (setI w5 16 0 93 (nI (e 0 3 + 1))) (ce e p n k) := by
            refine ⟨by rw [gg_I, if_pos ⟨rfl, rfl, rfl⟩, c1], fun i hi => ?_⟩
            rw [c1] at hi
            have r1 : gI (setI w5 16 0 93 (nI (e 0 3 + 1))) 121 0 i = if i = e 0 3 then a else gI w2 121 0 i := by
              rw [gg_I, if_neg (by omega), ← hw5, gg_I, if_neg (by omega), ← hw4, gg_I, if_neg (by omega), ← hw3, gg_I]
              by_cases y : i = e 0 3
              · rw [if_pos ⟨rfl, rfl, y⟩, if_pos y]
              · rw [if_neg (fun z => y z.2.2), if_neg y]
            have r2 : gI (setI w5 16 0 93 (nI (e 0 3 + 1))) 122 0 i = if i = e 0 3 then b else gI w2 122 0 i := by
              rw [gg_I, if_neg (by omega), ← hw5, gg_I, if_neg (by omega), ← hw4, gg_I]
              by_cases y : i = e 0 3
              · rw [if_pos ⟨rfl, rfl, y⟩, if_pos y]
              · rw [if_neg (fun z => y z.2.2), if_neg y, ← hw3, gg_I, if_neg (by omega)]
            have r3 : gI (setI w5 16 0 93 (nI (e 0 3 + 1))) 123 0 i = if i = e 0 3 then c else gI w2 123 0 i := by
              rw [gg_I, if_neg (by omega), ← hw5, gg_I]
              by_cases y : i = e 0 3
              · rw [if_pos ⟨rfl, rfl, y⟩, if_pos y]
              · rw [if_neg (fun z => y z.2.2), if_neg y, ← hw4, gg_I, if_neg (by omega), ← hw3, gg_I, if_neg (by omega)]
            rw [r1, r2, r3]
            by_cases y : i = e 0 3
            · rw [if_pos y, if_pos y, if_pos y, y, c2, c3, c4]
              exact ⟨ep, en, ek⟩
            · obtain ⟨d1, d2, d3⟩ := c5 i (by omega)
              rw [if_neg y, if_neg y, if_neg y, d1, d2, d3]
              exact em2.2 i (by omega)
          have F : Fr [5000, 17, 18, 19, 20, 17002, 121, 122, 123, 17093] w (setI w5 16 0 93 (nI (e 0 3 + 1))) := Fr_trans (Fr_mono f1 rfl) (Fr_mono f5 rfl)
          obtain ⟨i1, i2, i3, i4, i5, i6, i7, i8, i9, i10⟩ := h
          refine ⟨nI (e 0 3), w1, setI w5 16 0 93 (nI (e 0 3 + 1)), ?_, ?_, v, Cu_fr F i1, ZD_fr F i2, MO_fr F i3, TP_fr F i4, FA_fr F i5, UN_fr F i6, IM_fr F i7, ⟨ce e p n k, CC_fr2 f5 cc1, cm, wc1⟩, OC_fr F i9, WD_fr F i10⟩
          · simp only [pX11_claim, ↓cbnd g1, ↓z1, ↓cbnd g2, ↓cbnd g3, ↓cbnd e1, ↓reduceIte]
            rw [hx]
          · simp only [pX12_claim, ↓hw2, ↓p12, ↓cbnd j1, ↓z1, ↓cbnd j2, ↓cbnd j3, ↓bnd s1, ↓bnd s2, ↓bnd s3, ↓a5, ↓a6, ↓reduceIte]
/-- the stand keeps over a change of another stand -/
theorem Cu_sfr {l : List Nat} {i : Nat} (f : Fr l w w') (s : SFr i w w') (hi : 0 ≠ i) (h : Cu w v) (hl : dis l (kTC ++ kRM ++ [16002, 17064]) = true := by decide) : Cu w' v := by
  obtain ⟨h1, h2, h3, h4, h5, h6, h7, h8⟩ := h
  have e13 : gR w' 13 0 0 = gR w 13 0 0 := (s 13 0 0 (by rw [if_neg (by omega)]; exact hi) (Or.inl rfl)).2.2
  refine ⟨⟨?_, SC_sfr s hi h1.2 (WF_people h3)⟩, RM_fr f h2 (dis_sub hl (by decide)), h3, h4, ?_, h6, h7, ?_⟩
  · rw [e13]; exact TC_fr f h1.1 (dis_sub hl (by decide))
  · rw [e13, Fr_R f hl (k := 15) (by decide)]; exact h5
  · rw [Fr_I f hl (by decide)]; exact h8
theorem lt01 {a : Int32} (h : a < 0) : a < (1 : Int32) := by
  rw [Int32.lt_iff_toInt_lt] at *
  have e0 : (0 : Int32).toInt = 0 := rfl
  have e1 : (1 : Int32).toInt = 1 := rfl
  omega
theorem s_season (h : Iv w v) (hN : 2 ^ 23 ≤ N) (a1 a2 a3 a4 : Int32) : Sp (pX11_season N a1 a2 a3 a4) (pX12_season N a1 a2 a3 a4) w := by
  have C := h.1
  have hF := C.2.2.1
  have hL := C.2.2.2.1
  have hT := C.2.2.2.2.2.1
  have h5 := C.2.2.2.2.2.2.1
  have h1 := WF_people hF
  have g1 := c_gMaster (N := N) (w := w) a1
  have k1 := m_gMaster (N := N) (w := setI w 16 0 2 (0 : Int32)) a1
  cases ha : isI a1 4 with
  | false =>
    rw [ha] at g1 k1
    exact Sp_same h (r := (-2147483648 : Int32)) (by simp only [pX11_season, ↓cbnd g1, ↓z2, ↓reduceIte]) (by simp only [pX12_season, ↓cbnd k1, ↓z2, ↓reduceIte])
  | true =>
    rw [ha] at g1 k1
    by_cases y2 : a2 < 0
    · have q2 : (a2 < 0) = True := eq_true y2
      exact Sp_same h (r := (-2147483648 : Int32)) (by simp only [pX11_season, ↓cbnd g1, ↓z1, ↓q2, ↓reduceIte]) (by simp only [pX12_season, ↓cbnd k1, ↓z1, ↓q2, ↓reduceIte])
    have q2 : (a2 < 0) = False := eq_false y2
    by_cases y3 : a3 < (1 : Int32)
    · have q3 : (a3 < (1 : Int32)) = True := eq_true y3
      have k3 : pX12_isIn N a3 (1 : Int32) (50 : Int32) (setI w 16 0 2 (0 : Int32)) = some (zB false, setI w 16 0 2 (0 : Int32)) := by simp only [pX12_isIn, ↓q3, ↓reduceIte]; rfl
      exact Sp_same h (r := (-2147483648 : Int32)) (by simp only [pX11_season, ↓cbnd g1, ↓z1, ↓q2, ↓q3, ↓reduceIte]) (by simp only [pX12_season, ↓cbnd k1, ↓z1, ↓q2, ↓cbnd k3, ↓z2, ↓reduceIte])
    have q3 : (a3 < (1 : Int32)) = False := eq_false y3
    by_cases y4 : (50 : Int32) < a3
    · have q4 : ((50 : Int32) < a3) = True := eq_true y4
      have k3 : pX12_isIn N a3 (1 : Int32) (50 : Int32) (setI w 16 0 2 (0 : Int32)) = some (zB false, setI w 16 0 2 (0 : Int32)) := by simp only [pX12_isIn, ↓q3, ↓q4, ↓reduceIte]; rfl
      exact Sp_same h (r := (-2147483648 : Int32)) (by simp only [pX11_season, ↓cbnd g1, ↓z1, ↓q2, ↓q3, ↓q4, ↓reduceIte]) (by simp only [pX12_season, ↓cbnd k1, ↓z1, ↓q2, ↓cbnd k3, ↓z2, ↓reduceIte])
    have q4 : ((50 : Int32) < a3) = False := eq_false y4
    have k3 : ∀ w : Wd, pX12_isIn N a3 (1 : Int32) (50 : Int32) w = some (zB true, w) := fun w => by simp only [pX12_isIn, ↓q3, ↓q4, ↓reduceIte]; rfl
    by_cases y5 : a4 < 0
    · have q5 : (a4 < 0) = True := eq_true y5
      have k4 : pX12_isIn N a4 (0 : Int32) (2 : Int32) (setI w 16 0 2 (0 : Int32)) = some (zB false, setI w 16 0 2 (0 : Int32)) := by simp only [pX12_isIn, ↓q5, ↓reduceIte]; rfl
      exact Sp_same h (r := (-2147483648 : Int32)) (by simp only [pX11_season, ↓cbnd g1, ↓z1, ↓q2, ↓q3, ↓q4, ↓q5, ↓reduceIte]) (by simp only [pX12_season, ↓cbnd k1, ↓z1, ↓q2, ↓cbnd (k3 _), ↓cbnd k4, ↓z2, ↓reduceIte])
    have q5 : (a4 < 0) = False := eq_false y5
    by_cases y6 : (2 : Int32) < a4
    · have q6 : ((2 : Int32) < a4) = True := eq_true y6
      have k4 : pX12_isIn N a4 (0 : Int32) (2 : Int32) (setI w 16 0 2 (0 : Int32)) = some (zB false, setI w 16 0 2 (0 : Int32)) := by simp only [pX12_isIn, ↓q5, ↓q6, ↓reduceIte]; rfl
      exact Sp_same h (r := (-2147483648 : Int32)) (by simp only [pX11_season, ↓cbnd g1, ↓z1, ↓q2, ↓q3, ↓q4, ↓q5, ↓q6, ↓reduceIte]) (by simp only [pX12_season, ↓cbnd k1, ↓z1, ↓q2, ↓cbnd (k3 _), ↓cbnd k4, ↓z2, ↓reduceIte])
    have q6 : ((2 : Int32) < a4) = False := eq_false y6
    have k4 : ∀ w : Wd, pX12_isIn N a4 (0 : Int32) (2 : Int32) w = some (zB true, w) := fun w => by simp only [pX12_isIn, ↓q5, ↓q6, ↓reduceIte]; rfl
    obtain ⟨ms, hms, ems⟩ := isI_t.mp ha
    obtain ⟨n, hn31, en⟩ := a_nI a3 (fun z => y3 (lt01 z))
    obtain ⟨wh, hwh31, ewh⟩ := a_nI a4 y5
    have hn50 : n ≤ 50 := by
      apply Classical.byContradiction
      intro z
      exact y4 (by rw [en]; exact (nI_ltI (a := 50) (by omega) (by omega)).mpr (by omega))
    have hwh : wh < 3 := by
      apply Classical.byContradiction
      intro z
      exact y6 (by rw [ewh]; exact (nI_ltI (a := 2) (by omega) (by omega)).mpr (by omega))
    obtain ⟨w1, ep, f1, s1, R1, x1, l1⟩ := c_play (N := N) C.1 hF hL hT h5 (by omega) hms hn50 (sd := a2)
    rw [← ems, ← en] at ep
    have C1 := Cu_sfr f1 s1 (by omega) C
    have C2 := Cu_t C1
    have facts := snN_facts (WF_noLost hF) (WL_ext (noLost_mr v) hL) (v := noLost v) (fun j => hT j) ms a2.toInt64 (nI 0) 0 n (show noLost v 0 5 + n ≤ 1050 by show v 0 5 + n ≤ 1050; omega)
    have ec : pX11_season N a1 a2 a3 a4 w = some (sSea v ms wh n a2, w1) := by
      simp only [pX11_season, ↓cbnd g1, ↓z1, ↓q2, ↓q3, ↓q4, ↓q5, ↓q6, ↓cbnd ep, ↓reduceIte]
      unfold sSea
      by_cases z0 : wh = 0
      · rw [if_pos (show a4 = 0 by rw [ewh, z0]; rfl), if_pos z0, x1]
      · have z0' : ¬ a4 = 0 := fun z => z0 ((nI_eq (b := 0) hwh31 (by omega)).mp (ewh.symm.trans z))
        rw [if_neg z0', if_neg z0]
        by_cases z1' : wh = 1
        · rw [if_pos (show a4 = (1 : Int32) by rw [ewh, z1']; rfl), if_pos z1']
          have e01 : (snN ms (noLost v, a2.toInt64, nI 0, 0) n).1 0 1 = v 0 1 := facts.2.2.2.1.1 0 1 (by simp [mr])
          have ea := SC_gone R1.2
          rw [e01] at ea
          have eb : gI w1 13 0 3 = nI (mkB (fun p => v 17 p == 1) (v 0 1)) := SC_gone C1.1.2
          have hlt := mkB_lt (fun p => (snN ms (noLost v, a2.toInt64, nI 0, 0) n).1 17 p == 1) (v 0 1)
          have h64 : 2 ^ v 0 1 ≤ 2 ^ 6 := Nat.pow_le_pow_right (by omega) h1
          have hx : gI w1 13 2 3 &&& (gI w1 13 0 3 ^^^ (-1 : Int32)) = nI (mkB (fun p => (snN ms (noLost v, a2.toInt64, nI 0, 0) n).1 17 p == 1) (v 0 1) ^^^ (mkB (fun p => (snN ms (noLost v, a2.toInt64, nI 0, 0) n).1 17 p == 1) (v 0 1) &&& mkB (fun p => v 17 p == 1) (v 0 1))) := by
            rw [ea, eb]
            exact nz_not (by omega)
          have hlt2 := andnot_lt (y := mkB (fun p => v 17 p == 1) (v 0 1)) hlt
          have gb := c_bits (N := N) (w := w1) (x := mkB (fun p => (snN ms (noLost v, a2.toInt64, nI 0, 0) n).1 17 p == 1) (v 0 1) ^^^ (mkB (fun p => (snN ms (noLost v, a2.toInt64, nI 0, 0) n).1 17 p == 1) (v 0 1) &&& mkB (fun p => v 17 p == 1) (v 0 1))) (by omega)
          rw [pc_cnt (P := v 0 1) (by omega) hlt2, ← hx] at gb
          rw [cnt_ext (g := fun p => (snN ms (noLost v, a2.toInt64, nI 0, 0) n).1 17 p == 1 && !(v 17 p == 1)) (fun p hp => by
            rw [bit_andnot, mkB_bit, mkB_bit]
            simp [hp])] at gb
          have gn : pX3_newlyGone N 0 w1 = some (nI (cnt (fun p => (snN ms (noLost v, a2.toInt64, nI 0, 0) n).1 17 p == 1 && !(v 17 p == 1)) (v 0 1)), w1) := by
            simp only [pX3_newlyGone, ↓cbnd gb]
          simp only [↓cbnd gn]
        · have z1'' : ¬ a4 = (1 : Int32) := fun z => z1' ((nI_eq (b := 1) hwh31 (by omega)).mp (ewh.symm.trans z))
          rw [if_neg z1'', if_neg z1', l1]
    have k1' := m_gMaster (N := N) (w := setI w1 16 0 2 (0 : Int32)) a1
    rw [ha] at k1'
    obtain ⟨⟨x, w2⟩, e2, f2, b2, hx2⟩ := m_season (N := N) C2.2.1 hF hL hT h5 (Cu_night C2) hN hms hn50 hwh (sd := a2)
    simp only at f2 b2 hx2
    rw [← ems, ← en, ← ewh, hx2] at e2
    have f3 : Fr (17002 :: kSe) w1 w2 := Fr_trans (Fr_setI (Fr_refl _ _) rfl) (Fr_mono f2 rfl)
    have b3 : BFr 1 w1 w2 := BFr_trans (BFr_fr (Fr_setI (l := [17002]) (Fr_refl _ _) rfl)) b2
    obtain ⟨i1, i2, i3, i4, i5, i6, i7, i8, i9, i10⟩ := h
    have e13 : gR w1 13 0 0 = gR w 13 0 0 := (s1 13 0 0 (by decide) (Or.inl rfl)).2.2
    refine ⟨sSea v ms wh n a2, w1, w2, ec, ?_, v, BFr0 f3 b3 hF C1, ?_, MO_fr f3 (MO_fr f1 i3), TP_fr f3 (TP_fr f1 i4), FA_fr f3 (FA_fr f1 i5), UN_fr f3 (UN_fr f1 i6), IM_fr f3 (IM_sfr f1 s1 (by omega) e13 i7), CL_fr f3 (CL_fr f1 i8), OC_fr f3 (OC_fr f1 i9), WD_fr f3 (WD_fr f1 i10)⟩
    · simp only [pX12_season, ↓cbnd k1', ↓z1, ↓q2, ↓cbnd (k3 _), ↓cbnd (k4 _), ↓reduceIte, callW_eq]
      exact e2
    · unfold ZD at i2 ⊢
      rw [(f3 13 0 2 rfl).2.1, (s1 13 0 2 (by decide) (Or.inl rfl)).2.1, b3.2.2 0 (by omega), (f1 106 0 0 rfl).2.1]
      exact i2
end

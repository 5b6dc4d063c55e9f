/-! ===== line: weather ===== -/
section
variable {N : Nat} {w w' w0 w1 wc wm : Wd} {b : Nat → Nat} {n m d k i : Nat} {u u' : Vw}
def DMo (w : Wd) (u : Vw) : Prop := DR w dTm 0 u ∧ DF w dFm 0 u ∧ (∀ j, j < u 0 0 → gI w 77 0 (8 + j) = nI (u 3 j)) ∧ (gI w 16 0 26 = nI (u 26 0) ∧ gI w 16 0 29 = nI (u 26 1) ∧ gI w 16 0 30 = nI (u 26 2)) ∧ LM w u
theorem DM_o (h : DM w u) : DMo w u := ⟨h.1, h.2.1, h.2.2.1, ⟨h.2.2.2.1.1, h.2.2.2.1.2.1, h.2.2.2.1.2.2.1⟩, h.2.2.2.2⟩
theorem DMo_D (h : DMo w u) (h28 : gI w 16 0 28 = zB (decide (0 < u 0 3))) : DM w u := ⟨h.1, h.2.1, h.2.2.1, ⟨h.2.2.2.1.1, h.2.2.2.1.2.1, h.2.2.2.1.2.2, h28⟩, h.2.2.2.2⟩
def kDMo : List Nat := [75, 76, 78, 79, 80, 81, 82, 83, 84, 85, 86, 87, 88, 89, 90, 17020, 17021, 17022, 17023, 17025, 17024, 17027, 17058, 77, 17026, 17029, 17030, 91, 92, 93, 94, 95, 96]
theorem DMo_fr {l : List Nat} (f : Fr l w w') (h : DMo w u) (hl : dis l kDMo = true := by decide) : DMo w' u := by
  obtain ⟨h1, h2, h3, ⟨h5, h6, h7⟩, h9⟩ := h
  refine ⟨DR_fr okTm f h1 (dis_sub hl (by decide)), DF_fr f h2 (dF_dis (dis_sub hl (by decide))), fun j hj => ?_, ⟨?_, ?_, ?_⟩, LM_fr f h9 (dis_sub hl (by decide))⟩
  · rw [Fr_I f hl (by rfl)]; exact h3 j hj
  · rw [Fr_I f hl (by decide)]; exact h5
  · rw [Fr_I f hl (by decide)]; exact h6
  · rw [Fr_I f hl (by decide)]; exact h7
theorem DMo_app {l : List Nat} {c : Nat} {nw : Nat → Nat} (f : Fr l w w') (D : DMo w u) (hc : c = 1 ∨ c = 2 ∨ c = 3 ∨ c = 6) (hl : dis l [77, 17026, 17029, 17030, 91, 92, 93, 94, 95, 96] = true) (hl2 : dFm.all (fun e => e.2.2 == c || !l.contains (ky e.1 e.2.1)) = true)
    (hk : KP dTm 0 u w w') (hn : ∀ e, e ∈ dTm → e.2.2.1 = c → gI w' e.1 0 (e.2.2.2 + u 0 c) = nI (nw e.2.1)) (hf : ∀ e, e ∈ dFm → e.2.2 = c → gI w' e.1 0 e.2.1 = nI (u 0 c + 1)) : DMo w' (app u c nw) := by
  obtain ⟨h1, h2, h3, ⟨h5, h6, h7⟩, h9⟩ := D
  have g26 : ∀ j, app u c nw 26 j = u 26 j := fun j => app_r (by omega) (by rw [show grp 26 = 99 from by decide]; omega)
  have g3 : ∀ j, app u c nw 3 j = u 3 j := fun j => app_r (by omega) (by rw [show grp 3 = 99 from by decide]; omega)
  have a0 : app u c nw 0 0 = u 0 0 := app_n (by omega)
  have a7 : app u c nw 0 7 = u 0 7 := app_n (by omega)
  refine ⟨DR_app okTm h1 hk hn, DF_app h2 (DF_oth f hl2) hf, fun j hj => ?_, ⟨?_, ?_, ?_⟩, LM_e (app_law (by omega)) (by rw [a7]; exact Nat.le_refl _) (LM_fr f h9 (dis_sub hl (by decide)))⟩
  · rw [a0] at hj
    rw [g3, Fr_I f hl (by rfl)]; exact h3 j hj
  · rw [g26, Fr_I f hl (by decide)]; exact h5
  · rw [g26, Fr_I f hl (by decide)]; exact h6
  · rw [g26, Fr_I f hl (by decide)]; exact h7
theorem j_wloop (hN : 1000 ≤ N) : ∀ r i wc' wm' (u' : Vw) k' fc fm, i + r = 14 → r < fc → r + 1 < fm → u' 0 3 = i → JC wc' b n m d k' → JM wm' b n k' → DC wc' d u' → DMo wm' u' → gI wm' 16 0 28 = (1 : Int32) → WU u' → FC d wc wc' → FM wm wm' → k ≤ k' → (0 < i → tK b n k' = 61) →
    LnR b n m d k wc wm (fX7_readWeather_2 N fc (fX7_readWeather_35 N) (nI i) wc') (fX12_weatherLine_14 N fm (1 : Int32) wm') := by
  intro r
  induction r with
  | zero =>
    intro i wc' wm' u' k' fc fm hi hfc hfm h3 hc hm Dc Dm h28 hU F G hk h61
    obtain ⟨fc, rfl⟩ : ∃ z, fc = z + 1 := ⟨fc - 1, by omega⟩
    obtain ⟨fm, rfl⟩ : ∃ z, fm = z + 1 := ⟨fm - 1, by omega⟩
    have e : i = 14 := by omega
    subst e
    have t61 := h61 (by omega)
    have e23 : gI wm' 16 0 23 = nI (u' 0 3) := Dm.2.1 (16, 23, 3) (by decide)
    have lt : (nI 14 < (14 : Int32)) = False := eq_false (by decide)
    have q : (gI wm' 16 0 8 = (3 : Int32)) = True := eq_true ((JM_8 hm).2.2.2.1.mpr t61)
    have q2 : (gI wm' 16 0 23 = (14 : Int32)) = True := eq_true (by rw [e23, h3]; rfl)
    refine Or.inl ⟨2, tP b n k', ?_, ?_⟩
    · simp only [fX7_readWeather_2, ↓lt, fX7_readWeather_35, ↓reduceIte]
      exact ok_mono (c_failZ hc 2) (fun x hx => ⟨hx.1, flC_B F hx.2⟩)
    · simp only [fX12_weatherLine_14, ↓n1_0, ↓q, ↓q2, ↓reduceIte]
      exact ok_mono (m_wrongZ hm 2) (fun x hx => ⟨hx.1, flM_B G hx.2⟩)
  | succ r ih =>
    intro i wc' wm' u' k' fc fm hi hfc hfm h3 hc hm Dc Dm h28 hU F G hk h61
    obtain ⟨fc, rfl⟩ : ∃ z, fc = z + 1 := ⟨fc - 1, by omega⟩
    obtain ⟨fm, rfl⟩ : ∃ z, fm = z + 1 := ⟨fm - 1, by omega⟩
    have e23 : gI wm' 16 0 23 = nI (u' 0 3) := Dm.2.1 (16, 23, 3) (by decide)
    have lt : (nI i < (14 : Int32)) = True := eq_true ((nI_ltI (b := 14) (by omega) (by omega)).mpr (by omega))
    have q2 : (gI wm' 16 0 23 = (14 : Int32)) = False := eq_false (fun z => by
      rw [e23, h3] at z
      have := (nI_eq (b := 14) (by omega) (by omega)).mp z
      omega)
    have eM : fX12_weatherLine_14 N (fm + 1) (1 : Int32) wm' = fX12_weatherLine_28 N (fX12_weatherLine_14 N fm) wm' := by
      by_cases t61 : tK b n k' = 61
      · have q : (gI wm' 16 0 8 = (3 : Int32)) = True := eq_true ((JM_8 hm).2.2.2.1.mpr t61)
        simp only [fX12_weatherLine_14, ↓n1_0, ↓q, ↓q2, ↓reduceIte, callW_eq]
      · have q : (gI wm' 16 0 8 = (3 : Int32)) = False := eq_false (fun z => t61 ((JM_8 hm).2.2.2.1.mp z))
        simp only [fX12_weatherLine_14, ↓n1_0, ↓q, ↓reduceIte, callW_eq]
    rw [eM]
    by_cases z : nmF b n k' 0 9 = 0
    · have hr := nmF_rng z
      have q3 : (nI (tV b n k') < 0) = False := eq_false (nz_ge0 (by omega))
      obtain ⟨⟨x, w1⟩, ec, ex, f1, j1⟩ := c_num (N := N) (lo := 0) (hi := 9) hc (by omega) (by omega) z
      simp only at ex f1 j1
      subst ex
      have ec' : pX7_readNumber N (0 : Int32) (9 : Int32) wc' = some (nI (tV b n k'), w1) := ec
      have ed := j1.2.2.2.2
      have s1 : stI w1 37 d (nI i) 14 (nI (tV b n k')) = some (setI w1 37 d i (nI (tV b n k'))) := stn (by omega) (by omega)
      have fa : Fr [37] w1 (setI w1 37 d i (nI (tV b n k'))) := Fr_setI (Fr_refl _ _) rfl
      have ed2 : gR (setI w1 37 d i (nI (tV b n k'))) 11 0 1 = d := (JC_fr fa j1).2.2.2.2
      have e1 : nI i + (1 : Int32) = nI (i + 1) := nI_add _ 1
      have f2 : Fr [37, 9010] w1 (setI (setI w1 37 d i (nI (tV b n k'))) 8 d 10 (nI (i + 1))) := Fr_setI (Fr_setI (Fr_refl _ _) rfl) rfl
      have j2 := JC_fr f2 j1
      have F2 : FC d wc (setI (setI w1 37 d i (nI (tV b n k'))) 8 d 10 (nI (i + 1))) := FC_setI (FC_setI (FC_trans F (FC_ad f1)) rfl (Or.inr rfl)) rfl (Or.inr rfl)
      have D2 : DC (setI (setI w1 37 d i (nI (tV b n k'))) 8 d 10 (nI (i + 1))) d (app u' 3 (fun _ => tV b n k')) := by
        refine DC_app (w := w1) f2 (DC_fr f1 Dc) (by omega) (by decide) (by decide) ?_ ?_ ?_
        · exact KP_trans (KP_set (c := 3) (o := 0) (by decide) (by omega)) (KP_Fr okTc (l := [9010]) (Fr_setI (Fr_refl _ _) rfl) (by decide))
        · intro e he hc'
          have : e = (37, 13, 3, 0) := (by decide : ∀ e, e ∈ dTc → e.2.2.1 = 3 → e = (37, 13, 3, 0)) e he hc'
          subst this
          show gI _ 37 d (0 + u' 0 3) = nI (tV b n k')
          rw [h3, Nat.zero_add, gg_I, if_neg (by omega), gg_I, if_pos ⟨rfl, rfl, rfl⟩]
        · intro e he hc'
          have : e = (8, 10, 3) := (by decide : ∀ e, e ∈ dFc → e.2.2 = 3 → e = (8, 10, 3)) e he hc'
          subst this
          show gI _ 8 d 10 = nI (u' 0 3 + 1)
          rw [h3, gg_I, if_pos ⟨rfl, rfl, rfl⟩]
      have Cc : fX7_readWeather_2 N (fc + 1) (fX7_readWeather_35 N) (nI i) wc' = if tK b n (k' + 1) = 61 then fX7_readWeather_2 N fc (fX7_readWeather_35 N) (nI (i + 1)) (setI (setI w1 37 d i (nI (tV b n k'))) 8 d 10 (nI (i + 1))) else some ((1 : Int32), setI (setI w1 37 d i (nI (tV b n k'))) 8 d 10 (nI (i + 1))) := by
        have q8 := JC_is j2 (c := 61) (by omega)
        by_cases t : tK b n (k' + 1) = 61
        · have q9 : (gI (setI (setI w1 37 d i (nI (tV b n k'))) 8 d 10 (nI (i + 1))) 14 0 8 = (-3 : Int32)) = True := q8.trans (eq_true t)
          rw [if_pos t]
          simp only [fX7_readWeather_2, ↓lt, ↓cbnd ec', ↓q3, ↓ed, ↓bnd s1, ↓ed2, ↓e1, ↓q9, ↓reduceIte, callW_eq]
        · have q9 : (gI (setI (setI w1 37 d i (nI (tV b n k'))) 8 d 10 (nI (i + 1))) 14 0 8 = (-3 : Int32)) = False := q8.trans (eq_false t)
          rw [if_neg t]
          simp only [fX7_readWeather_2, ↓lt, ↓cbnd ec', ↓q3, ↓ed, ↓bnd s1, ↓ed2, ↓e1, ↓q9, ↓reduceIte]
      obtain ⟨⟨x, w3⟩, em, ex, f3, j3, g3⟩ := m_num (N := N) (lo := 0) (hi := 9) hm hN (by omega) (by omega) z
      simp only at ex f3 j3 g3
      subst ex
      have em' : pX12_number N (0 : Int32) (9 : Int32) wm' = some ((1 : Int32), w3) := em
      have e3 : gI w3 16 0 23 = nI i := by rw [(f3 16 0 23 rfl).1, e23, h3]
      have s3 : stI w3 88 0 ((14 : Int32) + gI w3 16 0 23) 28 (gI w3 16 0 11) = some (setI w3 88 0 (14 + i) (nI (tV b n k'))) := by rw [e3, g3, show (14 : Int32) = nI 14 from rfl, nI_add]; exact stn (by omega) (by omega)
      have e4 : gI (setI w3 88 0 (14 + i) (nI (tV b n k'))) 16 0 23 + (1 : Int32) = nI (i + 1) := by rw [gg_I, if_neg (by omega), e3]; exact nI_add _ 1
      have f4 : Fr [88, 17023] w3 (setI (setI w3 88 0 (14 + i) (nI (tV b n k'))) 16 0 23 (nI (i + 1))) := Fr_setI (Fr_setI (Fr_refl _ _) rfl) rfl
      have j4 := JM_fr f4 j3
      have G4 : FM wm (setI (setI w3 88 0 (14 + i) (nI (tV b n k'))) 16 0 23 (nI (i + 1))) := FM_setI (FM_setI (FM_trans G (FM_nm f3)) rfl (by show 14 ≤ _; omega)) rfl (by show 0 ≤ _; omega)
      have D4 : DMo (setI (setI w3 88 0 (14 + i) (nI (tV b n k'))) 16 0 23 (nI (i + 1))) (app u' 3 (fun _ => tV b n k')) := by
        refine DMo_app (w := w3) f4 (DMo_fr f3 Dm) (by omega) (by decide) (by decide) ?_ ?_ ?_
        · exact KP_trans (KP_set (c := 3) (o := 14) (by decide) (by omega)) (KP_Fr okTm (l := [17023]) (Fr_setI (Fr_refl _ _) rfl) (by decide))
        · intro e he hc'
          have : e = (88, 13, 3, 14) := (by decide : ∀ e, e ∈ dTm → e.2.2.1 = 3 → e = (88, 13, 3, 14)) e he hc'
          subst this
          show gI _ 88 0 (14 + u' 0 3) = nI (tV b n k')
          rw [h3, gg_I, if_neg (by omega), gg_I, if_pos ⟨rfl, rfl, rfl⟩]
        · intro e he hc'
          have : e = (16, 23, 3) := (by decide : ∀ e, e ∈ dFm → e.2.2 = 3 → e = (16, 23, 3)) e he hc'
          subst this
          show gI _ 16 0 23 = nI (u' 0 3 + 1)
          rw [h3, gg_I, if_pos ⟨rfl, rfl, rfl⟩]
      have h28' : gI (setI (setI w3 88 0 (14 + i) (nI (tV b n k'))) 16 0 23 (nI (i + 1))) 16 0 28 = (1 : Int32) := by rw [(f4 16 0 28 rfl).1, (f3 16 0 28 rfl).1]; exact h28
      have Cm : fX12_weatherLine_28 N (fX12_weatherLine_14 N fm) wm' = if tK b n (k' + 1) = 61 then fX12_weatherLine_14 N fm (1 : Int32) (setI (setI w3 88 0 (14 + i) (nI (tV b n k'))) 16 0 23 (nI (i + 1))) else some ((1 : Int32), setI (setI w3 88 0 (14 + i) (nI (tV b n k'))) 16 0 23 (nI (i + 1))) := by
        have q8 := (JM_8 j4).2.2.2.1
        by_cases t : tK b n (k' + 1) = 61
        · have q9 : (gI (setI (setI w3 88 0 (14 + i) (nI (tV b n k'))) 16 0 23 (nI (i + 1))) 16 0 8 = (3 : Int32)) = True := eq_true (q8.mpr t)
          rw [if_pos t]
          simp only [fX12_weatherLine_28, ↓cbnd em', ↓n1_0, ↓bnd s3, ↓e4, ↓q9, ↓reduceIte]
        · have q9 : (gI (setI (setI w3 88 0 (14 + i) (nI (tV b n k'))) 16 0 23 (nI (i + 1))) 16 0 8 = (3 : Int32)) = False := eq_false (fun y => t (q8.mp y))
          obtain ⟨fm, rfl⟩ : ∃ z, fm = z + 1 := ⟨fm - 1, by omega⟩
          rw [if_neg t]
          simp only [fX12_weatherLine_28, ↓cbnd em', ↓n1_0, ↓bnd s3, ↓e4, ↓q9, ↓reduceIte, fX12_weatherLine_14, ↓n0_0]
      have W2 : WU (app u' 3 (fun _ => tV b n k')) := WU_app hU (by omega) ⟨by omega, by omega, by omega, by omega⟩ (fun r hg => by
        have := (grp_inv r).2.2.2.1 hg
        subst this
        show tV b n k' < bdR (u' 0 0) 13
        have : bdR (u' 0 0) 13 = 10 := rfl
        omega)
      rw [Cc, Cm]
      by_cases t : tK b n (k' + 1) = 61
      · rw [if_pos t, if_pos t]
        exact ih (i + 1) _ _ (app u' 3 (fun _ => tV b n k')) (k' + 1) fc fm (by omega) (by omega) (by omega) (by rw [app_c, h3]) j2 j4 D2 D4 h28' W2 F2 G4 (by omega) (fun _ => t)
      · rw [if_neg t, if_neg t]
        refine Or.inr ⟨k' + 1, app u' 3 (fun _ => tV b n k'), by omega, W2, ok_some ⟨rfl, F2, j2, D2⟩, ok_some ⟨rfl, G4, j4, DMo_D D4 ?_⟩⟩
        rw [h28', app_c, show decide (0 < u' 0 3 + 1) = true from decide_eq_true (by omega)]
        rfl
    · refine Or.inl ⟨nmF b n k' 0 9, tP b n k', ?_, ?_⟩
      · simp only [fX7_readWeather_2, ↓lt, ↓reduceIte, callW_eq]
        refine ok_bind (c_numF (lo := 0) (hi := 9) hc (by omega) (by omega) z) ?_
        rintro ⟨x, w1⟩ ⟨e, f1⟩
        simp only at e f1
        subst e
        simp only [↓m1_l0, ↓reduceIte]
        exact ok_some ⟨rfl, flC_B F f1⟩
      · simp only [fX12_weatherLine_28, callW_eq]
        refine ok_bind (m_numF (lo := 0) (hi := 9) hm (by omega) (by omega) z) ?_
        rintro ⟨x, w1⟩ ⟨e, f1⟩
        simp only at e f1
        subst e
        simp only [↓n0_0, ↓reduceIte]
        exact ok_some ⟨rfl, flM_B G f1⟩
theorem LnR_wrap {s f : Int32} {P : Wd → Option (Int32 × Wd)} {M : Option (Int32 × Wd)} (hs : s = (0 : Int32)) (hc : JC wc b n m d k) (hk : tK b n k ≠ 60) (hP : ∀ w1, Fr kAd wc w1 → JC w1 b n m d (k + 1) → LnR b n m d k wc wm (P w1) M) : LnR b n m d k wc wm (wrpC N s f P wc) M := by
  subst hs
  obtain ⟨⟨x, w1⟩, e, e1, f1, j1⟩ := c_pass (N := N) hc hk f
  simp only at e1 f1 j1
  subst e1
  have key : wrpC N (0 : Int32) f P wc = (P w1).bind fun r2 => if r2.1 = 0 then some ((0 : Int32), r2.2) else some ((1 : Int32), r2.2) := by
    unfold wrpC
    rw [callW_eq, e]
    simp only [Option.bind_some, ↓n1_0, ↓reduceIte, callW_eq]
  rw [key]
  rcases hP w1 f1 j1 with ⟨f', p, h1, h2⟩ | ⟨k', u', h1, h2, h3, h4⟩
  · refine Or.inl ⟨f', p, ok_bind h1 ?_, h2⟩
    rintro ⟨x, w2⟩ ⟨e, h⟩
    simp only at e h
    subst e
    exact ok_some ⟨rfl, h⟩
  · refine Or.inr ⟨k', u', h1, h2, ok_bind h3 ?_, h4⟩
    rintro ⟨x, w2⟩ ⟨e, h⟩
    simp only at e h
    subst e
    exact ok_some ⟨rfl, h⟩
theorem j_weather (hc : JC wc b n m d k) (hm : JM wm b n k) (hK : tK b n k = 9) (Dc : DC wc d u) (Dm : DM wm u) (hU : WU u) (hN : 1000 ≤ N) : LnR b n m d k wc wm (wrpC N (if 0 < u 0 3 then (1 : Int32) else (0 : Int32)) (3 : Int32) (pX7_readWeather N) wc) (pX12_weatherLine N wm) := by
  have e28 : gI wm 16 0 28 = zB (decide (0 < u 0 3)) := Dm.2.2.2.1.2.2.2
  have hk : tK b n k ≠ 60 := by omega
  by_cases y : 0 < u 0 3
  · rw [if_pos y]
    refine Or.inl ⟨3, tP b n k, wrp_F hc 3, ?_⟩
    have q : (gI wm 16 0 28 = 0) = False := eq_false (by rw [e28, decide_eq_true y]; decide)
    simp only [pX12_weatherLine, ↓q, ↓reduceIte]
    exact ok_mono (m_wrongZ hm 3) (fun x hx => ⟨hx.1, flM_B (FM_refl wm) hx.2⟩)
  · rw [if_neg y]
    have q : (gI wm 16 0 28 = 0) = True := eq_true (by rw [e28, decide_eq_false y]; rfl)
    have f1m : Fr [17028] wm (setI wm 16 0 28 (1 : Int32)) := Fr_setI (Fr_refl _ _) rfl
    have g1m : gI (setI wm 16 0 28 (1 : Int32)) 16 0 28 = (1 : Int32) := by rw [gg_I, if_pos ⟨rfl, rfl, rfl⟩]
    obtain ⟨w2, e2, f2, j2⟩ := m_adv (N := N) (JM_fr f1m hm) hN
    have key : pX12_weatherLine N wm = fX12_weatherLine_14 N N (1 : Int32) w2 := by
      simp only [pX12_weatherLine, ↓q, ↓cbnd e2, ↓reduceIte, callW_eq]
    rw [key]
    refine LnR_wrap rfl hc hk (fun w1 f1 j1 => ?_)
    have f12 : Fr [17028, 17007, 17008, 17009, 17010] wm w2 := Fr_trans (Fr_mono f1m rfl) (Fr_mono f2 rfl)
    unfold pX7_readWeather
    rw [callW_eq, li0]
    exact j_wloop hN 14 0 w1 w2 u (k + 1) N N (by omega) (by omega) (by omega) (by omega) j1 j2 (DC_fr f1 Dc) (DMo_fr f12 (DM_o Dm)) (by rw [(f2 16 0 28 rfl).1]; exact g1m) hU (FC_ad f1) (FM_of f12 rfl rfl) (by omega) (fun z => by omega)
end

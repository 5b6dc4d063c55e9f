/-! ===== lines: slide, party, near, seed ===== -/
theorem grp_inv (r : Nat) : (grp r = 0 → r = 1 ∨ r = 2) ∧ (grp r = 1 → (4 ≤ r ∧ r ≤ 8) ∨ r = 25) ∧ (grp r = 2 → 9 ≤ r ∧ r ≤ 12) ∧ (grp r = 3 → r = 13) ∧ (grp r = 6 → r = 14 ∨ r = 15) := by
  unfold grp
  by_cases h1 : r = 1 ∨ r = 2
  · rw [if_pos h1]; omega
  rw [if_neg h1]
  by_cases h2 : (4 ≤ r ∧ r ≤ 8) ∨ r = 25
  · rw [if_pos h2]; omega
  rw [if_neg h2]
  by_cases h3 : 9 ≤ r ∧ r ≤ 12
  · rw [if_pos h3]; omega
  rw [if_neg h3]
  by_cases h4 : r = 13
  · rw [if_pos h4]; omega
  rw [if_neg h4]
  by_cases h5 : r = 14 ∨ r = 15
  · rw [if_pos h5]; omega
  rw [if_neg h5]; omega
theorem m1_l0 : ((-1 : Int32) < 0) = True := eq_true (by decide)
section
variable {N : Nat} {w w' w0 w1 wc wm : Wd} {b : Nat → Nat} {n m d k i : Nat} {u u' : Vw}
theorem WU_app {c : Nat} {nw : Nat → Nat} (hU : WU u) (hc : c = 1 ∨ c = 2 ∨ c = 3 ∨ c = 6) (hb : (c = 1 → u 0 1 < 6) ∧ (c = 2 → u 0 2 < 8) ∧ (c = 3 → u 0 3 < 14) ∧ (c = 6 → u 0 6 < 4)) (hn : ∀ r, grp r = c → nw r < bdR (u 0 0) r) : WU (app u c nw) := by
  obtain ⟨⟨U0, U1, U2, U3, U4, U6, U7⟩, UB, US, UG, UL⟩ := hU
  have g26 : ∀ j, app u c nw 26 j = u 26 j := fun j => app_r (by omega) (by rw [show grp 26 = 99 from by decide]; omega)
  have g3 : ∀ j, app u c nw 3 j = u 3 j := fun j => app_r (by omega) (by rw [show grp 3 = 99 from by decide]; omega)
  have a0 : app u c nw 0 0 = u 0 0 := app_n (by omega)
  refine ⟨⟨?_, ?_, ?_, ?_, ?_, ?_, ?_⟩, BDu_app UB (by omega) hn, ⟨fun j => ?_, fun a e => ?_⟩, ⟨?_, ?_, ?_⟩, WLu_e (app_law (by omega)) UL⟩
  · rw [a0]; exact U0
  · by_cases z : 1 = c
    · subst z; rw [app_c]; exact hb.1 rfl
    · rw [app_n z]; exact U1
  · by_cases z : 2 = c
    · subst z; rw [app_c]; exact hb.2.1 rfl
    · rw [app_n z]; exact U2
  · by_cases z : 3 = c
    · subst z; rw [app_c]; exact hb.2.2.1 rfl
    · rw [app_n z]; exact U3
  · rw [app_n (by omega)]; exact U4
  · by_cases z : 6 = c
    · subst z; rw [app_c]; exact hb.2.2.2 rfl
    · rw [app_n z]; exact U6
  · rw [app_n (by omega)]; exact U7
  · rw [g3, a0]; exact US.1 j
  · rw [g3, g3]; exact US.2 a e
  · rw [g26]; exact UG.1
  · rw [g26]; exact UG.2.1
  · rw [g26]; exact UG.2.2
theorem DC_app {l : List Nat} {c : Nat} {nw : Nat → Nat} (f : Fr l w w') (D : DC w d u) (hc : c = 2 ∨ c = 3 ∨ c = 6) (hl : dis l [32, 49, 50, 51, 52, 53, 9016, 12002, 12003, 6002, 21] = true) (hl2 : dFc.all (fun e => e.2.2 == c || !l.contains (ky e.1 e.2.1)) = true)
    (hk : KP dTc d u w w') (hn : ∀ e, e ∈ dTc → e.2.2.1 = c → gI w' e.1 d (e.2.2.2 + u 0 c) = nI (nw e.2.1)) (hf : ∀ e, e ∈ dFc → e.2.2 = c → gI w' e.1 d e.2.1 = nI (u 0 c + 1)) : DC w' d (app u c nw) := by
  obtain ⟨h1, h2, h3, h4, ⟨h5, h6, h7⟩, h8⟩ := D
  have g26 : ∀ j, app u c nw 26 j = u 26 j := fun j => app_r (by omega) (by rw [show grp 26 = 99 from by decide]; omega)
  have g3 : ∀ j, app u c nw 3 j = u 3 j := fun j => app_r (by omega) (by rw [show grp 3 = 99 from by decide]; omega)
  have a0 : app u c nw 0 0 = u 0 0 := app_n (by omega)
  have a1 : app u c nw 0 1 = u 0 1 := app_n (by omega)
  refine ⟨DR_app okTc h1 hk hn, DF_app h2 (DF_oth f hl2) hf, fun j hj => ?_, fun j p1 p2 => ?_, ⟨?_, ?_, ?_⟩, LC_e (app_law (by omega)) (LC_fr f h8 (dis_sub hl (by decide)))⟩
  · rw [a0] at hj
    rw [g3, Fr_I f hl (by rfl)]; exact h3 j hj
  · rw [a1] at p1
    exact PDf_fr f h4 (dis_sub hl (by decide)) j p1 p2
  · rw [g26, Fr_I f hl (by decide)]; exact h5
  · rw [g26, Fr_I f hl (by decide)]; exact h6
  · rw [g26, Fr_I f hl (by decide)]; exact h7
theorem DM_app {l : List Nat} {c : Nat} {nw : Nat → Nat} (f : Fr l w w') (D : DM w u) (hc : c = 1 ∨ c = 2 ∨ c = 6) (hl : dis l [77, 17026, 17028, 17029, 17030, 91, 92, 93, 94, 95, 96] = true) (hl2 : dFm.all (fun e => e.2.2 == c || !l.contains (ky e.1 e.2.1)) = true)
    (hk : KP dTm 0 u w w') (hn : ∀ e, e ∈ dTm → e.2.2.1 = c → gI w' e.1 0 (e.2.2.2 + u 0 c) = nI (nw e.2.1)) (hf : ∀ e, e ∈ dFm → e.2.2 = c → gI w' e.1 0 e.2.1 = nI (u 0 c + 1)) : DM w' (app u c nw) := by
  obtain ⟨h1, h2, h3, ⟨h5, h6, h7, h8⟩, h9⟩ := D
  have g26 : ∀ j, app u c nw 26 j = u 26 j := fun j => app_r (by omega) (by rw [show grp 26 = 99 from by decide]; omega)
  have g3 : ∀ j, app u c nw 3 j = u 3 j := fun j => app_r (by omega) (by rw [show grp 3 = 99 from by decide]; omega)
  have a0 : app u c nw 0 0 = u 0 0 := app_n (by omega)
  have a3 : app u c nw 0 3 = u 0 3 := app_n (by omega)
  have a7 : app u c nw 0 7 = u 0 7 := app_n (by omega)
  refine ⟨DR_app okTm h1 hk hn, DF_app h2 (DF_oth f hl2) hf, fun j hj => ?_, ⟨?_, ?_, ?_, ?_⟩, LM_e (app_law (by omega)) (by rw [a7]; exact Nat.le_refl _) (LM_fr f h9 (dis_sub hl (by decide)))⟩
  · rw [a0] at hj
    rw [g3, Fr_I f hl (by rfl)]; exact h3 j hj
  · rw [g26, Fr_I f hl (by decide)]; exact h5
  · rw [g26, Fr_I f hl (by decide)]; exact h6
  · rw [g26, Fr_I f hl (by decide)]; exact h7
  · rw [a3, Fr_I f hl (by decide)]; exact h8
/-! slide -/
def nwS (x y : Nat) : Nat → Nat := fun r => if r = 14 then x else y
theorem c_addSlide (D : DC w d u) (h6 : u 0 6 < 4) (x y : Nat) : Ok (pX4_addSlide N d (nI x) (nI y) w) (fun w' => FC d w w' ∧ Fr [38, 39, 9012] w w' ∧ DC w' d (app u 6 (nwS x y))) := by
  have e12 : gI w 8 d 12 = nI (u 0 6) := D.2.1 (8, 12, 6) (by decide)
  have lt : (gI w 8 d 12 < (4 : Int32)) = True := eq_true (by rw [e12]; exact (nI_ltI (b := 4) (by omega) (by omega)).mpr h6)
  have s1 : stI w 38 d (gI w 8 d 12) 4 (nI x) = some (setI w 38 d (u 0 6) (nI x)) := by rw [e12]; exact stn h6 (by omega)
  have e2 : gI (setI w 38 d (u 0 6) (nI x)) 8 d 12 = nI (u 0 6) := by rw [gg_I, if_neg (by omega)]; exact e12
  have s2 : stI (setI w 38 d (u 0 6) (nI x)) 39 d (gI (setI w 38 d (u 0 6) (nI x)) 8 d 12) 4 (nI y) = some (setI (setI w 38 d (u 0 6) (nI x)) 39 d (u 0 6) (nI y)) := by rw [e2]; exact stn h6 (by omega)
  have e3 : gI (setI (setI w 38 d (u 0 6) (nI x)) 39 d (u 0 6) (nI y)) 8 d 12 + (1 : Int32) = nI (u 0 6 + 1) := by rw [gg_I, if_neg (by omega), e2]; exact nI_add _ 1
  simp only [pX4_addSlide, ↓lt, ↓bnd s1, ↓bnd s2, ↓e3, ↓reduceIte]
  have f : Fr [38, 39, 9012] w (setI (setI (setI w 38 d (u 0 6) (nI x)) 39 d (u 0 6) (nI y)) 8 d 12 (nI (u 0 6 + 1))) := Fr_setI (Fr_setI (Fr_setI (Fr_refl _ _) rfl) rfl) rfl
  refine ok_some ⟨FC_setI (FC_setI (FC_setI (FC_refl d w) rfl (Or.inr rfl)) rfl (Or.inr rfl)) rfl (Or.inr rfl), f, DC_app f D (by omega) (by decide) (by decide) ?_ ?_ ?_⟩
  · exact KP_trans (KP_set (c := 6) (o := 0) (by decide) (by omega)) (KP_trans (KP_set (c := 6) (o := 0) (by decide) (by omega)) (KP_Fr okTc (l := [9012]) (Fr_setI (Fr_refl _ _) rfl) (by decide)))
  · intro e he hc
    have : e = (38, 14, 6, 0) ∨ e = (39, 15, 6, 0) := (by decide : ∀ e, e ∈ dTc → e.2.2.1 = 6 → e = (38, 14, 6, 0) ∨ e = (39, 15, 6, 0)) e he hc
    rcases this with rfl | rfl
    · show gI _ 38 d (0 + u 0 6) = nI x
      rw [Nat.zero_add, gg_I, if_neg (by omega), gg_I, if_neg (by omega), gg_I, if_pos ⟨rfl, rfl, rfl⟩]
    · show gI _ 39 d (0 + u 0 6) = nI y
      rw [Nat.zero_add, gg_I, if_neg (by omega), gg_I, if_pos ⟨rfl, rfl, rfl⟩]
  · intro e he hc
    have : e = (8, 12, 6) := (by decide : ∀ e, e ∈ dFc → e.2.2 = 6 → e = (8, 12, 6)) e he hc
    subst this
    show gI _ 8 d 12 = nI (u 0 6 + 1)
    rw [gg_I, if_pos ⟨rfl, rfl, rfl⟩]
theorem nmF_rng {lo hi : Nat} (h : nmF b n k lo hi = 0) : lo ≤ tV b n k ∧ tV b n k ≤ hi ∧ tK b n k = 61 := by
  unfold nmF at h
  by_cases y : tK b n k = 61
  · rw [if_pos y] at h
    by_cases z : tV b n k < lo ∨ hi < tV b n k
    · rw [if_pos z] at h; omega
    · exact ⟨by omega, by omega, y⟩
  · rw [if_neg y] at h; omega
theorem j_slide (hc : JC wc b n m d k) (hm : JM wm b n k) (hK : tK b n k = 10) (Dc : DC wc d u) (Dm : DM wm u) (hU : WU u) (hN : 1000 ≤ N) : LnR b n m d k wc wm (wrpC N (if u 0 6 = 4 then (1 : Int32) else (0 : Int32)) (2 : Int32) (pX7_readSlide N) wc) (pX12_slideLine N wm) := by
  have hU' := hU
  obtain ⟨⟨U0, U1, U2, U3, U4, U6, U7⟩, UB, US, UG, UL⟩ := hU'
  have e24 : gI wm 16 0 24 = nI (u 0 6) := Dm.2.1 (16, 24, 6) (by decide)
  have hk : tK b n k ≠ 60 := by omega
  by_cases y : u 0 6 = 4
  · rw [if_pos y]
    refine Or.inl ⟨2, tP b n k, wrp_F hc 2, ?_⟩
    have q : (gI wm 16 0 24 = (4 : Int32)) = True := eq_true (by rw [e24, y]; rfl)
    simp only [pX12_slideLine, ↓q, ↓reduceIte]
    exact ok_mono (m_wrongZ hm 2) (fun x hx => ⟨hx.1, flM_B (FM_refl wm) hx.2⟩)
  · rw [if_neg y]
    have q : (gI wm 16 0 24 = (4 : Int32)) = False := eq_false (fun z => y (by rw [e24] at z; exact (nI_eq (b := 4) (by omega) (by omega)).mp z))
    by_cases z1 : ptF u b n (k + 1) = 0
    · have hp := (ptF_lt z1).1
      have q2 : (nI (ptN u b n (k + 1)) < 0) = False := eq_false (nz_ge0 (by omega))
      by_cases z2 : nmF b n (k + 1 + 1) 0 999 = 0
      · have hr := nmF_rng z2
        have q3 : (nI (tV b n (k + 1 + 1)) < 0) = False := eq_false (nz_ge0 (by omega))
        refine Or.inr ⟨k + 1 + 1 + 1, app u 6 (nwS (ptN u b n (k + 1)) (tV b n (k + 1 + 1))), by omega, ?_, wrp_1 hc hk (fun w1 f1 j1 => ?_), ?_⟩
        · refine WU_app hU (by omega) ⟨by omega, by omega, by omega, by omega⟩ (fun r hg => ?_)
          have := (grp_inv r).2.2.2.2 hg
          rcases this with rfl | rfl
          · show ptN u b n (k + 1) < bdR (u 0 0) 14
            exact hp
          · show tV b n (k + 1 + 1) < bdR (u 0 0) 15
            have : bdR (u 0 0) 15 = 1000 := rfl
            omega
        · simp only [pX7_readSlide, callW_eq]
          refine ok_bind (c_rtold j1 (by omega) (DC_nm (DC_fr f1 Dc)) U0 z1) ?_
          rintro ⟨x, w2⟩ ⟨e, f2, j2⟩
          simp only at e f2 j2
          subst e
          simp only [↓q2, ↓reduceIte]
          refine ok_bind (c_num (lo := 0) (hi := 999) j2 (by omega) (by omega) z2) ?_
          rintro ⟨x, w3⟩ ⟨e, f3, j3⟩
          simp only at e f3 j3
          subst e
          have f0 : Fr kAd wc w3 := Fr_trans f1 (Fr_trans f2 f3)
          have ed := j3.2.2.2.2
          simp only [fX7_readSlide_11, ↓q3, ↓ed, ↓reduceIte, callW_eq]
          refine ok_bind (c_addSlide (N := N) (DC_fr f0 Dc) (by omega) _ _) ?_
          rintro w4 ⟨g1, g2, g3⟩
          exact ok_some ⟨rfl, FC_trans (FC_ad f0) g1, JC_fr g2 j3, g3⟩
        · simp only [pX12_slideLine, ↓q, ↓reduceIte, callW_eq]
          refine ok_bind (m_adv hm hN) ?_
          rintro w2 ⟨f2, j2⟩
          refine ok_bind (m_part1 j2 hN (DM_nm (DM_fr f2 Dm)) U0 z1) ?_
          rintro ⟨x, w3⟩ ⟨e, f3, j3, g3⟩
          simp only at e f3 j3 g3
          subst e
          have f03 : Fr kNu wm w3 := Fr_trans (Fr_mono f2 rfl) f3
          have e3 : gI w3 16 0 24 = nI (u 0 6) := by rw [(f03 16 0 24 rfl).1]; exact e24
          have s4 : stI w3 89 0 ((12 : Int32) + gI w3 16 0 24) 24 (gI w3 16 0 11) = some (setI w3 89 0 (12 + u 0 6) (nI (ptN u b n (k + 1)))) := by rw [e3, g3, show (12 : Int32) = nI 12 from rfl, nI_add]; exact stn (by omega) (by omega)
          simp only [↓n1_0, ↓bnd s4, ↓reduceIte]
          have f4 : Fr [89] w3 (setI w3 89 0 (12 + u 0 6) (nI (ptN u b n (k + 1)))) := Fr_setI (Fr_refl _ _) rfl
          refine ok_bind (m_num (lo := 0) (hi := 999) (JM_fr f4 j3) hN (by omega) (by omega) z2) ?_
          rintro ⟨x, w5⟩ ⟨e, f5, j5, g5⟩
          simp only at e f5 j5 g5
          subst e
          have e5 : gI w5 16 0 24 = nI (u 0 6) := by rw [(f5 16 0 24 rfl).1, (f4 16 0 24 rfl).1]; exact e3
          have s6 : stI w5 90 0 ((12 : Int32) + gI w5 16 0 24) 24 (gI w5 16 0 11) = some (setI w5 90 0 (12 + u 0 6) (nI (tV b n (k + 1 + 1)))) := by rw [e5, g5, show (12 : Int32) = nI 12 from rfl, nI_add]; exact stn (by omega) (by omega)
          have e6 : gI (setI w5 90 0 (12 + u 0 6) (nI (tV b n (k + 1 + 1)))) 16 0 24 + (1 : Int32) = nI (u 0 6 + 1) := by rw [gg_I, if_neg (by omega), e5]; exact nI_add _ 1
          simp only [↓n1_0, ↓bnd s6, ↓e6, ↓reduceIte]
          have f6 : Fr [90, 17024] w5 (setI (setI w5 90 0 (12 + u 0 6) (nI (tV b n (k + 1 + 1)))) 16 0 24 (nI (u 0 6 + 1))) := Fr_setI (Fr_setI (Fr_refl _ _) rfl) rfl
          have F : Fr [17007, 17008, 17009, 17010, 17011, 89, 90, 17024] wm (setI (setI w5 90 0 (12 + u 0 6) (nI (tV b n (k + 1 + 1)))) 16 0 24 (nI (u 0 6 + 1))) := Fr_trans (Fr_mono f03 rfl) (Fr_trans (Fr_mono f4 rfl) (Fr_trans (Fr_mono f5 rfl) (Fr_mono f6 rfl)))
          refine ok_some ⟨rfl, ?_, JM_fr f6 j5, DM_app F Dm (by omega) (by decide) (by decide) ?_ ?_ ?_⟩
          · exact FM_setI (FM_setI (FM_trans (FM_setI (FM_nm f03) rfl (by show 12 ≤ _; omega)) (FM_nm f5)) rfl (by show 12 ≤ _; omega)) rfl (by show 0 ≤ _; omega)
          · exact KP_trans (KP_Fr okTm f03 (by decide)) (KP_trans (KP_set (c := 6) (o := 12) (by decide) (Nat.le_refl _)) (KP_trans (KP_Fr okTm f5 (by decide)) (KP_trans (KP_set (c := 6) (o := 12) (by decide) (Nat.le_refl _)) (KP_Fr okTm (l := [17024]) (Fr_setI (Fr_refl _ _) rfl) (by decide)))))
          · intro e he hc
            have : e = (89, 14, 6, 12) ∨ e = (90, 15, 6, 12) := (by decide : ∀ e, e ∈ dTm → e.2.2.1 = 6 → e = (89, 14, 6, 12) ∨ e = (90, 15, 6, 12)) e he hc
            rcases this with rfl | rfl
            · show gI _ 89 0 (12 + u 0 6) = nI (ptN u b n (k + 1))
              rw [(f6 89 0 _ rfl).1, (f5 89 0 _ rfl).1, gg_I, if_pos ⟨rfl, rfl, rfl⟩]
            · show gI _ 90 0 (12 + u 0 6) = nI (tV b n (k + 1 + 1))
              rw [gg_I, if_neg (by omega), gg_I, if_pos ⟨rfl, rfl, rfl⟩]
          · intro e he hc
            have : e = (16, 24, 6) := (by decide : ∀ e, e ∈ dFm → e.2.2 = 6 → e = (16, 24, 6)) e he hc
            subst this
            show gI _ 16 0 24 = nI (u 0 6 + 1)
            rw [gg_I, if_pos ⟨rfl, rfl, rfl⟩]
      · refine Or.inl ⟨nmF b n (k + 1 + 1) 0 999, tP b n (k + 1 + 1), wrp_0 hc hk (fun w1 f1 j1 => ?_), ?_⟩
        · simp only [pX7_readSlide, callW_eq]
          refine ok_bind (c_rtold j1 (by omega) (DC_nm (DC_fr f1 Dc)) U0 z1) ?_
          rintro ⟨x, w2⟩ ⟨e, f2, j2⟩
          simp only at e f2 j2
          subst e
          simp only [↓q2, ↓reduceIte]
          refine ok_bind (c_numF (lo := 0) (hi := 999) j2 (by omega) (by omega) z2) ?_
          rintro ⟨x, w3⟩ ⟨e, f3⟩
          simp only at e f3
          subst e
          simp only [fX7_readSlide_11, ↓m1_l0, ↓reduceIte]
          exact ok_some ⟨rfl, flC_B (FC_trans (FC_ad f1) (FC_ad f2)) f3⟩
        · simp only [pX12_slideLine, ↓q, ↓reduceIte, callW_eq]
          refine ok_bind (m_adv hm hN) ?_
          rintro w2 ⟨f2, j2⟩
          refine ok_bind (m_part1 j2 hN (DM_nm (DM_fr f2 Dm)) U0 z1) ?_
          rintro ⟨x, w3⟩ ⟨e, f3, j3, g3⟩
          simp only at e f3 j3 g3
          subst e
          have f03 : Fr kNu wm w3 := Fr_trans (Fr_mono f2 rfl) f3
          have e3 : gI w3 16 0 24 = nI (u 0 6) := by rw [(f03 16 0 24 rfl).1]; exact e24
          have s4 : stI w3 89 0 ((12 : Int32) + gI w3 16 0 24) 24 (gI w3 16 0 11) = some (setI w3 89 0 (12 + u 0 6) (nI (ptN u b n (k + 1)))) := by rw [e3, g3, show (12 : Int32) = nI 12 from rfl, nI_add]; exact stn (by omega) (by omega)
          simp only [↓n1_0, ↓bnd s4, ↓reduceIte]
          have f4 : Fr [89] w3 (setI w3 89 0 (12 + u 0 6) (nI (ptN u b n (k + 1)))) := Fr_setI (Fr_refl _ _) rfl
          refine ok_bind (m_numF (lo := 0) (hi := 999) (JM_fr f4 j3) (by omega) (by omega) z2) ?_
          rintro ⟨x, w5⟩ ⟨e, f5⟩
          simp only at e f5
          subst e
          simp only [↓n0_0, ↓reduceIte]
          exact ok_some ⟨rfl, flM_B (FM_setI (FM_nm f03) rfl (by show 12 ≤ _; omega)) f5⟩
    · refine Or.inl ⟨ptF u b n (k + 1), tP b n (k + 1), wrp_0 hc hk (fun w1 f1 j1 => ?_), ?_⟩
      · simp only [pX7_readSlide, callW_eq]
        refine ok_bind (c_rtoldF j1 (by omega) (DC_nm (DC_fr f1 Dc)) U0 z1) ?_
        rintro ⟨x, w2⟩ ⟨e, f2⟩
        simp only at e f2
        subst e
        simp only [fX7_readSlide_11, ↓m1_l0, ↓reduceIte]
        exact ok_some ⟨rfl, flC_B (FC_ad f1) f2⟩
      · simp only [pX12_slideLine, ↓q, ↓reduceIte, callW_eq]
        refine ok_bind (m_adv hm hN) ?_
        rintro w2 ⟨f2, j2⟩
        refine ok_bind (m_part1F j2 (by omega) (DM_nm (DM_fr f2 Dm)) U0 z1) ?_
        rintro ⟨x, w3⟩ ⟨e, f3⟩
        simp only at e f3
        subst e
        simp only [↓n0_0, ↓reduceIte]
        exact ok_some ⟨rfl, flN_B (FM_tk f2) f3⟩
end

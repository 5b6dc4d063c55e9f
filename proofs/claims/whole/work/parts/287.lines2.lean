/-! ===== lines: near, seed, party ===== -/
theorem grp_n (r : Nat) : grp r ≠ 4 ∧ grp r ≠ 5 ∧ grp r ≠ 7 := by
  unfold grp
  split
  · omega
  split
  · omega
  split
  · omega
  split
  · omega
  split
  · omega
  omega
section
variable {N : Nat} {w w' w0 w1 wc wm : Wd} {b : Nat → Nat} {n m d k i : Nat} {u u' : Vw} {T : List (Nat × Nat × Nat × Nat)}
theorem DR_e (hT : okT T = true) (h : DR w T i u) (hu : ∀ r j, r ≠ 0 → r ≠ 26 → u' r j = u r j) (h0 : ∀ j, j ≠ 4 → u' 0 j = u 0 j) : DR w T i u' := fun e he j hj => by
  obtain ⟨g1, g2, g3, g4⟩ := okT_of hT he
  have g5 := grp_n e.2.1
  rw [h0 _ (by omega)] at hj
  rw [hu _ _ (by omega) (fun z => by rw [z] at g1; have : grp 26 = 99 := by decide
                                     omega)]
  exact h e he j hj
theorem DC_up {l : List Nat} (f : Fr l w w') (D : DC w d u) (hu : ∀ r j, r ≠ 0 → r ≠ 26 → u' r j = u r j) (h0 : ∀ j, j ≠ 4 → u' 0 j = u 0 j) (hl : dis l [30, 31, 48, 49, 50, 51, 52, 53, 33, 34, 35, 36, 37, 38, 39, 9000, 11000, 9005, 9010, 9012, 9017, 32, 6002, 21] = true)
    (e4 : gI w' 8 d 15 = nI (u' 0 4)) (e5 : gI w' 8 d 16 = nI (u' 26 0)) (e6 : gI w' 11 0 2 = nI (u' 26 1)) (e7 : gI w' 11 0 3 = nI (u' 26 2)) : DC w' d u' := by
  obtain ⟨h1, h2, h3, h4, h5, h8⟩ := D
  refine ⟨DR_e okTc (DR_fr okTc f h1 (dis_sub hl (by decide))) hu h0, fun e he => ?_, fun j hj => ?_, fun j p1 p2 => ?_, ⟨e5, e6, e7⟩, LC_e (fun r j a c => hu r j (by omega) (by omega)) (LC_fr f h8 (dis_sub hl (by decide)))⟩
  · by_cases z : e.2.2 = 4
    · have : e = (8, 15, 4) := (by decide : ∀ e, e ∈ dFc → e.2.2 = 4 → e = (8, 15, 4)) e he z
      subst this
      exact e4
    · rw [h0 _ z, (f e.1 d e.2.1 (dis_of hl ((by decide : ∀ e, e ∈ dFc → e.2.2 ≠ 4 → [30, 31, 48, 49, 50, 51, 52, 53, 33, 34, 35, 36, 37, 38, 39, 9000, 11000, 9005, 9010, 9012, 9017, 32, 6002, 21].contains (ky e.1 e.2.1) = true) e he z))).1]
      exact h2 e he
  · rw [h0 0 (by omega)] at hj
    rw [hu 3 j (by omega) (by omega), Fr_I f hl (by rfl)]; exact h3 j hj
  · rw [h0 1 (by omega)] at p1
    exact PDf_fr f h4 (dis_sub hl (by decide)) j p1 p2
theorem DM_up {l : List Nat} (f : Fr l w w') (D : DM w u) (hu : ∀ r j, r ≠ 0 → r ≠ 26 → u' r j = u r j) (h0 : ∀ j, j ≠ 4 → u' 0 j = u 0 j) (hl : dis l [75, 76, 78, 79, 80, 81, 82, 83, 84, 85, 86, 87, 88, 89, 90, 17020, 17021, 17022, 17023, 17024, 17027, 17058, 77, 17028, 91, 92, 93, 94, 95, 96] = true)
    (e4 : gI w' 16 0 25 = nI (u' 0 4)) (e5 : gI w' 16 0 26 = nI (u' 26 0)) (e6 : gI w' 16 0 29 = nI (u' 26 1)) (e7 : gI w' 16 0 30 = nI (u' 26 2)) : DM w' u' := by
  obtain ⟨h1, h2, h3, ⟨_, _, _, h8⟩, h9⟩ := D
  refine ⟨DR_e okTm (DR_fr okTm f h1 (dis_sub hl (by decide))) hu h0, fun e he => ?_, fun j hj => ?_, ⟨e5, e6, e7, ?_⟩, LM_e (fun r j a c => hu r j (by omega) (by omega)) (by rw [h0 7 (by omega)]; exact Nat.le_refl _) (LM_fr f h9 (dis_sub hl (by decide)))⟩
  · by_cases z : e.2.2 = 4
    · have : e = (16, 25, 4) := (by decide : ∀ e, e ∈ dFm → e.2.2 = 4 → e = (16, 25, 4)) e he z
      subst this
      exact e4
    · rw [h0 _ z, (f e.1 0 e.2.1 (dis_of hl ((by decide : ∀ e, e ∈ dFm → e.2.2 ≠ 4 → [75, 76, 78, 79, 80, 81, 82, 83, 84, 85, 86, 87, 88, 89, 90, 17020, 17021, 17022, 17023, 17024, 17027, 17058, 77, 17028, 91, 92, 93, 94, 95, 96].contains (ky e.1 e.2.1) = true) e he z))).1]
      exact h2 e he
  · rw [h0 0 (by omega)] at hj
    rw [hu 3 j (by omega) (by omega), Fr_I f hl (by rfl)]; exact h3 j hj
  · rw [h0 3 (by omega), Fr_I f hl (by decide)]; exact h8
theorem WU_up (hU : WU u) (hu : ∀ r j, r ≠ 0 → r ≠ 26 → u' r j = u r j) (h0 : ∀ j, j ≠ 4 → u' 0 j = u 0 j) (h4 : u' 0 4 ≤ 8) (h26 : u' 26 0 ≤ 99999 ∧ u' 26 1 ≤ 1 ∧ u' 26 2 ≤ 1) : WU u' := by
  obtain ⟨⟨U0, U1, U2, U3, U4, U6, U7⟩, UB, US, UG, UL⟩ := hU
  refine ⟨⟨by rw [h0 0 (by omega)]; exact U0, by rw [h0 1 (by omega)]; exact U1, by rw [h0 2 (by omega)]; exact U2, by rw [h0 3 (by omega)]; exact U3, h4, by rw [h0 6 (by omega)]; exact U6, by rw [h0 7 (by omega)]; exact U7⟩, fun r j hg hj => ?_, ⟨fun j => ?_, fun a e => ?_⟩, h26, WLu_e (fun r j a c => hu r j (by omega) (by omega)) UL⟩
  · have g5 := grp_n r
    rw [h0 _ (by omega)] at hj
    rw [h0 0 (by omega), hu r j (grp_0 hg) (fun z => by rw [z] at hg; exact absurd hg (by decide))]
    exact UB r j hg hj
  · rw [hu 3 j (by omega) (by omega), h0 0 (by omega)]; exact US.1 j
  · rw [hu 3 a (by omega) (by omega), hu 3 e (by omega) (by omega)]; exact US.2 a e

/-! near -/
noncomputable def nearM (N : Nat) (w : Wd) : Option (Int32 × Wd) :=
  if gI w 16 0 29 = 0 then
    (callW (pX12_token N) (setI w 16 0 29 (1 : Int32))).bind fun w7 =>
    (callW (pX12_number N (0 : Int32) (8 : Int32)) w7).bind fun r8 =>
    some (r8.1, setI r8.2 16 0 25 (gI r8.2 16 0 11))
  else
  (callW (pX12_wrong N (3 : Int32)) w).bind fun r9 =>
  retZ r9.1 r9.2
def nearU (u : Vw) (x : Nat) : Vw := up2 (up2 u 0 4 x) 26 1 1
theorem j_near (hc : JC wc b n m d k) (hm : JM wm b n k) (hK : tK b n k = 11) (Dc : DC wc d u) (Dm : DM wm u) (hU : WU u) (hN : 1000 ≤ N) : LnR b n m d k wc wm (wrpC N (gI wc 11 0 2) (3 : Int32) (pX7_readNear N) wc) (nearM N wm) := by
  have hU' := hU
  obtain ⟨⟨U0, U1, U2, U3, U4, U6, U7⟩, UB, US, UG, UL⟩ := hU'
  have ec : gI wc 11 0 2 = nI (u 26 1) := Dc.2.2.2.2.1.2.1
  have em : gI wm 16 0 29 = nI (u 26 1) := Dm.2.2.2.1.2.1
  have hk : tK b n k ≠ 60 := by omega
  by_cases y : u 26 1 = 1
  · rw [ec, y]
    refine Or.inl ⟨3, tP b n k, wrp_F hc 3, ?_⟩
    have q : (gI wm 16 0 29 = 0) = False := eq_false (by rw [em, y]; decide)
    simp only [nearM, ↓q, ↓reduceIte]
    exact ok_mono (m_wrongZ hm 3) (fun x hx => ⟨hx.1, flM_B (FM_refl wm) hx.2⟩)
  · have y0 : u 26 1 = 0 := by omega
    rw [ec, y0]
    have q : (gI wm 16 0 29 = 0) = True := eq_true (by rw [em, y0]; rfl)
    have f1m : Fr [17029] wm (setI wm 16 0 29 (1 : Int32)) := Fr_setI (Fr_refl _ _) rfl
    by_cases z : nmF b n (k + 1) 0 8 = 0
    · have hr := nmF_rng z
      have q3 : (nI (tV b n (k + 1)) < 0) = False := eq_false (nz_ge0 (by omega))
      have hu : ∀ r j, r ≠ 0 → r ≠ 26 → nearU u (tV b n (k + 1)) r j = u r j := fun r j a c => by
        unfold nearU
        rw [up2_ne c, up2_ne (by omega)]
      have h0 : ∀ j, j ≠ 4 → nearU u (tV b n (k + 1)) 0 j = u 0 j := fun j a => by
        unfold nearU
        rw [up2_ne (by omega), up2_nj a]
      have v4 : nearU u (tV b n (k + 1)) 0 4 = tV b n (k + 1) := by
        unfold nearU
        rw [up2_ne (by omega), up2_eq]
      have v0 : nearU u (tV b n (k + 1)) 26 0 = u 26 0 := by
        unfold nearU
        rw [up2_nj (by omega), up2_ne (by omega)]
      have va : nearU u (tV b n (k + 1)) 26 1 = 1 := by
        unfold nearU
        rw [up2_eq]
      have vb : nearU u (tV b n (k + 1)) 26 2 = u 26 2 := by
        unfold nearU
        rw [up2_nj (by omega), up2_ne (by omega)]
      refine Or.inr ⟨k + 1 + 1, nearU u (tV b n (k + 1)), by omega, WU_up hU hu h0 (by rw [v4]; omega) ⟨by rw [v0]; omega, by rw [va]; omega, by rw [vb]; omega⟩, wrp_1 hc hk (fun w1 f1 j1 => ?_), ?_⟩
      · have fa : Fr [12002] w1 (setI w1 11 0 2 (1 : Int32)) := Fr_setI (Fr_refl _ _) rfl
        have ja := JC_fr fa j1
        have ga : gI (setI w1 11 0 2 (1 : Int32)) 11 0 2 = nI 1 := by rw [gg_I, if_pos ⟨rfl, rfl, rfl⟩]; rfl
        have na : gR (setI w1 11 0 2 (1 : Int32)) 11 0 1 = d := ja.2.2.2.2
        simp only [pX7_readNear, ↓na, callW_eq]
        generalize setI w1 11 0 2 (1 : Int32) = w2 at fa ja ga na
        refine ok_bind (c_num (lo := 0) (hi := 8) ja (by omega) (by omega) z) ?_
        rintro ⟨x, w3⟩ ⟨e, f3, j3⟩
        simp only at e f3 j3
        subst e
        have fb : Fr [9015] w3 (setI w3 8 d 15 (nI (tV b n (k + 1)))) := Fr_setI (Fr_refl _ _) rfl
        have jb := JC_fr fb j3
        have nb : gR (setI w3 8 d 15 (nI (tV b n (k + 1)))) 11 0 1 = d := jb.2.2.2.2
        have gb : gI (setI w3 8 d 15 (nI (tV b n (k + 1)))) 8 d 15 = nI (tV b n (k + 1)) := by rw [gg_I, if_pos ⟨rfl, rfl, rfl⟩]
        simp only [↓nb, ↓gb, ↓q3, ↓reduceIte]
        have F : Fr [15005, 15008, 15009, 15010, 12002, 9015] wc (setI w3 8 d 15 (nI (tV b n (k + 1)))) := Fr_trans (Fr_mono f1 rfl) (Fr_trans (Fr_mono fa rfl) (Fr_trans (Fr_mono f3 rfl) (Fr_mono fb rfl)))
        refine ok_some ⟨rfl, FC_setI (FC_trans (FC_ad f1) (FC_trans (FC_of fa rfl rfl) (FC_ad f3))) rfl (Or.inr rfl), jb, DC_up F Dc hu h0 (by decide) ?_ ?_ ?_ ?_⟩
        · rw [gb, v4]
        · rw [v0, (F 8 d 16 rfl).1]; exact Dc.2.2.2.2.1.1
        · rw [va, (fb 11 0 2 rfl).1, (f3 11 0 2 rfl).1]; exact ga
        · rw [vb, (F 11 0 3 rfl).1]; exact Dc.2.2.2.2.1.2.2
      · have ga : gI (setI wm 16 0 29 (1 : Int32)) 16 0 29 = nI 1 := by rw [gg_I, if_pos ⟨rfl, rfl, rfl⟩]; rfl
        simp only [nearM, ↓q, ↓reduceIte, callW_eq]
        generalize setI wm 16 0 29 (1 : Int32) = w2 at f1m ga
        refine ok_bind (m_adv (JM_fr f1m hm) hN) ?_
        rintro w3 ⟨f3, j3⟩
        refine ok_bind (m_num (lo := 0) (hi := 8) j3 hN (by omega) (by omega) z) ?_
        rintro ⟨x, w4⟩ ⟨e, f4, j4, g4⟩
        simp only at e f4 j4 g4
        subst e
        have fb : Fr [17025] w4 (setI w4 16 0 25 (gI w4 16 0 11)) := Fr_setI (Fr_refl _ _) rfl
        have F : Fr [17007, 17008, 17009, 17010, 17011, 17029, 17025] wm (setI w4 16 0 25 (gI w4 16 0 11)) := Fr_trans (Fr_mono f1m rfl) (Fr_trans (Fr_mono f3 rfl) (Fr_trans (Fr_mono f4 rfl) (Fr_mono fb rfl)))
        have gb : gI (setI w4 16 0 25 (gI w4 16 0 11)) 16 0 25 = nI (tV b n (k + 1)) := by rw [gg_I, if_pos ⟨rfl, rfl, rfl⟩]; exact g4
        refine ok_some ⟨rfl, FM_of F rfl rfl, JM_fr fb j4, DM_up F Dm hu h0 (by decide) ?_ ?_ ?_ ?_⟩
        · rw [gb, v4]
        · rw [v0, (F 16 0 26 rfl).1]; exact Dm.2.2.2.1.1
        · rw [va, (fb 16 0 29 rfl).1, (f4 16 0 29 rfl).1, (f3 16 0 29 rfl).1]; exact ga
        · rw [vb, (F 16 0 30 rfl).1]; exact Dm.2.2.2.1.2.2.1
    · refine Or.inl ⟨nmF b n (k + 1) 0 8, tP b n (k + 1), wrp_0 hc hk (fun w1 f1 j1 => ?_), ?_⟩
      · have fa : Fr [12002] w1 (setI w1 11 0 2 (1 : Int32)) := Fr_setI (Fr_refl _ _) rfl
        have ja := JC_fr fa j1
        have na : gR (setI w1 11 0 2 (1 : Int32)) 11 0 1 = d := ja.2.2.2.2
        simp only [pX7_readNear, ↓na, callW_eq]
        generalize setI w1 11 0 2 (1 : Int32) = w2 at fa ja na
        refine ok_bind (c_numF (lo := 0) (hi := 8) ja (by omega) (by omega) z) ?_
        rintro ⟨x, w3⟩ ⟨e, f3⟩
        simp only at e f3
        subst e
        have nb : gR (setI w3 8 d 15 (-1 : Int32)) 11 0 1 = d := by rw [gg_RI, (f3.1 11 0 1 rfl).2.2]; exact na
        have gb : gI (setI w3 8 d 15 (-1 : Int32)) 8 d 15 = (-1 : Int32) := by rw [gg_I, if_pos ⟨rfl, rfl, rfl⟩]
        simp only [↓nb, ↓gb, ↓m1_l0, ↓reduceIte]
        have B := flC_B (d := d) (FC_trans (FC_ad f1) (FC_of fa rfl rfl)) f3
        exact ok_some ⟨rfl, FC_setI B.1 rfl (Or.inr rfl), by rw [gg_I, if_neg (by omega)]; exact B.2.1, by rw [gg_I, if_neg (by omega)]; exact B.2.2⟩
      · simp only [nearM, ↓q, ↓reduceIte, callW_eq]
        generalize setI wm 16 0 29 (1 : Int32) = w2 at f1m
        refine ok_bind (m_adv (JM_fr f1m hm) hN) ?_
        rintro w3 ⟨f3, j3⟩
        refine ok_bind (m_numF (lo := 0) (hi := 8) j3 (by omega) (by omega) z) ?_
        rintro ⟨x, w4⟩ ⟨e, f4⟩
        simp only at e f4
        subst e
        have B := flM_B (FM_trans (FM_of f1m rfl rfl) (FM_tk f3)) f4
        exact ok_some ⟨rfl, FM_setI B.1 rfl (by show 0 ≤ _; omega), by rw [gg_I, if_neg (by omega)]; exact B.2.1, by rw [gg_I, if_neg (by omega)]; exact B.2.2⟩
/-! seed -/
noncomputable def seedM (N : Nat) (w : Wd) : Option (Int32 × Wd) :=
  if gI w 16 0 30 = 0 then
    (callW (pX12_token N) (setI w 16 0 30 (1 : Int32))).bind fun w7 =>
    (callW (pX12_number N (0 : Int32) (99999 : Int32)) w7).bind fun r8 =>
    some (r8.1, setI r8.2 16 0 26 (gI r8.2 16 0 11))
  else
  (callW (pX12_wrong N (3 : Int32)) w).bind fun r9 =>
  retZ r9.1 r9.2
def seedU (u : Vw) (x : Nat) : Vw := up2 (up2 u 26 0 x) 26 2 1
theorem j_seed (hc : JC wc b n m d k) (hm : JM wm b n k) (hK : tK b n k = 12) (Dc : DC wc d u) (Dm : DM wm u) (hU : WU u) (hN : 1000 ≤ N) : LnR b n m d k wc wm (wrpC N (gI wc 11 0 3) (3 : Int32) (pX7_readSeed N) wc) (seedM N wm) := by
  have hU' := hU
  obtain ⟨⟨U0, U1, U2, U3, U4, U6, U7⟩, UB, US, UG, UL⟩ := hU'
  have ec : gI wc 11 0 3 = nI (u 26 2) := Dc.2.2.2.2.1.2.2
  have em : gI wm 16 0 30 = nI (u 26 2) := Dm.2.2.2.1.2.2.1
  have hk : tK b n k ≠ 60 := by omega
  by_cases y : u 26 2 = 1
  · rw [ec, y]
    refine Or.inl ⟨3, tP b n k, wrp_F hc 3, ?_⟩
    have q : (gI wm 16 0 30 = 0) = False := eq_false (by rw [em, y]; decide)
    simp only [seedM, ↓q, ↓reduceIte]
    exact ok_mono (m_wrongZ hm 3) (fun x hx => ⟨hx.1, flM_B (FM_refl wm) hx.2⟩)
  · have y0 : u 26 2 = 0 := by omega
    rw [ec, y0]
    have q : (gI wm 16 0 30 = 0) = True := eq_true (by rw [em, y0]; rfl)
    have f1m : Fr [17030] wm (setI wm 16 0 30 (1 : Int32)) := Fr_setI (Fr_refl _ _) rfl
    by_cases z : nmF b n (k + 1) 0 99999 = 0
    · have hr := nmF_rng z
      have q3 : (nI (tV b n (k + 1)) < 0) = False := eq_false (nz_ge0 (by omega))
      have hu : ∀ r j, r ≠ 0 → r ≠ 26 → seedU u (tV b n (k + 1)) r j = u r j := fun r j a c => by
        unfold seedU
        rw [up2_ne c, up2_ne (by omega)]
      have h0 : ∀ j, j ≠ 4 → seedU u (tV b n (k + 1)) 0 j = u 0 j := fun j a => by
        unfold seedU
        rw [up2_ne (by omega), up2_ne (by omega)]
      have v4 : seedU u (tV b n (k + 1)) 0 4 = u 0 4 := by
        unfold seedU
        rw [up2_ne (by omega), up2_ne (by omega)]
      have v0 : seedU u (tV b n (k + 1)) 26 0 = tV b n (k + 1) := by
        unfold seedU
        rw [up2_nj (by omega), up2_eq]
      have va : seedU u (tV b n (k + 1)) 26 2 = 1 := by
        unfold seedU
        rw [up2_eq]
      have vb : seedU u (tV b n (k + 1)) 26 1 = u 26 1 := by
        unfold seedU
        rw [up2_nj (by omega), up2_nj (by omega)]
      refine Or.inr ⟨k + 1 + 1, seedU u (tV b n (k + 1)), by omega, WU_up hU hu h0 (by rw [v4]; omega) ⟨by rw [v0]; omega, by rw [vb]; omega, by rw [va]; omega⟩, wrp_1 hc hk (fun w1 f1 j1 => ?_), ?_⟩
      · have fa : Fr [12003] w1 (setI w1 11 0 3 (1 : Int32)) := Fr_setI (Fr_refl _ _) rfl
        have ja := JC_fr fa j1
        have ga : gI (setI w1 11 0 3 (1 : Int32)) 11 0 3 = nI 1 := by rw [gg_I, if_pos ⟨rfl, rfl, rfl⟩]; rfl
        have na : gR (setI w1 11 0 3 (1 : Int32)) 11 0 1 = d := ja.2.2.2.2
        simp only [pX7_readSeed, ↓na, callW_eq]
        generalize setI w1 11 0 3 (1 : Int32) = w2 at fa ja ga na
        refine ok_bind (c_num (lo := 0) (hi := 99999) ja (by omega) (by omega) z) ?_
        rintro ⟨x, w3⟩ ⟨e, f3, j3⟩
        simp only at e f3 j3
        subst e
        have fb : Fr [9016] w3 (setI w3 8 d 16 (nI (tV b n (k + 1)))) := Fr_setI (Fr_refl _ _) rfl
        have jb := JC_fr fb j3
        have nb : gR (setI w3 8 d 16 (nI (tV b n (k + 1)))) 11 0 1 = d := jb.2.2.2.2
        have gb : gI (setI w3 8 d 16 (nI (tV b n (k + 1)))) 8 d 16 = nI (tV b n (k + 1)) := by rw [gg_I, if_pos ⟨rfl, rfl, rfl⟩]
        simp only [↓nb, ↓gb, ↓q3, ↓reduceIte]
        have F : Fr [15005, 15008, 15009, 15010, 12003, 9016] wc (setI w3 8 d 16 (nI (tV b n (k + 1)))) := Fr_trans (Fr_mono f1 rfl) (Fr_trans (Fr_mono fa rfl) (Fr_trans (Fr_mono f3 rfl) (Fr_mono fb rfl)))
        refine ok_some ⟨rfl, FC_setI (FC_trans (FC_ad f1) (FC_trans (FC_of fa rfl rfl) (FC_ad f3))) rfl (Or.inr rfl), jb, DC_up F Dc hu h0 (by decide) ?_ ?_ ?_ ?_⟩
        · rw [v4, (F 8 d 15 rfl).1]; exact Dc.2.1 (8, 15, 4) (by decide)
        · rw [gb, v0]
        · rw [vb, (F 11 0 2 rfl).1]; exact Dc.2.2.2.2.1.2.1
        · rw [va, (fb 11 0 3 rfl).1, (f3 11 0 3 rfl).1]; exact ga
      · have ga : gI (setI wm 16 0 30 (1 : Int32)) 16 0 30 = nI 1 := by rw [gg_I, if_pos ⟨rfl, rfl, rfl⟩]; rfl
        simp only [seedM, ↓q, ↓reduceIte, callW_eq]
        generalize setI wm 16 0 30 (1 : Int32) = w2 at f1m ga
        refine ok_bind (m_adv (JM_fr f1m hm) hN) ?_
        rintro w3 ⟨f3, j3⟩
        refine ok_bind (m_num (lo := 0) (hi := 99999) j3 hN (by omega) (by omega) z) ?_
        rintro ⟨x, w4⟩ ⟨e, f4, j4, g4⟩
        simp only at e f4 j4 g4
        subst e
        have fb : Fr [17026] w4 (setI w4 16 0 26 (gI w4 16 0 11)) := Fr_setI (Fr_refl _ _) rfl
        have F : Fr [17007, 17008, 17009, 17010, 17011, 17030, 17026] wm (setI w4 16 0 26 (gI w4 16 0 11)) := Fr_trans (Fr_mono f1m rfl) (Fr_trans (Fr_mono f3 rfl) (Fr_trans (Fr_mono f4 rfl) (Fr_mono fb rfl)))
        have gb : gI (setI w4 16 0 26 (gI w4 16 0 11)) 16 0 26 = nI (tV b n (k + 1)) := by rw [gg_I, if_pos ⟨rfl, rfl, rfl⟩]; exact g4
        refine ok_some ⟨rfl, FM_of F rfl rfl, JM_fr fb j4, DM_up F Dm hu h0 (by decide) ?_ ?_ ?_ ?_⟩
        · rw [v4, (F 16 0 25 rfl).1]; exact Dm.2.1 (16, 25, 4) (by decide)
        · rw [gb, v0]
        · rw [vb, (F 16 0 29 rfl).1]; exact Dm.2.2.2.1.2.1
        · rw [va, (fb 16 0 30 rfl).1, (f4 16 0 30 rfl).1, (f3 16 0 30 rfl).1]; exact ga
    · refine Or.inl ⟨nmF b n (k + 1) 0 99999, tP b n (k + 1), wrp_0 hc hk (fun w1 f1 j1 => ?_), ?_⟩
      · have fa : Fr [12003] w1 (setI w1 11 0 3 (1 : Int32)) := Fr_setI (Fr_refl _ _) rfl
        have ja := JC_fr fa j1
        have na : gR (setI w1 11 0 3 (1 : Int32)) 11 0 1 = d := ja.2.2.2.2
        simp only [pX7_readSeed, ↓na, callW_eq]
        generalize setI w1 11 0 3 (1 : Int32) = w2 at fa ja na
        refine ok_bind (c_numF (lo := 0) (hi := 99999) ja (by omega) (by omega) z) ?_
        rintro ⟨x, w3⟩ ⟨e, f3⟩
        simp only at e f3
        subst e
        have nb : gR (setI w3 8 d 16 (-1 : Int32)) 11 0 1 = d := by rw [gg_RI, (f3.1 11 0 1 rfl).2.2]; exact na
        have gb : gI (setI w3 8 d 16 (-1 : Int32)) 8 d 16 = (-1 : Int32) := by rw [gg_I, if_pos ⟨rfl, rfl, rfl⟩]
        simp only [↓nb, ↓gb, ↓m1_l0, ↓reduceIte]
        have B := flC_B (d := d) (FC_trans (FC_ad f1) (FC_of fa rfl rfl)) f3
        exact ok_some ⟨rfl, FC_setI B.1 rfl (Or.inr rfl), by rw [gg_I, if_neg (by omega)]; exact B.2.1, by rw [gg_I, if_neg (by omega)]; exact B.2.2⟩
      · simp only [seedM, ↓q, ↓reduceIte, callW_eq]
        generalize setI wm 16 0 30 (1 : Int32) = w2 at f1m
        refine ok_bind (m_adv (JM_fr f1m hm) hN) ?_
        rintro w3 ⟨f3, j3⟩
        refine ok_bind (m_numF (lo := 0) (hi := 99999) j3 (by omega) (by omega) z) ?_
        rintro ⟨x, w4⟩ ⟨e, f4⟩
        simp only at e f4
        subst e
        have B := flM_B (FM_trans (FM_of f1m rfl rfl) (FM_tk f3)) f4
        exact ok_some ⟨rfl, FM_setI B.1 rfl (by show 0 ≤ _; omega), by rw [gg_I, if_neg (by omega)]; exact B.2.1, by rw [gg_I, if_neg (by omega)]; exact B.2.2⟩
/-! party -/
def nwP (x y z t : Nat) : Nat → Nat := fun r => if r = 9 then x else if r = 10 then y else if r = 11 then z else t
theorem c_addParty (D : DC w d u) (h2 : u 0 2 < 8) (x y z t : Nat) : Ok (pX4_addParty N d (nI x) (nI y) (nI z) (nI t) w) (fun w' => FC d w w' ∧ Fr [33, 34, 35, 36, 9005] w w' ∧ DC w' d (app u 2 (nwP x y z t))) := by
  have e5 : gI w 8 d 5 = nI (u 0 2) := D.2.1 (8, 5, 2) (by decide)
  have lt : (gI w 8 d 5 < (8 : Int32)) = True := eq_true (by rw [e5]; exact (nI_ltI (b := 8) (by omega) (by omega)).mpr h2)
  have s1 : stI w 33 d (gI w 8 d 5) 8 (nI x) = some (setI w 33 d (u 0 2) (nI x)) := by rw [e5]; exact stn h2 (by omega)
  have g1 : gI (setI w 33 d (u 0 2) (nI x)) 8 d 5 = nI (u 0 2) := by rw [gg_I, if_neg (by omega)]; exact e5
  have s2 : stI (setI w 33 d (u 0 2) (nI x)) 34 d (gI (setI w 33 d (u 0 2) (nI x)) 8 d 5) 8 (nI y) = some (setI (setI w 33 d (u 0 2) (nI x)) 34 d (u 0 2) (nI y)) := by rw [g1]; exact stn h2 (by omega)
  have g2 : gI (setI (setI w 33 d (u 0 2) (nI x)) 34 d (u 0 2) (nI y)) 8 d 5 = nI (u 0 2) := by rw [gg_I, if_neg (by omega)]; exact g1
  have s3 : stI (setI (setI w 33 d (u 0 2) (nI x)) 34 d (u 0 2) (nI y)) 35 d (gI (setI (setI w 33 d (u 0 2) (nI x)) 34 d (u 0 2) (nI y)) 8 d 5) 8 (nI z) = some (setI (setI (setI w 33 d (u 0 2) (nI x)) 34 d (u 0 2) (nI y)) 35 d (u 0 2) (nI z)) := by rw [g2]; exact stn h2 (by omega)
  have g3 : gI (setI (setI (setI w 33 d (u 0 2) (nI x)) 34 d (u 0 2) (nI y)) 35 d (u 0 2) (nI z)) 8 d 5 = nI (u 0 2) := by rw [gg_I, if_neg (by omega)]; exact g2
  have s4 : stI (setI (setI (setI w 33 d (u 0 2) (nI x)) 34 d (u 0 2) (nI y)) 35 d (u 0 2) (nI z)) 36 d (gI (setI (setI (setI w 33 d (u 0 2) (nI x)) 34 d (u 0 2) (nI y)) 35 d (u 0 2) (nI z)) 8 d 5) 8 (nI t) = some (setI (setI (setI (setI w 33 d (u 0 2) (nI x)) 34 d (u 0 2) (nI y)) 35 d (u 0 2) (nI z)) 36 d (u 0 2) (nI t)) := by rw [g3]; exact stn h2 (by omega)
  have g4 : gI (setI (setI (setI (setI w 33 d (u 0 2) (nI x)) 34 d (u 0 2) (nI y)) 35 d (u 0 2) (nI z)) 36 d (u 0 2) (nI t)) 8 d 5 + (1 : Int32) = nI (u 0 2 + 1) := by rw [gg_I, if_neg (by omega), g3]; exact nI_add _ 1
  simp only [pX4_addParty, ↓lt, ↓bnd s1, ↓bnd s2, ↓bnd s3, ↓bnd s4, ↓g4, ↓reduceIte]
  have f : Fr [33, 34, 35, 36, 9005] w (setI (setI (setI (setI (setI w 33 d (u 0 2) (nI x)) 34 d (u 0 2) (nI y)) 35 d (u 0 2) (nI z)) 36 d (u 0 2) (nI t)) 8 d 5 (nI (u 0 2 + 1))) := Fr_setI (Fr_setI (Fr_setI (Fr_setI (Fr_setI (Fr_refl _ _) rfl) rfl) rfl) rfl) rfl
  refine ok_some ⟨FC_setI (FC_setI (FC_setI (FC_setI (FC_setI (FC_refl d w) rfl (Or.inr rfl)) rfl (Or.inr rfl)) rfl (Or.inr rfl)) rfl (Or.inr rfl)) rfl (Or.inr rfl), f, DC_app f D (by omega) (by decide) (by decide) ?_ ?_ ?_⟩
  · exact KP_trans (KP_set (c := 2) (o := 0) (by decide) (by omega)) (KP_trans (KP_set (c := 2) (o := 0) (by decide) (by omega)) (KP_trans (KP_set (c := 2) (o := 0) (by decide) (by omega)) (KP_trans (KP_set (c := 2) (o := 0) (by decide) (by omega)) (KP_Fr okTc (l := [9005]) (Fr_setI (Fr_refl _ _) rfl) (by decide)))))
  · intro e he hc
    have : e = (33, 9, 2, 0) ∨ e = (34, 10, 2, 0) ∨ e = (35, 11, 2, 0) ∨ e = (36, 12, 2, 0) := (by decide : ∀ e, e ∈ dTc → e.2.2.1 = 2 → e = (33, 9, 2, 0) ∨ e = (34, 10, 2, 0) ∨ e = (35, 11, 2, 0) ∨ e = (36, 12, 2, 0)) e he hc
    rcases this with rfl | rfl | rfl | rfl
    · show gI _ 33 d (0 + u 0 2) = nI x
      rw [Nat.zero_add, gg_I, if_neg (by omega), gg_I, if_neg (by omega), gg_I, if_neg (by omega), gg_I, if_neg (by omega), gg_I, if_pos ⟨rfl, rfl, rfl⟩]
    · show gI _ 34 d (0 + u 0 2) = nI y
      rw [Nat.zero_add, gg_I, if_neg (by omega), gg_I, if_neg (by omega), gg_I, if_neg (by omega), gg_I, if_pos ⟨rfl, rfl, rfl⟩]
    · show gI _ 35 d (0 + u 0 2) = nI z
      rw [Nat.zero_add, gg_I, if_neg (by omega), gg_I, if_neg (by omega), gg_I, if_pos ⟨rfl, rfl, rfl⟩]
    · show gI _ 36 d (0 + u 0 2) = nI t
      rw [Nat.zero_add, gg_I, if_neg (by omega), gg_I, if_pos ⟨rfl, rfl, rfl⟩]
  · intro e he hc
    have : e = (8, 5, 2) := (by decide : ∀ e, e ∈ dFc → e.2.2 = 2 → e = (8, 5, 2)) e he hc
    subst this
    show gI _ 8 d 5 = nI (u 0 2 + 1)
    rw [gg_I, if_pos ⟨rfl, rfl, rfl⟩]
theorem j_party (hc : JC wc b n m d k) (hm : JM wm b n k) (hK : tK b n k = 8) (Dc : DC wc d u) (Dm : DM wm u) (hU : WU u) (hN : 1000 ≤ N) : LnR b n m d k wc wm (wrpC N (if u 0 2 = 8 then (1 : Int32) else (0 : Int32)) (2 : Int32) (pX7_readParty N) wc) (pX12_partyLine N wm) := by
  have hU' := hU
  obtain ⟨⟨U0, U1, U2, U3, U4, U6, U7⟩, UB, US, UG, UL⟩ := hU'
  have e22 : gI wm 16 0 22 = nI (u 0 2) := Dm.2.1 (16, 22, 2) (by decide)
  have hk : tK b n k ≠ 60 := by omega
  by_cases y : u 0 2 = 8
  · rw [if_pos y]
    refine Or.inl ⟨2, tP b n k, wrp_F hc 2, ?_⟩
    have q : (gI wm 16 0 22 = (8 : Int32)) = True := eq_true (by rw [e22, y]; rfl)
    simp only [pX12_partyLine, ↓q, ↓reduceIte]
    exact ok_mono (m_wrongZ hm 2) (fun x hx => ⟨hx.1, flM_B (FM_refl wm) hx.2⟩)
  rw [if_neg y]
  have q : (gI wm 16 0 22 = (8 : Int32)) = False := eq_false (fun z => y (by rw [e22] at z; exact (nI_eq (b := 8) (by omega) (by omega)).mp z))
  by_cases z0 : ptF u b n (k + 1) = 0
  rotate_left
  · refine Or.inl ⟨ptF u b n (k + 1), tP b n (k + 1), wrp_0 hc hk (fun w1 f1 j1 => ?_), ?_⟩
    · simp only [pX7_readParty, callW_eq]
      refine ok_bind (c_rtoldF j1 (by omega) (DC_nm (DC_fr f1 Dc)) U0 z0) ?_
      rintro ⟨x, w2⟩ ⟨e, g2⟩
      simp only at e g2
      subst e
      simp only [fX7_readParty_9, fX7_readParty_18, fX7_readParty_27, ↓m1_l0, ↓reduceIte, callW_eq]
      exact ok_some ⟨rfl, flC_B (FC_ad f1) g2⟩
    · simp only [pX12_partyLine, ↓q, ↓reduceIte, callW_eq]
      refine ok_bind (m_adv hm hN) ?_
      rintro w1 ⟨f1, j1⟩
      have e1 : gI w1 16 0 22 = nI (u 0 2) := by rw [(f1 16 0 22 rfl).1]; exact e22
      simp only [↓e1]
      have nm0 := DM_nm (DM_fr f1 Dm)
      have J0 := j1
      have A0 := FM_tk f1
      have P0 : KP dTm 0 u wm w1 := KP_Fr okTm f1 (by decide)
      have G0 : Fr [17007, 17008, 17009, 17010, 17011, 84, 85, 86, 87] wm w1 := Fr_mono f1 rfl
      refine ok_bind (m_part1F J0 (by omega) nm0 U0 z0) ?_
      rintro ⟨x, a0⟩ ⟨e, h0⟩
      simp only at e h0
      subst e
      simp only [↓n0_0, ↓reduceIte]
      exact ok_some ⟨rfl, flN_B A0 h0⟩
  have r0 := (ptF_lt z0).1
  have q0 : (nI (ptN u b n (k + 1)) < 0) = False := eq_false (nz_ge0 (by omega))
  by_cases z1 : ptF u b n (k + 1 + 1) = 0
  rotate_left
  · refine Or.inl ⟨ptF u b n (k + 1 + 1), tP b n (k + 1 + 1), wrp_0 hc hk (fun w1 f1 j1 => ?_), ?_⟩
    · simp only [pX7_readParty, callW_eq]
      refine ok_bind (c_rtold j1 (by omega) (DC_nm (DC_fr f1 Dc)) U0 z0) ?_
      rintro ⟨x, w2⟩ ⟨e, g2, j2⟩
      simp only at e g2 j2
      subst e
      have f2 : Fr kAd wc w2 := Fr_trans f1 g2
      simp only [↓q0, ↓reduceIte, callW_eq]
      refine ok_bind (c_rtoldF j2 (by omega) (DC_nm (DC_fr f2 Dc)) U0 z1) ?_
      rintro ⟨x, w3⟩ ⟨e, g3⟩
      simp only at e g3
      subst e
      simp only [fX7_readParty_9, fX7_readParty_18, fX7_readParty_27, ↓m1_l0, ↓reduceIte, callW_eq]
      exact ok_some ⟨rfl, flC_B (FC_ad f2) g3⟩
    · simp only [pX12_partyLine, ↓q, ↓reduceIte, callW_eq]
      refine ok_bind (m_adv hm hN) ?_
      rintro w1 ⟨f1, j1⟩
      have e1 : gI w1 16 0 22 = nI (u 0 2) := by rw [(f1 16 0 22 rfl).1]; exact e22
      simp only [↓e1]
      have nm0 := DM_nm (DM_fr f1 Dm)
      have J0 := j1
      have A0 := FM_tk f1
      have P0 : KP dTm 0 u wm w1 := KP_Fr okTm f1 (by decide)
      have G0 : Fr [17007, 17008, 17009, 17010, 17011, 84, 85, 86, 87] wm w1 := Fr_mono f1 rfl
      refine ok_bind (m_part1 J0 hN nm0 U0 z0) ?_
      rintro ⟨x, a0⟩ ⟨e, h0, i0, g0⟩
      simp only at e h0 i0 g0
      subst e
      have s0 : stI a0 84 0 ((8 : Int32) + nI (u 0 2)) 16 (gI a0 16 0 11) = some (setI a0 84 0 (8 + u 0 2) (nI (ptN u b n (k + 1)))) := by rw [g0, show (8 : Int32) = nI 8 from rfl, nI_add]; exact stn (by omega) (by omega)
      simp only [↓n1_0, ↓bnd s0, ↓reduceIte]
      have d0 : Fr [84] a0 (setI a0 84 0 (8 + u 0 2) (nI (ptN u b n (k + 1)))) := Fr_setI (Fr_refl _ _) rfl
      have J1 := JM_fr d0 i0
      have nm1 := nmM_fr d0 (nmM_fr h0 nm0)
      have A1 : FM wm (setI a0 84 0 (8 + u 0 2) (nI (ptN u b n (k + 1)))) := FM_setI (FM_trans A0 (FM_nm h0)) rfl (by show 8 ≤ _; omega)
      have P1 : KP dTm 0 u wm (setI a0 84 0 (8 + u 0 2) (nI (ptN u b n (k + 1)))) := KP_trans P0 (KP_trans (KP_Fr okTm h0 (by decide)) (KP_set (c := 2) (o := 8) (by decide) (Nat.le_refl _)))
      have G1 : Fr [17007, 17008, 17009, 17010, 17011, 84, 85, 86, 87] wm (setI a0 84 0 (8 + u 0 2) (nI (ptN u b n (k + 1)))) := Fr_trans G0 (Fr_trans (Fr_mono h0 rfl) (Fr_mono d0 rfl))
      have c0 : gI (setI a0 84 0 (8 + u 0 2) (nI (ptN u b n (k + 1)))) 84 0 (8 + u 0 2) = nI (ptN u b n (k + 1)) := by rw [gg_I, if_pos ⟨rfl, rfl, rfl⟩]
      generalize setI a0 84 0 (8 + u 0 2) (nI (ptN u b n (k + 1))) = b0 at d0 J1 nm1 A1 P1 G1 c0
      refine ok_bind (m_part1F J1 (by omega) nm1 U0 z1) ?_
      rintro ⟨x, a1⟩ ⟨e, h1⟩
      simp only at e h1
      subst e
      simp only [↓n0_0, ↓reduceIte]
      exact ok_some ⟨rfl, flN_B A1 h1⟩
  have r1 := (ptF_lt z1).1
  have q1 : (nI (ptN u b n (k + 1 + 1)) < 0) = False := eq_false (nz_ge0 (by omega))
  by_cases z2 : nmF b n (k + 1 + 1 + 1) 0 999 = 0
  rotate_left
  · refine Or.inl ⟨nmF b n (k + 1 + 1 + 1) 0 999, tP b n (k + 1 + 1 + 1), wrp_0 hc hk (fun w1 f1 j1 => ?_), ?_⟩
    · simp only [pX7_readParty, callW_eq]
      refine ok_bind (c_rtold j1 (by omega) (DC_nm (DC_fr f1 Dc)) U0 z0) ?_
      rintro ⟨x, w2⟩ ⟨e, g2, j2⟩
      simp only at e g2 j2
      subst e
      have f2 : Fr kAd wc w2 := Fr_trans f1 g2
      simp only [↓q0, ↓reduceIte, callW_eq]
      refine ok_bind (c_rtold j2 (by omega) (DC_nm (DC_fr f2 Dc)) U0 z1) ?_
      rintro ⟨x, w3⟩ ⟨e, g3, j3⟩
      simp only at e g3 j3
      subst e
      have f3 : Fr kAd wc w3 := Fr_trans f2 g3
      simp only [fX7_readParty_9, ↓q1, ↓reduceIte, callW_eq]
      refine ok_bind (c_numF (lo := 0) (hi := 999) j3 (by omega) (by omega) z2) ?_
      rintro ⟨x, w4⟩ ⟨e, g4⟩
      simp only at e g4
      subst e
      simp only [fX7_readParty_9, fX7_readParty_18, fX7_readParty_27, ↓m1_l0, ↓reduceIte, callW_eq]
      exact ok_some ⟨rfl, flC_B (FC_ad f3) g4⟩
    · simp only [pX12_partyLine, ↓q, ↓reduceIte, callW_eq]
      refine ok_bind (m_adv hm hN) ?_
      rintro w1 ⟨f1, j1⟩
      have e1 : gI w1 16 0 22 = nI (u 0 2) := by rw [(f1 16 0 22 rfl).1]; exact e22
      simp only [↓e1]
      have nm0 := DM_nm (DM_fr f1 Dm)
      have J0 := j1
      have A0 := FM_tk f1
      have P0 : KP dTm 0 u wm w1 := KP_Fr okTm f1 (by decide)
      have G0 : Fr [17007, 17008, 17009, 17010, 17011, 84, 85, 86, 87] wm w1 := Fr_mono f1 rfl
      refine ok_bind (m_part1 J0 hN nm0 U0 z0) ?_
      rintro ⟨x, a0⟩ ⟨e, h0, i0, g0⟩
      simp only at e h0 i0 g0
      subst e
      have s0 : stI a0 84 0 ((8 : Int32) + nI (u 0 2)) 16 (gI a0 16 0 11) = some (setI a0 84 0 (8 + u 0 2) (nI (ptN u b n (k + 1)))) := by rw [g0, show (8 : Int32) = nI 8 from rfl, nI_add]; exact stn (by omega) (by omega)
      simp only [↓n1_0, ↓bnd s0, ↓reduceIte]
      have d0 : Fr [84] a0 (setI a0 84 0 (8 + u 0 2) (nI (ptN u b n (k + 1)))) := Fr_setI (Fr_refl _ _) rfl
      have J1 := JM_fr d0 i0
      have nm1 := nmM_fr d0 (nmM_fr h0 nm0)
      have A1 : FM wm (setI a0 84 0 (8 + u 0 2) (nI (ptN u b n (k + 1)))) := FM_setI (FM_trans A0 (FM_nm h0)) rfl (by show 8 ≤ _; omega)
      have P1 : KP dTm 0 u wm (setI a0 84 0 (8 + u 0 2) (nI (ptN u b n (k + 1)))) := KP_trans P0 (KP_trans (KP_Fr okTm h0 (by decide)) (KP_set (c := 2) (o := 8) (by decide) (Nat.le_refl _)))
      have G1 : Fr [17007, 17008, 17009, 17010, 17011, 84, 85, 86, 87] wm (setI a0 84 0 (8 + u 0 2) (nI (ptN u b n (k + 1)))) := Fr_trans G0 (Fr_trans (Fr_mono h0 rfl) (Fr_mono d0 rfl))
      have c0 : gI (setI a0 84 0 (8 + u 0 2) (nI (ptN u b n (k + 1)))) 84 0 (8 + u 0 2) = nI (ptN u b n (k + 1)) := by rw [gg_I, if_pos ⟨rfl, rfl, rfl⟩]
      generalize setI a0 84 0 (8 + u 0 2) (nI (ptN u b n (k + 1))) = b0 at d0 J1 nm1 A1 P1 G1 c0
      refine ok_bind (m_part1 J1 hN nm1 U0 z1) ?_
      rintro ⟨x, a1⟩ ⟨e, h1, i1, g1⟩
      simp only at e h1 i1 g1
      subst e
      have s1 : stI a1 85 0 ((8 : Int32) + nI (u 0 2)) 16 (gI a1 16 0 11) = some (setI a1 85 0 (8 + u 0 2) (nI (ptN u b n (k + 1 + 1)))) := by rw [g1, show (8 : Int32) = nI 8 from rfl, nI_add]; exact stn (by omega) (by omega)
      simp only [↓n1_0, ↓bnd s1, ↓reduceIte]
      have d1 : Fr [85] a1 (setI a1 85 0 (8 + u 0 2) (nI (ptN u b n (k + 1 + 1)))) := Fr_setI (Fr_refl _ _) rfl
      have J2 := JM_fr d1 i1
      have nm2 := nmM_fr d1 (nmM_fr h1 nm1)
      have A2 : FM wm (setI a1 85 0 (8 + u 0 2) (nI (ptN u b n (k + 1 + 1)))) := FM_setI (FM_trans A1 (FM_nm h1)) rfl (by show 8 ≤ _; omega)
      have P2 : KP dTm 0 u wm (setI a1 85 0 (8 + u 0 2) (nI (ptN u b n (k + 1 + 1)))) := KP_trans P1 (KP_trans (KP_Fr okTm h1 (by decide)) (KP_set (c := 2) (o := 8) (by decide) (Nat.le_refl _)))
      have G2 : Fr [17007, 17008, 17009, 17010, 17011, 84, 85, 86, 87] wm (setI a1 85 0 (8 + u 0 2) (nI (ptN u b n (k + 1 + 1)))) := Fr_trans G1 (Fr_trans (Fr_mono h1 rfl) (Fr_mono d1 rfl))
      have c1 : gI (setI a1 85 0 (8 + u 0 2) (nI (ptN u b n (k + 1 + 1)))) 85 0 (8 + u 0 2) = nI (ptN u b n (k + 1 + 1)) := by rw [gg_I, if_pos ⟨rfl, rfl, rfl⟩]
      generalize setI a1 85 0 (8 + u 0 2) (nI (ptN u b n (k + 1 + 1))) = b1 at d1 J2 nm2 A2 P2 G2 c1
      refine ok_bind (m_numF (lo := 0) (hi := 999) J2 (by omega) (by omega) z2) ?_
      rintro ⟨x, a2⟩ ⟨e, h2⟩
      simp only at e h2
      subst e
      simp only [↓n0_0, ↓reduceIte]
      exact ok_some ⟨rfl, flM_B A2 h2⟩
  have r2 := nmF_rng z2
  have q2 : (nI (tV b n (k + 1 + 1 + 1)) < 0) = False := eq_false (nz_ge0 (by omega))
  by_cases z3 : nmF b n (k + 1 + 1 + 1 + 1) 0 99 = 0
  rotate_left
  · refine Or.inl ⟨nmF b n (k + 1 + 1 + 1 + 1) 0 99, tP b n (k + 1 + 1 + 1 + 1), wrp_0 hc hk (fun w1 f1 j1 => ?_), ?_⟩
    · simp only [pX7_readParty, callW_eq]
      refine ok_bind (c_rtold j1 (by omega) (DC_nm (DC_fr f1 Dc)) U0 z0) ?_
      rintro ⟨x, w2⟩ ⟨e, g2, j2⟩
      simp only at e g2 j2
      subst e
      have f2 : Fr kAd wc w2 := Fr_trans f1 g2
      simp only [↓q0, ↓reduceIte, callW_eq]
      refine ok_bind (c_rtold j2 (by omega) (DC_nm (DC_fr f2 Dc)) U0 z1) ?_
      rintro ⟨x, w3⟩ ⟨e, g3, j3⟩
      simp only at e g3 j3
      subst e
      have f3 : Fr kAd wc w3 := Fr_trans f2 g3
      simp only [fX7_readParty_9, ↓q1, ↓reduceIte, callW_eq]
      refine ok_bind (c_num (lo := 0) (hi := 999) j3 (by omega) (by omega) z2) ?_
      rintro ⟨x, w4⟩ ⟨e, g4, j4⟩
      simp only at e g4 j4
      subst e
      have f4 : Fr kAd wc w4 := Fr_trans f3 g4
      simp only [fX7_readParty_18, ↓q2, ↓reduceIte, callW_eq]
      refine ok_bind (c_numF (lo := 0) (hi := 99) j4 (by omega) (by omega) z3) ?_
      rintro ⟨x, w5⟩ ⟨e, g5⟩
      simp only at e g5
      subst e
      simp only [fX7_readParty_9, fX7_readParty_18, fX7_readParty_27, ↓m1_l0, ↓reduceIte, callW_eq]
      exact ok_some ⟨rfl, flC_B (FC_ad f4) g5⟩
    · simp only [pX12_partyLine, ↓q, ↓reduceIte, callW_eq]
      refine ok_bind (m_adv hm hN) ?_
      rintro w1 ⟨f1, j1⟩
      have e1 : gI w1 16 0 22 = nI (u 0 2) := by rw [(f1 16 0 22 rfl).1]; exact e22
      simp only [↓e1]
      have nm0 := DM_nm (DM_fr f1 Dm)
      have J0 := j1
      have A0 := FM_tk f1
      have P0 : KP dTm 0 u wm w1 := KP_Fr okTm f1 (by decide)
      have G0 : Fr [17007, 17008, 17009, 17010, 17011, 84, 85, 86, 87] wm w1 := Fr_mono f1 rfl
      refine ok_bind (m_part1 J0 hN nm0 U0 z0) ?_
      rintro ⟨x, a0⟩ ⟨e, h0, i0, g0⟩
      simp only at e h0 i0 g0
      subst e
      have s0 : stI a0 84 0 ((8 : Int32) + nI (u 0 2)) 16 (gI a0 16 0 11) = some (setI a0 84 0 (8 + u 0 2) (nI (ptN u b n (k + 1)))) := by rw [g0, show (8 : Int32) = nI 8 from rfl, nI_add]; exact stn (by omega) (by omega)
      simp only [↓n1_0, ↓bnd s0, ↓reduceIte]
      have d0 : Fr [84] a0 (setI a0 84 0 (8 + u 0 2) (nI (ptN u b n (k + 1)))) := Fr_setI (Fr_refl _ _) rfl
      have J1 := JM_fr d0 i0
      have nm1 := nmM_fr d0 (nmM_fr h0 nm0)
      have A1 : FM wm (setI a0 84 0 (8 + u 0 2) (nI (ptN u b n (k + 1)))) := FM_setI (FM_trans A0 (FM_nm h0)) rfl (by show 8 ≤ _; omega)
      have P1 : KP dTm 0 u wm (setI a0 84 0 (8 + u 0 2) (nI (ptN u b n (k + 1)))) := KP_trans P0 (KP_trans (KP_Fr okTm h0 (by decide)) (KP_set (c := 2) (o := 8) (by decide) (Nat.le_refl _)))
      have G1 : Fr [17007, 17008, 17009, 17010, 17011, 84, 85, 86, 87] wm (setI a0 84 0 (8 + u 0 2) (nI (ptN u b n (k + 1)))) := Fr_trans G0 (Fr_trans (Fr_mono h0 rfl) (Fr_mono d0 rfl))
      have c0 : gI (setI a0 84 0 (8 + u 0 2) (nI (ptN u b n (k + 1)))) 84 0 (8 + u 0 2) = nI (ptN u b n (k + 1)) := by rw [gg_I, if_pos ⟨rfl, rfl, rfl⟩]
      generalize setI a0 84 0 (8 + u 0 2) (nI (ptN u b n (k + 1))) = b0 at d0 J1 nm1 A1 P1 G1 c0
      refine ok_bind (m_part1 J1 hN nm1 U0 z1) ?_
      rintro ⟨x, a1⟩ ⟨e, h1, i1, g1⟩
      simp only at e h1 i1 g1
      subst e
      have s1 : stI a1 85 0 ((8 : Int32) + nI (u 0 2)) 16 (gI a1 16 0 11) = some (setI a1 85 0 (8 + u 0 2) (nI (ptN u b n (k + 1 + 1)))) := by rw [g1, show (8 : Int32) = nI 8 from rfl, nI_add]; exact stn (by omega) (by omega)
      simp only [↓n1_0, ↓bnd s1, ↓reduceIte]
      have d1 : Fr [85] a1 (setI a1 85 0 (8 + u 0 2) (nI (ptN u b n (k + 1 + 1)))) := Fr_setI (Fr_refl _ _) rfl
      have J2 := JM_fr d1 i1
      have nm2 := nmM_fr d1 (nmM_fr h1 nm1)
      have A2 : FM wm (setI a1 85 0 (8 + u 0 2) (nI (ptN u b n (k + 1 + 1)))) := FM_setI (FM_trans A1 (FM_nm h1)) rfl (by show 8 ≤ _; omega)
      have P2 : KP dTm 0 u wm (setI a1 85 0 (8 + u 0 2) (nI (ptN u b n (k + 1 + 1)))) := KP_trans P1 (KP_trans (KP_Fr okTm h1 (by decide)) (KP_set (c := 2) (o := 8) (by decide) (Nat.le_refl _)))
      have G2 : Fr [17007, 17008, 17009, 17010, 17011, 84, 85, 86, 87] wm (setI a1 85 0 (8 + u 0 2) (nI (ptN u b n (k + 1 + 1)))) := Fr_trans G1 (Fr_trans (Fr_mono h1 rfl) (Fr_mono d1 rfl))
      have c1 : gI (setI a1 85 0 (8 + u 0 2) (nI (ptN u b n (k + 1 + 1)))) 85 0 (8 + u 0 2) = nI (ptN u b n (k + 1 + 1)) := by rw [gg_I, if_pos ⟨rfl, rfl, rfl⟩]
      generalize setI a1 85 0 (8 + u 0 2) (nI (ptN u b n (k + 1 + 1))) = b1 at d1 J2 nm2 A2 P2 G2 c1
      refine ok_bind (m_num (lo := 0) (hi := 999) J2 hN (by omega) (by omega) z2) ?_
      rintro ⟨x, a2⟩ ⟨e, h2, i2, g2⟩
      simp only at e h2 i2 g2
      subst e
      have s2 : stI a2 86 0 ((8 : Int32) + nI (u 0 2)) 16 (gI a2 16 0 11) = some (setI a2 86 0 (8 + u 0 2) (nI (tV b n (k + 1 + 1 + 1)))) := by rw [g2, show (8 : Int32) = nI 8 from rfl, nI_add]; exact stn (by omega) (by omega)
      simp only [↓n1_0, ↓bnd s2, ↓reduceIte]
      have d2 : Fr [86] a2 (setI a2 86 0 (8 + u 0 2) (nI (tV b n (k + 1 + 1 + 1)))) := Fr_setI (Fr_refl _ _) rfl
      have J3 := JM_fr d2 i2
      have nm3 := nmM_fr d2 (nmM_fr h2 nm2)
      have A3 : FM wm (setI a2 86 0 (8 + u 0 2) (nI (tV b n (k + 1 + 1 + 1)))) := FM_setI (FM_trans A2 (FM_nm h2)) rfl (by show 8 ≤ _; omega)
      have P3 : KP dTm 0 u wm (setI a2 86 0 (8 + u 0 2) (nI (tV b n (k + 1 + 1 + 1)))) := KP_trans P2 (KP_trans (KP_Fr okTm h2 (by decide)) (KP_set (c := 2) (o := 8) (by decide) (Nat.le_refl _)))
      have G3 : Fr [17007, 17008, 17009, 17010, 17011, 84, 85, 86, 87] wm (setI a2 86 0 (8 + u 0 2) (nI (tV b n (k + 1 + 1 + 1)))) := Fr_trans G2 (Fr_trans (Fr_mono h2 rfl) (Fr_mono d2 rfl))
      have c2 : gI (setI a2 86 0 (8 + u 0 2) (nI (tV b n (k + 1 + 1 + 1)))) 86 0 (8 + u 0 2) = nI (tV b n (k + 1 + 1 + 1)) := by rw [gg_I, if_pos ⟨rfl, rfl, rfl⟩]
      generalize setI a2 86 0 (8 + u 0 2) (nI (tV b n (k + 1 + 1 + 1))) = b2 at d2 J3 nm3 A3 P3 G3 c2
      refine ok_bind (m_numF (lo := 0) (hi := 99) J3 (by omega) (by omega) z3) ?_
      rintro ⟨x, a3⟩ ⟨e, h3⟩
      simp only at e h3
      subst e
      simp only [↓n0_0, ↓reduceIte]
      exact ok_some ⟨rfl, flM_B A3 h3⟩
  have r3 := nmF_rng z3
  have q3 : (nI (tV b n (k + 1 + 1 + 1 + 1)) < 0) = False := eq_false (nz_ge0 (by omega))
  refine Or.inr ⟨k + 1 + 1 + 1 + 1 + 1, app u 2 (nwP (ptN u b n (k + 1)) (ptN u b n (k + 1 + 1)) (tV b n (k + 1 + 1 + 1)) (tV b n (k + 1 + 1 + 1 + 1))), by omega, ?_, wrp_1 hc hk (fun w1 f1 j1 => ?_), ?_⟩
  · refine WU_app hU (by omega) ⟨by omega, by omega, by omega, by omega⟩ (fun r hg => ?_)
    have hr := (grp_inv r).2.2.1 hg
    have : r = 9 ∨ r = 10 ∨ r = 11 ∨ r = 12 := by omega
    rcases this with rfl | rfl | rfl | rfl
    · exact r0
    · exact r1
    · show tV b n (k + 1 + 1 + 1) < bdR (u 0 0) 11
      have : bdR (u 0 0) 11 = 1000 := rfl
      omega
    · show tV b n (k + 1 + 1 + 1 + 1) < bdR (u 0 0) 12
      have : bdR (u 0 0) 12 = 100 := rfl
      omega
  · simp only [pX7_readParty, callW_eq]
    refine ok_bind (c_rtold j1 (by omega) (DC_nm (DC_fr f1 Dc)) U0 z0) ?_
    rintro ⟨x, w2⟩ ⟨e, g2, j2⟩
    simp only at e g2 j2
    subst e
    have f2 : Fr kAd wc w2 := Fr_trans f1 g2
    simp only [↓q0, ↓reduceIte, callW_eq]
    refine ok_bind (c_rtold j2 (by omega) (DC_nm (DC_fr f2 Dc)) U0 z1) ?_
    rintro ⟨x, w3⟩ ⟨e, g3, j3⟩
    simp only at e g3 j3
    subst e
    have f3 : Fr kAd wc w3 := Fr_trans f2 g3
    simp only [fX7_readParty_9, ↓q1, ↓reduceIte, callW_eq]
    refine ok_bind (c_num (lo := 0) (hi := 999) j3 (by omega) (by omega) z2) ?_
    rintro ⟨x, w4⟩ ⟨e, g4, j4⟩
    simp only at e g4 j4
    subst e
    have f4 : Fr kAd wc w4 := Fr_trans f3 g4
    simp only [fX7_readParty_18, ↓q2, ↓reduceIte, callW_eq]
    refine ok_bind (c_num (lo := 0) (hi := 99) j4 (by omega) (by omega) z3) ?_
    rintro ⟨x, w5⟩ ⟨e, g5, j5⟩
    simp only at e g5 j5
    subst e
    have f5 : Fr kAd wc w5 := Fr_trans f4 g5
    have ed := j5.2.2.2.2
    simp only [fX7_readParty_27, ↓q3, ↓ed, ↓reduceIte, callW_eq]
    refine ok_bind (c_addParty (N := N) (DC_fr f5 Dc) (by omega) _ _ _ _) ?_
    rintro w6 ⟨h1, h2, h3⟩
    exact ok_some ⟨rfl, FC_trans (FC_ad f5) h1, JC_fr h2 j5, h3⟩
  · simp only [pX12_partyLine, ↓q, ↓reduceIte, callW_eq]
    refine ok_bind (m_adv hm hN) ?_
    rintro w1 ⟨f1, j1⟩
    have e1 : gI w1 16 0 22 = nI (u 0 2) := by rw [(f1 16 0 22 rfl).1]; exact e22
    simp only [↓e1]
    have nm0 := DM_nm (DM_fr f1 Dm)
    have J0 := j1
    have A0 := FM_tk f1
    have P0 : KP dTm 0 u wm w1 := KP_Fr okTm f1 (by decide)
    have G0 : Fr [17007, 17008, 17009, 17010, 17011, 84, 85, 86, 87] wm w1 := Fr_mono f1 rfl
    refine ok_bind (m_part1 J0 hN nm0 U0 z0) ?_
    rintro ⟨x, a0⟩ ⟨e, h0, i0, g0⟩
    simp only at e h0 i0 g0
    subst e
    have s0 : stI a0 84 0 ((8 : Int32) + nI (u 0 2)) 16 (gI a0 16 0 11) = some (setI a0 84 0 (8 + u 0 2) (nI (ptN u b n (k + 1)))) := by rw [g0, show (8 : Int32) = nI 8 from rfl, nI_add]; exact stn (by omega) (by omega)
    simp only [↓n1_0, ↓bnd s0, ↓reduceIte]
    have d0 : Fr [84] a0 (setI a0 84 0 (8 + u 0 2) (nI (ptN u b n (k + 1)))) := Fr_setI (Fr_refl _ _) rfl
    have J1 := JM_fr d0 i0
    have nm1 := nmM_fr d0 (nmM_fr h0 nm0)
    have A1 : FM wm (setI a0 84 0 (8 + u 0 2) (nI (ptN u b n (k + 1)))) := FM_setI (FM_trans A0 (FM_nm h0)) rfl (by show 8 ≤ _; omega)
    have P1 : KP dTm 0 u wm (setI a0 84 0 (8 + u 0 2) (nI (ptN u b n (k + 1)))) := KP_trans P0 (KP_trans (KP_Fr okTm h0 (by decide)) (KP_set (c := 2) (o := 8) (by decide) (Nat.le_refl _)))
    have G1 : Fr [17007, 17008, 17009, 17010, 17011, 84, 85, 86, 87] wm (setI a0 84 0 (8 + u 0 2) (nI (ptN u b n (k + 1)))) := Fr_trans G0 (Fr_trans (Fr_mono h0 rfl) (Fr_mono d0 rfl))
    have c0 : gI (setI a0 84 0 (8 + u 0 2) (nI (ptN u b n (k + 1)))) 84 0 (8 + u 0 2) = nI (ptN u b n (k + 1)) := by rw [gg_I, if_pos ⟨rfl, rfl, rfl⟩]
    generalize setI a0 84 0 (8 + u 0 2) (nI (ptN u b n (k + 1))) = b0 at d0 J1 nm1 A1 P1 G1 c0
    refine ok_bind (m_part1 J1 hN nm1 U0 z1) ?_
    rintro ⟨x, a1⟩ ⟨e, h1, i1, g1⟩
    simp only at e h1 i1 g1
    subst e
    have s1 : stI a1 85 0 ((8 : Int32) + nI (u 0 2)) 16 (gI a1 16 0 11) = some (setI a1 85 0 (8 + u 0 2) (nI (ptN u b n (k + 1 + 1)))) := by rw [g1, show (8 : Int32) = nI 8 from rfl, nI_add]; exact stn (by omega) (by omega)
    simp only [↓n1_0, ↓bnd s1, ↓reduceIte]
    have d1 : Fr [85] a1 (setI a1 85 0 (8 + u 0 2) (nI (ptN u b n (k + 1 + 1)))) := Fr_setI (Fr_refl _ _) rfl
    have J2 := JM_fr d1 i1
    have nm2 := nmM_fr d1 (nmM_fr h1 nm1)
    have A2 : FM wm (setI a1 85 0 (8 + u 0 2) (nI (ptN u b n (k + 1 + 1)))) := FM_setI (FM_trans A1 (FM_nm h1)) rfl (by show 8 ≤ _; omega)
    have P2 : KP dTm 0 u wm (setI a1 85 0 (8 + u 0 2) (nI (ptN u b n (k + 1 + 1)))) := KP_trans P1 (KP_trans (KP_Fr okTm h1 (by decide)) (KP_set (c := 2) (o := 8) (by decide) (Nat.le_refl _)))
    have G2 : Fr [17007, 17008, 17009, 17010, 17011, 84, 85, 86, 87] wm (setI a1 85 0 (8 + u 0 2) (nI (ptN u b n (k + 1 + 1)))) := Fr_trans G1 (Fr_trans (Fr_mono h1 rfl) (Fr_mono d1 rfl))
    have c1 : gI (setI a1 85 0 (8 + u 0 2) (nI (ptN u b n (k + 1 + 1)))) 85 0 (8 + u 0 2) = nI (ptN u b n (k + 1 + 1)) := by rw [gg_I, if_pos ⟨rfl, rfl, rfl⟩]
    generalize setI a1 85 0 (8 + u 0 2) (nI (ptN u b n (k + 1 + 1))) = b1 at d1 J2 nm2 A2 P2 G2 c1
    refine ok_bind (m_num (lo := 0) (hi := 999) J2 hN (by omega) (by omega) z2) ?_
    rintro ⟨x, a2⟩ ⟨e, h2, i2, g2⟩
    simp only at e h2 i2 g2
    subst e
    have s2 : stI a2 86 0 ((8 : Int32) + nI (u 0 2)) 16 (gI a2 16 0 11) = some (setI a2 86 0 (8 + u 0 2) (nI (tV b n (k + 1 + 1 + 1)))) := by rw [g2, show (8 : Int32) = nI 8 from rfl, nI_add]; exact stn (by omega) (by omega)
    simp only [↓n1_0, ↓bnd s2, ↓reduceIte]
    have d2 : Fr [86] a2 (setI a2 86 0 (8 + u 0 2) (nI (tV b n (k + 1 + 1 + 1)))) := Fr_setI (Fr_refl _ _) rfl
    have J3 := JM_fr d2 i2
    have nm3 := nmM_fr d2 (nmM_fr h2 nm2)
    have A3 : FM wm (setI a2 86 0 (8 + u 0 2) (nI (tV b n (k + 1 + 1 + 1)))) := FM_setI (FM_trans A2 (FM_nm h2)) rfl (by show 8 ≤ _; omega)
    have P3 : KP dTm 0 u wm (setI a2 86 0 (8 + u 0 2) (nI (tV b n (k + 1 + 1 + 1)))) := KP_trans P2 (KP_trans (KP_Fr okTm h2 (by decide)) (KP_set (c := 2) (o := 8) (by decide) (Nat.le_refl _)))
    have G3 : Fr [17007, 17008, 17009, 17010, 17011, 84, 85, 86, 87] wm (setI a2 86 0 (8 + u 0 2) (nI (tV b n (k + 1 + 1 + 1)))) := Fr_trans G2 (Fr_trans (Fr_mono h2 rfl) (Fr_mono d2 rfl))
    have c2 : gI (setI a2 86 0 (8 + u 0 2) (nI (tV b n (k + 1 + 1 + 1)))) 86 0 (8 + u 0 2) = nI (tV b n (k + 1 + 1 + 1)) := by rw [gg_I, if_pos ⟨rfl, rfl, rfl⟩]
    generalize setI a2 86 0 (8 + u 0 2) (nI (tV b n (k + 1 + 1 + 1))) = b2 at d2 J3 nm3 A3 P3 G3 c2
    refine ok_bind (m_num (lo := 0) (hi := 99) J3 hN (by omega) (by omega) z3) ?_
    rintro ⟨x, a3⟩ ⟨e, h3, i3, g3⟩
    simp only at e h3 i3 g3
    subst e
    have s3 : stI a3 87 0 ((8 : Int32) + nI (u 0 2)) 16 (gI a3 16 0 11) = some (setI a3 87 0 (8 + u 0 2) (nI (tV b n (k + 1 + 1 + 1 + 1)))) := by rw [g3, show (8 : Int32) = nI 8 from rfl, nI_add]; exact stn (by omega) (by omega)
    simp only [↓n1_0, ↓bnd s3, ↓reduceIte]
    have d3 : Fr [87] a3 (setI a3 87 0 (8 + u 0 2) (nI (tV b n (k + 1 + 1 + 1 + 1)))) := Fr_setI (Fr_refl _ _) rfl
    have J4 := JM_fr d3 i3
    have nm4 := nmM_fr d3 (nmM_fr h3 nm3)
    have A4 : FM wm (setI a3 87 0 (8 + u 0 2) (nI (tV b n (k + 1 + 1 + 1 + 1)))) := FM_setI (FM_trans A3 (FM_nm h3)) rfl (by show 8 ≤ _; omega)
    have P4 : KP dTm 0 u wm (setI a3 87 0 (8 + u 0 2) (nI (tV b n (k + 1 + 1 + 1 + 1)))) := KP_trans P3 (KP_trans (KP_Fr okTm h3 (by decide)) (KP_set (c := 2) (o := 8) (by decide) (Nat.le_refl _)))
    have G4 : Fr [17007, 17008, 17009, 17010, 17011, 84, 85, 86, 87] wm (setI a3 87 0 (8 + u 0 2) (nI (tV b n (k + 1 + 1 + 1 + 1)))) := Fr_trans G3 (Fr_trans (Fr_mono h3 rfl) (Fr_mono d3 rfl))
    have c3 : gI (setI a3 87 0 (8 + u 0 2) (nI (tV b n (k + 1 + 1 + 1 + 1)))) 87 0 (8 + u 0 2) = nI (tV b n (k + 1 + 1 + 1 + 1)) := by rw [gg_I, if_pos ⟨rfl, rfl, rfl⟩]
    generalize setI a3 87 0 (8 + u 0 2) (nI (tV b n (k + 1 + 1 + 1 + 1))) = b3 at d3 J4 nm4 A4 P4 G4 c3
    have e6 : gI b3 16 0 22 = nI (u 0 2) := by rw [(G4 16 0 22 rfl).1]; exact e22
    have e7 : gI b3 16 0 22 + (1 : Int32) = nI (u 0 2 + 1) := by rw [e6]; exact nI_add _ 1
    simp only [↓e7]
    have f6 : Fr [17022] b3 (setI b3 16 0 22 (nI (u 0 2 + 1))) := Fr_setI (Fr_refl _ _) rfl
    have F : Fr [17007, 17008, 17009, 17010, 17011, 84, 85, 86, 87, 17022] wm (setI b3 16 0 22 (nI (u 0 2 + 1))) := Fr_trans (Fr_mono G4 rfl) (Fr_mono f6 rfl)
    refine ok_some ⟨rfl, FM_setI A4 rfl (by show 0 ≤ _; omega), JM_fr f6 J4, DM_app F Dm (by omega) (by decide) (by decide) (KP_trans P4 (KP_Fr okTm f6 (by decide))) ?_ ?_⟩
    · intro e he hc
      have : e = (84, 9, 2, 8) ∨ e = (85, 10, 2, 8) ∨ e = (86, 11, 2, 8) ∨ e = (87, 12, 2, 8) := (by decide : ∀ e, e ∈ dTm → e.2.2.1 = 2 → e = (84, 9, 2, 8) ∨ e = (85, 10, 2, 8) ∨ e = (86, 11, 2, 8) ∨ e = (87, 12, 2, 8)) e he hc
      rcases this with rfl | rfl | rfl | rfl
      · show gI _ 84 0 (8 + u 0 2) = nI (ptN u b n (k + 1))
        rw [(f6 84 0 _ rfl).1, (d3 84 0 _ rfl).1, (h3 84 0 _ rfl).1, (d2 84 0 _ rfl).1, (h2 84 0 _ rfl).1, (d1 84 0 _ rfl).1, (h1 84 0 _ rfl).1]; exact c0
      · show gI _ 85 0 (8 + u 0 2) = nI (ptN u b n (k + 1 + 1))
        rw [(f6 85 0 _ rfl).1, (d3 85 0 _ rfl).1, (h3 85 0 _ rfl).1, (d2 85 0 _ rfl).1, (h2 85 0 _ rfl).1]; exact c1
      · show gI _ 86 0 (8 + u 0 2) = nI (tV b n (k + 1 + 1 + 1))
        rw [(f6 86 0 _ rfl).1, (d3 86 0 _ rfl).1, (h3 86 0 _ rfl).1]; exact c2
      · show gI _ 87 0 (8 + u 0 2) = nI (tV b n (k + 1 + 1 + 1 + 1))
        rw [(f6 87 0 _ rfl).1]; exact c3
    · intro e he hc
      have : e = (16, 22, 2) := (by decide : ∀ e, e ∈ dFm → e.2.2 = 2 → e = (16, 22, 2)) e he hc
      subst this
      show gI _ 16 0 22 = nI (u 0 2 + 1)
      rw [gg_I, if_pos ⟨rfl, rfl, rfl⟩]
end

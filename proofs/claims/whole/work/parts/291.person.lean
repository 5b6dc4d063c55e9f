/-! ===== line: person ===== -/
section
variable {N : Nat} {w w' w0 w1 wc wm : Wd} {b : Nat → Nat} {n m d k i : Nat} {u u' : Vw} {nm fi co fr ti fo x : Nat}
def kPc : List Nat := [15005, 15008, 15009, 15010, 48, 49, 50, 51, 52, 53, 11000]
def kPm : List Nat := [17007, 17008, 17009, 17010, 17011, 78, 79, 80, 81, 82, 83]
def PSc (wc w : Wd) (d : Nat) (u : Vw) (nm fi co fr ti fo : Nat) : Prop := Fr kPc wc w ∧ FC d wc w ∧ KP dTc d u wc w ∧ gI w 10 d 0 = nI (u 0 1 + 1) ∧ gI w 48 d (u 0 1) = nI nm ∧ gI w 49 d (u 0 1) = nI fi ∧ gI w 50 d (u 0 1) = nI co ∧ gI w 51 d (u 0 1) = nI fr ∧ gI w 52 d (u 0 1) = nI ti ∧ gI w 53 d (u 0 1) = nI fo ∧
  ∀ j, u 0 1 < j → j < 6 → gI w 49 d j = nI 0 ∧ gI w 50 d j = nI 1 ∧ gI w 51 d j = nI 0 ∧ gI w 52 d j = nI 999 ∧ gI w 53 d j = nI 999
def PSm (wm w : Wd) (u : Vw) (nm fi co fr ti fo : Nat) : Prop := Fr kPm wm w ∧ FM wm w ∧ KP dTm 0 u wm w ∧ gI w 78 0 (6 + u 0 1) = nI nm ∧ gI w 79 0 (6 + u 0 1) = nI fi ∧ gI w 80 0 (6 + u 0 1) = nI co ∧ gI w 81 0 (6 + u 0 1) = nI fr ∧ gI w 82 0 (6 + u 0 1) = nI ti ∧ gI w 83 0 (6 + u 0 1) = nI fo
theorem PSc_ad (h : PSc wc w d u nm fi co fr ti fo) (f : Fr kAd w w') : PSc wc w' d u nm fi co fr ti fo := by
  obtain ⟨h1, h2, h3, h4, h5, h6, h7, h8, h9, h10, h11⟩ := h
  refine ⟨Fr_trans h1 (Fr_mono f rfl), FC_trans h2 (FC_ad f), KP_trans h3 (KP_Fr okTc f (by decide)), ?_, ?_, ?_, ?_, ?_, ?_, ?_, fun j p1 p2 => ?_⟩
  · rw [(f 10 d 0 rfl).1]; exact h4
  · rw [(f 48 d _ rfl).1]; exact h5
  · rw [(f 49 d _ rfl).1]; exact h6
  · rw [(f 50 d _ rfl).1]; exact h7
  · rw [(f 51 d _ rfl).1]; exact h8
  · rw [(f 52 d _ rfl).1]; exact h9
  · rw [(f 53 d _ rfl).1]; exact h10
  · rw [(f 49 d _ rfl).1, (f 50 d _ rfl).1, (f 51 d _ rfl).1, (f 52 d _ rfl).1, (f 53 d _ rfl).1]; exact h11 j p1 p2
theorem PSm_nu (h : PSm wm w u nm fi co fr ti fo) (f : Fr kNu w w') : PSm wm w' u nm fi co fr ti fo := by
  obtain ⟨h1, h2, h3, h5, h6, h7, h8, h9, h10⟩ := h
  refine ⟨Fr_trans h1 (Fr_mono f rfl), FM_trans h2 (FM_nm f), KP_trans h3 (KP_Fr okTm f (by decide)), ?_, ?_, ?_, ?_, ?_, ?_⟩
  · rw [(f 78 0 _ rfl).1]; exact h5
  · rw [(f 79 0 _ rfl).1]; exact h6
  · rw [(f 80 0 _ rfl).1]; exact h7
  · rw [(f 81 0 _ rfl).1]; exact h8
  · rw [(f 82 0 _ rfl).1]; exact h9
  · rw [(f 83 0 _ rfl).1]; exact h10
theorem PSc_49 (h : PSc wc w d u nm fi co fr ti fo) (x : Nat) : PSc wc (setI w 49 d (u 0 1) (nI x)) d u nm x co fr ti fo := by
  obtain ⟨h1, h2, h3, h4, h5, h6, h7, h8, h9, h10, h11⟩ := h
  refine ⟨Fr_setI h1 rfl, FC_setI h2 rfl (Or.inr rfl), KP_trans h3 (KP_set (c := 1) (o := 0) (by decide) (by omega)), by rw [gg_I, if_neg (by omega)]; exact h4, by rw [gg_I, if_neg (by omega)]; exact h5, by rw [gg_I, if_pos ⟨rfl, rfl, rfl⟩], by rw [gg_I, if_neg (by omega)]; exact h7, by rw [gg_I, if_neg (by omega)]; exact h8, by rw [gg_I, if_neg (by omega)]; exact h9, by rw [gg_I, if_neg (by omega)]; exact h10, fun j p1 p2 => ?_⟩
  obtain ⟨g1, g2, g3, g4, g5⟩ := h11 j p1 p2
  exact ⟨by rw [gg_I, if_neg (by omega)]; exact g1, by rw [gg_I, if_neg (by omega)]; exact g2, by rw [gg_I, if_neg (by omega)]; exact g3, by rw [gg_I, if_neg (by omega)]; exact g4, by rw [gg_I, if_neg (by omega)]; exact g5⟩
theorem PSm_79 (h : PSm wm w u nm fi co fr ti fo) (x : Nat) : PSm wm (setI w 79 0 (6 + u 0 1) (nI x)) u nm x co fr ti fo := by
  obtain ⟨h1, h2, h3, h5, h6, h7, h8, h9, h10⟩ := h
  exact ⟨Fr_setI h1 rfl, FM_setI h2 rfl (by show 6 ≤ _; omega), KP_trans h3 (KP_set (c := 1) (o := 6) (by decide) (Nat.le_refl _)), by rw [gg_I, if_neg (by omega)]; exact h5, by rw [gg_I, if_pos ⟨rfl, rfl, rfl⟩], by rw [gg_I, if_neg (by omega)]; exact h7, by rw [gg_I, if_neg (by omega)]; exact h8, by rw [gg_I, if_neg (by omega)]; exact h9, by rw [gg_I, if_neg (by omega)]; exact h10⟩
theorem PSc_50 (h : PSc wc w d u nm fi co fr ti fo) (x : Nat) : PSc wc (setI w 50 d (u 0 1) (nI x)) d u nm fi x fr ti fo := by
  obtain ⟨h1, h2, h3, h4, h5, h6, h7, h8, h9, h10, h11⟩ := h
  refine ⟨Fr_setI h1 rfl, FC_setI h2 rfl (Or.inr rfl), KP_trans h3 (KP_set (c := 1) (o := 0) (by decide) (by omega)), by rw [gg_I, if_neg (by omega)]; exact h4, by rw [gg_I, if_neg (by omega)]; exact h5, by rw [gg_I, if_neg (by omega)]; exact h6, by rw [gg_I, if_pos ⟨rfl, rfl, rfl⟩], by rw [gg_I, if_neg (by omega)]; exact h8, by rw [gg_I, if_neg (by omega)]; exact h9, by rw [gg_I, if_neg (by omega)]; exact h10, fun j p1 p2 => ?_⟩
  obtain ⟨g1, g2, g3, g4, g5⟩ := h11 j p1 p2
  exact ⟨by rw [gg_I, if_neg (by omega)]; exact g1, by rw [gg_I, if_neg (by omega)]; exact g2, by rw [gg_I, if_neg (by omega)]; exact g3, by rw [gg_I, if_neg (by omega)]; exact g4, by rw [gg_I, if_neg (by omega)]; exact g5⟩
theorem PSm_80 (h : PSm wm w u nm fi co fr ti fo) (x : Nat) : PSm wm (setI w 80 0 (6 + u 0 1) (nI x)) u nm fi x fr ti fo := by
  obtain ⟨h1, h2, h3, h5, h6, h7, h8, h9, h10⟩ := h
  exact ⟨Fr_setI h1 rfl, FM_setI h2 rfl (by show 6 ≤ _; omega), KP_trans h3 (KP_set (c := 1) (o := 6) (by decide) (Nat.le_refl _)), by rw [gg_I, if_neg (by omega)]; exact h5, by rw [gg_I, if_neg (by omega)]; exact h6, by rw [gg_I, if_pos ⟨rfl, rfl, rfl⟩], by rw [gg_I, if_neg (by omega)]; exact h8, by rw [gg_I, if_neg (by omega)]; exact h9, by rw [gg_I, if_neg (by omega)]; exact h10⟩
theorem PSc_51 (h : PSc wc w d u nm fi co fr ti fo) (x : Nat) : PSc wc (setI w 51 d (u 0 1) (nI x)) d u nm fi co x ti fo := by
  obtain ⟨h1, h2, h3, h4, h5, h6, h7, h8, h9, h10, h11⟩ := h
  refine ⟨Fr_setI h1 rfl, FC_setI h2 rfl (Or.inr rfl), KP_trans h3 (KP_set (c := 1) (o := 0) (by decide) (by omega)), by rw [gg_I, if_neg (by omega)]; exact h4, by rw [gg_I, if_neg (by omega)]; exact h5, by rw [gg_I, if_neg (by omega)]; exact h6, by rw [gg_I, if_neg (by omega)]; exact h7, by rw [gg_I, if_pos ⟨rfl, rfl, rfl⟩], by rw [gg_I, if_neg (by omega)]; exact h9, by rw [gg_I, if_neg (by omega)]; exact h10, fun j p1 p2 => ?_⟩
  obtain ⟨g1, g2, g3, g4, g5⟩ := h11 j p1 p2
  exact ⟨by rw [gg_I, if_neg (by omega)]; exact g1, by rw [gg_I, if_neg (by omega)]; exact g2, by rw [gg_I, if_neg (by omega)]; exact g3, by rw [gg_I, if_neg (by omega)]; exact g4, by rw [gg_I, if_neg (by omega)]; exact g5⟩
theorem PSm_81 (h : PSm wm w u nm fi co fr ti fo) (x : Nat) : PSm wm (setI w 81 0 (6 + u 0 1) (nI x)) u nm fi co x ti fo := by
  obtain ⟨h1, h2, h3, h5, h6, h7, h8, h9, h10⟩ := h
  exact ⟨Fr_setI h1 rfl, FM_setI h2 rfl (by show 6 ≤ _; omega), KP_trans h3 (KP_set (c := 1) (o := 6) (by decide) (Nat.le_refl _)), by rw [gg_I, if_neg (by omega)]; exact h5, by rw [gg_I, if_neg (by omega)]; exact h6, by rw [gg_I, if_neg (by omega)]; exact h7, by rw [gg_I, if_pos ⟨rfl, rfl, rfl⟩], by rw [gg_I, if_neg (by omega)]; exact h9, by rw [gg_I, if_neg (by omega)]; exact h10⟩
theorem PSc_52 (h : PSc wc w d u nm fi co fr ti fo) (x : Nat) : PSc wc (setI w 52 d (u 0 1) (nI x)) d u nm fi co fr x fo := by
  obtain ⟨h1, h2, h3, h4, h5, h6, h7, h8, h9, h10, h11⟩ := h
  refine ⟨Fr_setI h1 rfl, FC_setI h2 rfl (Or.inr rfl), KP_trans h3 (KP_set (c := 1) (o := 0) (by decide) (by omega)), by rw [gg_I, if_neg (by omega)]; exact h4, by rw [gg_I, if_neg (by omega)]; exact h5, by rw [gg_I, if_neg (by omega)]; exact h6, by rw [gg_I, if_neg (by omega)]; exact h7, by rw [gg_I, if_neg (by omega)]; exact h8, by rw [gg_I, if_pos ⟨rfl, rfl, rfl⟩], by rw [gg_I, if_neg (by omega)]; exact h10, fun j p1 p2 => ?_⟩
  obtain ⟨g1, g2, g3, g4, g5⟩ := h11 j p1 p2
  exact ⟨by rw [gg_I, if_neg (by omega)]; exact g1, by rw [gg_I, if_neg (by omega)]; exact g2, by rw [gg_I, if_neg (by omega)]; exact g3, by rw [gg_I, if_neg (by omega)]; exact g4, by rw [gg_I, if_neg (by omega)]; exact g5⟩
theorem PSm_82 (h : PSm wm w u nm fi co fr ti fo) (x : Nat) : PSm wm (setI w 82 0 (6 + u 0 1) (nI x)) u nm fi co fr x fo := by
  obtain ⟨h1, h2, h3, h5, h6, h7, h8, h9, h10⟩ := h
  exact ⟨Fr_setI h1 rfl, FM_setI h2 rfl (by show 6 ≤ _; omega), KP_trans h3 (KP_set (c := 1) (o := 6) (by decide) (Nat.le_refl _)), by rw [gg_I, if_neg (by omega)]; exact h5, by rw [gg_I, if_neg (by omega)]; exact h6, by rw [gg_I, if_neg (by omega)]; exact h7, by rw [gg_I, if_neg (by omega)]; exact h8, by rw [gg_I, if_pos ⟨rfl, rfl, rfl⟩], by rw [gg_I, if_neg (by omega)]; exact h10⟩
theorem PSc_53 (h : PSc wc w d u nm fi co fr ti fo) (x : Nat) : PSc wc (setI w 53 d (u 0 1) (nI x)) d u nm fi co fr ti x := by
  obtain ⟨h1, h2, h3, h4, h5, h6, h7, h8, h9, h10, h11⟩ := h
  refine ⟨Fr_setI h1 rfl, FC_setI h2 rfl (Or.inr rfl), KP_trans h3 (KP_set (c := 1) (o := 0) (by decide) (by omega)), by rw [gg_I, if_neg (by omega)]; exact h4, by rw [gg_I, if_neg (by omega)]; exact h5, by rw [gg_I, if_neg (by omega)]; exact h6, by rw [gg_I, if_neg (by omega)]; exact h7, by rw [gg_I, if_neg (by omega)]; exact h8, by rw [gg_I, if_neg (by omega)]; exact h9, by rw [gg_I, if_pos ⟨rfl, rfl, rfl⟩], fun j p1 p2 => ?_⟩
  obtain ⟨g1, g2, g3, g4, g5⟩ := h11 j p1 p2
  exact ⟨by rw [gg_I, if_neg (by omega)]; exact g1, by rw [gg_I, if_neg (by omega)]; exact g2, by rw [gg_I, if_neg (by omega)]; exact g3, by rw [gg_I, if_neg (by omega)]; exact g4, by rw [gg_I, if_neg (by omega)]; exact g5⟩
theorem PSm_83 (h : PSm wm w u nm fi co fr ti fo) (x : Nat) : PSm wm (setI w 83 0 (6 + u 0 1) (nI x)) u nm fi co fr ti x := by
  obtain ⟨h1, h2, h3, h5, h6, h7, h8, h9, h10⟩ := h
  exact ⟨Fr_setI h1 rfl, FM_setI h2 rfl (by show 6 ≤ _; omega), KP_trans h3 (KP_set (c := 1) (o := 6) (by decide) (Nat.le_refl _)), by rw [gg_I, if_neg (by omega)]; exact h5, by rw [gg_I, if_neg (by omega)]; exact h6, by rw [gg_I, if_neg (by omega)]; exact h7, by rw [gg_I, if_neg (by omega)]; exact h8, by rw [gg_I, if_neg (by omega)]; exact h9, by rw [gg_I, if_pos ⟨rfl, rfl, rfl⟩]⟩
def nwQ (nm fi co fr ti fo : Nat) : Nat → Nat := fun r => if r = 4 then nm else if r = 5 then co else if r = 6 then fr else if r = 7 then ti else if r = 8 then fo else fi
theorem PSc_D (D : DC wc d u) (h : PSc wc w d u nm fi co fr ti fo) : DC w d (app u 1 (nwQ nm fi co fr ti fo)) := by
  obtain ⟨f, _, h3, h4, h5, h6, h7, h8, h9, h10, h11⟩ := h
  obtain ⟨d1, d2, d3, d4, ⟨d5, d6, d7⟩, d8⟩ := D
  have g26 : ∀ j, app u 1 (nwQ nm fi co fr ti fo) 26 j = u 26 j := fun j => app_r (by omega) (by decide)
  have g3 : ∀ j, app u 1 (nwQ nm fi co fr ti fo) 3 j = u 3 j := fun j => app_r (by omega) (by decide)
  have a0 : app u 1 (nwQ nm fi co fr ti fo) 0 0 = u 0 0 := app_n (by omega)
  refine ⟨DR_app okTc d1 h3 ?_, DF_app d2 (DF_oth (l := kPc) f (by decide)) ?_, fun j hj => ?_, fun j p1 p2 => ?_, ⟨?_, ?_, ?_⟩, LC_e (app_law (by omega)) (LC_fr f d8)⟩
  · intro e he hc
    have : e = (48, 4, 1, 0) ∨ e = (49, 25, 1, 0) ∨ e = (50, 5, 1, 0) ∨ e = (51, 6, 1, 0) ∨ e = (52, 7, 1, 0) ∨ e = (53, 8, 1, 0) := (by decide : ∀ e, e ∈ dTc → e.2.2.1 = 1 → e = (48, 4, 1, 0) ∨ e = (49, 25, 1, 0) ∨ e = (50, 5, 1, 0) ∨ e = (51, 6, 1, 0) ∨ e = (52, 7, 1, 0) ∨ e = (53, 8, 1, 0)) e he hc
    rcases this with rfl | rfl | rfl | rfl | rfl | rfl
    · show gI _ 48 d (0 + u 0 1) = nI nm
      rw [Nat.zero_add]; exact h5
    · show gI _ 49 d (0 + u 0 1) = nI fi
      rw [Nat.zero_add]; exact h6
    · show gI _ 50 d (0 + u 0 1) = nI co
      rw [Nat.zero_add]; exact h7
    · show gI _ 51 d (0 + u 0 1) = nI fr
      rw [Nat.zero_add]; exact h8
    · show gI _ 52 d (0 + u 0 1) = nI ti
      rw [Nat.zero_add]; exact h9
    · show gI _ 53 d (0 + u 0 1) = nI fo
      rw [Nat.zero_add]; exact h10
  · intro e he hc
    have : e = (10, 0, 1) := (by decide : ∀ e, e ∈ dFc → e.2.2 = 1 → e = (10, 0, 1)) e he hc
    subst this
    exact h4
  · rw [a0] at hj
    rw [g3, (f 32 d j rfl).1]; exact d3 j hj
  · rw [app_c] at p1
    exact h11 j (by omega) p2
  · rw [g26, (f 8 d 16 rfl).1]; exact d5
  · rw [g26, (f 11 0 2 rfl).1]; exact d6
  · rw [g26, (f 11 0 3 rfl).1]; exact d7
theorem PSm_D (D : DM wm u) (h : PSm wm w u nm fi co fr ti fo) : DM (setI w 16 0 21 (nI (u 0 1 + 1))) (app u 1 (nwQ nm fi co fr ti fo)) := by
  obtain ⟨f, _, h3, h5, h6, h7, h8, h9, h10⟩ := h
  have f2 : Fr [17021] w (setI w 16 0 21 (nI (u 0 1 + 1))) := Fr_setI (Fr_refl _ _) rfl
  have F : Fr [17007, 17008, 17009, 17010, 17011, 78, 79, 80, 81, 82, 83, 17021] wm (setI w 16 0 21 (nI (u 0 1 + 1))) := Fr_trans (Fr_mono f rfl) (Fr_mono f2 rfl)
  refine DM_app F D (by omega) (by decide) (by decide) (KP_trans h3 (KP_Fr okTm f2 (by decide))) ?_ ?_
  · intro e he hc
    have : e = (78, 4, 1, 6) ∨ e = (79, 25, 1, 6) ∨ e = (80, 5, 1, 6) ∨ e = (81, 6, 1, 6) ∨ e = (82, 7, 1, 6) ∨ e = (83, 8, 1, 6) := (by decide : ∀ e, e ∈ dTm → e.2.2.1 = 1 → e = (78, 4, 1, 6) ∨ e = (79, 25, 1, 6) ∨ e = (80, 5, 1, 6) ∨ e = (81, 6, 1, 6) ∨ e = (82, 7, 1, 6) ∨ e = (83, 8, 1, 6)) e he hc
    rcases this with rfl | rfl | rfl | rfl | rfl | rfl
    · show gI _ 78 0 (6 + u 0 1) = nI nm
      rw [(f2 78 0 _ rfl).1]; exact h5
    · show gI _ 79 0 (6 + u 0 1) = nI fi
      rw [(f2 79 0 _ rfl).1]; exact h6
    · show gI _ 80 0 (6 + u 0 1) = nI co
      rw [(f2 80 0 _ rfl).1]; exact h7
    · show gI _ 81 0 (6 + u 0 1) = nI fr
      rw [(f2 81 0 _ rfl).1]; exact h8
    · show gI _ 82 0 (6 + u 0 1) = nI ti
      rw [(f2 82 0 _ rfl).1]; exact h9
    · show gI _ 83 0 (6 + u 0 1) = nI fo
      rw [(f2 83 0 _ rfl).1]; exact h10
  · intro e he hc
    have : e = (16, 21, 1) := (by decide : ∀ e, e ∈ dFm → e.2.2 = 1 → e = (16, 21, 1)) e he hc
    subst this
    show gI _ 16 0 21 = nI (u 0 1 + 1)
    rw [gg_I, if_pos ⟨rfl, rfl, rfl⟩]
theorem WU_pers (hU : WU u) (h6 : u 0 1 < 6) (h1 : nm < 2 ^ 30) (h2 : fi < 256) (h3 : co ≤ 99) (h4 : fr ≤ 999) (h5 : ti ≤ 999) (h7 : fo ≤ 999) : WU (app u 1 (nwQ nm fi co fr ti fo)) := by
  refine WU_app hU (by omega) ⟨by omega, by omega, by omega, by omega⟩ (fun r hg => ?_)
  have hr := (grp_inv r).2.1 hg
  have : r = 4 ∨ r = 5 ∨ r = 6 ∨ r = 7 ∨ r = 8 ∨ r = 25 := by omega
  rcases this with rfl | rfl | rfl | rfl | rfl | rfl
  · exact h1
  · show co < bdR (u 0 0) 5
    have : bdR (u 0 0) 5 = 100 := rfl
    omega
  · show fr < bdR (u 0 0) 6
    have : bdR (u 0 0) 6 = 1000 := rfl
    omega
  · show ti < bdR (u 0 0) 7
    have : bdR (u 0 0) 7 = 1000 := rfl
    omega
  · show fo < bdR (u 0 0) 8
    have : bdR (u 0 0) 8 = 1000 := rfl
    omega
  · exact h2
theorem FC_PS (h : PSc wc w d u nm fi co fr ti fo) : FC d wc w := h.2.1
theorem FM_PS (h : PSm wm w u nm fi co fr ti fo) : FM wm w := h.2.1
theorem o4_4 : (nI 4 = (4 : Int32)) = True := eq_true rfl
theorem o4_5 : (nI 4 = (5 : Int32)) = False := eq_false (by decide)
theorem o4_6 : (nI 4 = (6 : Int32)) = False := eq_false (by decide)
theorem o5_4 : (nI 5 = (4 : Int32)) = False := eq_false (by decide)
theorem o5_5 : (nI 5 = (5 : Int32)) = True := eq_true rfl
theorem o5_6 : (nI 5 = (6 : Int32)) = False := eq_false (by decide)
theorem o6_4 : (nI 6 = (4 : Int32)) = False := eq_false (by decide)
theorem o6_5 : (nI 6 = (5 : Int32)) = False := eq_false (by decide)
theorem o6_6 : (nI 6 = (6 : Int32)) = True := eq_true rfl
theorem o7_4 : (nI 7 = (4 : Int32)) = False := eq_false (by decide)
theorem o7_5 : (nI 7 = (5 : Int32)) = False := eq_false (by decide)
theorem o7_6 : (nI 7 = (6 : Int32)) = False := eq_false (by decide)
theorem o10_9 : (nI 10 = (9 : Int32)) = False := eq_false (by decide)
theorem o10_10 : (nI 10 = (10 : Int32)) = True := eq_true rfl
theorem o10_11 : (nI 10 = (11 : Int32)) = False := eq_false (by decide)
theorem o10_12 : (nI 10 = (12 : Int32)) = False := eq_false (by decide)
theorem o10_13 : (nI 10 = (13 : Int32)) = False := eq_false (by decide)
theorem o11_9 : (nI 11 = (9 : Int32)) = False := eq_false (by decide)
theorem o11_10 : (nI 11 = (10 : Int32)) = False := eq_false (by decide)
theorem o11_11 : (nI 11 = (11 : Int32)) = True := eq_true rfl
theorem o11_12 : (nI 11 = (12 : Int32)) = False := eq_false (by decide)
theorem o11_13 : (nI 11 = (13 : Int32)) = False := eq_false (by decide)
theorem o12_9 : (nI 12 = (9 : Int32)) = False := eq_false (by decide)
theorem o12_10 : (nI 12 = (10 : Int32)) = False := eq_false (by decide)
theorem o12_11 : (nI 12 = (11 : Int32)) = False := eq_false (by decide)
theorem o12_12 : (nI 12 = (12 : Int32)) = True := eq_true rfl
theorem o12_13 : (nI 12 = (13 : Int32)) = False := eq_false (by decide)
theorem o13_9 : (nI 13 = (9 : Int32)) = False := eq_false (by decide)
theorem o13_10 : (nI 13 = (10 : Int32)) = False := eq_false (by decide)
theorem o13_11 : (nI 13 = (11 : Int32)) = False := eq_false (by decide)
theorem o13_12 : (nI 13 = (12 : Int32)) = False := eq_false (by decide)
theorem o13_13 : (nI 13 = (13 : Int32)) = True := eq_true rfl
theorem c_opt0 (hj : JC w b n m d k) (h : PSc wc w d u nm fi co fr ti fo) (h6 : u 0 1 < 6) (hfr : fr ≤ 999) (hti : ti ≤ 999) (hz : nmF b n k 0 99 = 0) : Ok (pX7_readOption N (nI 4) (nI (u 0 1)) w) (fun y => y.1 = (1 : Int32) ∧ JC y.2 b n m d (k + 1) ∧ PSc wc y.2 d u nm fi (tV b n k) fr ti fo) := by
  have ed := hj.2.2.2.2
  have hr := nmF_rng hz
  have q3 : (nI (tV b n k) < 0) = False := eq_false (nz_ge0 (by omega))
  simp only [pX7_readOption, ↓o4_4, ↓o4_5, ↓o4_6, ↓reduceIte, callW_eq]
  refine ok_bind (c_num (lo := 0) (hi := 99) hj (by omega) (by omega) hz) ?_
  rintro ⟨y, w2⟩ ⟨e, f2, j2⟩
  simp only at e f2 j2
  subst e
  have s1 : stI w2 50 (gR w 11 0 1) (nI (u 0 1)) 6 (nI (tV b n k)) = some (setI w2 50 d (u 0 1) (nI (tV b n k))) := by rw [ed]; exact stn (by omega) (by omega)
  simp only [↓bnd s1, ↓q3, ↓reduceIte]
  exact ok_some ⟨rfl, JC_fr (l := [50]) (Fr_setI (Fr_refl _ _) rfl) j2, PSc_50 (PSc_ad h f2) _⟩
theorem c_opt0F (hj : JC w b n m d k) (h : PSc wc w d u nm fi co fr ti fo) (h6 : u 0 1 < 6) (hfr : fr ≤ 999) (hti : ti ≤ 999) (hz : nmF b n k 0 99 ≠ 0) : Ok (pX7_readOption N (nI 4) (nI (u 0 1)) w) (fun y => y.1 = (0 : Int32) ∧ FC d wc y.2 ∧ gI y.2 11 0 8 = nI (nmF b n k 0 99) ∧ gI y.2 11 0 9 = nI (tP b n k)) := by
  have ed := hj.2.2.2.2
  simp only [pX7_readOption, ↓o4_4, ↓o4_5, ↓o4_6, ↓reduceIte, callW_eq]
  refine ok_bind (c_numF (lo := 0) (hi := 99) hj (by omega) (by omega) hz) ?_
  rintro ⟨y, w2⟩ ⟨e, f2⟩
  simp only at e f2
  subst e
  have s1 : stI w2 50 (gR w 11 0 1) (nI (u 0 1)) 6 (-1 : Int32) = some (setI w2 50 d (u 0 1) (-1 : Int32)) := by rw [ed]; exact stn (by omega) (by omega)
  simp only [↓bnd s1, ↓m1_l0, ↓reduceIte]
  have B := flC_B (FC_PS h) f2
  exact ok_some ⟨rfl, FC_setI B.1 rfl (Or.inr rfl), by rw [gg_I, if_neg (by omega)]; exact B.2.1, by rw [gg_I, if_neg (by omega)]; exact B.2.2⟩
theorem m_opt0 (hN : 1000 ≤ N) (hj : JM w b n k) (h : PSm wm w u nm fi co fr ti fo) (h6 : u 0 1 < 6) (hfr : fr ≤ 999) (hti : ti ≤ 999) (hz : nmF b n k 0 99 = 0) (Kc : Int32 → Int32 → Wd → Option (Int32 × Wd)) (v2 : Int32) : ∃ y, fX12_personLine_106 N Kc (nI (6 + u 0 1)) v2 (nI 10) (nI 0) w = Kc (nI (6 + u 0 1)) v2 y ∧ JM y b n (k + 1) ∧ PSm wm y u nm fi (tV b n k) fr ti fo := by
  obtain ⟨⟨y, w2⟩, e2, ey, f2, j2, g2⟩ := m_num (N := N) (lo := 0) (hi := 99) hj hN (by omega) (by omega) hz
  simp only at ey f2 j2 g2
  subst ey
  have e2' : pX12_number N (nI 0) (99 : Int32) w = some ((1 : Int32), w2) := e2
  have p2 := PSm_nu h f2
  have g0 : gI w2 16 0 11 = nI (tV b n k) := by exact g2
  have s0 : stI w2 80 0 (nI (6 + u 0 1)) 12 (gI w2 16 0 11) = some (setI w2 80 0 (6 + u 0 1) (nI (tV b n k))) := by rw [g0]; exact stn (by omega) (by omega)
  have l1q : ldI (setI w2 80 0 (6 + u 0 1) (nI (tV b n k))) 81 0 (nI (6 + u 0 1)) 12 = some (nI fr) := by rw [ldn (by omega) (by omega), gg_I, if_neg (by omega)]; exact congrArg some p2.2.2.2.2.2.2.1
  have s1 : stI (setI w2 80 0 (6 + u 0 1) (nI (tV b n k))) 81 0 (nI (6 + u 0 1)) 12 (nI fr) = some (setI (setI w2 80 0 (6 + u 0 1) (nI (tV b n k))) 81 0 (6 + u 0 1) (nI fr)) := stn (by omega) (by omega)
  have l2q : ldI (setI (setI w2 80 0 (6 + u 0 1) (nI (tV b n k))) 81 0 (6 + u 0 1) (nI fr)) 82 0 (nI (6 + u 0 1)) 12 = some (nI ti) := by rw [ldn (by omega) (by omega), gg_I, if_neg (by omega), gg_I, if_neg (by omega)]; exact congrArg some p2.2.2.2.2.2.2.2.1
  have s2 : stI (setI (setI w2 80 0 (6 + u 0 1) (nI (tV b n k))) 81 0 (6 + u 0 1) (nI fr)) 82 0 (nI (6 + u 0 1)) 12 (nI ti) = some (setI (setI (setI w2 80 0 (6 + u 0 1) (nI (tV b n k))) 81 0 (6 + u 0 1) (nI fr)) 82 0 (6 + u 0 1) (nI ti)) := stn (by omega) (by omega)
  have l3q : ldI (setI (setI (setI w2 80 0 (6 + u 0 1) (nI (tV b n k))) 81 0 (6 + u 0 1) (nI fr)) 82 0 (6 + u 0 1) (nI ti)) 83 0 (nI (6 + u 0 1)) 12 = some (nI fo) := by rw [ldn (by omega) (by omega), gg_I, if_neg (by omega), gg_I, if_neg (by omega), gg_I, if_neg (by omega)]; exact congrArg some p2.2.2.2.2.2.2.2.2
  have s3 : stI (setI (setI (setI w2 80 0 (6 + u 0 1) (nI (tV b n k))) 81 0 (6 + u 0 1) (nI fr)) 82 0 (6 + u 0 1) (nI ti)) 83 0 (nI (6 + u 0 1)) 12 (nI fo) = some (setI (setI (setI (setI w2 80 0 (6 + u 0 1) (nI (tV b n k))) 81 0 (6 + u 0 1) (nI fr)) 82 0 (6 + u 0 1) (nI ti)) 83 0 (6 + u 0 1) (nI fo)) := stn (by omega) (by omega)
  have P5 : PSm wm (setI (setI (setI (setI w2 80 0 (6 + u 0 1) (nI (tV b n k))) 81 0 (6 + u 0 1) (nI fr)) 82 0 (6 + u 0 1) (nI ti)) 83 0 (6 + u 0 1) (nI fo)) u nm fi (tV b n k) fr ti fo := PSm_83 (PSm_82 (PSm_81 (PSm_80 p2 _) _) _) _
  have F5 : Fr [80, 81, 82, 83] w2 (setI (setI (setI (setI w2 80 0 (6 + u 0 1) (nI (tV b n k))) 81 0 (6 + u 0 1) (nI fr)) 82 0 (6 + u 0 1) (nI ti)) 83 0 (6 + u 0 1) (nI fo)) := Fr_setI (Fr_setI (Fr_setI (Fr_setI (Fr_refl _ _) rfl) rfl) rfl) rfl
  refine ⟨(setI (setI (setI (setI w2 80 0 (6 + u 0 1) (nI (tV b n k))) 81 0 (6 + u 0 1) (nI fr)) 82 0 (6 + u 0 1) (nI ti)) 83 0 (6 + u 0 1) (nI fo)), ?_, JM_fr F5 j2, P5⟩
  simp only [fX12_personLine_106, ↓o10_10, ↓o10_11, ↓o10_12, ↓o10_13, fX12_personLine_121, ↓cbnd e2', ↓n1_0, fX12_personLine_142, fX12_personLine_156, fX12_personLine_170, ↓bnd s0, ↓bnd l1q, ↓bnd s1, ↓bnd l2q, ↓bnd s2, ↓bnd l3q, ↓bnd s3, ↓reduceIte, callW_eq]
theorem m_opt0F (hj : JM w b n k) (h : PSm wm w u nm fi co fr ti fo) (h6 : u 0 1 < 6) (hfr : fr ≤ 999) (hti : ti ≤ 999) (hz : nmF b n k 0 99 ≠ 0) (Kc : Int32 → Int32 → Wd → Option (Int32 × Wd)) (v2 : Int32) : Ok (fX12_personLine_106 N Kc (nI (6 + u 0 1)) v2 (nI 10) (nI 0) w) (fun y => y.1 = (0 : Int32) ∧ FM wm y.2 ∧ gI y.2 16 0 4 = nI (nmF b n k 0 99) ∧ gI y.2 16 0 5 = nI (tP b n k)) := by
  simp only [fX12_personLine_106, ↓o10_10, ↓o10_11, ↓o10_12, ↓o10_13, fX12_personLine_121, ↓reduceIte, callW_eq]
  refine ok_bind (m_numF (lo := 0) (hi := 99) hj (by omega) (by omega) hz) ?_
  rintro ⟨y, w2⟩ ⟨e, f2⟩
  simp only at e f2
  subst e
  simp only [↓n0_0, ↓reduceIte]
  exact ok_some ⟨rfl, flM_B (FM_PS h) f2⟩
theorem c_opt1 (hj : JC w b n m d k) (h : PSc wc w d u nm fi co fr ti fo) (h6 : u 0 1 < 6) (hfr : fr ≤ 999) (hti : ti ≤ 999) (hz : nmF b n k 0 ti = 0) : Ok (pX7_readOption N (nI 5) (nI (u 0 1)) w) (fun y => y.1 = (1 : Int32) ∧ JC y.2 b n m d (k + 1) ∧ PSc wc y.2 d u nm fi co (tV b n k) ti fo) := by
  have ed := hj.2.2.2.2
  have hr := nmF_rng hz
  have q3 : (nI (tV b n k) < 0) = False := eq_false (nz_ge0 (by omega))
  have l1 : ldI w 52 (gR w 11 0 1) (nI (u 0 1)) 6 = some (nI ti) := by rw [ed, ldn (by omega) (by omega)]; exact congrArg some h.2.2.2.2.2.2.2.2.1
  simp only [pX7_readOption, ↓o5_4, ↓o5_5, ↓o5_6, ↓bnd l1, ↓reduceIte, callW_eq]
  refine ok_bind (c_num (lo := 0) (hi := ti) hj (by omega) (by omega) hz) ?_
  rintro ⟨y, w2⟩ ⟨e, f2, j2⟩
  simp only at e f2 j2
  subst e
  have s1 : stI w2 51 (gR w 11 0 1) (nI (u 0 1)) 6 (nI (tV b n k)) = some (setI w2 51 d (u 0 1) (nI (tV b n k))) := by rw [ed]; exact stn (by omega) (by omega)
  simp only [↓bnd s1, ↓q3, ↓reduceIte]
  exact ok_some ⟨rfl, JC_fr (l := [51]) (Fr_setI (Fr_refl _ _) rfl) j2, PSc_51 (PSc_ad h f2) _⟩
theorem c_opt1F (hj : JC w b n m d k) (h : PSc wc w d u nm fi co fr ti fo) (h6 : u 0 1 < 6) (hfr : fr ≤ 999) (hti : ti ≤ 999) (hz : nmF b n k 0 ti ≠ 0) : Ok (pX7_readOption N (nI 5) (nI (u 0 1)) w) (fun y => y.1 = (0 : Int32) ∧ FC d wc y.2 ∧ gI y.2 11 0 8 = nI (nmF b n k 0 ti) ∧ gI y.2 11 0 9 = nI (tP b n k)) := by
  have ed := hj.2.2.2.2
  have l1 : ldI w 52 (gR w 11 0 1) (nI (u 0 1)) 6 = some (nI ti) := by rw [ed, ldn (by omega) (by omega)]; exact congrArg some h.2.2.2.2.2.2.2.2.1
  simp only [pX7_readOption, ↓o5_4, ↓o5_5, ↓o5_6, ↓bnd l1, ↓reduceIte, callW_eq]
  refine ok_bind (c_numF (lo := 0) (hi := ti) hj (by omega) (by omega) hz) ?_
  rintro ⟨y, w2⟩ ⟨e, f2⟩
  simp only at e f2
  subst e
  have s1 : stI w2 51 (gR w 11 0 1) (nI (u 0 1)) 6 (-1 : Int32) = some (setI w2 51 d (u 0 1) (-1 : Int32)) := by rw [ed]; exact stn (by omega) (by omega)
  simp only [↓bnd s1, ↓m1_l0, ↓reduceIte]
  have B := flC_B (FC_PS h) f2
  exact ok_some ⟨rfl, FC_setI B.1 rfl (Or.inr rfl), by rw [gg_I, if_neg (by omega)]; exact B.2.1, by rw [gg_I, if_neg (by omega)]; exact B.2.2⟩
theorem m_opt1 (hN : 1000 ≤ N) (hj : JM w b n k) (h : PSm wm w u nm fi co fr ti fo) (h6 : u 0 1 < 6) (hfr : fr ≤ 999) (hti : ti ≤ 999) (hz : nmF b n k 0 ti = 0) (Kc : Int32 → Int32 → Wd → Option (Int32 × Wd)) (v2 : Int32) : ∃ y, fX12_personLine_106 N Kc (nI (6 + u 0 1)) v2 (nI 11) (nI 0) w = Kc (nI (6 + u 0 1)) v2 y ∧ JM y b n (k + 1) ∧ PSm wm y u nm fi co (tV b n k) ti fo := by
  have l1 : ldI w 82 0 (nI (6 + u 0 1)) 12 = some (nI ti) := by rw [ldn (by omega) (by omega)]; exact congrArg some h.2.2.2.2.2.2.2.1
  obtain ⟨⟨y, w2⟩, e2, ey, f2, j2, g2⟩ := m_num (N := N) (lo := 0) (hi := ti) hj hN (by omega) (by omega) hz
  simp only at ey f2 j2 g2
  subst ey
  have e2' : pX12_number N (nI 0) (nI ti) w = some ((1 : Int32), w2) := e2
  have p2 := PSm_nu h f2
  have l0q : ldI w2 80 0 (nI (6 + u 0 1)) 12 = some (nI co) := by rw [ldn (by omega) (by omega)]; exact congrArg some p2.2.2.2.2.2.1
  have s0 : stI w2 80 0 (nI (6 + u 0 1)) 12 (nI co) = some (setI w2 80 0 (6 + u 0 1) (nI co)) := stn (by omega) (by omega)
  have g1 : gI (setI w2 80 0 (6 + u 0 1) (nI co)) 16 0 11 = nI (tV b n k) := by rw [gg_I, if_neg (by omega)]; exact g2
  have s1 : stI (setI w2 80 0 (6 + u 0 1) (nI co)) 81 0 (nI (6 + u 0 1)) 12 (gI (setI w2 80 0 (6 + u 0 1) (nI co)) 16 0 11) = some (setI (setI w2 80 0 (6 + u 0 1) (nI co)) 81 0 (6 + u 0 1) (nI (tV b n k))) := by rw [g1]; exact stn (by omega) (by omega)
  have l2q : ldI (setI (setI w2 80 0 (6 + u 0 1) (nI co)) 81 0 (6 + u 0 1) (nI (tV b n k))) 82 0 (nI (6 + u 0 1)) 12 = some (nI ti) := by rw [ldn (by omega) (by omega), gg_I, if_neg (by omega), gg_I, if_neg (by omega)]; exact congrArg some p2.2.2.2.2.2.2.2.1
  have s2 : stI (setI (setI w2 80 0 (6 + u 0 1) (nI co)) 81 0 (6 + u 0 1) (nI (tV b n k))) 82 0 (nI (6 + u 0 1)) 12 (nI ti) = some (setI (setI (setI w2 80 0 (6 + u 0 1) (nI co)) 81 0 (6 + u 0 1) (nI (tV b n k))) 82 0 (6 + u 0 1) (nI ti)) := stn (by omega) (by omega)
  have l3q : ldI (setI (setI (setI w2 80 0 (6 + u 0 1) (nI co)) 81 0 (6 + u 0 1) (nI (tV b n k))) 82 0 (6 + u 0 1) (nI ti)) 83 0 (nI (6 + u 0 1)) 12 = some (nI fo) := by rw [ldn (by omega) (by omega), gg_I, if_neg (by omega), gg_I, if_neg (by omega), gg_I, if_neg (by omega)]; exact congrArg some p2.2.2.2.2.2.2.2.2
  have s3 : stI (setI (setI (setI w2 80 0 (6 + u 0 1) (nI co)) 81 0 (6 + u 0 1) (nI (tV b n k))) 82 0 (6 + u 0 1) (nI ti)) 83 0 (nI (6 + u 0 1)) 12 (nI fo) = some (setI (setI (setI (setI w2 80 0 (6 + u 0 1) (nI co)) 81 0 (6 + u 0 1) (nI (tV b n k))) 82 0 (6 + u 0 1) (nI ti)) 83 0 (6 + u 0 1) (nI fo)) := stn (by omega) (by omega)
  have P5 : PSm wm (setI (setI (setI (setI w2 80 0 (6 + u 0 1) (nI co)) 81 0 (6 + u 0 1) (nI (tV b n k))) 82 0 (6 + u 0 1) (nI ti)) 83 0 (6 + u 0 1) (nI fo)) u nm fi co (tV b n k) ti fo := PSm_83 (PSm_82 (PSm_81 (PSm_80 p2 _) _) _) _
  have F5 : Fr [80, 81, 82, 83] w2 (setI (setI (setI (setI w2 80 0 (6 + u 0 1) (nI co)) 81 0 (6 + u 0 1) (nI (tV b n k))) 82 0 (6 + u 0 1) (nI ti)) 83 0 (6 + u 0 1) (nI fo)) := Fr_setI (Fr_setI (Fr_setI (Fr_setI (Fr_refl _ _) rfl) rfl) rfl) rfl
  refine ⟨(setI (setI (setI (setI w2 80 0 (6 + u 0 1) (nI co)) 81 0 (6 + u 0 1) (nI (tV b n k))) 82 0 (6 + u 0 1) (nI ti)) 83 0 (6 + u 0 1) (nI fo)), ?_, JM_fr F5 j2, P5⟩
  simp only [fX12_personLine_106, ↓o11_10, ↓o11_11, ↓o11_12, ↓o11_13, ↓bnd l1, fX12_personLine_121, ↓cbnd e2', ↓n1_0, fX12_personLine_142, fX12_personLine_156, fX12_personLine_170, ↓bnd l0q, ↓bnd s0, ↓bnd s1, ↓bnd l2q, ↓bnd s2, ↓bnd l3q, ↓bnd s3, ↓reduceIte, callW_eq]
theorem m_opt1F (hj : JM w b n k) (h : PSm wm w u nm fi co fr ti fo) (h6 : u 0 1 < 6) (hfr : fr ≤ 999) (hti : ti ≤ 999) (hz : nmF b n k 0 ti ≠ 0) (Kc : Int32 → Int32 → Wd → Option (Int32 × Wd)) (v2 : Int32) : Ok (fX12_personLine_106 N Kc (nI (6 + u 0 1)) v2 (nI 11) (nI 0) w) (fun y => y.1 = (0 : Int32) ∧ FM wm y.2 ∧ gI y.2 16 0 4 = nI (nmF b n k 0 ti) ∧ gI y.2 16 0 5 = nI (tP b n k)) := by
  have l1 : ldI w 82 0 (nI (6 + u 0 1)) 12 = some (nI ti) := by rw [ldn (by omega) (by omega)]; exact congrArg some h.2.2.2.2.2.2.2.1
  simp only [fX12_personLine_106, ↓o11_10, ↓o11_11, ↓o11_12, ↓o11_13, ↓bnd l1, fX12_personLine_121, ↓reduceIte, callW_eq]
  refine ok_bind (m_numF (lo := 0) (hi := ti) hj (by omega) (by omega) hz) ?_
  rintro ⟨y, w2⟩ ⟨e, f2⟩
  simp only at e f2
  subst e
  simp only [↓n0_0, ↓reduceIte]
  exact ok_some ⟨rfl, flM_B (FM_PS h) f2⟩
theorem c_opt2 (hj : JC w b n m d k) (h : PSc wc w d u nm fi co fr ti fo) (h6 : u 0 1 < 6) (hfr : fr ≤ 999) (hti : ti ≤ 999) (hz : nmF b n k fr 999 = 0) : Ok (pX7_readOption N (nI 6) (nI (u 0 1)) w) (fun y => y.1 = (1 : Int32) ∧ JC y.2 b n m d (k + 1) ∧ PSc wc y.2 d u nm fi co fr (tV b n k) fo) := by
  have ed := hj.2.2.2.2
  have hr := nmF_rng hz
  have q3 : (nI (tV b n k) < 0) = False := eq_false (nz_ge0 (by omega))
  have l1 : ldI w 51 (gR w 11 0 1) (nI (u 0 1)) 6 = some (nI fr) := by rw [ed, ldn (by omega) (by omega)]; exact congrArg some h.2.2.2.2.2.2.2.1
  simp only [pX7_readOption, ↓o6_4, ↓o6_5, ↓o6_6, ↓bnd l1, ↓reduceIte, callW_eq]
  refine ok_bind (c_num (lo := fr) (hi := 999) hj (by omega) (by omega) hz) ?_
  rintro ⟨y, w2⟩ ⟨e, f2, j2⟩
  simp only at e f2 j2
  subst e
  have s1 : stI w2 52 (gR w 11 0 1) (nI (u 0 1)) 6 (nI (tV b n k)) = some (setI w2 52 d (u 0 1) (nI (tV b n k))) := by rw [ed]; exact stn (by omega) (by omega)
  simp only [↓bnd s1, ↓q3, ↓reduceIte]
  exact ok_some ⟨rfl, JC_fr (l := [52]) (Fr_setI (Fr_refl _ _) rfl) j2, PSc_52 (PSc_ad h f2) _⟩
theorem c_opt2F (hj : JC w b n m d k) (h : PSc wc w d u nm fi co fr ti fo) (h6 : u 0 1 < 6) (hfr : fr ≤ 999) (hti : ti ≤ 999) (hz : nmF b n k fr 999 ≠ 0) : Ok (pX7_readOption N (nI 6) (nI (u 0 1)) w) (fun y => y.1 = (0 : Int32) ∧ FC d wc y.2 ∧ gI y.2 11 0 8 = nI (nmF b n k fr 999) ∧ gI y.2 11 0 9 = nI (tP b n k)) := by
  have ed := hj.2.2.2.2
  have l1 : ldI w 51 (gR w 11 0 1) (nI (u 0 1)) 6 = some (nI fr) := by rw [ed, ldn (by omega) (by omega)]; exact congrArg some h.2.2.2.2.2.2.2.1
  simp only [pX7_readOption, ↓o6_4, ↓o6_5, ↓o6_6, ↓bnd l1, ↓reduceIte, callW_eq]
  refine ok_bind (c_numF (lo := fr) (hi := 999) hj (by omega) (by omega) hz) ?_
  rintro ⟨y, w2⟩ ⟨e, f2⟩
  simp only at e f2
  subst e
  have s1 : stI w2 52 (gR w 11 0 1) (nI (u 0 1)) 6 (-1 : Int32) = some (setI w2 52 d (u 0 1) (-1 : Int32)) := by rw [ed]; exact stn (by omega) (by omega)
  simp only [↓bnd s1, ↓m1_l0, ↓reduceIte]
  have B := flC_B (FC_PS h) f2
  exact ok_some ⟨rfl, FC_setI B.1 rfl (Or.inr rfl), by rw [gg_I, if_neg (by omega)]; exact B.2.1, by rw [gg_I, if_neg (by omega)]; exact B.2.2⟩
theorem m_opt2 (hN : 1000 ≤ N) (hj : JM w b n k) (h : PSm wm w u nm fi co fr ti fo) (h6 : u 0 1 < 6) (hfr : fr ≤ 999) (hti : ti ≤ 999) (hz : nmF b n k fr 999 = 0) (Kc : Int32 → Int32 → Wd → Option (Int32 × Wd)) (v2 : Int32) : ∃ y, fX12_personLine_106 N Kc (nI (6 + u 0 1)) v2 (nI 12) (nI fr) w = Kc (nI (6 + u 0 1)) v2 y ∧ JM y b n (k + 1) ∧ PSm wm y u nm fi co fr (tV b n k) fo := by
  obtain ⟨⟨y, w2⟩, e2, ey, f2, j2, g2⟩ := m_num (N := N) (lo := fr) (hi := 999) hj hN (by omega) (by omega) hz
  simp only at ey f2 j2 g2
  subst ey
  have e2' : pX12_number N (nI fr) (999 : Int32) w = some ((1 : Int32), w2) := e2
  have p2 := PSm_nu h f2
  have l0q : ldI w2 80 0 (nI (6 + u 0 1)) 12 = some (nI co) := by rw [ldn (by omega) (by omega)]; exact congrArg some p2.2.2.2.2.2.1
  have s0 : stI w2 80 0 (nI (6 + u 0 1)) 12 (nI co) = some (setI w2 80 0 (6 + u 0 1) (nI co)) := stn (by omega) (by omega)
  have l1q : ldI (setI w2 80 0 (6 + u 0 1) (nI co)) 81 0 (nI (6 + u 0 1)) 12 = some (nI fr) := by rw [ldn (by omega) (by omega), gg_I, if_neg (by omega)]; exact congrArg some p2.2.2.2.2.2.2.1
  have s1 : stI (setI w2 80 0 (6 + u 0 1) (nI co)) 81 0 (nI (6 + u 0 1)) 12 (nI fr) = some (setI (setI w2 80 0 (6 + u 0 1) (nI co)) 81 0 (6 + u 0 1) (nI fr)) := stn (by omega) (by omega)
  have g2 : gI (setI (setI w2 80 0 (6 + u 0 1) (nI co)) 81 0 (6 + u 0 1) (nI fr)) 16 0 11 = nI (tV b n k) := by rw [gg_I, if_neg (by omega), gg_I, if_neg (by omega)]; exact g2
  have s2 : stI (setI (setI w2 80 0 (6 + u 0 1) (nI co)) 81 0 (6 + u 0 1) (nI fr)) 82 0 (nI (6 + u 0 1)) 12 (gI (setI (setI w2 80 0 (6 + u 0 1) (nI co)) 81 0 (6 + u 0 1) (nI fr)) 16 0 11) = some (setI (setI (setI w2 80 0 (6 + u 0 1) (nI co)) 81 0 (6 + u 0 1) (nI fr)) 82 0 (6 + u 0 1) (nI (tV b n k))) := by rw [g2]; exact stn (by omega) (by omega)
  have l3q : ldI (setI (setI (setI w2 80 0 (6 + u 0 1) (nI co)) 81 0 (6 + u 0 1) (nI fr)) 82 0 (6 + u 0 1) (nI (tV b n k))) 83 0 (nI (6 + u 0 1)) 12 = some (nI fo) := by rw [ldn (by omega) (by omega), gg_I, if_neg (by omega), gg_I, if_neg (by omega), gg_I, if_neg (by omega)]; exact congrArg some p2.2.2.2.2.2.2.2.2
  have s3 : stI (setI (setI (setI w2 80 0 (6 + u 0 1) (nI co)) 81 0 (6 + u 0 1) (nI fr)) 82 0 (6 + u 0 1) (nI (tV b n k))) 83 0 (nI (6 + u 0 1)) 12 (nI fo) = some (setI (setI (setI (setI w2 80 0 (6 + u 0 1) (nI co)) 81 0 (6 + u 0 1) (nI fr)) 82 0 (6 + u 0 1) (nI (tV b n k))) 83 0 (6 + u 0 1) (nI fo)) := stn (by omega) (by omega)
  have P5 : PSm wm (setI (setI (setI (setI w2 80 0 (6 + u 0 1) (nI co)) 81 0 (6 + u 0 1) (nI fr)) 82 0 (6 + u 0 1) (nI (tV b n k))) 83 0 (6 + u 0 1) (nI fo)) u nm fi co fr (tV b n k) fo := PSm_83 (PSm_82 (PSm_81 (PSm_80 p2 _) _) _) _
  have F5 : Fr [80, 81, 82, 83] w2 (setI (setI (setI (setI w2 80 0 (6 + u 0 1) (nI co)) 81 0 (6 + u 0 1) (nI fr)) 82 0 (6 + u 0 1) (nI (tV b n k))) 83 0 (6 + u 0 1) (nI fo)) := Fr_setI (Fr_setI (Fr_setI (Fr_setI (Fr_refl _ _) rfl) rfl) rfl) rfl
  refine ⟨(setI (setI (setI (setI w2 80 0 (6 + u 0 1) (nI co)) 81 0 (6 + u 0 1) (nI fr)) 82 0 (6 + u 0 1) (nI (tV b n k))) 83 0 (6 + u 0 1) (nI fo)), ?_, JM_fr F5 j2, P5⟩
  simp only [fX12_personLine_106, ↓o12_10, ↓o12_11, ↓o12_12, ↓o12_13, fX12_personLine_121, ↓cbnd e2', ↓n1_0, fX12_personLine_142, fX12_personLine_156, fX12_personLine_170, ↓bnd l0q, ↓bnd s0, ↓bnd l1q, ↓bnd s1, ↓bnd s2, ↓bnd l3q, ↓bnd s3, ↓reduceIte, callW_eq]
theorem m_opt2F (hj : JM w b n k) (h : PSm wm w u nm fi co fr ti fo) (h6 : u 0 1 < 6) (hfr : fr ≤ 999) (hti : ti ≤ 999) (hz : nmF b n k fr 999 ≠ 0) (Kc : Int32 → Int32 → Wd → Option (Int32 × Wd)) (v2 : Int32) : Ok (fX12_personLine_106 N Kc (nI (6 + u 0 1)) v2 (nI 12) (nI fr) w) (fun y => y.1 = (0 : Int32) ∧ FM wm y.2 ∧ gI y.2 16 0 4 = nI (nmF b n k fr 999) ∧ gI y.2 16 0 5 = nI (tP b n k)) := by
  simp only [fX12_personLine_106, ↓o12_10, ↓o12_11, ↓o12_12, ↓o12_13, fX12_personLine_121, ↓reduceIte, callW_eq]
  refine ok_bind (m_numF (lo := fr) (hi := 999) hj (by omega) (by omega) hz) ?_
  rintro ⟨y, w2⟩ ⟨e, f2⟩
  simp only at e f2
  subst e
  simp only [↓n0_0, ↓reduceIte]
  exact ok_some ⟨rfl, flM_B (FM_PS h) f2⟩
theorem c_opt3 (hj : JC w b n m d k) (h : PSc wc w d u nm fi co fr ti fo) (h6 : u 0 1 < 6) (hfr : fr ≤ 999) (hti : ti ≤ 999) (hz : nmF b n k 1 999 = 0) : Ok (pX7_readOption N (nI 7) (nI (u 0 1)) w) (fun y => y.1 = (1 : Int32) ∧ JC y.2 b n m d (k + 1) ∧ PSc wc y.2 d u nm fi co fr ti (tV b n k)) := by
  have ed := hj.2.2.2.2
  have hr := nmF_rng hz
  have q3 : (nI (tV b n k) < 0) = False := eq_false (nz_ge0 (by omega))
  simp only [pX7_readOption, ↓o7_4, ↓o7_5, ↓o7_6, ↓reduceIte, callW_eq]
  refine ok_bind (c_num (lo := 1) (hi := 999) hj (by omega) (by omega) hz) ?_
  rintro ⟨y, w2⟩ ⟨e, f2, j2⟩
  simp only at e f2 j2
  subst e
  have s1 : stI w2 53 (gR w 11 0 1) (nI (u 0 1)) 6 (nI (tV b n k)) = some (setI w2 53 d (u 0 1) (nI (tV b n k))) := by rw [ed]; exact stn (by omega) (by omega)
  simp only [↓bnd s1, ↓q3, ↓reduceIte]
  exact ok_some ⟨rfl, JC_fr (l := [53]) (Fr_setI (Fr_refl _ _) rfl) j2, PSc_53 (PSc_ad h f2) _⟩
theorem c_opt3F (hj : JC w b n m d k) (h : PSc wc w d u nm fi co fr ti fo) (h6 : u 0 1 < 6) (hfr : fr ≤ 999) (hti : ti ≤ 999) (hz : nmF b n k 1 999 ≠ 0) : Ok (pX7_readOption N (nI 7) (nI (u 0 1)) w) (fun y => y.1 = (0 : Int32) ∧ FC d wc y.2 ∧ gI y.2 11 0 8 = nI (nmF b n k 1 999) ∧ gI y.2 11 0 9 = nI (tP b n k)) := by
  have ed := hj.2.2.2.2
  simp only [pX7_readOption, ↓o7_4, ↓o7_5, ↓o7_6, ↓reduceIte, callW_eq]
  refine ok_bind (c_numF (lo := 1) (hi := 999) hj (by omega) (by omega) hz) ?_
  rintro ⟨y, w2⟩ ⟨e, f2⟩
  simp only at e f2
  subst e
  have s1 : stI w2 53 (gR w 11 0 1) (nI (u 0 1)) 6 (-1 : Int32) = some (setI w2 53 d (u 0 1) (-1 : Int32)) := by rw [ed]; exact stn (by omega) (by omega)
  simp only [↓bnd s1, ↓m1_l0, ↓reduceIte]
  have B := flC_B (FC_PS h) f2
  exact ok_some ⟨rfl, FC_setI B.1 rfl (Or.inr rfl), by rw [gg_I, if_neg (by omega)]; exact B.2.1, by rw [gg_I, if_neg (by omega)]; exact B.2.2⟩
theorem m_opt3 (hN : 1000 ≤ N) (hj : JM w b n k) (h : PSm wm w u nm fi co fr ti fo) (h6 : u 0 1 < 6) (hfr : fr ≤ 999) (hti : ti ≤ 999) (hz : nmF b n k 1 999 = 0) (Kc : Int32 → Int32 → Wd → Option (Int32 × Wd)) (v2 : Int32) : ∃ y, fX12_personLine_106 N Kc (nI (6 + u 0 1)) v2 (nI 13) (nI 1) w = Kc (nI (6 + u 0 1)) v2 y ∧ JM y b n (k + 1) ∧ PSm wm y u nm fi co fr ti (tV b n k) := by
  obtain ⟨⟨y, w2⟩, e2, ey, f2, j2, g2⟩ := m_num (N := N) (lo := 1) (hi := 999) hj hN (by omega) (by omega) hz
  simp only at ey f2 j2 g2
  subst ey
  have e2' : pX12_number N (nI 1) (999 : Int32) w = some ((1 : Int32), w2) := e2
  have p2 := PSm_nu h f2
  have l0q : ldI w2 80 0 (nI (6 + u 0 1)) 12 = some (nI co) := by rw [ldn (by omega) (by omega)]; exact congrArg some p2.2.2.2.2.2.1
  have s0 : stI w2 80 0 (nI (6 + u 0 1)) 12 (nI co) = some (setI w2 80 0 (6 + u 0 1) (nI co)) := stn (by omega) (by omega)
  have l1q : ldI (setI w2 80 0 (6 + u 0 1) (nI co)) 81 0 (nI (6 + u 0 1)) 12 = some (nI fr) := by rw [ldn (by omega) (by omega), gg_I, if_neg (by omega)]; exact congrArg some p2.2.2.2.2.2.2.1
  have s1 : stI (setI w2 80 0 (6 + u 0 1) (nI co)) 81 0 (nI (6 + u 0 1)) 12 (nI fr) = some (setI (setI w2 80 0 (6 + u 0 1) (nI co)) 81 0 (6 + u 0 1) (nI fr)) := stn (by omega) (by omega)
  have l2q : ldI (setI (setI w2 80 0 (6 + u 0 1) (nI co)) 81 0 (6 + u 0 1) (nI fr)) 82 0 (nI (6 + u 0 1)) 12 = some (nI ti) := by rw [ldn (by omega) (by omega), gg_I, if_neg (by omega), gg_I, if_neg (by omega)]; exact congrArg some p2.2.2.2.2.2.2.2.1
  have s2 : stI (setI (setI w2 80 0 (6 + u 0 1) (nI co)) 81 0 (6 + u 0 1) (nI fr)) 82 0 (nI (6 + u 0 1)) 12 (nI ti) = some (setI (setI (setI w2 80 0 (6 + u 0 1) (nI co)) 81 0 (6 + u 0 1) (nI fr)) 82 0 (6 + u 0 1) (nI ti)) := stn (by omega) (by omega)
  have g3 : gI (setI (setI (setI w2 80 0 (6 + u 0 1) (nI co)) 81 0 (6 + u 0 1) (nI fr)) 82 0 (6 + u 0 1) (nI ti)) 16 0 11 = nI (tV b n k) := by rw [gg_I, if_neg (by omega), gg_I, if_neg (by omega), gg_I, if_neg (by omega)]; exact g2
  have s3 : stI (setI (setI (setI w2 80 0 (6 + u 0 1) (nI co)) 81 0 (6 + u 0 1) (nI fr)) 82 0 (6 + u 0 1) (nI ti)) 83 0 (nI (6 + u 0 1)) 12 (gI (setI (setI (setI w2 80 0 (6 + u 0 1) (nI co)) 81 0 (6 + u 0 1) (nI fr)) 82 0 (6 + u 0 1) (nI ti)) 16 0 11) = some (setI (setI (setI (setI w2 80 0 (6 + u 0 1) (nI co)) 81 0 (6 + u 0 1) (nI fr)) 82 0 (6 + u 0 1) (nI ti)) 83 0 (6 + u 0 1) (nI (tV b n k))) := by rw [g3]; exact stn (by omega) (by omega)
  have P5 : PSm wm (setI (setI (setI (setI w2 80 0 (6 + u 0 1) (nI co)) 81 0 (6 + u 0 1) (nI fr)) 82 0 (6 + u 0 1) (nI ti)) 83 0 (6 + u 0 1) (nI (tV b n k))) u nm fi co fr ti (tV b n k) := PSm_83 (PSm_82 (PSm_81 (PSm_80 p2 _) _) _) _
  have F5 : Fr [80, 81, 82, 83] w2 (setI (setI (setI (setI w2 80 0 (6 + u 0 1) (nI co)) 81 0 (6 + u 0 1) (nI fr)) 82 0 (6 + u 0 1) (nI ti)) 83 0 (6 + u 0 1) (nI (tV b n k))) := Fr_setI (Fr_setI (Fr_setI (Fr_setI (Fr_refl _ _) rfl) rfl) rfl) rfl
  refine ⟨(setI (setI (setI (setI w2 80 0 (6 + u 0 1) (nI co)) 81 0 (6 + u 0 1) (nI fr)) 82 0 (6 + u 0 1) (nI ti)) 83 0 (6 + u 0 1) (nI (tV b n k))), ?_, JM_fr F5 j2, P5⟩
  simp only [fX12_personLine_106, ↓o13_10, ↓o13_11, ↓o13_12, ↓o13_13, fX12_personLine_121, ↓cbnd e2', ↓n1_0, fX12_personLine_142, fX12_personLine_156, fX12_personLine_170, ↓bnd l0q, ↓bnd s0, ↓bnd l1q, ↓bnd s1, ↓bnd l2q, ↓bnd s2, ↓bnd s3, ↓reduceIte, callW_eq]
theorem m_opt3F (hj : JM w b n k) (h : PSm wm w u nm fi co fr ti fo) (h6 : u 0 1 < 6) (hfr : fr ≤ 999) (hti : ti ≤ 999) (hz : nmF b n k 1 999 ≠ 0) (Kc : Int32 → Int32 → Wd → Option (Int32 × Wd)) (v2 : Int32) : Ok (fX12_personLine_106 N Kc (nI (6 + u 0 1)) v2 (nI 13) (nI 1) w) (fun y => y.1 = (0 : Int32) ∧ FM wm y.2 ∧ gI y.2 16 0 4 = nI (nmF b n k 1 999) ∧ gI y.2 16 0 5 = nI (tP b n k)) := by
  simp only [fX12_personLine_106, ↓o13_10, ↓o13_11, ↓o13_12, ↓o13_13, fX12_personLine_121, ↓reduceIte, callW_eq]
  refine ok_bind (m_numF (lo := 1) (hi := 999) hj (by omega) (by omega) hz) ?_
  rintro ⟨y, w2⟩ ⟨e, f2⟩
  simp only at e f2
  subst e
  simp only [↓n0_0, ↓reduceIte]
  exact ok_some ⟨rfl, flM_B (FM_PS h) f2⟩
end

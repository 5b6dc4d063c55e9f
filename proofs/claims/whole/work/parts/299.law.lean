/-! ===== line: law ===== -/
theorem grp_lt7 {r : Nat} (h : grp r < 7) : (1 ≤ r ∧ r ≤ 15) ∨ r = 25 := by
  have g := grp_inv r
  have g2 := grp_n r
  have : grp r = 0 ∨ grp r = 1 ∨ grp r = 2 ∨ grp r = 3 ∨ grp r = 6 := by omega
  rcases this with z | z | z | z | z
  · have := g.1 z; omega
  · have := g.2.1 z; omega
  · have := g.2.2.1 z; omega
  · have := g.2.2.2.1 z; omega
  · have := g.2.2.2.2 z; omega
section
variable {N : Nat} {w w' w0 w1 wc wm wc' wm' wc1 wm1 : Wd} {b : Nat → Nat} {n m d k i : Nat} {u u' : Vw} {a f j s C op h : Nat} {K X st : Nat → Nat} {wt : Bool} {T : List (Nat × Nat × Nat × Nat)}
def lwU (u : Vw) (a j : Nat) (K X : Nat → Nat) : Vw := fun r i => if r = 0 ∧ i = 7 then u 0 7 + j else if r = 20 ∧ i = a then j else if r = 21 + 2 * a then K i else if r = 22 + 2 * a then X i else u r i
theorem lw_7 : lwU u a j K X 0 7 = u 0 7 + j := if_pos ⟨rfl, rfl⟩
theorem lw_0 (h : i ≠ 7) : lwU u a j K X 0 i = u 0 i := by unfold lwU; rw [if_neg (by omega), if_neg (by omega), if_neg (by omega), if_neg (by omega)]
theorem lw_r {r : Nat} (h0 : r ≠ 0) (h : r < 20 ∨ 25 ≤ r) (ha : a < 2) : lwU u a j K X r i = u r i := by unfold lwU; rw [if_neg (by omega), if_neg (by omega), if_neg (by omega), if_neg (by omega)]
theorem lw_a : lwU u a j K X 20 a = j := by unfold lwU; rw [if_neg (by omega), if_pos ⟨rfl, rfl⟩]
theorem lw_c {c : Nat} (h : c ≠ a) : lwU u a j K X 20 c = u 20 c := by unfold lwU; rw [if_neg (by omega), if_neg (by omega), if_neg (by omega), if_neg (by omega)]
theorem lw_K : lK (lwU u a j K X) a = K := funext (fun i => by unfold lK lwU; rw [if_neg (by omega), if_neg (by omega), if_pos rfl])
theorem lw_X : lX (lwU u a j K X) a = X := funext (fun i => by unfold lX lwU; rw [if_neg (by omega), if_neg (by omega), if_neg (by omega), if_pos rfl])
theorem lw_Kc {c : Nat} (h : c ≠ a) (hc : c < 2) (ha : a < 2) : lK (lwU u a j K X) c = lK u c := funext (fun i => by unfold lK lwU; rw [if_neg (by omega), if_neg (by omega), if_neg (by omega), if_neg (by omega)])
theorem lw_Xc {c : Nat} (h : c ≠ a) (hc : c < 2) (ha : a < 2) : lX (lwU u a j K X) c = lX u c := funext (fun i => by unfold lX lwU; rw [if_neg (by omega), if_neg (by omega), if_neg (by omega), if_neg (by omega)])
theorem DR_e2 (hT : okT T = true) (h : DR w T i u) (hu : ∀ r j, r ≠ 0 → r < 20 ∨ 25 ≤ r → u' r j = u r j) (h0 : ∀ j, j ≠ 7 → u' 0 j = u 0 j) : DR w T i u' := fun e he j hj => by
  obtain ⟨g1, g2, g3, g4⟩ := okT_of hT he
  have g5 := grp_lt7 (r := e.2.1) (by omega)
  rw [h0 _ (by omega)] at hj
  rw [hu _ _ (by omega) (by omega)]
  exact h e he j hj
theorem DC_law (ha : a < 2) (D : DC w d u) (hc : CF w w1 d a j 0 C 0 K X st) (hC : u 0 7 + j = C) : DC w1 d (lwU u a j K X) := by
  obtain ⟨_, F, h3, h4, h5, _, _, _, h9⟩ := hc
  obtain ⟨d1, d2, d3, d4, ⟨d5, d6, d7⟩, d8⟩ := D
  refine ⟨DR_e2 okTc (DR_fr okTc F d1 (by decide)) (fun r i h0 hr => lw_r h0 hr ha) (fun i hi => lw_0 hi), fun e he => ?_, fun i hi => ?_, fun i p1 p2 => ?_, ⟨?_, ?_, ?_⟩, fun c hc => ?_, fun c i hc hi => ?_⟩
  · by_cases z : e.2.2 = 7
    · have : e = (8, 17, 7) := (by decide : ∀ e, e ∈ dFc → e.2.2 = 7 → e = (8, 17, 7)) e he z
      subst this
      show gI w1 8 d 17 = nI (lwU u a j K X 0 7)
      rw [lw_7, h9, hC]
    · rw [lw_0 z, DF_oth (l := kLc) (c := 7) F (by decide) e he z]
      exact d2 e he
  · rw [lw_0 (by omega)] at hi
    rw [lw_r (by omega) (by omega) ha, (F 32 d i rfl).1]; exact d3 i hi
  · rw [lw_0 (by omega)] at p1
    exact PDf_fr F d4 (by decide) i p1 p2
  · rw [lw_r (by omega) (by omega) ha, (F 8 d 16 rfl).1]; exact d5
  · rw [lw_r (by omega) (by omega) ha, (F 11 0 2 rfl).1]; exact d6
  · rw [lw_r (by omega) (by omega) ha, (F 11 0 3 rfl).1]; exact d7
  · by_cases z : c = a
    · subst z
      rw [lw_a]; exact h3
    · rw [lw_c z, (h5 c hc z).1]; exact d8.1 c hc
  · by_cases z : c = a
    · subst z
      rw [lw_a] at hi
      rw [lw_K, lw_X]
      exact h4 i hi
    · rw [lw_c z] at hi
      rw [lw_Kc z hc ha, lw_Xc z hc ha, (h5 c hc z).2 i]
      exact d8.2 c i hc hi
/-- the reference's draft where law a is begun -/
theorem DM_law (ha : a < 2) (D : DM wm u) (h0 : u 20 a = 0) {wC w6 : Wd} (fC : Fr [17007, 17008, 17009, 17010, 91, 92] wm wC) (h91 : gI wC 91 0 (2 + a) = (1 : Int32)) (h91c : ∀ c, c < 2 → c ≠ a → gI wC 91 0 (2 + c) = gI wm 91 0 (2 + c)) (h92 : gI wC 92 0 (2 + a) = nI (u 0 7)) (h92c : ∀ c, c < 2 → c ≠ a → gI wC 92 0 (2 + c) = gI wm 92 0 (2 + c))
    (hm : MFh wC w6 (u 0 7) j 0 C 0 K X st (sd K j)) (hC : u 0 7 + j = C) (hj : 0 < j) : DM (setI w6 93 0 (2 + a) (nI C)) (lwU u a j K X) := by
  obtain ⟨_, F, h3, h4, _, _, _, h8, _, _, h11⟩ := hm
  obtain ⟨d1, d2, d3, ⟨d5, d6, d7, d8⟩, d9⟩ := D
  have f9 : Fr [93] w6 (setI w6 93 0 (2 + a) (nI C)) := Fr_setI (Fr_refl _ _) rfl
  have G : Fr [17007, 17008, 17009, 17010, 91, 92, 17027, 17055, 17056, 17057, 17058, 17059, 17060, 94, 95, 96, 97, 98, 93] wm (setI w6 93 0 (2 + a) (nI C)) := Fr_trans (Fr_mono fC rfl) (Fr_trans (Fr_mono F rfl) (Fr_mono f9 rfl))
  refine ⟨DR_e2 okTm (DR_fr okTm G d1 (by decide)) (fun r i h0 hr => lw_r h0 hr ha) (fun i hi => lw_0 hi), fun e he => ?_, fun i hi => ?_, ⟨?_, ?_, ?_, ?_⟩, fun c hc => ?_, fun c hc hp => ?_⟩
  · by_cases z : e.2.2 = 7
    · have : e = (16, 27, 7) ∨ e = (16, 58, 7) := (by decide : ∀ e, e ∈ dFm → e.2.2 = 7 → e = (16, 27, 7) ∨ e = (16, 58, 7)) e he z
      rcases this with rfl | rfl
      · show gI _ 16 0 27 = nI (lwU u a j K X 0 7)
        rw [lw_7, (f9 16 0 27 rfl).1, h4]
      · show gI _ 16 0 58 = nI (lwU u a j K X 0 7)
        rw [lw_7, (f9 16 0 58 rfl).1, h8, hC]
    · rw [lw_0 z, DF_oth (l := [17007, 17008, 17009, 17010, 91, 92, 17027, 17055, 17056, 17057, 17058, 17059, 17060, 94, 95, 96, 97, 98, 93]) (c := 7) G (by decide) e he z]
      exact d2 e he
  · rw [lw_0 (by omega)] at hi
    rw [lw_r (by omega) (by omega) ha, (G 77 0 _ rfl).1]; exact d3 i hi
  · rw [lw_r (by omega) (by omega) ha, (G 16 0 26 rfl).1]; exact d5
  · rw [lw_r (by omega) (by omega) ha, (G 16 0 29 rfl).1]; exact d6
  · rw [lw_r (by omega) (by omega) ha, (G 16 0 30 rfl).1]; exact d7
  · rw [lw_0 (by omega), (G 16 0 28 rfl).1]; exact d8
  · rw [(f9 91 0 _ rfl).1, (F 91 0 _ rfl).1]
    by_cases z : c = a
    · subst z
      rw [lw_a, h91, decide_eq_true hj]
      rfl
    · rw [lw_c z, h91c c hc z]; exact d9.1 c hc
  · by_cases z : c = a
    · subst z
      rw [lw_a, lw_K, lw_X, lw_7]
      refine ⟨u 0 7, Nat.le_refl _, ?_, ?_, LMa_fr f9 h3⟩
      · rw [(f9 92 0 _ rfl).1, (F 92 0 _ rfl).1]; exact h92
      · rw [gg_I, if_pos ⟨rfl, rfl, rfl⟩, hC]
    · rw [lw_c z] at hp
      obtain ⟨g, g1, g2, g3, g4⟩ := d9.2 c hc hp
      rw [lw_c z, lw_Kc z hc ha, lw_Xc z hc ha, lw_7]
      refine ⟨g, by omega, ?_, ?_, fun i hi => ?_⟩
      · rw [(f9 92 0 _ rfl).1, (F 92 0 _ rfl).1, h92c c hc z]; exact g2
      · rw [gg_I, if_neg (fun q => z (by omega)), (F 93 0 _ rfl).1, (fC 93 0 _ rfl).1]; exact g3
      · have key : ∀ kk, 94 ≤ kk → kk ≤ 96 → gI (setI w6 93 0 (2 + a) (nI C)) kk 0 (64 + (g + i)) = gI wm kk 0 (64 + (g + i)) := fun kk k1 k2 => by
          rw [gg_I, if_neg (by omega), h11 kk (g + i) k1 k2 (by omega)]
          have : kk = 94 ∨ kk = 95 ∨ kk = 96 := by omega
          rcases this with rfl | rfl | rfl
          · exact (fC 94 0 _ rfl).1
          · exact (fC 95 0 _ rfl).1
          · exact (fC 96 0 _ rfl).1
        rw [key 94 (by omega) (by omega), key 95 (by omega) (by omega), key 96 (by omega) (by omega)]
        exact g4 i hi
theorem WU_law (ha : a < 2) (hU : WU u) (hP : PF (u 0 7) j 0 C 0 K X st false) : WU (lwU u a j K X) := by
  obtain ⟨⟨U0, U1, U2, U3, U4, U6, U7⟩, UB, US, UG, UL⟩ := hU
  obtain ⟨h1, hC, _, _, _, _, h7, h9⟩ := hP
  rw [cnt] at h1 h7
  refine ⟨⟨by rw [lw_0 (by omega)]; exact U0, by rw [lw_0 (by omega)]; exact U1, by rw [lw_0 (by omega)]; exact U2, by rw [lw_0 (by omega)]; exact U3, by rw [lw_0 (by omega)]; exact U4, by rw [lw_0 (by omega)]; exact U6, by rw [lw_7]; omega⟩, fun r i hg hi => ?_, ⟨fun i => ?_, fun x y => ?_⟩, ⟨?_, ?_, ?_⟩, fun c hc => ?_, fun c i hc hi => ?_, fun c hc => ?_⟩
  · have g5 := grp_lt7 hg
    rw [lw_0 (by omega)] at hi
    rw [lw_r (by omega) (by omega) ha, lw_0 (by omega)]
    exact UB r i hg hi
  · rw [lw_r (by omega) (by omega) ha, lw_0 (by omega)]; exact US.1 i
  · rw [lw_r (by omega) (by omega) ha, lw_r (by omega) (by omega) ha]; exact US.2 x y
  · rw [lw_r (by omega) (by omega) ha]; exact UG.1
  · rw [lw_r (by omega) (by omega) ha]; exact UG.2.1
  · rw [lw_r (by omega) (by omega) ha]; exact UG.2.2
  · by_cases z : c = a
    · subst z; rw [lw_a]; omega
    · rw [lw_c z]; exact UL.1 c hc
  · by_cases z : c = a
    · subst z
      rw [lw_a] at hi
      rw [lw_K, lw_X]
      have := h9 i hi
      exact ⟨this.1, this.2.1, this.2.2.1⟩
    · rw [lw_c z] at hi
      rw [lw_Kc z hc ha, lw_Xc z hc ha]
      exact UL.2.1 c i hc hi
  · by_cases z : c = a
    · subst z
      rw [lw_a, lw_K]
      refine ⟨fun i hi => ⟨(h9 i hi).2.2.2.1, (h9 i hi).2.2.2.2⟩, fun _ => ?_⟩
      rw [h7]
      rfl
    · rw [lw_c z, lw_Kc z hc ha]
      exact UL.2.2 c hc
theorem LnB_lift {c m' : Option (Int32 × Wd)} (h : LnB d wc1 wm1 c m') (hc : FC d wc wc1) (hm : FM wm wm1) : LnB d wc wm c m' := by
  obtain ⟨f', p, h1, h2⟩ := h
  exact ⟨f', p, ok_mono h1 (fun x hx => ⟨hx.1, FC_trans hc hx.2.1, hx.2.2⟩), ok_mono h2 (fun x hx => ⟨hx.1, FM_trans hm hx.2.1, hx.2.2⟩)⟩
theorem j_lawA (ha : a < 2) (hN : 1000 ≤ N) (hc : JC wc b n m d k) (hm : JM wm b n k) (hK : tK b n k = 14 + a) (Dc : DC wc d u) (Dm : DM wm u) (hU : WU u) : LnR b n m d k wc wm (wrpC N (if 0 < u 20 a then (1 : Int32) else (0 : Int32)) (3 : Int32) (pX7_readFormula N (2 * d + a)) wc) (fX12_lawLine_14 N wm) := by
  have e9 : gI wm 16 0 9 = nI (14 + a) := by
    rw [((JM_kd hm).1 (by omega)).2, hK]
    have : a = 0 ∨ a = 1 := by omega
    rcases this with rfl | rfl <;> rfl
  have eI : (2 : Int32) + gI wm 16 0 9 - (14 : Int32) = nI (2 + a) := by
    rw [e9, show (2 : Int32) = nI 2 from rfl, show (14 : Int32) = nI 14 from rfl, nI_add, nI_sb (by omega)]
    congr 1
    omega
  have hk : tK b n k ≠ 60 := by omega
  have hm9 : m ≤ 900 := hc.1.1
  by_cases y : 0 < u 20 a
  · rw [if_pos y]
    have l1 : ldI wm 91 0 ((2 : Int32) + gI wm 16 0 9 - (14 : Int32)) 4 = some (zB true) := by rw [eI, ldn (by omega) (by omega), Dm.2.2.2.2.1 a ha, decide_eq_true y]
    refine Or.inl ⟨3, tP b n k, wrp_F hc 3, ?_⟩
    simp only [fX12_lawLine_14, ↓bnd l1, ↓z1, ↓reduceIte]
    exact ok_mono (m_wrongZ hm 3) (fun x hx => ⟨hx.1, flM_B (FM_refl wm) hx.2⟩)
  · rw [if_neg y]
    have y0 : u 20 a = 0 := by omega
    have l1 : ldI wm 91 0 ((2 : Int32) + gI wm 16 0 9 - (14 : Int32)) 4 = some (zB false) := by rw [eI, ldn (by omega) (by omega), Dm.2.2.2.2.1 a ha, decide_eq_false y]
    have s1 : stI wm 91 0 ((2 : Int32) + gI wm 16 0 9 - (14 : Int32)) 4 ((1 : Int32) &&& 1) = some (setI wm 91 0 (2 + a) (1 : Int32)) := by rw [eI, show ((1 : Int32) &&& 1) = (1 : Int32) by decide]; exact stn (by omega) (by omega)
    have f1 : Fr [91] wm (setI wm 91 0 (2 + a) (1 : Int32)) := Fr_setI (Fr_refl _ _) rfl
    obtain ⟨wB, eB, fB, jB⟩ := m_adv (N := N) (JM_fr f1 hm) hN
    have e27 : gI wB 16 0 27 = nI (u 0 7) := by rw [(fB 16 0 27 rfl).1, (f1 16 0 27 rfl).1]; exact Dm.2.1 (16, 27, 7) (by decide)
    have s2 : stI wB 92 0 ((2 : Int32) + gI wm 16 0 9 - (14 : Int32)) 4 (gI wB 16 0 27) = some (setI wB 92 0 (2 + a) (nI (u 0 7))) := by rw [eI, e27]; exact stn (by omega) (by omega)
    have f2 : Fr [92] wB (setI wB 92 0 (2 + a) (nI (u 0 7))) := Fr_setI (Fr_refl _ _) rfl
    have fC : Fr [17007, 17008, 17009, 17010, 91, 92] wm (setI wB 92 0 (2 + a) (nI (u 0 7))) := Fr_trans (Fr_mono f1 rfl) (Fr_trans (Fr_mono fB rfl) (Fr_mono f2 rfl))
    have GC : FM wm (setI wB 92 0 (2 + a) (nI (u 0 7))) := FM_setI (FM_trans (FM_setI (FM_refl wm) rfl (by show 2 ≤ _; omega)) (FM_tk fB)) rfl (by show 2 ≤ _; omega)
    have jC := JM_fr f2 jB
    have h91 : gI (setI wB 92 0 (2 + a) (nI (u 0 7))) 91 0 (2 + a) = (1 : Int32) := by rw [(f2 91 0 _ rfl).1, (fB 91 0 _ rfl).1, gg_I, if_pos ⟨rfl, rfl, rfl⟩]
    have h91c : ∀ c, c < 2 → c ≠ a → gI (setI wB 92 0 (2 + a) (nI (u 0 7))) 91 0 (2 + c) = gI wm 91 0 (2 + c) := fun c _ hca => by rw [(f2 91 0 _ rfl).1, (fB 91 0 _ rfl).1, gg_I, if_neg (by omega)]
    have h92 : gI (setI wB 92 0 (2 + a) (nI (u 0 7))) 92 0 (2 + a) = nI (u 0 7) := by rw [gg_I, if_pos ⟨rfl, rfl, rfl⟩]
    have h92c : ∀ c, c < 2 → c ≠ a → gI (setI wB 92 0 (2 + a) (nI (u 0 7))) 92 0 (2 + c) = gI wm 92 0 (2 + c) := fun c _ hca => by rw [gg_I, if_neg (by omega), (fB 92 0 _ rfl).1, (f1 92 0 _ rfl).1]
    have c27 : gI (setI wB 92 0 (2 + a) (nI (u 0 7))) 16 0 27 = nI (u 0 7) := by rw [(f2 16 0 27 rfl).1]; exact e27
    have c58 : gI (setI wB 92 0 (2 + a) (nI (u 0 7))) 16 0 58 = nI (u 0 7) := by rw [(fC 16 0 58 rfl).1]; exact Dm.2.1 (16, 58, 7) (by decide)
    generalize setI wB 92 0 (2 + a) (nI (u 0 7)) = wC at s2 f2 fC GC jC h91 h91c h92 h92c c27 c58
    refine LnR_wrap rfl hc hk (fun w1 f1c j1 => ?_)
    have D1 := DC_fr f1c Dc
    -- the states where the expression begins
    have fS : Fr [12005, 12006] w1 (setI (setI w1 11 0 5 (0 : Int32)) 11 0 6 (0 : Int32)) := Fr_setI (Fr_setI (Fr_refl _ _) rfl) rfl
    have CS : CF w1 (setI (setI w1 11 0 5 (0 : Int32)) 11 0 6 (0 : Int32)) d a 0 0 (u 0 7) 0 (fun _ => 0) (fun _ => 0) (fun _ => 0) := by
      refine ⟨FC_setI (FC_setI (FC_refl d w1) rfl (Or.inl rfl)) rfl (Or.inl rfl), Fr_mono fS rfl, ?_, fun i hi => by omega, fun c hc hca => ⟨?_, fun i => ?_⟩, ?_, ?_, fun i hi => by omega, ?_⟩
      · rw [(fS 5 _ 2 rfl).1, D1.2.2.2.2.2.1 a ha, y0]
      · rw [(fS 5 _ 2 rfl).1]
      · rw [(fS 21 _ i rfl).1]
      · rw [gg_I, if_neg (by omega), gg_I, if_pos ⟨rfl, rfl, rfl⟩]; rfl
      · rw [gg_I, if_pos ⟨rfl, rfl, rfl⟩]; rfl
      · rw [(fS 8 d 17 rfl).1]; exact D1.2.1 (8, 17, 7) (by decide)
    have gT : Fr [17055, 17056, 17057, 17059, 17060] wC (setI (setI (setI (setI (setI wC 16 0 55 (0 : Int32)) 16 0 56 (0 : Int32)) 16 0 57 (0 : Int32)) 16 0 59 (1 : Int32)) 16 0 60 (1 : Int32)) := Fr_setI (Fr_setI (Fr_setI (Fr_setI (Fr_setI (Fr_refl _ _) rfl) rfl) rfl) rfl) rfl
    have MS : MFh wC (setI (setI (setI (setI (setI wC 16 0 55 (0 : Int32)) 16 0 56 (0 : Int32)) 16 0 57 (0 : Int32)) 16 0 59 (1 : Int32)) 16 0 60 (1 : Int32)) (u 0 7) 0 0 (u 0 7) 0 (fun _ => 0) (fun _ => 0) (fun _ => 0) 0 := by
      refine ⟨FM_of gT rfl rfl, Fr_mono gT rfl, fun i hi => by omega, ?_, ?_, ?_, fun i hi => by omega, ?_, ?_, fun i hi => by omega, fun kk i p1 p2 p3 => ?_⟩
      · rw [(gT 16 0 27 rfl).1]; exact c27
      · rw [gg_I, if_neg (by omega), gg_I, if_neg (by omega), gg_I, if_neg (by omega), gg_I, if_neg (by omega), gg_I, if_pos ⟨rfl, rfl, rfl⟩]; rfl
      · rw [gg_I, if_neg (by omega), gg_I, if_neg (by omega), gg_I, if_pos ⟨rfl, rfl, rfl⟩]; rfl
      · rw [(gT 16 0 58 rfl).1]; exact c58
      · rw [gg_I, if_neg (by omega), gg_I, if_neg (by omega), gg_I, if_neg (by omega), gg_I, if_pos ⟨rfl, rfl, rfl⟩]; rfl
      · rw [gg_I, if_neg (by omega), gg_I, if_neg (by omega), gg_I, if_neg (by omega), gg_I, if_neg (by omega), gg_I, if_neg (by omega)]
    have PS : PF (u 0 7) 0 0 (u 0 7) 0 (fun _ => 0) (fun _ => 0) (fun _ => 0) true := ⟨rfl, hU.1.2.2.2.2.2.2, by omega, rfl, rfl, fun i hi => by omega, rfl, fun i hi => by omega⟩
    have S : FS d a (u 0 7) w1 wC (setI (setI w1 11 0 5 (0 : Int32)) 11 0 6 (0 : Int32)) (setI (setI (setI (setI (setI wC 16 0 55 (0 : Int32)) 16 0 56 (0 : Int32)) 16 0 57 (0 : Int32)) 16 0 59 (1 : Int32)) 16 0 60 (1 : Int32)) 0 0 (u 0 7) 0 (fun _ => 0) (fun _ => 0) (fun _ => 0) true := by
      refine ⟨CS, MS, PS, ?_, fun _ => ?_⟩
      · rw [gg_I, if_neg (by omega), gg_I, if_pos ⟨rfl, rfl, rfl⟩]; rfl
      · rw [gg_I, if_pos ⟨rfl, rfl, rfl⟩]; rfl
    have hj := j1.2.1
    have R := j_floop (N := N) (f := u 0 7) (k := k + 1) hN ha (m - (k + 1)) (k + 1) 0 N N _ _ 0 0 (u 0 7) 0 (fun _ => 0) (fun _ => 0) (fun _ => 0) true (by omega) (by omega) (by omega) (by omega) (JC_fr fS j1) (JM_fr gT jC) S (Nat.le_refl _)
    have Ec : pX7_readFormula N (2 * d + a) w1 = fX7_readFormula_10 N (2 * d + a) N (fX7_readFormula_75 N) (zB true) (nI 0) (setI (setI w1 11 0 5 (0 : Int32)) 11 0 6 (0 : Int32)) := by
      unfold pX7_readFormula
      rw [callW_eq]
      rfl
    have Em : pX12_sumRead N wC = fX12_sumRead_15 N N (fX12_sumRead_37 N) (setI (setI (setI (setI (setI wC 16 0 55 (0 : Int32)) 16 0 56 (0 : Int32)) 16 0 57 (0 : Int32)) 16 0 59 (1 : Int32)) 16 0 60 (1 : Int32)) := by
      unfold pX12_sumRead
      rw [callW_eq]
    rw [← Ec, ← Em] at R
    have Cm : fX12_lawLine_14 N wm = (pX12_sumRead N wC).bind fun r5 => if r5.1 = 0 then some ((0 : Int32), r5.2) else (stI r5.2 93 0 ((2 : Int32) + gI wm 16 0 9 - (14 : Int32)) 4 (gI r5.2 16 0 27)).bind fun w6 => some ((1 : Int32), w6) := by
      simp only [fX12_lawLine_14, ↓bnd l1, ↓z2, ↓bnd s1, ↓cbnd eB, ↓bnd s2, ↓reduceIte, callW_eq]
    rw [Cm]
    rcases R with R | ⟨k', j', C', K', X', st', w5, w6, r1, r2, r3, r4, r5, r6, r7, r8⟩
    · have R' := LnB_lift R (FC_ad f1c) GC
      have := LnB_bind (g := fun r => some r) (h := fun r5 => if r5.1 = 0 then some ((0 : Int32), r5.2) else (stI r5.2 93 0 ((2 : Int32) + gI wm 16 0 9 - (14 : Int32)) 4 (gI r5.2 16 0 27)).bind fun w6 => some ((1 : Int32), w6)) R' (fun w => rfl) (fun w => by simp only [↓n0_0, ↓reduceIte])
      rw [show ((pX7_readFormula N (2 * d + a) w1).bind fun r => some r) = pX7_readFormula N (2 * d + a) w1 by cases pX7_readFormula N (2 * d + a) w1 <;> rfl] at this
      exact Or.inl this
    · have hC : u 0 7 + j' = C' := by
        have := r2.1
        rw [cnt] at this
        omega
      have hj' : 0 < j' := by
        rcases Nat.eq_zero_or_pos j' with z | z
        · subst z
          have := r2.2.2.2.2.2.2.1
          rw [sd, cnt] at this
          simp at this
        · exact z
      have s3 : stI w6 93 0 ((2 : Int32) + gI wm 16 0 9 - (14 : Int32)) 4 (gI w6 16 0 27) = some (setI w6 93 0 (2 + a) (nI C')) := by rw [eI, r8.2.2.2.1, hC]; exact stn (by omega) (by omega)
      refine Or.inr ⟨k', lwU u a j' K' X', by omega, WU_law ha hU r2, ?_, ?_⟩
      · rw [r3]
        exact ok_some ⟨rfl, FC_trans (FC_ad f1c) r7.1, r5, DC_law ha D1 r7 hC⟩
      · rw [r4]
        simp only [Option.bind_some, ↓n1_0, ↓bnd s3, ↓reduceIte]
        exact ok_some ⟨rfl, FM_setI (FM_trans GC r8.1) rfl (by show 2 ≤ _; omega), JM_fr (l := [93]) (Fr_setI (Fr_refl _ _) rfl) r6, DM_law ha Dm y0 fC h91 h91c h92 h92c r8 hC hj'⟩
theorem j_law (hc : JC wc b n m d k) (hm : JM wm b n k) (hK : tK b n k = 13) (Dc : DC wc d u) (Dm : DM wm u) (hU : WU u) (hN : 1000 ≤ N) : LnR b n m d k wc wm (wrpC N (0 : Int32) (3 : Int32) (pX7_readLaw N) wc) (pX12_lawLine N wm) := by
  have hk : tK b n k ≠ 60 := by omega
  obtain ⟨w2, e2, f2, j2⟩ := m_adv (N := N) hm hN
  have D2 := DM_fr f2 Dm
  have g14 : pX12_isKey N (14 : Int32) w2 = some (zB (decide (tK b n (k + 1) = 14)), w2) := m_isKey (N := N) j2 (c := 14) (by omega)
  have g15 : pX12_isKey N (15 : Int32) w2 = some (zB (decide (tK b n (k + 1) = 15)), w2) := m_isKey (N := N) j2 (c := 15) (by omega)
  refine LnR_wrap rfl hc hk (fun w1 f1 j1 => ?_)
  have D1 := DC_fr f1 Dc
  have ed := j1.2.2.2.2
  have lift : ∀ {c m' : Option (Int32 × Wd)}, LnR b n m d (k + 1) w1 w2 c m' → LnR b n m d k wc wm c m' := fun h => by
    rcases h with h | ⟨k', u', h1, h2, h3, h4⟩
    · exact Or.inl (LnB_lift h (FC_ad f1) (FM_tk f2))
    · exact Or.inr ⟨k', u', by omega, h2, ok_mono h3 (fun x hx => ⟨hx.1, FC_trans (FC_ad f1) hx.2.1, hx.2.2⟩), ok_mono h4 (fun x hx => ⟨hx.1, FM_trans (FM_tk f2) hx.2.1, hx.2.2⟩)⟩
  have e26 : ∀ a, a < 2 → fX7_readLaw_26 N (2 * d + a) w1 = wrpC N (if 0 < u 20 a then (1 : Int32) else (0 : Int32)) (3 : Int32) (pX7_readFormula N (2 * d + a)) w1 := fun a ha => by
    have e5 := D1.2.2.2.2.2.1 a ha
    have u64 := hU.2.2.2.2.1 a ha
    by_cases y : 0 < u 20 a
    · have q : ((0 : Int32) < gI w1 5 (2 * d + a) 2) = True := eq_true (by rw [e5]; exact (nI_ltI (a := 0) (by omega) (by omega)).mpr y)
      rw [if_pos y]
      simp only [fX7_readLaw_26, ↓q, ↓reduceIte]
      rw [callW_eq]
      rfl
    · have q : ((0 : Int32) < gI w1 5 (2 * d + a) 2) = False := eq_false (fun z => y (by rw [e5] at z; exact (nI_ltI (a := 0) (by omega) (by omega)).mp z))
      rw [if_neg y]
      simp only [fX7_readLaw_26, ↓q, ↓reduceIte]
      rw [callW_eq]
      rfl
  have q14 := JC_is j1 (c := 14) (by omega)
  have q15 := JC_is j1 (c := 15) (by omega)
  by_cases y14 : tK b n (k + 1) = 14
  · rw [decide_eq_true y14] at g14
    have q : (gI w1 14 0 8 = (14 : Int32)) = True := q14.trans (eq_true y14)
    have Cc : pX7_readLaw N w1 = fX7_readLaw_26 N (2 * d + 0) w1 := by
      simp only [pX7_readLaw, ↓q, fX7_readLaw_14, ↓ed, ↓reduceIte, callW_eq]
    have Cm : pX12_lawLine N wm = fX12_lawLine_14 N w2 := by
      simp only [pX12_lawLine, ↓cbnd e2, ↓cbnd g14, ↓z1, ↓reduceIte, callW_eq]
    rw [Cc, Cm, e26 0 (by omega)]
    exact lift (j_lawA (a := 0) (by omega) hN j1 j2 y14 D1 D2 hU)
  · rw [decide_eq_false y14] at g14
    have q : (gI w1 14 0 8 = (14 : Int32)) = False := q14.trans (eq_false y14)
    by_cases y15 : tK b n (k + 1) = 15
    · rw [decide_eq_true y15] at g15
      have qb : (gI w1 14 0 8 = (15 : Int32)) = True := q15.trans (eq_true y15)
      have Cc : pX7_readLaw N w1 = fX7_readLaw_26 N (2 * d + 1) w1 := by
        simp only [pX7_readLaw, ↓q, ↓qb, fX7_readLaw_14, ↓ed, ↓reduceIte, callW_eq]
      have Cm : pX12_lawLine N wm = fX12_lawLine_14 N w2 := by
        simp only [pX12_lawLine, ↓cbnd e2, ↓cbnd g14, ↓z2, ↓cbnd g15, ↓z1, ↓reduceIte, callW_eq]
      rw [Cc, Cm, e26 1 (by omega)]
      exact lift (j_lawA (a := 1) (by omega) hN j1 j2 y15 D1 D2 hU)
    · rw [decide_eq_false y15] at g15
      have qb : (gI w1 14 0 8 = (15 : Int32)) = False := q15.trans (eq_false y15)
      refine Or.inl ⟨1, tP b n (k + 1), ?_, ?_⟩
      · simp only [pX7_readLaw, ↓q, ↓qb, ↓reduceIte]
        exact c_bad j1 (FC_ad f1) 1
      · simp only [pX12_lawLine, ↓cbnd e2, ↓cbnd g14, ↓z2, ↓cbnd g15, ↓reduceIte]
        exact m_bad j2 (FM_tk f2) 1
end

/-! ===== the draft: what was read so far, in the class and in the reference ===== -/
def dTc : List (Nat × Nat × Nat × Nat) := [(30, 1, 0, 0), (31, 2, 0, 0), (48, 4, 1, 0), (49, 25, 1, 0), (50, 5, 1, 0), (51, 6, 1, 0), (52, 7, 1, 0), (53, 8, 1, 0), (33, 9, 2, 0), (34, 10, 2, 0), (35, 11, 2, 0), (36, 12, 2, 0), (37, 13, 3, 0), (38, 14, 6, 0), (39, 15, 6, 0)]
def dTm : List (Nat × Nat × Nat × Nat) := [(75, 1, 0, 8), (76, 2, 0, 8), (78, 4, 1, 6), (79, 25, 1, 6), (80, 5, 1, 6), (81, 6, 1, 6), (82, 7, 1, 6), (83, 8, 1, 6), (84, 9, 2, 8), (85, 10, 2, 8), (86, 11, 2, 8), (87, 12, 2, 8), (88, 13, 3, 14), (89, 14, 6, 12), (90, 15, 6, 12)]
def dFc : List (Nat × Nat × Nat) := [(8, 0, 0), (10, 0, 1), (8, 5, 2), (8, 10, 3), (8, 15, 4), (8, 12, 6), (8, 17, 7)]
def dFm : List (Nat × Nat × Nat) := [(16, 20, 0), (16, 21, 1), (16, 22, 2), (16, 23, 3), (16, 25, 4), (16, 24, 6), (16, 27, 7), (16, 58, 7)]
/-- which count a row goes with -/
def grp (r : Nat) : Nat := if r = 1 ∨ r = 2 then 0 else if (4 ≤ r ∧ r ≤ 8) ∨ r = 25 then 1 else if 9 ≤ r ∧ r ≤ 12 then 2 else if r = 13 then 3 else if r = 14 ∨ r = 15 then 6 else 99
def okT (T : List (Nat × Nat × Nat × Nat)) : Bool := T.all (fun e => grp e.2.1 == e.2.2.1 && decide (0 < e.2.1) && decide (16 < e.1) && decide (e.2.2.1 < 7))
theorem okTc : okT dTc = true := by decide
theorem okTm : okT dTm = true := by decide
theorem okT_of {T : List (Nat × Nat × Nat × Nat)} (h : okT T = true) {e : Nat × Nat × Nat × Nat} (he : e ∈ T) : grp e.2.1 = e.2.2.1 ∧ 0 < e.2.1 ∧ 16 < e.1 ∧ e.2.2.1 < 7 := by
  have := List.all_eq_true.mp h e he
  simp only [Bool.and_eq_true, beq_iff_eq, decide_eq_true_eq] at this
  exact ⟨this.1.1.1, this.1.1.2, this.1.2, this.2⟩
section
variable {N : Nat} {w w' w0 w1 : Wd} {b : Nat → Nat} {n m d k i : Nat} {u u' : Vw} {T : List (Nat × Nat × Nat × Nat)} {F : List (Nat × Nat × Nat)}
def DR (w : Wd) (T : List (Nat × Nat × Nat × Nat)) (i : Nat) (u : Vw) : Prop := ∀ e, e ∈ T → ∀ j, j < u 0 e.2.2.1 → gI w e.1 i (e.2.2.2 + j) = nI (u e.2.1 j)
def DF (w : Wd) (F : List (Nat × Nat × Nat)) (i : Nat) (u : Vw) : Prop := ∀ e, e ∈ F → gI w e.1 i e.2.1 = nI (u 0 e.2.2)
/-- what was told stays -/
def KP (T : List (Nat × Nat × Nat × Nat)) (i : Nat) (u : Vw) (w w' : Wd) : Prop := ∀ e, e ∈ T → ∀ j, j < u 0 e.2.2.1 → gI w' e.1 i (e.2.2.2 + j) = gI w e.1 i (e.2.2.2 + j)
theorem KP_refl : KP T i u w w := fun _ _ _ _ => rfl
theorem KP_trans (h : KP T i u w w1) (h2 : KP T i u w1 w') : KP T i u w w' := fun e he j hj => (h2 e he j hj).trans (h e he j hj)
theorem KP_Fr {l : List Nat} (hT : okT T = true) (f : Fr l w w') (hl : dis l (T.map (fun e => e.1)) = true) : KP T i u w w' := fun e he j hj => by
  refine (f e.1 i _ ?_).1
  have h := (okT_of hT he).2.2.1
  rw [show ky e.1 (e.2.2.2 + j) = e.1 by unfold ky; rw [if_neg (by omega)]]
  exact dis_of hl (List.contains_iff_mem.mpr (List.mem_map.mpr ⟨e, he, rfl⟩))
theorem KP_set {k' i' j' c o : Nat} {x : Int32} (hu : T.all (fun e => decide (e.1 = k' → e.2.2 = (c, o))) = true) (hj : o + u 0 c ≤ j') : KP T i u w (setI w k' i' j' x) := fun e he j hj' => by
  rw [gg_I, if_neg]
  rintro ⟨h1, h2, h3⟩
  have := List.all_eq_true.mp hu e he
  simp only [decide_eq_true_eq] at this
  have h4 := this h1
  rw [h4] at h3 hj'
  simp only at h3 hj'
  omega
theorem DR_keep (h : DR w T i u) (hk : KP T i u w w') : DR w' T i u := fun e he j hj => (hk e he j hj).trans (h e he j hj)
theorem DR_fr {l : List Nat} (hT : okT T = true) (f : Fr l w w') (h : DR w T i u) (hl : dis l (T.map (fun e => e.1)) = true) : DR w' T i u := DR_keep h (KP_Fr hT f hl)
theorem DF_fr {l : List Nat} (f : Fr l w w') (h : DF w F i u) (hl : F.all (fun e => !l.contains (ky e.1 e.2.1)) = true) : DF w' F i u := fun e he => by
  have := List.all_eq_true.mp hl e he
  rw [(f e.1 i e.2.1 (by simpa using this)).1]
  exact h e he
/-- a row more in group c -/
def app (u : Vw) (c : Nat) (nw : Nat → Nat) : Vw := fun r j => if r = 0 then (if j = c then u 0 c + 1 else u 0 j) else if grp r = c ∧ j = u 0 c then nw r else u r j
theorem app_c {c : Nat} {nw : Nat → Nat} : app u c nw 0 c = u 0 c + 1 := by unfold app; rw [if_pos rfl, if_pos rfl]
theorem app_n {c j : Nat} {nw : Nat → Nat} (h : j ≠ c) : app u c nw 0 j = u 0 j := by unfold app; rw [if_pos rfl, if_neg h]
theorem app_r {c r j : Nat} {nw : Nat → Nat} (hr : r ≠ 0) (h : grp r ≠ c) : app u c nw r j = u r j := by unfold app; rw [if_neg hr, if_neg (fun z => h z.1)]
theorem app_o {c r j : Nat} {nw : Nat → Nat} (hr : r ≠ 0) (h : j ≠ u 0 c) : app u c nw r j = u r j := by unfold app; rw [if_neg hr, if_neg (fun z => h z.2)]
theorem app_e {c r : Nat} {nw : Nat → Nat} (hr : r ≠ 0) (h : grp r = c) : app u c nw r (u 0 c) = nw r := by unfold app; rw [if_neg hr, if_pos ⟨h, rfl⟩]
theorem DR_app {c : Nat} {nw : Nat → Nat} (hT : okT T = true) (h : DR w T i u) (hk : KP T i u w w') (hn : ∀ e, e ∈ T → e.2.2.1 = c → gI w' e.1 i (e.2.2.2 + u 0 c) = nI (nw e.2.1)) : DR w' T i (app u c nw) := fun e he j hj => by
  obtain ⟨g1, g2, g3, g4⟩ := okT_of hT he
  by_cases y : e.2.2.1 = c
  · rw [y, app_c] at hj
    rcases Nat.lt_or_ge j (u 0 c) with z | z
    · rw [app_o (by omega) (by omega), hk e he j (by rw [y]; exact z)]
      exact h e he j (by rw [y]; exact z)
    · have : j = u 0 c := by omega
      subst this
      rw [app_e (by omega) (by omega)]
      exact hn e he y
  · rw [app_n y] at hj
    rw [app_r (by omega) (by omega), hk e he j hj]
    exact h e he j hj
theorem DF_app {c : Nat} {nw : Nat → Nat} (h : DF w F i u) (hk : ∀ e, e ∈ F → e.2.2 ≠ c → gI w' e.1 i e.2.1 = gI w e.1 i e.2.1) (hn : ∀ e, e ∈ F → e.2.2 = c → gI w' e.1 i e.2.1 = nI (u 0 c + 1)) : DF w' F i (app u c nw) := fun e he => by
  by_cases y : e.2.2 = c
  · rw [hn e he y, y, app_c]
  · rw [hk e he y, app_n y]
    exact h e he
/-- fields of other groups, by a frame -/
theorem DF_oth {l : List Nat} {c : Nat} (f : Fr l w w') (hl : F.all (fun e => e.2.2 == c || !l.contains (ky e.1 e.2.1)) = true) : ∀ e, e ∈ F → e.2.2 ≠ c → gI w' e.1 i e.2.1 = gI w e.1 i e.2.1 := fun e he hc => by
  have := List.all_eq_true.mp hl e he
  rw [Bool.or_eq_true] at this
  rcases this with z | z
  · exact absurd (beq_iff_eq.mp z) hc
  · exact (f e.1 i e.2.1 (by simpa using z)).1
/-! laws -/
def LC (w : Wd) (d : Nat) (u : Vw) : Prop := (∀ a, a < 2 → gI w 5 (2 * d + a) 2 = nI (u 20 a)) ∧ (∀ a j, a < 2 → j < u 20 a → gI w 21 (2 * d + a) j = enc (lK u a j) (lX u a j))
def LMa (w : Wd) (o : Nat) (f z : Nat) (K X : Nat → Nat) : Prop := ∀ j, j < z → gI w 94 0 (o + (f + j)) = nI (K j) ∧ (K j ≤ 1 → gI w 95 0 (o + (f + j)) = nI (X j)) ∧ (2 ≤ K j → gI w 95 0 (o + (f + j)) = nI (f + sp K j (sd K j - (if K j = 2 then 1 else 2)))) ∧ (3 ≤ K j → gI w 96 0 (o + (f + j)) = nI (f + sp K j (sd K j - 1)))
def LM (w : Wd) (u : Vw) : Prop := (∀ a, a < 2 → gI w 91 0 (2 + a) = zB (decide (0 < u 20 a))) ∧ ∀ a, a < 2 → 0 < u 20 a → ∃ f, f + u 20 a ≤ u 0 7 ∧ gI w 92 0 (2 + a) = nI f ∧ gI w 93 0 (2 + a) = nI (f + u 20 a) ∧ LMa w 64 f (u 20 a) (lK u a) (lX u a)
theorem LC_fr {l : List Nat} (f : Fr l w w') (h : LC w d u) (hl : dis l [6002, 21] = true := by decide) : LC w' d u :=
  ⟨fun a ha => by rw [Fr_I f hl (by decide)]; exact h.1 a ha, fun a j ha hj => by rw [Fr_I f hl (by rfl)]; exact h.2 a j ha hj⟩
theorem LMa_fr {l : List Nat} {o g z : Nat} {K X : Nat → Nat} (f : Fr l w w') (h : LMa w o g z K X) (hl : dis l [94, 95, 96] = true := by decide) : LMa w' o g z K X := fun j hj => by
  rw [Fr_I f hl (k := 94) (by rfl), Fr_I f hl (k := 95) (by rfl), Fr_I f hl (k := 96) (by rfl)]
  exact h j hj
theorem LM_fr {l : List Nat} (f : Fr l w w') (h : LM w u) (hl : dis l [91, 92, 93, 94, 95, 96] = true := by decide) : LM w' u := by
  refine ⟨fun a ha => by rw [Fr_I f hl (k := 91) (by rfl)]; exact h.1 a ha, fun a ha h0 => ?_⟩
  obtain ⟨g, g1, g2, g3, g4⟩ := h.2 a ha h0
  exact ⟨g, g1, by rw [Fr_I f hl (k := 92) (by rfl)]; exact g2, by rw [Fr_I f hl (k := 93) (by rfl)]; exact g3, LMa_fr f g4 (dis_sub hl (by decide))⟩
theorem lK_e (h : ∀ r j, 20 ≤ r → r ≤ 24 → u' r j = u r j) {a : Nat} (ha : a < 2) : lK u' a = lK u a := funext (fun j => h _ j (by omega) (by omega))
theorem lX_e (h : ∀ r j, 20 ≤ r → r ≤ 24 → u' r j = u r j) {a : Nat} (ha : a < 2) : lX u' a = lX u a := funext (fun j => h _ j (by omega) (by omega))
theorem LC_e (h : ∀ r j, 20 ≤ r → r ≤ 24 → u' r j = u r j) (hL : LC w d u) : LC w d u' := by
  refine ⟨fun a ha => by rw [h 20 a (by omega) (by omega)]; exact hL.1 a ha, fun a j ha hj => ?_⟩
  rw [h 20 a (by omega) (by omega)] at hj
  rw [lK_e h ha, lX_e h ha]
  exact hL.2 a j ha hj
theorem LM_e (h : ∀ r j, 20 ≤ r → r ≤ 24 → u' r j = u r j) (h7 : u 0 7 ≤ u' 0 7) (hL : LM w u) : LM w u' := by
  refine ⟨fun a ha => by rw [h 20 a (by omega) (by omega)]; exact hL.1 a ha, fun a ha h0 => ?_⟩
  rw [h 20 a (by omega) (by omega)] at h0
  obtain ⟨g, g1, g2, g3, g4⟩ := hL.2 a ha h0
  rw [h 20 a (by omega) (by omega), lK_e h ha, lX_e h ha]
  exact ⟨g, by omega, g2, g3, g4⟩
theorem WL_e (h : ∀ r j, 20 ≤ r → r ≤ 24 → u' r j = u r j) (hL : WL u) : WL u' := fun a ha => by
  rw [h 20 a (by omega) (by omega), lK_e h ha]
  exact hL a ha
/-! the whole draft -/
def PDf (w : Wd) (d : Nat) (u : Vw) : Prop := ∀ j, u 0 1 ≤ j → j < 6 → gI w 49 d j = nI 0 ∧ gI w 50 d j = nI 1 ∧ gI w 51 d j = nI 0 ∧ gI w 52 d j = nI 999 ∧ gI w 53 d j = nI 999
def DC (w : Wd) (d : Nat) (u : Vw) : Prop := DR w dTc d u ∧ DF w dFc d u ∧ (∀ j, j < u 0 0 → gI w 32 d j = nI (u 3 j)) ∧ PDf w d u ∧ (gI w 8 d 16 = nI (u 26 0) ∧ gI w 11 0 2 = nI (u 26 1) ∧ gI w 11 0 3 = nI (u 26 2)) ∧ LC w d u
def DM (w : Wd) (u : Vw) : Prop := DR w dTm 0 u ∧ DF w dFm 0 u ∧ (∀ j, j < u 0 0 → gI w 77 0 (8 + j) = nI (u 3 j)) ∧ (gI w 16 0 26 = nI (u 26 0) ∧ gI w 16 0 29 = nI (u 26 1) ∧ gI w 16 0 30 = nI (u 26 2) ∧ gI w 16 0 28 = zB (decide (0 < u 0 3))) ∧ LM w u
def kDC : List Nat := [30, 31, 48, 49, 50, 51, 52, 53, 33, 34, 35, 36, 37, 38, 39, 9000, 11000, 9005, 9010, 9015, 9012, 9017, 32, 9016, 12002, 12003, 6002, 21]
def kDM : List Nat := [75, 76, 78, 79, 80, 81, 82, 83, 84, 85, 86, 87, 88, 89, 90, 17020, 17021, 17022, 17023, 17025, 17024, 17027, 17058, 77, 17026, 17029, 17030, 17028, 91, 92, 93, 94, 95, 96]
theorem PDf_fr {l : List Nat} (f : Fr l w w') (h : PDf w d u) (hl : dis l [49, 50, 51, 52, 53] = true := by decide) : PDf w' d u := fun j h1 h2 => by
  rw [Fr_I f hl (k := 49) (by rfl), Fr_I f hl (k := 50) (by rfl), Fr_I f hl (k := 51) (by rfl), Fr_I f hl (k := 52) (by rfl), Fr_I f hl (k := 53) (by rfl)]
  exact h j h1 h2
theorem dF_dis {l : List Nat} (h : dis l (F.map (fun e => ky e.1 e.2.1)) = true) : F.all (fun e => !l.contains (ky e.1 e.2.1)) = true := List.all_eq_true.mpr (fun e he => by
  have := dis_of h (List.contains_iff_mem.mpr (List.mem_map.mpr ⟨e, he, rfl⟩))
  rw [this]
  rfl)
theorem DC_fr {l : List Nat} (f : Fr l w w') (h : DC w d u) (hl : dis l kDC = true := by decide) : DC w' d u := by
  obtain ⟨h1, h2, h3, h4, ⟨h5, h6, h7⟩, h8⟩ := h
  refine ⟨DR_fr okTc f h1 (dis_sub hl (by decide)), DF_fr f h2 (dF_dis (dis_sub hl (by decide))), fun j hj => ?_, PDf_fr f h4 (dis_sub hl (by decide)), ⟨?_, ?_, ?_⟩, LC_fr f h8 (dis_sub hl (by decide))⟩
  · rw [Fr_I f hl (by rfl)]; exact h3 j hj
  · rw [Fr_I f hl (by decide)]; exact h5
  · rw [Fr_I f hl (by decide)]; exact h6
  · rw [Fr_I f hl (by decide)]; exact h7
theorem DM_fr {l : List Nat} (f : Fr l w w') (h : DM w u) (hl : dis l kDM = true := by decide) : DM w' u := by
  obtain ⟨h1, h2, h3, ⟨h5, h6, h7, h8⟩, h9⟩ := h
  refine ⟨DR_fr okTm f h1 (dis_sub hl (by decide)), DF_fr f h2 (dF_dis (dis_sub hl (by decide))), fun j hj => ?_, ⟨?_, ?_, ?_, ?_⟩, LM_fr f h9 (dis_sub hl (by decide))⟩
  · rw [Fr_I f hl (by rfl)]; exact h3 j hj
  · rw [Fr_I f hl (by decide)]; exact h5
  · rw [Fr_I f hl (by decide)]; exact h6
  · rw [Fr_I f hl (by decide)]; exact h7
  · rw [Fr_I f hl (by decide)]; exact h8
theorem DC_nm (h : DC w d u) : nmC w d u := ⟨h.2.1 (8, 0, 0) (by decide), fun j hj => by have := h.1 (30, 1, 0, 0) (by decide) j hj; rw [Nat.zero_add] at this; exact this⟩
theorem DM_nm (h : DM w u) : nmM w u := ⟨h.2.1 (16, 20, 0) (by decide), fun j hj => h.1 (75, 1, 0, 8) (by decide) j hj⟩
def bdR (P r : Nat) : Nat := if r = 1 ∨ r = 4 then 2 ^ 30 else if r = 2 then 101 else if r = 5 ∨ r = 12 then 100 else if r = 6 ∨ r = 7 ∨ r = 8 ∨ r = 11 ∨ r = 15 then 1000 else if r = 9 ∨ r = 10 ∨ r = 14 then P else if r = 13 then 10 else if r = 25 then 256 else 2 ^ 30
theorem bdR_mono {P P' r : Nat} (h : P ≤ P') : bdR P r ≤ bdR P' r := by
  unfold bdR
  split
  · exact Nat.le_refl _
  split
  · exact Nat.le_refl _
  split
  · exact Nat.le_refl _
  split
  · exact Nat.le_refl _
  split
  · exact h
  exact Nat.le_refl _
def WLu (u : Vw) : Prop := (∀ a, a < 2 → u 20 a ≤ 64) ∧ (∀ a j, a < 2 → j < u 20 a → lK u a j ≤ 14 ∧ lX u a j ≤ 9999 ∧ (lK u a j = 1 → lX u a j ≤ 6)) ∧ WL u
theorem WLu_e (h : ∀ r j, 20 ≤ r → r ≤ 24 → u' r j = u r j) (hL : WLu u) : WLu u' := by
  refine ⟨fun a ha => by rw [h 20 a (by omega) (by omega)]; exact hL.1 a ha, fun a j ha hj => ?_, WL_e h hL.2.2⟩
  rw [h 20 a (by omega) (by omega)] at hj
  rw [lK_e h ha, lX_e h ha]
  exact hL.2.1 a j ha hj
def BDu (u : Vw) : Prop := ∀ r j, grp r < 7 → j < u 0 (grp r) → u r j < bdR (u 0 0) r
def WU (u : Vw) : Prop := (u 0 0 ≤ 8 ∧ u 0 1 ≤ 6 ∧ u 0 2 ≤ 8 ∧ u 0 3 ≤ 14 ∧ u 0 4 ≤ 8 ∧ u 0 6 ≤ 4 ∧ u 0 7 ≤ 64) ∧ BDu u ∧ ((∀ j, u 3 j < 2 ^ u 0 0) ∧ ∀ a c, (u 3 a).testBit c = (u 3 c).testBit a) ∧ (u 26 0 ≤ 99999 ∧ u 26 1 ≤ 1 ∧ u 26 2 ≤ 1) ∧ WLu u
theorem grp_0 {r : Nat} (h : grp r < 7) : r ≠ 0 := by
  intro z
  subst z
  exact absurd h (by decide)
theorem BDu_app {c : Nat} {nw : Nat → Nat} (h : BDu u) (hc : c < 7) (hn : ∀ r, grp r = c → nw r < bdR (u 0 0) r) : BDu (app u c nw) := fun r j hg hj => by
  have h0 : u 0 0 ≤ app u c nw 0 0 := by
    by_cases z : (0 : Nat) = c
    · subst z; rw [app_c]; omega
    · rw [app_n z]; exact Nat.le_refl _
  refine Nat.lt_of_lt_of_le ?_ (bdR_mono h0)
  have hr := grp_0 hg
  by_cases y : grp r = c
  · rw [y, app_c] at hj
    rcases Nat.lt_or_ge j (u 0 c) with z | z
    · rw [app_o hr (by omega)]
      exact h r j hg (by rw [y]; exact z)
    · have : j = u 0 c := by omega
      subst this
      rw [app_e hr y]
      exact hn r y
  · rw [app_n y] at hj
    rw [app_r hr y]
    exact h r j hg hj
theorem grp_hi {r : Nat} (h : 20 ≤ r) (h' : r ≤ 24) : grp r = 99 := by
  have : r = 20 ∨ r = 21 ∨ r = 22 ∨ r = 23 ∨ r = 24 := by omega
  rcases this with rfl | rfl | rfl | rfl | rfl <;> decide
theorem app_law {c : Nat} {nw : Nat → Nat} (hc : c < 7) : ∀ r j, 20 ≤ r → r ≤ 24 → app u c nw r j = u r j := fun r j h1 h2 => app_r (by omega) (by rw [grp_hi h1 h2]; omega)
/-- a line's end: both at fault, or both on -/
def LnB (d : Nat) (wc wm : Wd) (c m' : Option (Int32 × Wd)) : Prop := ∃ f p, Ok c (fun x => x.1 = (0 : Int32) ∧ FC d wc x.2 ∧ gI x.2 11 0 8 = nI f ∧ gI x.2 11 0 9 = nI p) ∧ Ok m' (fun x => x.1 = (0 : Int32) ∧ FM wm x.2 ∧ gI x.2 16 0 4 = nI f ∧ gI x.2 16 0 5 = nI p)
def LnG (b : Nat → Nat) (n m d k : Nat) (wc wm : Wd) (c m' : Option (Int32 × Wd)) : Prop := ∃ k' u', k < k' ∧ WU u' ∧ Ok c (fun x => x.1 = (1 : Int32) ∧ FC d wc x.2 ∧ JC x.2 b n m d k' ∧ DC x.2 d u') ∧ Ok m' (fun x => x.1 = (1 : Int32) ∧ FM wm x.2 ∧ JM x.2 b n k' ∧ DM x.2 u')
def LnR (b : Nat → Nat) (n m d k : Nat) (wc wm : Wd) (c m' : Option (Int32 × Wd)) : Prop := LnB d wc wm c m' ∨ LnG b n m d k wc wm c m'
theorem flC_B {f p : Nat} (h0 : FC d w0 w) (h : flC w w' f p) : FC d w0 w' ∧ gI w' 11 0 8 = nI f ∧ gI w' 11 0 9 = nI p := ⟨FC_trans h0 (FC_of h.1 rfl rfl), h.2⟩
theorem flM_B {f p : Nat} (h0 : FM w0 w) (h : flM w w' f p) : FM w0 w' ∧ gI w' 16 0 4 = nI f ∧ gI w' 16 0 5 = nI p := ⟨FM_trans h0 (FM_of h.1 rfl rfl), h.2⟩
theorem flN_B {f p : Nat} (h0 : FM w0 w) (h : flN w w' f p) : FM w0 w' ∧ gI w' 16 0 4 = nI f ∧ gI w' 16 0 5 = nI p := ⟨FM_trans h0 (FM_of h.1 rfl rfl), h.2⟩
theorem FC_ad (f : Fr kAd w w') : FC d w w' := FC_of f rfl rfl
theorem FM_tk (f : Fr kTk w w') : FM w w' := FM_of f rfl rfl
theorem FM_nm (f : Fr kNu w w') : FM w w' := FM_of f rfl rfl
/-- the word of a line is passed, unless it is one too much -/
theorem c_pass (h : JC w b n m d k) (hk : tK b n k ≠ 60) (a : Int32) : Ok (pX7_passUnless N (0 : Int32) a w) (fun x => x.1 = (1 : Int32) ∧ Fr kAd w x.2 ∧ JC x.2 b n m d (k + 1)) := by
  simp only [pX7_passUnless, ↓n0_0, ↓reduceIte, callW_eq]
  refine ok_bind (c_adv (N := N) h hk) ?_
  rintro w1 ⟨f, j⟩
  exact ok_some ⟨rfl, f, j⟩
theorem c_passF (h : JC w b n m d k) (f : Nat) : Ok (pX7_passUnless N (1 : Int32) (nI f) w) (fun x => x.1 = (0 : Int32) ∧ flC w x.2 f (tP b n k)) := by
  simp only [pX7_passUnless, ↓n1_0, ↓reduceIte]
  exact c_failZ h f
/-- the class's line: a word, then P -/
noncomputable def wrpC (N : Nat) (s f : Int32) (P : Wd → Option (Int32 × Wd)) (w : Wd) : Option (Int32 × Wd) :=
  (callW (pX7_passUnless N s f) w).bind fun r1 => if r1.1 = 0 then some ((0 : Int32), r1.2) else (callW P r1.2).bind fun r2 => if r2.1 = 0 then some ((0 : Int32), r2.2) else some ((1 : Int32), r2.2)
theorem wrp_F (h : JC w b n m d k) (f : Nat) {P : Wd → Option (Int32 × Wd)} : Ok (wrpC N (1 : Int32) (nI f) P w) (fun x => x.1 = (0 : Int32) ∧ FC d w x.2 ∧ gI x.2 11 0 8 = nI f ∧ gI x.2 11 0 9 = nI (tP b n k)) := by
  unfold wrpC
  rw [callW_eq]
  refine ok_bind (c_passF h f) ?_
  rintro ⟨x, w1⟩ ⟨e, h2⟩
  simp only at e h2
  subst e
  exact ok_some ⟨rfl, flC_B (FC_refl d w) h2⟩
theorem wrp_0 {P : Wd → Option (Int32 × Wd)} {f : Int32} {Q : Int32 × Wd → Prop} (h : JC w b n m d k) (hk : tK b n k ≠ 60) (hP : ∀ w1, Fr kAd w w1 → JC w1 b n m d (k + 1) → Ok (P w1) Q) (h0 : ∀ x, Q x → x.1 = (0 : Int32) := by exact fun x h => h.1) : Ok (wrpC N (0 : Int32) f P w) Q := by
  unfold wrpC
  rw [callW_eq]
  refine ok_bind (c_pass h hk f) ?_
  rintro ⟨x, w1⟩ ⟨e, f1, j1⟩
  simp only at e f1 j1
  subst e
  simp only [↓n1_0, ↓reduceIte, callW_eq]
  refine ok_bind (hP w1 f1 j1) ?_
  rintro ⟨x, w2⟩ hx
  have e := h0 _ hx
  simp only at e
  subst e
  exact ok_some hx
theorem wrp_1 {P : Wd → Option (Int32 × Wd)} {f : Int32} {Q : Int32 × Wd → Prop} (h : JC w b n m d k) (hk : tK b n k ≠ 60) (hP : ∀ w1, Fr kAd w w1 → JC w1 b n m d (k + 1) → Ok (P w1) Q) (h0 : ∀ x, Q x → x.1 = (1 : Int32) := by exact fun x h => h.1) : Ok (wrpC N (0 : Int32) f P w) Q := by
  unfold wrpC
  rw [callW_eq]
  refine ok_bind (c_pass h hk f) ?_
  rintro ⟨x, w1⟩ ⟨e, f1, j1⟩
  simp only at e f1 j1
  subst e
  simp only [↓n1_0, ↓reduceIte, callW_eq]
  refine ok_bind (hP w1 f1 j1) ?_
  rintro ⟨x, w2⟩ hx
  have e := h0 _ hx
  simp only at e
  subst e
  exact ok_some hx
end

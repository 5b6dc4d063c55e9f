/-! ===== a text is read by both: frames, what stands at token k, the small reads ===== -/
def mK (k : Nat) : Bool := k == 5 || k == 8 || k == 10 || k == 21 || (decide (30 ≤ k) && decide (k ≤ 39)) || (decide (48 ≤ k) && decide (k ≤ 53))
def iMo (k i : Nat) : Nat := if k = 5 ∨ k = 21 then i / 2 else i
def kAd : List Nat := [15005, 15008, 15009, 15010]
def kFl : List Nat := [12008, 12009]
def kFm : List Nat := [17004, 17005]
def kRd : List Nat := [15005, 15008, 15009, 15010, 12008, 12009, 12002, 12003, 12005, 12006, 54, 6002, 21, 9000, 9005, 9010, 9012, 9015, 9016, 9017, 11000, 30, 31, 32, 33, 34, 35, 36, 37, 38, 39, 48, 49, 50, 51, 52, 53]
def FC (d : Nat) (w w' : Wd) : Prop := ∀ k i j, (kRd.contains (ky k j) = false ∨ (mK k = true ∧ iMo k i ≠ d ∧ j < 100)) → gI w' k i j = gI w k i j ∧ gL w' k i j = gL w k i j ∧ gR w' k i j = gR w k i j
def hfL : List Nat := [8, 8, 8, 6, 6, 6, 6, 6, 6, 8, 8, 8, 8, 14, 12, 12, 2, 2, 2, 64, 64, 64]
def hf (k : Nat) : Nat := if 75 ≤ k then hfL.getD (k - 75) 0 else 0
def kRm : List Nat := [17004, 17005, 17007, 17008, 17009, 17010, 17011, 17020, 17021, 17022, 17023, 17024, 17025, 17026, 17027, 17028, 17029, 17030, 17055, 17056, 17057, 17058, 17059, 17060, 75, 76, 77, 78, 79, 80, 81, 82, 83, 84, 85, 86, 87, 88, 89, 90, 91, 92, 93, 94, 95, 96, 97, 98]
def FM (w w' : Wd) : Prop := ∀ k i j, (kRm.contains (ky k j) = false ∨ j < hf k) → gI w' k i j = gI w k i j ∧ gL w' k i j = gL w k i j ∧ gR w' k i j = gR w k i j
section
variable {N : Nat} {w w' w0 w1 : Wd} {b : Nat → Nat} {n m d k : Nat} {u : Vw}
theorem FC_refl (d : Nat) (w : Wd) : FC d w w := fun _ _ _ _ => ⟨rfl, rfl, rfl⟩
theorem FC_trans (h : FC d w w1) (h2 : FC d w1 w') : FC d w w' := fun k i j hk =>
  ⟨((h2 k i j hk).1).trans ((h k i j hk).1), ((h2 k i j hk).2.1).trans ((h k i j hk).2.1), ((h2 k i j hk).2.2).trans ((h k i j hk).2.2)⟩
theorem FC_setI {k i j : Nat} {x : Int32} (h : FC d w0 w) (hk : kRd.contains (ky k j) = true) (hm : mK k = false ∨ iMo k i = d) : FC d w0 (setI w k i j x) := fun k' i' j' hk' => by
  refine ⟨?_, (h k' i' j' hk').2.1, (h k' i' j' hk').2.2⟩
  rw [gg_I, if_neg]
  · exact (h k' i' j' hk').1
  · rintro ⟨rfl, rfl, rfl⟩
    rcases hk' with z | ⟨z1, z2, _⟩
    · rw [hk] at z; cases z
    · rcases hm with y | y
      · rw [z1] at y; cases y
      · exact z2 y
theorem ky_mK {k j : Nat} (h : mK k = true) (hj : j < 100) : ky k j < 12000 := by
  unfold mK at h
  simp only [Bool.or_eq_true, Bool.and_eq_true, beq_iff_eq, decide_eq_true_eq] at h
  unfold ky
  split
  · omega
  · omega
theorem FC_of {l : List Nat} (f : Fr l w w') (h1 : l.all (fun x => kRd.contains x) = true) (h2 : l.all (fun x => decide (12000 ≤ x)) = true) : FC d w w' := fun k i j hk => f k i j (by
  cases e : l.contains (ky k j) with
  | false => rfl
  | true =>
    have m1 := List.contains_iff_mem.mp e
    rcases hk with z | ⟨z1, _, z3⟩
    · have := List.all_eq_true.mp h1 _ m1
      rw [this] at z; cases z
    · have := List.all_eq_true.mp h2 _ m1
      have h3 := ky_mK z1 z3
      simp only [decide_eq_true_eq] at this
      omega)
theorem FC_Fr (h : FC d w w') : Fr kRd w w' := fun k i j hk => h k i j (Or.inl hk)
theorem FM_refl (w : Wd) : FM w w := fun _ _ _ _ => ⟨rfl, rfl, rfl⟩
theorem FM_trans (h : FM w w1) (h2 : FM w1 w') : FM w w' := fun k i j hk =>
  ⟨((h2 k i j hk).1).trans ((h k i j hk).1), ((h2 k i j hk).2.1).trans ((h k i j hk).2.1), ((h2 k i j hk).2.2).trans ((h k i j hk).2.2)⟩
theorem FM_setI {k i j : Nat} {x : Int32} (h : FM w0 w) (hk : kRm.contains (ky k j) = true) (hj : hf k ≤ j) : FM w0 (setI w k i j x) := fun k' i' j' hk' => by
  refine ⟨?_, (h k' i' j' hk').2.1, (h k' i' j' hk').2.2⟩
  rw [gg_I, if_neg]
  · exact (h k' i' j' hk').1
  · rintro ⟨rfl, rfl, rfl⟩
    rcases hk' with z | z
    · rw [hk] at z; cases z
    · omega
theorem hf_pos {k : Nat} (h : 0 < hf k) : 75 ≤ k ∧ k ≤ 96 := by
  unfold hf at h
  split at h
  · rename_i z
    refine ⟨z, Classical.byContradiction (fun q => ?_)⟩
    have : hfL.getD (k - 75) 0 = 0 := by
      rw [List.getD_eq_getElem?_getD, List.getElem?_eq_none]
      · rfl
      · show 22 ≤ k - 75
        omega
    omega
  · omega
theorem FM_of {l : List Nat} (f : Fr l w w') (h1 : l.all (fun x => kRm.contains x) = true) (h2 : l.all (fun x => decide (1000 ≤ x)) = true) : FM w w' := fun k i j hk => f k i j (by
  cases e : l.contains (ky k j) with
  | false => rfl
  | true =>
    have m1 := List.contains_iff_mem.mp e
    rcases hk with z | z
    · have := List.all_eq_true.mp h1 _ m1
      rw [this] at z; cases z
    · have := List.all_eq_true.mp h2 _ m1
      have h3 := hf_pos (k := k) (by omega)
      simp only [decide_eq_true_eq] at this
      unfold ky at this
      split at this
      · omega
      · omega)
theorem FM_Fr (h : FM w w') : Fr kRm w w' := fun k i j hk => h k i j (Or.inl hk)
/-- what stands at token k -/
def JC (w : Wd) (b : Nat → Nat) (n m d k : Nat) : Prop := toC w b n m ∧ k ≤ m ∧ tkC w b n k ∧ (gI w 14 0 5 = nI (k + 1) ∧ gI w 11 0 8 = nI 0 ∧ gI w 11 0 9 = (-1 : Int32)) ∧ gR w 11 0 1 = d
def JM (w : Wd) (b : Nat → Nat) (n k : Nat) : Prop := BM w b n ∧ (WD w ∧ gI w 16 0 4 = nI 0 ∧ gI w 16 0 5 = (-1 : Int32)) ∧ tkM w b n (qs b n k)
def kJC : List Nat := [68, 69, 70, 15004, 15005, 15008, 15009, 15010, 12001, 12008, 12009]
def kJM : List Nat := [17006, 73, 67, 74, 17007, 17008, 17009, 17010, 17004, 17005]
theorem JC_fr {l : List Nat} (f : Fr l w w') (h : JC w b n m d k) (hl : dis l kJC = true := by decide) : JC w' b n m d k := by
  obtain ⟨h1, h2, h3, h4, h5⟩ := h
  exact ⟨toC_fr f h1 (dis_sub hl (by decide)), h2, tkC_fr f h3 (dis_sub hl (by decide)), ⟨by rw [Fr_I f hl (by decide)]; exact h4.1, by rw [Fr_I f hl (by decide)]; exact h4.2.1, by rw [Fr_I f hl (by decide)]; exact h4.2.2⟩, by rw [Fr_R f hl (by decide)]; exact h5⟩
theorem JM_fr {l : List Nat} (f : Fr l w w') (h : JM w b n k) (hl : dis l kJM = true := by decide) : JM w' b n k := by
  obtain ⟨h1, h2, h3⟩ := h
  exact ⟨BM_fr f h1 (dis_sub hl (by decide)), ⟨WD_fr f h2.1 (dis_sub hl (by decide)), by rw [Fr_I f hl (by decide)]; exact h2.2.1, by rw [Fr_I f hl (by decide)]; exact h2.2.2⟩, tkM_fr f h3 (dis_sub hl (by decide))⟩
theorem tK_kind (b : Nat → Nat) (n k : Nat) : tK b n k < 24 ∨ (32 ≤ tK b n k ∧ tK b n k ≤ 44) ∨ tK b n k = 50 ∨ tK b n k = 60 ∨ tK b n k = 61 ∨ tK b n k = 62 := by
  unfold tK tkQ
  split
  · have := tkN_kind (b := b) (n := n) (i := skB b n (qs b n k))
    omega
  · exact Or.inr (Or.inr (Or.inr (Or.inl rfl)))
theorem tK_lt (b : Nat → Nat) (n k : Nat) : tK b n k < 64 := by have := tK_kind b n k; omega
theorem kC_inj : ∀ x, x < 64 → ∀ y, y < 64 → kC x = kC y → x = y := by decide +kernel
theorem JC_is (h : JC w b n m d k) {c : Nat} (hc : c < 64) : (gI w 14 0 8 = kC c) = (tK b n k = c) := by
  rw [h.2.2.1.1]
  exact propext ⟨fun z => kC_inj _ (tK_lt b n k) _ hc z, fun z => by rw [z]⟩
theorem JM_kd (h : JM w b n k) : kdM w (tK b n k) (tV b n k) := h.2.2.2.2
theorem JC_at (h : JC w b n m d k) : gI w 14 0 9 = nI (tP b n k) := h.2.2.1.2.1
theorem JM_at (h : JM w b n k) : gI w 16 0 10 = nI (tP b n k) := h.2.2.2.1
theorem JC_lt (h : JC w b n m d k) (hk : tK b n k ≠ 60) : k < m := by
  rcases Nat.lt_or_ge k m with z | z
  · exact z
  · have : k = m := by have := h.2.1; omega
    subst this
    exact absurd h.1.2.1 hk
/-- on -/
theorem c_adv (h : JC w b n m d k) (hk : tK b n k ≠ 60) : Ok (pX10_advance N w) (fun w' => Fr kAd w w' ∧ JC w' b n m d (k + 1)) := by
  have hlt := JC_lt h hk
  obtain ⟨h1, h2, h3, h4, h5⟩ := h
  refine ok_mono (c_advance (N := N) (k := k + 1) h1 (by omega) h4.1) ?_
  rintro w1 ⟨f, g5, t⟩
  have f' : Fr kAd w w1 := Fr_mono f rfl
  exact ⟨f', toC_fr f' h1, by omega, t, ⟨g5, by rw [(f' 11 0 8 rfl).1]; exact h4.2.1, by rw [(f' 11 0 9 rfl).1]; exact h4.2.2⟩, by rw [(f' 11 0 1 rfl).2.2]; exact h5⟩
theorem m_adv (h : JM w b n k) (hN : 1000 ≤ N) : Ok (pX12_token N w) (fun w' => Fr kTk w w' ∧ JM w' b n (k + 1)) := by
  obtain ⟨h1, h2, h3⟩ := h
  refine ok_mono (m_token (N := N) h1 h2.1 hN (q := qs b n (k + 1)) (qs_le _) h3.1) ?_
  rintro w1 ⟨f, t⟩
  exact ⟨f, BM_fr f h1, ⟨WD_fr f h2.1, by rw [(f 16 0 4 rfl).1]; exact h2.2.1, by rw [(f 16 0 5 rfl).1]; exact h2.2.2⟩, t⟩
/-! faults -/
def flC (w w' : Wd) (f p : Nat) : Prop := Fr kFl w w' ∧ gI w' 11 0 8 = nI f ∧ gI w' 11 0 9 = nI p
def flM (w w' : Wd) (f p : Nat) : Prop := Fr kFm w w' ∧ gI w' 16 0 4 = nI f ∧ gI w' 16 0 5 = nI p
theorem c_fail (h : JC w b n m d k) (f : Nat) : Ok (pX7_fail N (nI f) w) (fun x => x.1 = (0 : Int32) ∧ flC w x.2 f (tP b n k)) := by
  have e : gI (setI w 11 0 8 (nI f)) 14 0 9 = nI (tP b n k) := by rw [gg_I, if_neg (by omega)]; exact JC_at h
  simp only [pX7_fail, ↓e]
  exact ok_some ⟨rfl, Fr_setI (Fr_setI (Fr_refl _ _) rfl) rfl, by rw [gg_I, if_neg (by omega), gg_I, if_pos ⟨rfl, rfl, rfl⟩], by rw [gg_I, if_pos ⟨rfl, rfl, rfl⟩]⟩
theorem m_wrong (h : JM w b n k) (f : Nat) : Ok (pX12_wrong N (nI f) w) (fun x => x.1 = (0 : Int32) ∧ flM w x.2 f (tP b n k)) := by
  have e : gI (setI w 16 0 4 (nI f)) 16 0 10 = nI (tP b n k) := by rw [gg_I, if_neg (by omega)]; exact JM_at h
  simp only [pX12_wrong, ↓e]
  exact ok_some ⟨rfl, Fr_setI (Fr_setI (Fr_refl _ _) rfl) rfl, by rw [gg_I, if_neg (by omega), gg_I, if_pos ⟨rfl, rfl, rfl⟩], by rw [gg_I, if_pos ⟨rfl, rfl, rfl⟩]⟩
theorem c_failZ (h : JC w b n m d k) (f : Nat) : Ok ((callW (pX7_fail N (nI f)) w).bind fun r => retZ r.1 r.2) (fun x => x.1 = (0 : Int32) ∧ flC w x.2 f (tP b n k)) := by
  rw [callW_eq]
  refine ok_bind (c_fail h f) ?_
  rintro ⟨x, w1⟩ ⟨e, h2⟩
  simp only at e h2
  subst e
  exact ok_of (retZ_b false w1) ⟨rfl, h2⟩
theorem m_wrongZ (h : JM w b n k) (f : Nat) : Ok ((callW (pX12_wrong N (nI f)) w).bind fun r => retZ r.1 r.2) (fun x => x.1 = (0 : Int32) ∧ flM w x.2 f (tP b n k)) := by
  rw [callW_eq]
  refine ok_bind (m_wrong h f) ?_
  rintro ⟨x, w1⟩ ⟨e, h2⟩
  simp only at e h2
  subst e
  exact ok_of (retZ_b false w1) ⟨rfl, h2⟩
/-! the reference's kinds -/
theorem kM_8 {K V : Nat} (h : kdM w K V) (hK : K < 24 ∨ (32 ≤ K ∧ K ≤ 44) ∨ K = 50 ∨ K = 60 ∨ K = 61 ∨ K = 62) :
    (gI w 16 0 8 = (0 : Int32) ↔ K = 60) ∧ (gI w 16 0 8 = (1 : Int32) ↔ K < 24) ∧ (gI w 16 0 8 = (2 : Int32) ↔ K = 62) ∧ (gI w 16 0 8 = (3 : Int32) ↔ K = 61) ∧ (gI w 16 0 8 = (5 : Int32) ↔ 39 ≤ K ∧ K ≤ 44) ∧ (gI w 16 0 8 = (4 : Int32) → (32 ≤ K ∧ K ≤ 38) ∨ K = 50) := by
  obtain ⟨h1, h2, h3, h4, h5, h6, h7⟩ := h
  have no : ∀ {a c : Int32} {P : Prop}, a ≠ c → ¬ P → gI w 16 0 8 = a → (gI w 16 0 8 = c ↔ P) := fun q p e => ⟨fun z => absurd (e.symm.trans z) q, fun z => absurd z p⟩
  have ne : ∀ {a c : Int32} {P : Prop}, a ≠ c → gI w 16 0 8 = a → (gI w 16 0 8 = c → P) := fun q e z => absurd (e.symm.trans z) q
  rcases hK with q | q | q | q | q | q
  · have e := (h1 q).1
    exact ⟨no (by decide) (by omega) e, ⟨fun _ => q, fun _ => e⟩, no (by decide) (by omega) e, no (by decide) (by omega) e, no (by decide) (by omega) e, ne (by decide) e⟩
  · rcases Nat.lt_or_ge K 39 with z | z
    · have e := (h5 q.1 (by omega)).1
      exact ⟨no (by decide) (by omega) e, no (by decide) (by omega) e, no (by decide) (by omega) e, no (by decide) (by omega) e, no (by decide) (by omega) e, fun _ => Or.inl ⟨q.1, by omega⟩⟩
    · have e := (h6 z q.2).1
      exact ⟨no (by decide) (by omega) e, no (by decide) (by omega) e, no (by decide) (by omega) e, no (by decide) (by omega) e, ⟨fun _ => ⟨z, q.2⟩, fun _ => e⟩, ne (by decide) e⟩
  · rcases h7 q with e | ⟨e, _⟩
    · exact ⟨no (by decide) (by omega) e, no (by decide) (by omega) e, no (by decide) (by omega) e, no (by decide) (by omega) e, no (by decide) (by omega) e, ne (by decide) e⟩
    · exact ⟨no (by decide) (by omega) e, no (by decide) (by omega) e, no (by decide) (by omega) e, no (by decide) (by omega) e, no (by decide) (by omega) e, fun _ => Or.inr q⟩
  · have e := h2 q
    exact ⟨⟨fun _ => q, fun _ => e⟩, no (by decide) (by omega) e, no (by decide) (by omega) e, no (by decide) (by omega) e, no (by decide) (by omega) e, ne (by decide) e⟩
  · have e := (h3 q).1
    exact ⟨no (by decide) (by omega) e, no (by decide) (by omega) e, no (by decide) (by omega) e, ⟨fun _ => q, fun _ => e⟩, no (by decide) (by omega) e, ne (by decide) e⟩
  · have e := (h4 q).1
    exact ⟨no (by decide) (by omega) e, no (by decide) (by omega) e, ⟨fun _ => q, fun _ => e⟩, no (by decide) (by omega) e, no (by decide) (by omega) e, ne (by decide) e⟩
theorem JM_8 (h : JM w b n k) : (gI w 16 0 8 = (0 : Int32) ↔ tK b n k = 60) ∧ (gI w 16 0 8 = (1 : Int32) ↔ tK b n k < 24) ∧ (gI w 16 0 8 = (2 : Int32) ↔ tK b n k = 62) ∧ (gI w 16 0 8 = (3 : Int32) ↔ tK b n k = 61) ∧ (gI w 16 0 8 = (5 : Int32) ↔ 39 ≤ tK b n k ∧ tK b n k ≤ 44) ∧ (gI w 16 0 8 = (4 : Int32) → (32 ≤ tK b n k ∧ tK b n k ≤ 38) ∨ tK b n k = 50) := kM_8 (JM_kd h) (tK_kind b n k)
theorem wr_lt (K : Nat) (h : K < 24) : wrL.getD K 0 < 24 := (wr_f K h).1
theorem wr_inj {x y : Nat} (hx : x < 24) (hy : y < 24) (h : wrL.getD x 0 = wrL.getD y 0) : x = y := by
  rw [← (wr_f x hx).2, ← (wr_f y hy).2, h]
/-- isKey: c is the class's number of the word -/
theorem m_isKey (h : JM w b n k) {c : Nat} (hc : c < 24) : pX12_isKey N (nI (wrL.getD c 0)) w = some (zB (decide (tK b n k = c)), w) := by
  have h8 := (JM_8 h).2.1
  by_cases y : tK b n k < 24
  · have q : (gI w 16 0 8 = (1 : Int32)) = True := eq_true (h8.mpr y)
    have e9 := ((JM_kd h).1 y).2
    by_cases z : tK b n k = c
    · have q2 : (gI w 16 0 9 = nI (wrL.getD c 0)) = True := eq_true (by rw [e9, z])
      simp only [pX12_isKey, ↓q, ↓q2, ↓reduceIte, decide_eq_true z]
      rfl
    · have q2 : (gI w 16 0 9 = nI (wrL.getD c 0)) = False := eq_false (fun p => by
        rw [e9] at p
        have h1 := wr_lt _ y
        have h2 := wr_lt c hc
        exact z (wr_inj y hc ((nI_eq (by omega) (by omega)).mp p)))
      simp only [pX12_isKey, ↓q, ↓q2, ↓reduceIte, decide_eq_false z]
      rfl
  · have q : (gI w 16 0 8 = (1 : Int32)) = False := eq_false (fun z => y (h8.mp z))
    have z : ¬ tK b n k = c := by omega
    simp only [pX12_isKey, ↓q, ↓reduceIte, decide_eq_false z]
    rfl
theorem sg_inj : ∀ x, x < 7 → ∀ y, y < 7 → sgL.getD x 0 = sgL.getD y 0 → x = y := by decide
theorem sg_no : ∀ x, x < 7 → sgL.getD x 0 ≠ 37 ∧ sgL.getD x 0 < 100 := by decide
/-- isSign: c is the class's number of the sign -/
theorem m_isSign (h : JM w b n k) {c : Nat} (hc : 32 ≤ c) (hc2 : c ≤ 38) : pX12_isSign N (nI (sgL.getD (c - 32) 0)) w = some (zB (decide (tK b n k = c)), w) := by
  have h8 := (JM_8 h).2.2.2.2.2
  have hs := sg_no (c - 32) (by omega)
  by_cases y : gI w 16 0 8 = (4 : Int32)
  · have q : (gI w 16 0 8 = (4 : Int32)) = True := eq_true y
    by_cases z : tK b n k = c
    · have e9 := ((JM_kd h).2.2.2.2.1 (by omega) (by omega)).2
      have q2 : (gI w 16 0 9 = nI (sgL.getD (c - 32) 0)) = True := eq_true (by rw [e9, z])
      simp only [pX12_isSign, ↓q, ↓q2, ↓reduceIte, decide_eq_true z]
      rfl
    · have q2 : (gI w 16 0 9 = nI (sgL.getD (c - 32) 0)) = False := eq_false (fun p => by
        rcases h8 y with ⟨z1, z2⟩ | z1
        · have e9 := ((JM_kd h).2.2.2.2.1 z1 z2).2
          rw [e9] at p
          have hs2 := sg_no (tK b n k - 32) (by omega)
          have := sg_inj _ (show tK b n k - 32 < 7 by omega) _ (show c - 32 < 7 by omega) ((nI_eq (by omega) (by omega)).mp p)
          omega
        · rcases (JM_kd h).2.2.2.2.2.2 z1 with e | ⟨e, e9⟩
          · rw [e] at y; exact absurd y (by decide)
          · rw [e9] at p
            exact hs.1 ((nI_eq (by omega) (by omega)).mp p).symm)
      simp only [pX12_isSign, ↓q, ↓q2, ↓reduceIte, decide_eq_false z]
      rfl
  · have q : (gI w 16 0 8 = (4 : Int32)) = False := eq_false y
    have z : ¬ tK b n k = c := fun e => y ((JM_kd h).2.2.2.2.1 (by omega) (by omega)).1
    simp only [pX12_isSign, ↓q, ↓reduceIte, decide_eq_false z]
    rfl
/-! numbers -/
def nmF (b : Nat → Nat) (n k lo hi : Nat) : Nat := if tK b n k = 61 then (if tV b n k < lo ∨ hi < tV b n k then 2 else 0) else 1
theorem c_numX (h : JC w b n m d k) {lo hi : Nat} (hlo : lo ≤ 99999) (hhi : hi ≤ 99999) (h61 : tK b n k = 61) :
    (gI w 14 0 10 < nI lo ↔ tV b n k < lo) ∧ (nI hi < gI w 14 0 10 ↔ hi < tV b n k) ∧ (tV b n k ≤ 99999 → gI w 14 0 10 = nI (tV b n k)) := by
  obtain ⟨x, ex, h1, h2⟩ := h.2.2.1.2.2.1 h61
  rw [ex, nI_ltI (by omega) (by omega), nI_ltI (by omega) (by omega)]
  refine ⟨?_, ?_, fun z => ?_⟩
  · omega
  · omega
  · rcases h2 with ⟨_, e⟩ | ⟨e, _⟩
    · rw [e]
    · omega
theorem c_num (h : JC w b n m d k) {lo hi : Nat} (hlo : lo ≤ 99999) (hhi : hi ≤ 99999) (hz : nmF b n k lo hi = 0) : Ok (pX7_readNumber N (nI lo) (nI hi) w) (fun x => x.1 = nI (tV b n k) ∧ Fr kAd w x.2 ∧ JC x.2 b n m d (k + 1)) := by
  unfold nmF at hz
  by_cases y : tK b n k = 61
  · rw [if_pos y] at hz
    obtain ⟨x1, x2, x3⟩ := c_numX h hlo hhi y
    have hr : ¬ (tV b n k < lo ∨ hi < tV b n k) := fun z => by rw [if_pos z] at hz; omega
    have q : (gI w 14 0 8 = (-3 : Int32)) = True := (JC_is h (c := 61) (by omega)).trans (eq_true y)
    have q1 : (gI w 14 0 10 < nI lo) = False := eq_false (fun z => hr (Or.inl (x1.mp z)))
    have q2 : (nI hi < gI w 14 0 10) = False := eq_false (fun z => hr (Or.inr (x2.mp z)))
    have e := x3 (by omega)
    simp only [pX7_readNumber, ↓q, ↓q1, ↓q2, ↓reduceIte, callW_eq]
    refine ok_bind (c_adv (N := N) h (by omega)) ?_
    rintro w1 ⟨f, j⟩
    exact ok_some ⟨e, f, j⟩
  · rw [if_neg y] at hz; omega
theorem c_numF (h : JC w b n m d k) {lo hi : Nat} (hlo : lo ≤ 99999) (hhi : hi ≤ 99999) (hz : nmF b n k lo hi ≠ 0) : Ok (pX7_readNumber N (nI lo) (nI hi) w) (fun x => x.1 = (-1 : Int32) ∧ flC w x.2 (nmF b n k lo hi) (tP b n k)) := by
  have e21 : Ok (fX7_readNumber_21 N w) (fun x => x.1 = (-1 : Int32) ∧ flC w x.2 2 (tP b n k)) := by
    unfold fX7_readNumber_21
    rw [callW_eq]
    refine ok_bind (c_fail h 2) ?_
    rintro ⟨x, w1⟩ ⟨_, h2⟩
    exact ok_some ⟨rfl, h2⟩
  unfold nmF at hz ⊢
  by_cases y : tK b n k = 61
  · rw [if_pos y] at hz ⊢
    obtain ⟨x1, x2, x3⟩ := c_numX h hlo hhi y
    have q : (gI w 14 0 8 = (-3 : Int32)) = True := (JC_is h (c := 61) (by omega)).trans (eq_true y)
    by_cases z1 : tV b n k < lo
    · have q1 : (gI w 14 0 10 < nI lo) = True := eq_true (x1.mpr z1)
      rw [if_pos (Or.inl z1)]
      simp only [pX7_readNumber, ↓q, ↓q1, ↓reduceIte, callW_eq]
      exact e21
    · have q1 : (gI w 14 0 10 < nI lo) = False := eq_false (fun z => z1 (x1.mp z))
      by_cases z2 : hi < tV b n k
      · have q2 : (nI hi < gI w 14 0 10) = True := eq_true (x2.mpr z2)
        rw [if_pos (Or.inr z2)]
        simp only [pX7_readNumber, ↓q, ↓q1, ↓q2, ↓reduceIte, callW_eq]
        exact e21
      · rw [if_neg (fun z => by omega)] at hz
        exact absurd rfl hz
  · have q : (gI w 14 0 8 = (-3 : Int32)) = False := (JC_is h (c := 61) (by omega)).trans (eq_false y)
    rw [if_neg y]
    simp only [pX7_readNumber, ↓q, ↓reduceIte, callW_eq]
    refine ok_bind (c_fail h 1) ?_
    rintro ⟨x, w1⟩ ⟨_, h2⟩
    exact ok_some ⟨rfl, h2⟩
theorem tV_num (h : JM w b n k) (h61 : tK b n k = 61) : tV b n k < 2 ^ 30 := by
  have hb := h.1.2.2
  unfold tK tV tkQ at *
  by_cases y : skB b n (qs b n k) < n
  · rw [if_pos y] at h61 ⊢
    generalize skB b n (qs b n k) = i at *
    unfold tkN at h61 ⊢
    by_cases z : isL (b i) = true
    · rw [if_pos z] at h61
      exfalso
      split at h61
      · rename_i z2; simp only at h61; omega
      · split at h61
        · simp only at h61; omega
        · simp only at h61; omega
    · rw [if_neg z] at h61 ⊢
      by_cases z2 : isD (b i) = true
      · rw [if_pos z2]
        have : ∀ d, d ≤ rn (fun j => isD (b j)) n i - i → nuG b i d ≤ 999999 := by
          intro d
          induction d with
          | zero => intro _; exact Nat.zero_le _
          | succ d ih =>
            intro hd
            have h1 := ih (by omega)
            have h2 := (rn_in (fun j => isD (b j)) (n := n) (i := i) (j := i + d) (by omega) (by omega)).2
            unfold isD at h2
            rw [Bool.and_eq_true, decide_eq_true_eq, decide_eq_true_eq] at h2
            rw [nuG]
            split
            · exact h1
            · omega
        have := this _ (Nat.le_refl _)
        show nuG b i (rn (fun j => isD (b j)) n i - i) < 2 ^ 30
        omega
      · rw [if_neg z2] at h61
        have := sgN_kind (b i) (if i + 1 < n then b (i + 1) else 0)
        simp only at h61
        omega
  · rw [if_neg y] at h61
    simp only at h61
    omega
theorem m_isIn {x lo hi : Nat} (hx : x < 2 ^ 30) (hlo : lo ≤ 99999) (hhi : hi ≤ 99999) : pX12_isIn N (nI x) (nI lo) (nI hi) w = some (zB (decide (lo ≤ x) && decide (x ≤ hi)), w) := by
  by_cases y : x < lo
  · have q : (nI x < nI lo) = True := eq_true ((nI_ltI (by omega) (by omega)).mpr y)
    simp only [pX12_isIn, ↓q, ↓reduceIte, show decide (lo ≤ x) = false from decide_eq_false (by omega), Bool.false_and]
    rfl
  · have q : (nI x < nI lo) = False := eq_false (fun z => y ((nI_ltI (by omega) (by omega)).mp z))
    by_cases y2 : hi < x
    · have q2 : (nI hi < nI x) = True := eq_true ((nI_ltI (by omega) (by omega)).mpr y2)
      simp only [pX12_isIn, ↓q, ↓q2, ↓reduceIte, show decide (x ≤ hi) = false from decide_eq_false (by omega), Bool.and_false]
      rfl
    · have q2 : (nI hi < nI x) = False := eq_false (fun z => y2 ((nI_ltI (by omega) (by omega)).mp z))
      simp only [pX12_isIn, ↓q, ↓q2, ↓reduceIte, show decide (lo ≤ x) = true from decide_eq_true (by omega), show decide (x ≤ hi) = true from decide_eq_true (by omega), Bool.and_true]
      rfl
def kNu : List Nat := [17007, 17008, 17009, 17010, 17011]
theorem m_num (h : JM w b n k) (hN : 1000 ≤ N) {lo hi : Nat} (hlo : lo ≤ 99999) (hhi : hi ≤ 99999) (hz : nmF b n k lo hi = 0) : Ok (pX12_number N (nI lo) (nI hi) w) (fun x => x.1 = (1 : Int32) ∧ Fr kNu w x.2 ∧ JM x.2 b n (k + 1) ∧ gI x.2 16 0 11 = nI (tV b n k)) := by
  unfold nmF at hz
  by_cases y : tK b n k = 61
  · rw [if_pos y] at hz
    have hr : ¬ (tV b n k < lo ∨ hi < tV b n k) := fun z => by rw [if_pos z] at hz; omega
    have q : (gI w 16 0 8 = (3 : Int32)) = True := eq_true ((JM_8 h).2.2.2.1.mpr y)
    have e9 := ((JM_kd h).2.2.1 y).2
    have g := m_isIn (N := N) (w := w) (tV_num h y) hlo hhi
    rw [show decide (lo ≤ tV b n k) = true from decide_eq_true (by omega), show decide (tV b n k ≤ hi) = true from decide_eq_true (by omega), Bool.and_true, ← e9] at g
    simp only [pX12_number, ↓q, ↓cbnd g, ↓z1, ↓reduceIte, callW_eq]
    have f1 : Fr [17011] w (setI w 16 0 11 (gI w 16 0 9)) := Fr_setI (Fr_refl _ _) rfl
    refine ok_bind (m_adv (N := N) (JM_fr f1 h) hN) ?_
    rintro w1 ⟨f, j⟩
    refine ok_some ⟨rfl, Fr_trans (Fr_mono f1 rfl) (Fr_mono f rfl), j, ?_⟩
    rw [(f 16 0 11 rfl).1, gg_I, if_pos ⟨rfl, rfl, rfl⟩, e9]
  · rw [if_neg y] at hz; omega
theorem m_numF (h : JM w b n k) {lo hi : Nat} (hlo : lo ≤ 99999) (hhi : hi ≤ 99999) (hz : nmF b n k lo hi ≠ 0) : Ok (pX12_number N (nI lo) (nI hi) w) (fun x => x.1 = (0 : Int32) ∧ flM w x.2 (nmF b n k lo hi) (tP b n k)) := by
  unfold nmF at hz ⊢
  by_cases y : tK b n k = 61
  · rw [if_pos y] at hz ⊢
    have hr : tV b n k < lo ∨ hi < tV b n k := Classical.byContradiction (fun z => by rw [if_neg z] at hz; exact hz rfl)
    have q : (gI w 16 0 8 = (3 : Int32)) = True := eq_true ((JM_8 h).2.2.2.1.mpr y)
    have e9 := ((JM_kd h).2.2.1 y).2
    have g := m_isIn (N := N) (w := w) (tV_num h y) hlo hhi
    rw [show (decide (lo ≤ tV b n k) && decide (tV b n k ≤ hi)) = false by
      rcases hr with z | z
      · rw [show decide (lo ≤ tV b n k) = false from decide_eq_false (by omega), Bool.false_and]
      · rw [show decide (tV b n k ≤ hi) = false from decide_eq_false (by omega), Bool.and_false], ← e9] at g
    rw [if_pos hr]
    simp only [pX12_number, ↓q, ↓cbnd g, ↓z2, ↓reduceIte]
    exact m_wrongZ h 2
  · have q : (gI w 16 0 8 = (3 : Int32)) = False := eq_false (fun z => y ((JM_8 h).2.2.2.1.mp z))
    rw [if_neg y]
    simp only [pX12_number, ↓q, ↓reduceIte]
    exact m_wrongZ h 1
/-! names -/
def nmN (g : Nat → Int32) (x : Int32) : Nat → Nat → Nat
  | 0, c => c
  | d + 1, c => if g c = x then c else nmN g x d (c + 1)
theorem nmI_N (g : Nat → Int32) (x : Int32) : ∀ d c, nmI g x d c = if nmN g x d c < c + d then nI (nmN g x d c) else (-1 : Int32) := by
  intro d
  induction d with
  | zero => intro c; rw [nmI, nmN, if_neg (by omega)]
  | succ d ih =>
    intro c
    rw [nmI, nmN]
    by_cases y : g c = x
    · rw [if_pos y, if_pos y, if_pos (by omega)]
    · rw [if_neg y, if_neg y, ih (c + 1), show c + 1 + d = c + (d + 1) by omega]
theorem nmN_ext {f g : Nat → Int32} {x : Int32} : ∀ d c, (∀ j, c ≤ j → j < c + d → f j = g j) → nmN f x d c = nmN g x d c := by
  intro d
  induction d with
  | zero => intro c _; rfl
  | succ d ih =>
    intro c h
    rw [nmN, nmN, h c (by omega) (by omega), ih (c + 1) (fun j a b => h j (by omega) (by omega))]
theorem tV_name (h : JM w b n k) (h62 : tK b n k = 62) : tV b n k < 2 ^ 30 := by
  have hb := h.1.2.2
  unfold tK tV tkQ at *
  by_cases y : skB b n (qs b n k) < n
  · rw [if_pos y] at h62 ⊢
    generalize skB b n (qs b n k) = i at *
    unfold tkN at h62 ⊢
    by_cases z : isL (b i) = true
    · rw [if_pos z] at h62 ⊢
      by_cases z2 : wdN b i (rn (fun j => isL (b j)) n i - i) < 24
      · rw [if_pos z2] at h62; simp only at h62; omega
      · rw [if_neg z2] at h62 ⊢
        by_cases z3 : rn (fun j => isL (b j)) n i - i ≤ 6
        · rw [if_pos z3]
          have e := pk6_ge (b := b) (i := i) (d := rn (fun j => isL (b j)) n i - i) (6 - (rn (fun j => isL (b j)) n i - i))
          rw [show rn (fun j => isL (b j)) n i - i + (6 - (rn (fun j => isL (b j)) n i - i)) = 6 by omega] at e
          show pkL b i (rn (fun j => isL (b j)) n i - i) * 32 ^ (6 - (rn (fun j => isL (b j)) n i - i)) < 2 ^ 30
          rw [← e]
          exact pk6_lt (b := b) (i := i) (d := rn (fun j => isL (b j)) n i - i) (fun j hj => (rn_in (fun j => isL (b j)) (n := n) (i := i) (j := i + j) (by omega) (by omega)).2) 6
        · rw [if_neg z3] at h62; simp only at h62; omega
    · rw [if_neg z] at h62
      by_cases z2 : isD (b i) = true
      · rw [if_pos z2] at h62; simp only at h62; omega
      · rw [if_neg z2] at h62
        have := sgN_kind (b i) (if i + 1 < n then b (i + 1) else 0)
        simp only at h62
        omega
  · rw [if_neg y] at h62
    simp only at h62
    omega
theorem JC_val (h : JC w b n m d k) (h62 : tK b n k = 62) : gI w 14 0 10 = nI (tV b n k) := h.2.2.1.2.2.2 h62
/-- the first of c names that is this token's -/
def nwN (g : Nat → Nat) (c : Nat) (b : Nat → Nat) (n k : Nat) : Nat := nmN (fun j => nI (g j)) (nI (tV b n k)) c 0
/-- a new name -/
def nnF (g : Nat → Nat) (c : Nat) (b : Nat → Nat) (n k : Nat) : Nat := if tK b n k = 62 then (if nwN g c b n k < c then 3 else 0) else 1
theorem c_new (h : JC w b n m d k) (hN : 100 ≤ N) {k1 c L : Nat} {g : Nat → Nat} (hL : ln k1 d = L) (hL2 : L ≤ 20) (hc : c < L) (hg : ∀ j, j < c → gI w k1 d j = nI (g j)) (hl : dis [k1] kJC = true) (hk1 : ky k1 c = k1) (hz : nnF g c b n k = 0) :
    Ok (pX7_readNewName N k1 d (nI c) w) (fun x => x.1 = (1 : Int32) ∧ (∃ w1, w1 = setI w k1 d c (nI (tV b n k)) ∧ Fr kAd w1 x.2) ∧ JC x.2 b n m d (k + 1)) := by
  unfold nnF at hz
  by_cases y : tK b n k = 62
  · rw [if_pos y] at hz
    have q : (gI w 14 0 8 = (-4 : Int32)) = True := (JC_is h (c := 62) (by omega)).trans (eq_true y)
    have e := JC_val h y
    have gi := c_indexOf (N := N) (w := w) (k0 := k1) (i0 := d) (n := c) (L := L) (x := gI w 14 0 10) hN hL (by omega) hL2
    rw [nmI_ext (g := fun j => nI (g j)) c 0 (fun j _ hj => hg j (by omega)), nmI_N, e] at gi
    have hno : ¬ nwN g c b n k < c := fun z => by rw [if_pos z] at hz; omega
    rw [if_neg (by rw [Nat.zero_add]; exact hno), ← e] at gi
    have lt : (nI c < Int32.ofNat (ln k1 d)) = True := eq_true (by rw [hL]; exact (nI_ltI (by omega) (by omega)).mpr hc)
    have s1 : stI w k1 d (nI c) (ln k1 d) (gI w 14 0 10) = some (setI w k1 d c (gI w 14 0 10)) := by rw [hL]; exact stn hc (by omega)
    have t : ((-1 : Int32) = (-1 : Int32)) = True := eq_true rfl
    simp only [pX7_readNewName, ↓q, ↓cbnd gi, ↓t, ↓lt, ↓bnd s1, ↓reduceIte, callW_eq]
    have f1 : Fr [k1] w (setI w k1 d c (gI w 14 0 10)) := Fr_setI (Fr_refl _ _) (by rw [hk1]; simp)
    refine ok_bind (c_adv (N := N) (JC_fr f1 h hl) (by omega)) ?_
    rintro w2 ⟨f, j⟩
    exact ok_some ⟨rfl, ⟨_, by rw [e], f⟩, j⟩
  · rw [if_neg y] at hz; omega
theorem c_newF (h : JC w b n m d k) (hN : 100 ≤ N) {k1 c L : Nat} {g : Nat → Nat} (hL : ln k1 d = L) (hL2 : L ≤ 20) (hc : c < L) (hg : ∀ j, j < c → gI w k1 d j = nI (g j)) (hz : nnF g c b n k ≠ 0) :
    Ok (pX7_readNewName N k1 d (nI c) w) (fun x => x.1 = (0 : Int32) ∧ flC w x.2 (nnF g c b n k) (tP b n k)) := by
  unfold nnF at hz ⊢
  by_cases y : tK b n k = 62
  · rw [if_pos y] at hz ⊢
    have q : (gI w 14 0 8 = (-4 : Int32)) = True := (JC_is h (c := 62) (by omega)).trans (eq_true y)
    have e := JC_val h y
    have gi := c_indexOf (N := N) (w := w) (k0 := k1) (i0 := d) (n := c) (L := L) (x := gI w 14 0 10) hN hL (by omega) hL2
    rw [nmI_ext (g := fun j => nI (g j)) c 0 (fun j _ hj => hg j (by omega)), nmI_N, e] at gi
    have hyes : nwN g c b n k < c := Classical.byContradiction (fun z => by rw [if_neg z] at hz; exact hz rfl)
    rw [if_pos (by rw [Nat.zero_add]; exact hyes), ← e] at gi
    have t : (nI (nmN (fun j => nI (g j)) (gI w 14 0 10) c 0) = (-1 : Int32)) = False := eq_false (by
      rw [e]
      have : nmN (fun j => nI (g j)) (nI (tV b n k)) c 0 < c := hyes
      exact nz_ne1 (by omega))
    rw [if_pos hyes]
    simp only [pX7_readNewName, ↓q, ↓cbnd gi, ↓t, ↓reduceIte]
    exact c_failZ h 3
  · have q : (gI w 14 0 8 = (-4 : Int32)) = False := (JC_is h (c := 62) (by omega)).trans (eq_false y)
    rw [if_neg y]
    simp only [pX7_readNewName, ↓q, ↓reduceIte]
    exact c_failZ h 1
theorem m_new (h : JM w b n k) (hN : 1000 ≤ N) {k1 o c L : Nat} {g : Nat → Nat} (hL : ln k1 0 = L) (hL2 : L ≤ 20) (hc : o + c < L) (hg : ∀ j, j < c → gI w k1 0 (o + j) = nI (g j)) (hl : dis [k1] kJM = true) (hk1 : ky k1 (o + c) = k1) (hz : nnF g c b n k = 0) :
    Ok (pX12_newName N k1 0 (nI o) (nI c) w) (fun x => x.1 = (1 : Int32) ∧ (∃ w1, w1 = setI w k1 0 (o + c) (nI (tV b n k)) ∧ Fr kTk w1 x.2) ∧ JM x.2 b n (k + 1)) := by
  unfold nnF at hz
  by_cases y : tK b n k = 62
  · rw [if_pos y] at hz
    have q : (gI w 16 0 8 = (2 : Int32)) = True := eq_true ((JM_8 h).2.2.1.mpr y)
    have e := ((JM_kd h).2.2.2.1 y).2
    have gi := m_find (N := N) (w := w) (k0 := k1) (o := o) (n := c) (L := L) (x := gI w 16 0 9) (by omega) hL (by omega) hL2
    rw [nmI_ext (g := fun j => nI (g j)) c 0 (fun j _ hj => hg j (by omega)), nmI_N, e] at gi
    have hno : ¬ nwN g c b n k < c := fun z => by rw [if_pos z] at hz; omega
    rw [if_neg (by rw [Nat.zero_add]; exact hno), ← e] at gi
    have s1 : stI w k1 0 (nI o + nI c) (ln k1 0) (gI w 16 0 9) = some (setI w k1 0 (o + c) (gI w 16 0 9)) := by rw [hL, nI_add]; exact stn hc (by omega)
    have t : ((-1 : Int32) < 0) = True := eq_true (by decide)
    simp only [pX12_newName, ↓q, ↓cbnd gi, ↓t, ↓bnd s1, ↓reduceIte, callW_eq]
    have f1 : Fr [k1] w (setI w k1 0 (o + c) (gI w 16 0 9)) := Fr_setI (Fr_refl _ _) (by rw [hk1]; simp)
    refine ok_bind (m_adv (N := N) (JM_fr f1 h hl) hN) ?_
    rintro w2 ⟨f, j⟩
    exact ok_some ⟨rfl, ⟨_, by rw [e], f⟩, j⟩
  · rw [if_neg y] at hz; omega
theorem m_newF (h : JM w b n k) (hN : 100 ≤ N) {k1 o c L : Nat} {g : Nat → Nat} (hL : ln k1 0 = L) (hL2 : L ≤ 20) (hc : o + c < L) (hg : ∀ j, j < c → gI w k1 0 (o + j) = nI (g j)) (hz : nnF g c b n k ≠ 0) :
    Ok (pX12_newName N k1 0 (nI o) (nI c) w) (fun x => x.1 = (0 : Int32) ∧ flM w x.2 (nnF g c b n k) (tP b n k)) := by
  unfold nnF at hz ⊢
  by_cases y : tK b n k = 62
  · rw [if_pos y] at hz ⊢
    have q : (gI w 16 0 8 = (2 : Int32)) = True := eq_true ((JM_8 h).2.2.1.mpr y)
    have e := ((JM_kd h).2.2.2.1 y).2
    have gi := m_find (N := N) (w := w) (k0 := k1) (o := o) (n := c) (L := L) (x := gI w 16 0 9) hN hL (by omega) hL2
    rw [nmI_ext (g := fun j => nI (g j)) c 0 (fun j _ hj => hg j (by omega)), nmI_N, e] at gi
    have hyes : nwN g c b n k < c := Classical.byContradiction (fun z => by rw [if_neg z] at hz; exact hz rfl)
    rw [if_pos (by rw [Nat.zero_add]; exact hyes), ← e] at gi
    have t : (nI (nmN (fun j => nI (g j)) (gI w 16 0 9) c 0) < 0) = False := eq_false (by
      rw [e]
      have : nmN (fun j => nI (g j)) (nI (tV b n k)) c 0 < c := hyes
      exact nz_ge0 (by omega))
    rw [if_pos hyes]
    simp only [pX12_newName, ↓q, ↓cbnd gi, ↓t, ↓reduceIte]
    exact m_wrongZ h 3
  · have q : (gI w 16 0 8 = (2 : Int32)) = False := eq_false (fun z => y ((JM_8 h).2.2.1.mp z))
    rw [if_neg y]
    simp only [pX12_newName, ↓q, ↓reduceIte]
    exact m_wrongZ h 1
end

/-! ===== a text, both: line by line; the beginning ===== -/
section
variable {N : Nat} {w w' w0 w1 wc wm wc' wm' wc1 wm1 : Wd} {b : Nat → Nat} {n m d k i : Nat} {u u' : Vw}
theorem tP_m1 (b : Nat → Nat) (n k : Nat) : tP b n k ≤ tP b n (k + 1) := by
  by_cases y : tK b n k = 60
  · rw [(tK_stay y).2]
    exact tP_le k
  · exact Nat.le_of_lt (tP_lt y).1
theorem tP_mono (b : Nat → Nat) (n k : Nat) : ∀ d, tP b n k ≤ tP b n (k + d) := by
  intro d
  induction d with
  | zero => exact Nat.le_refl _
  | succ d ih => exact Nat.le_trans ih (tP_m1 b n (k + d))
def kRl : List Nat := 12007 :: kRd
def FL (d : Nat) (w w' : Wd) : Prop := ∀ k i j, (kRl.contains (ky k j) = false ∨ (mK k = true ∧ iMo k i ≠ d ∧ j < 100)) → gI w' k i j = gI w k i j ∧ gL w' k i j = gL w k i j ∧ gR w' k i j = gR w k i j
theorem FL_FC (h : FC d w w') : FL d w w' := fun k i j hk => h k i j (hk.imp (fun z => by
  have : kRl.contains (ky k j) = (ky k j == 12007 || kRd.contains (ky k j)) := rfl
  rw [this, Bool.or_eq_false_iff] at z
  exact z.2) id)
theorem FL_refl (d : Nat) (w : Wd) : FL d w w := fun _ _ _ _ => ⟨rfl, rfl, rfl⟩
theorem FL_trans (h : FL d w w1) (h2 : FL d w1 w') : FL d w w' := fun k i j hk =>
  ⟨((h2 k i j hk).1).trans ((h k i j hk).1), ((h2 k i j hk).2.1).trans ((h k i j hk).2.1), ((h2 k i j hk).2.2).trans ((h k i j hk).2.2)⟩
theorem FL_7 {x : Int32} : FL d w (setI w 11 0 7 x) := fun k i j hk => by
  refine ⟨?_, rfl, rfl⟩
  rw [gg_I, if_neg]
  rintro ⟨rfl, rfl, rfl⟩
  rcases hk with z | ⟨z, _⟩
  · exact absurd z (by decide)
  · exact absurd z (by decide)
def TxB (d : Nat) (wc wm : Wd) (c m' : Option (Int32 × Wd)) : Prop := ∃ f p, Ok c (fun x => x.1 = (0 : Int32) ∧ FL d wc x.2 ∧ gI x.2 11 0 8 = nI f ∧ gI x.2 11 0 9 = nI p) ∧ Ok m' (fun x => x.1 = (-1 : Int32) ∧ FM wm x.2 ∧ gI x.2 16 0 4 = nI f ∧ gI x.2 16 0 5 = nI p)
def TxG (N : Nat) (b : Nat → Nat) (n m d : Nat) (wc wm : Wd) (c m' : Option (Int32 × Wd)) : Prop := ∃ k' L u' w1 w2, tK b n k' = 60 ∧ WU u' ∧ c = some ((1 : Int32), w1) ∧ m' = fX12_text_42 N (nI L) w2 ∧ JC w1 b n m d k' ∧ JM w2 b n k' ∧ DC w1 d u' ∧ DM w2 u' ∧ FL d wc w1 ∧ FM wm w2 ∧ gI w1 11 0 7 = nI L
theorem rt_clC {fc : Nat} {a2 v4 : Int32} (q1 : (a2 < v4) = False) (q2 : (gI wc' 14 0 8 = (-1 : Int32)) = False) : fX7_readText_25 N a2 (fc + 1) v4 wc' = (clC N wc').bind fun r => if r.1 = 0 then some ((0 : Int32), r.2) else fX7_readText_25 N a2 fc (v4 + (1 : Int32)) (setI r.2 11 0 7 (gI r.2 11 0 7 + (1 : Int32))) := by
  simp only [fX7_readText_25, ↓q1, ↓q2, ↓reduceIte, clC, callW_eq]
  cases h1 : pX7_readLine N wc' with
  | none => rfl
  | some r1 =>
    simp only [Option.bind_some, clT, callW_eq]
    by_cases y : r1.1 = 0
    · simp only [y, ↓reduceIte, Option.bind_some]
    · simp only [y, ↓reduceIte]
      cases h2 : pX7_pass N (32 : Int32) r1.2 with
      | none => rfl
      | some r2 =>
        simp only [Option.bind_some]
        by_cases y2 : r2.1 = 0
        · simp only [y2, ↓reduceIte, Option.bind_some]
        · simp only [y2, ↓reduceIte, Option.bind_some, ↓n1_0]
theorem j_tloop (hN : 1000 ≤ N) (hn : n ≤ 900) : ∀ r k' L fc fm wc' wm' (u' : Vw), k' + r = m → r < fc → r < fm → L ≤ tP b n k' → JC wc' b n m d k' → JM wm' b n k' → DC wc' d u' → DM wm' u' → WU u' → FL d wc wc' → FM wm wm' → gI wc' 11 0 7 = nI L →
    TxB d wc wm (fX7_readText_25 N (nI n) fc (nI L) wc') (fX12_text_32 N fm (fX12_text_42 N) (nI L) wm') ∨ TxG N b n m d wc wm (fX7_readText_25 N (nI n) fc (nI L) wc') (fX12_text_32 N fm (fX12_text_42 N) (nI L) wm') := by
  intro r
  induction r using Nat.strongRecOn with
  | _ r ih =>
    intro k' L fc fm wc' wm' u' hr hfc hfm hL hc hm Dc Dm hU F G h7
    obtain ⟨fc, rfl⟩ : ∃ z, fc = z + 1 := ⟨fc - 1, by omega⟩
    obtain ⟨fm, rfl⟩ : ∃ z, fm = z + 1 := ⟨fm - 1, by omega⟩
    have hLn := tP_le (b := b) (n := n) k'
    have q1 : (nI n < nI L) = False := eq_false (fun z => by
      have := (nI_ltI (by omega) (by omega)).mp z
      omega)
    have p60 := JC_is hc (c := 60) (by omega)
    have m60 := (JM_8 hm).1
    by_cases y : tK b n k' = 60
    · have q2 : (gI wc' 14 0 8 = (-1 : Int32)) = True := p60.trans (eq_true y)
      have q3 : (gI wm' 16 0 8 = 0) = True := eq_true (m60.mpr y)
      refine Or.inr ⟨k', L, u', wc', wm', y, hU, ?_, ?_, hc, hm, Dc, Dm, F, G, h7⟩
      · simp only [fX7_readText_25, ↓q1, ↓q2, ↓reduceIte]
      · simp only [fX12_text_32, ↓q3, ↓reduceIte]
    · have q2 : (gI wc' 14 0 8 = (-1 : Int32)) = False := p60.trans (eq_false y)
      have q3 : (gI wm' 16 0 8 = 0) = False := eq_false (fun z => y (m60.mp z))
      have eL : nI L + (1 : Int32) = nI (L + 1) := nI_add _ 1
      rw [rt_clC q1 q2]
      have Cm : fX12_text_32 N (fm + 1) (fX12_text_42 N) (nI L) wm' = (pX12_lineRead N wm').bind fun r1 => if r1.1 = 0 then some ((-1 : Int32), r1.2) else fX12_text_32 N fm (fX12_text_42 N) (nI (L + 1)) r1.2 := by
        simp only [fX12_text_32, ↓q3, ↓eL, ↓reduceIte, callW_eq]
      rw [Cm]
      rcases j_line hc hm Dc Dm hU hN with ⟨f', p, h1, h2⟩ | ⟨k2, u2, h1, h2, ⟨⟨x, w1⟩, ec, ex, F1, jc, D1⟩, ⟨⟨x', w2⟩, em, ex', G2, jm, D2⟩⟩
      · refine Or.inl ⟨f', p, ok_bind h1 ?_, ok_bind h2 ?_⟩
        · rintro ⟨x, w1⟩ ⟨e, a1, a2⟩
          simp only at e a1 a2
          subst e
          simp only [↓n0_0, ↓reduceIte]
          exact ok_some ⟨rfl, FL_trans F (FL_FC a1), a2⟩
        · rintro ⟨x, w1⟩ ⟨e, a1, a2⟩
          simp only at e a1 a2
          subst e
          simp only [↓n0_0, ↓reduceIte]
          exact ok_some ⟨rfl, FM_trans G a1, a2⟩
      · simp only at ex F1 jc D1 ex' G2 jm D2
        subst ex
        subst ex'
        rw [ec, em]
        simp only [Option.bind_some, ↓n1_0, ↓eL, ↓reduceIte]
        have e7 : gI w1 11 0 7 + (1 : Int32) = nI (L + 1) := by rw [(FC_Fr F1 11 0 7 (by decide)).1, h7]; exact eL
        rw [e7]
        have f7 : Fr [12007] w1 (setI w1 11 0 7 (nI (L + 1))) := Fr_setI (Fr_refl _ _) rfl
        have hk2 := jc.2.1
        have t1 := (tP_lt y).1
        have t2 := tP_mono b n (k' + 1) (k2 - (k' + 1))
        rw [show k' + 1 + (k2 - (k' + 1)) = k2 by omega] at t2
        exact ih (m - k2) (by omega) k2 (L + 1) fc fm _ w2 u2 (by omega) (by omega) (by omega) (by omega) (JC_fr f7 jc) jm (DC_fr f7 D1) D2 h2 (FL_trans F (FL_trans (FL_FC F1) FL_7)) (FM_trans G G2) (by rw [gg_I, if_pos ⟨rfl, rfl, rfl⟩])
/-! the beginning: nothing is told -/
def u0 : Vw := fun _ _ => 0
theorem WU_0 : WU u0 := by
  refine ⟨⟨by decide, by decide, by decide, by decide, by decide, by decide, by decide⟩, fun r j hg hj => absurd hj (Nat.not_lt_zero _), ⟨fun j => Nat.one_pos, fun a c => by show Nat.testBit 0 c = Nat.testBit 0 a; rw [Nat.zero_testBit, Nat.zero_testBit]⟩, ⟨by decide, by decide, by decide⟩, fun a ha => Nat.zero_le _, fun a j ha hj => absurd hj (Nat.not_lt_zero _), fun a ha => ⟨fun j hj => absurd hj (Nat.not_lt_zero _), fun h => absurd h (Nat.lt_irrefl _)⟩⟩
def kCr : List Nat := [9000, 11000, 49, 50, 51, 52, 53, 9005, 9010, 9012, 9015, 9016, 9017, 6002]
def pdC (w : Wd) (d c : Nat) : Prop := ∀ j, j < c → gI w 49 d j = nI 0 ∧ gI w 50 d j = nI 1 ∧ gI w 51 d j = nI 0 ∧ gI w 52 d j = nI 999 ∧ gI w 53 d j = nI 999
theorem c_clear5 : ∀ r c fuel w, c + r = 6 → r < fuel → FC d w0 w → Fr [49, 50, 51, 52, 53] w0 w → pdC w d c → Ok (fX6_clear_5 N d fuel (nI c) w) (fun w' => FC d w0 w' ∧ Fr [49, 50, 51, 52, 53] w0 w' ∧ pdC w' d 6) := by
  intro r
  induction r with
  | zero =>
    intro c fuel w hc hf F f hp
    obtain ⟨z, rfl⟩ : ∃ z, fuel = z + 1 := ⟨fuel - 1, by omega⟩
    have e : c = 6 := by omega
    subst e
    have lt : (nI 6 < (6 : Int32)) = False := eq_false (by decide)
    simp only [fX6_clear_5, ↓lt, ↓reduceIte]
    exact ok_some ⟨F, f, hp⟩
  | succ r ih =>
    intro c fuel w hc hf F f hp
    obtain ⟨z, rfl⟩ : ∃ z, fuel = z + 1 := ⟨fuel - 1, by omega⟩
    have lt : (nI c < (6 : Int32)) = True := eq_true ((nI_ltI (b := 6) (by omega) (by omega)).mpr (by omega))
    have e1 : nI c + (1 : Int32) = nI (c + 1) := nI_add _ 1
    have st : ∀ w kk (x : Int32), stI w kk d (nI c) 6 x = some (setI w kk d c x) := fun w kk x => stn (by omega) (by omega)
    have s1 := st w 49 (0 : Int32)
    have s2 := st (setI w 49 d c (0 : Int32)) 50 (1 : Int32)
    have s3 := st (setI (setI w 49 d c (0 : Int32)) 50 d c (1 : Int32)) 51 (0 : Int32)
    have s4 := st (setI (setI (setI w 49 d c (0 : Int32)) 50 d c (1 : Int32)) 51 d c (0 : Int32)) 52 (999 : Int32)
    have s5 := st (setI (setI (setI (setI w 49 d c (0 : Int32)) 50 d c (1 : Int32)) 51 d c (0 : Int32)) 52 d c (999 : Int32)) 53 (999 : Int32)
    simp only [fX6_clear_5, ↓lt, ↓bnd s1, ↓bnd s2, ↓bnd s3, ↓bnd s4, ↓bnd s5, ↓e1, ↓reduceIte, callW_eq]
    refine ih (c + 1) z _ (by omega) (by omega) (FC_setI (FC_setI (FC_setI (FC_setI (FC_setI F rfl (Or.inr rfl)) rfl (Or.inr rfl)) rfl (Or.inr rfl)) rfl (Or.inr rfl)) rfl (Or.inr rfl)) (Fr_setI (Fr_setI (Fr_setI (Fr_setI (Fr_setI f rfl) rfl) rfl) rfl) rfl) (fun j hj => ?_)
    by_cases y : j = c
    · subst y
      refine ⟨?_, ?_, ?_, ?_, ?_⟩
      · rw [gg_I, if_neg (by omega), gg_I, if_neg (by omega), gg_I, if_neg (by omega), gg_I, if_neg (by omega), gg_I, if_pos ⟨rfl, rfl, rfl⟩]; rfl
      · rw [gg_I, if_neg (by omega), gg_I, if_neg (by omega), gg_I, if_neg (by omega), gg_I, if_pos ⟨rfl, rfl, rfl⟩]; rfl
      · rw [gg_I, if_neg (by omega), gg_I, if_neg (by omega), gg_I, if_pos ⟨rfl, rfl, rfl⟩]; rfl
      · rw [gg_I, if_neg (by omega), gg_I, if_pos ⟨rfl, rfl, rfl⟩]; rfl
      · rw [gg_I, if_pos ⟨rfl, rfl, rfl⟩]; rfl
    · obtain ⟨g1, g2, g3, g4, g5⟩ := hp j (by omega)
      refine ⟨?_, ?_, ?_, ?_, ?_⟩
      · rw [gg_I, if_neg (by omega), gg_I, if_neg (by omega), gg_I, if_neg (by omega), gg_I, if_neg (by omega), gg_I, if_neg (by omega)]; exact g1
      · rw [gg_I, if_neg (by omega), gg_I, if_neg (by omega), gg_I, if_neg (by omega), gg_I, if_neg (by omega), gg_I, if_neg (by omega)]; exact g2
      · rw [gg_I, if_neg (by omega), gg_I, if_neg (by omega), gg_I, if_neg (by omega), gg_I, if_neg (by omega), gg_I, if_neg (by omega)]; exact g3
      · rw [gg_I, if_neg (by omega), gg_I, if_neg (by omega), gg_I, if_neg (by omega), gg_I, if_neg (by omega), gg_I, if_neg (by omega)]; exact g4
      · rw [gg_I, if_neg (by omega), gg_I, if_neg (by omega), gg_I, if_neg (by omega), gg_I, if_neg (by omega), gg_I, if_neg (by omega)]; exact g5
theorem c_clear (hN : 100 ≤ N) : Ok (pX4_clear N d w) (fun w' => FC d w w' ∧ Fr kCr w w' ∧ DF w' dFc d u0 ∧ gI w' 8 d 16 = nI 0 ∧ (∀ a, a < 2 → gI w' 5 (2 * d + a) 2 = nI 0) ∧ pdC w' d 6) := by
  have F1 : FC d w (setI (setI w 8 d 0 (0 : Int32)) 10 d 0 (0 : Int32)) := FC_setI (FC_setI (FC_refl d w) rfl (Or.inr rfl)) rfl (Or.inr rfl)
  have f1 : Fr kCr w (setI (setI w 8 d 0 (0 : Int32)) 10 d 0 (0 : Int32)) := Fr_setI (Fr_setI (Fr_refl _ _) rfl) rfl
  have a80 : gI (setI (setI w 8 d 0 (0 : Int32)) 10 d 0 (0 : Int32)) 8 d 0 = nI 0 := by rw [gg_I, if_neg (by omega), gg_I, if_pos ⟨rfl, rfl, rfl⟩]; rfl
  have a10 : gI (setI (setI w 8 d 0 (0 : Int32)) 10 d 0 (0 : Int32)) 10 d 0 = nI 0 := by rw [gg_I, if_pos ⟨rfl, rfl, rfl⟩]; rfl
  obtain ⟨w2, e2, F2, f2, p2⟩ := c_clear5 (N := N) (d := d) (w0 := setI (setI w 8 d 0 (0 : Int32)) 10 d 0 (0 : Int32)) 6 0 N _ (by omega) (by omega) (FC_refl d _) (Fr_refl _ _) (fun j hj => absurd hj (Nat.not_lt_zero j))
  have e2' : pX6_clear N d (setI w 8 d 0 (0 : Int32)) = some w2 := by
    unfold pX6_clear
    rw [callW_eq]
    exact e2
  simp only [pX4_clear, ↓cbnd e2']
  have F3 : FC d w (setI (setI (setI (setI (setI (setI (setI (setI w2 8 d 5 (0 : Int32)) 8 d 10 (0 : Int32)) 8 d 12 (0 : Int32)) 8 d 15 (0 : Int32)) 8 d 16 (0 : Int32)) 8 d 17 (0 : Int32)) 5 (2 * d + 0) 2 (0 : Int32)) 5 (2 * d + 1) 2 (0 : Int32)) :=
    FC_setI (FC_setI (FC_setI (FC_setI (FC_setI (FC_setI (FC_setI (FC_setI (FC_trans F1 F2) rfl (Or.inr rfl)) rfl (Or.inr rfl)) rfl (Or.inr rfl)) rfl (Or.inr rfl)) rfl (Or.inr rfl)) rfl (Or.inr rfl)) rfl (Or.inr (iM5 (by omega)))) rfl (Or.inr (iM5 (by omega)))
  have g3 : Fr [9005, 9010, 9012, 9015, 9016, 9017, 6002] w2 (setI (setI (setI (setI (setI (setI (setI (setI w2 8 d 5 (0 : Int32)) 8 d 10 (0 : Int32)) 8 d 12 (0 : Int32)) 8 d 15 (0 : Int32)) 8 d 16 (0 : Int32)) 8 d 17 (0 : Int32)) 5 (2 * d + 0) 2 (0 : Int32)) 5 (2 * d + 1) 2 (0 : Int32)) := Fr_setI (Fr_setI (Fr_setI (Fr_setI (Fr_setI (Fr_setI (Fr_setI (Fr_setI (Fr_refl _ _) rfl) rfl) rfl) rfl) rfl) rfl) rfl) rfl
  refine ok_some ⟨F3, Fr_trans f1 (Fr_trans (Fr_mono f2 rfl) (Fr_mono g3 rfl)), fun e he => ?_, ?_, fun a ha => ?_, fun j hj => ?_⟩
  · have : e = (8, 0, 0) ∨ e = (10, 0, 1) ∨ e = (8, 5, 2) ∨ e = (8, 10, 3) ∨ e = (8, 15, 4) ∨ e = (8, 12, 6) ∨ e = (8, 17, 7) := (by decide : ∀ e, e ∈ dFc → e = (8, 0, 0) ∨ e = (10, 0, 1) ∨ e = (8, 5, 2) ∨ e = (8, 10, 3) ∨ e = (8, 15, 4) ∨ e = (8, 12, 6) ∨ e = (8, 17, 7)) e he
    rcases this with rfl | rfl | rfl | rfl | rfl | rfl | rfl
    · show gI _ 8 d 0 = nI 0
      rw [(g3 8 d 0 rfl).1, (f2 8 d 0 rfl).1]; exact a80
    · show gI _ 10 d 0 = nI 0
      rw [(g3 10 d 0 rfl).1, (f2 10 d 0 rfl).1]; exact a10
    all_goals
      show gI _ 8 d _ = nI 0
      simp only [gg_I, Nat.reduceEqDiff, Nat.reduceAdd, Nat.reduceSub, Nat.reduceMul, Nat.reducePow, Nat.reduceLT, Nat.reduceLeDiff, ↓reduceIte, reduceCtorEq, and_true, true_and, and_false, false_and, and_self, not_true_eq_false, not_false_eq_true, if_true, if_false]
      try rfl
  · simp only [gg_I, Nat.reduceEqDiff, Nat.reduceAdd, Nat.reduceSub, Nat.reduceMul, Nat.reducePow, Nat.reduceLT, Nat.reduceLeDiff, ↓reduceIte, reduceCtorEq, and_true, true_and, and_false, false_and, and_self, not_true_eq_false, not_false_eq_true, if_true, if_false]
    try rfl
  · have : a = 0 ∨ a = 1 := by omega
    rcases this with rfl | rfl
    · rw [gg_I, if_neg (by omega), gg_I, if_pos ⟨rfl, rfl, rfl⟩]; rfl
    · rw [gg_I, if_pos ⟨rfl, rfl, rfl⟩]; rfl
  · rw [(g3 49 d _ rfl).1, (g3 50 d _ rfl).1, (g3 51 d _ rfl).1, (g3 52 d _ rfl).1, (g3 53 d _ rfl).1]
    exact p2 j hj
end

/-! ===== a night: the class ===== -/
theorem np_mr {v0 : Vw} (h8 : ∀ p, v0 19 p ≤ 8) (n : Nat) (z : Int64) (p : Nat) : ∀ r j, mr r j → (npN v0 n z p).1 r j = v0 r j := fun r j h =>
  (np_keep h8 n z p).1 r j (by unfold mr at h; omega) (by unfold mr at h; omega) (by unfold mr at h; omega)
theorem sNgt_mr {v : Vw} (h8 : ∀ p, v 19 p ≤ 8) (z : Int64) : ∀ r j, mr r j → sNgt v z r j = v r j := by
  intro r j h
  unfold sNgt
  have : ¬ (r = 0 ∧ j = 5) := by unfold mr at h; omega
  have h19 : r ≠ 19 := by unfold mr at h; omega
  rw [up2, if_neg this, noLost, if_neg h19]
  exact np_mr h8 _ z _ r j h
theorem sNgt_WF {v : Vw} (hF : WF v) (hT : ∀ j, v 18 j ≤ v 0 5) (hn : v 0 5 < 1050) (z : Int64) : WF (sNgt v z) ∧ ∀ j, sNgt v z 18 j ≤ sNgt v z 0 5 := by
  have h19 : ∀ p, v 19 p ≤ 8 := fun p => Nat.le_trans (WF_lost hF p) (WF_parts hF)
  obtain ⟨W, k3⟩ := np_WF hF hT (n := v 0 5) (by omega) z (v 0 1)
  obtain ⟨g1, _, _, _⟩ := np_keep h19 (v 0 5) z (v 0 1)
  have e : ∀ r j, (r ≠ 0 ∨ j ≠ 5) → r ≠ 19 → sNgt v z r j = (npN v (v 0 5) z (v 0 1)).1 r j := by
    intro r j h h2
    unfold sNgt
    rw [up2, if_neg (by omega), noLost, if_neg h2]
  have e5 : sNgt v z 0 5 = v 0 5 + 1 := by unfold sNgt; exact up2_eq
  have e19 : ∀ j, sNgt v z 19 j = 0 := by
    intro j
    unfold sNgt
    rw [up2_ne (by omega), noLost, if_pos rfl]
  have hl := g1 0 6 (by omega) (by omega) (by omega)
  refine ⟨WF_ext (sNgt_mr h19 z) hF (by omega) ?_ ?_ ?_ ?_ ?_ ?_ ?_ ?_, ?_⟩
  · rw [e 0 6 (by omega) (by omega)]; exact WF_slides W
  · intro s hs
    rw [e 0 6 (by omega) (by omega)] at hs
    rw [e 14 s (by omega) (by omega)]
    have := WF_spart W s hs
    rw [g1 0 0 (by omega) (by omega) (by omega)] at this
    exact this
  · intro s; rw [e 14 s (by omega) (by omega)]; exact WF_bd W 14 s
  · intro s; rw [e 15 s (by omega) (by omega)]; exact WF_snight W s
  · intro s; rw [e 16 s (by omega) (by omega)]; exact WF_learned W s
  · intro s; rw [e 17 s (by omega) (by omega)]; exact WF_gone W s
  · intro s; rw [e 18 s (by omega) (by omega)]; exact WF_times W s
  · intro s; rw [e19]; omega
  · intro j; rw [e 18 j (by omega) (by omega), e5]; exact k3 j
section
variable {N : Nat} {w : Wd} {i : Nat} {v : Vw}
theorem c_isSpoilt (hR : RC w i v) (hF : WF v) (hN : 100 ≤ N) {p k : Nat} (hp : p < v 0 1) (hk : k < v 0 0) :
    pX9_isSpoilt N i (nI p) (nI k) w = some (zB (anyB (fun q => q != p && (v 19 q != 0 && sNear v k (v 19 q - 1))) (v 0 1)), w) := by
  have h1 := WF_people hF
  have h2 := WF_parts hF
  obtain ⟨T, S⟩ := hR
  have key : ∀ fuel c, c ≤ v 0 1 → v 0 1 - c < fuel → anyB (fun q => q != p && (v 19 q != 0 && sNear v k (v 19 q - 1))) c = false →
      fX9_isSpoilt_2 N i (nI p) (nI k) fuel (nI c) w = some (zB (anyB (fun q => q != p && (v 19 q != 0 && sNear v k (v 19 q - 1))) (v 0 1)), w) := by
    intro fuel
    induction fuel with
    | zero => intro c _ h; omega
    | succ f ih =>
      intro c hc hf hno
      rcases Nat.lt_or_ge c (v 0 1) with h | h
      · have b := WF_lost hF c
        have hl : gI w 63 i c = lst (v 19 c) := SC_lost S c h
        by_cases hq : (c != p && (v 19 c != 0 && sNear v k (v 19 c - 1))) = true
        · have hany : anyB (fun q => q != p && (v 19 q != 0 && sNear v k (v 19 q - 1))) (v 0 1) = true := anyB_true.mpr ⟨c, h, hq⟩
          rw [hany]
          simp only [Bool.and_eq_true, bne_iff_ne, ne_eq] at hq
          have hn := c_isNear (N := N) T hF hN (f := k) (t := v 19 c - 1) (by omega) (by omega)
          have e1 := lst_pos hq.2.1
          have e2 : nI (v 19 c - 1) ≠ -nI 1 := nz_ne1 (by omega)
          have e3 : decide (gD (v 3) (v 0 0) (2 ^ v 0 0 - 1) k (v 19 c - 1) ≤ v 0 4) = true := hq.2.2
          rw [e3] at hn
          have n10 : ¬ nI 1 = nI 0 := by decide
          simp (disch := first | assumption | omega) only [fX9_isSpoilt_2, TC_people T, hl, e1, e2, hq.1, hn, zB_t, h, n10, nz_bit, nz_b1, nz_b2, nz_shl, nz_not, nz_and, nz_or, ldn, ldLn, ldRn, stn, stLn, cpn, nI_ltI, nI_leI, nI_eq, callW_eq, Option.bind_some, li0, li1, li2, li3, li4, li5, li6, li7, li8, li9, li10, li11, li12, li13, li14, li15, li16, li17, li18, li19, li20, li21, li22, li23, li24, li25, li26, li27, li28, li29, li30, li31, li32, li33, li34, li35, li36, li37, li38, li39, li40, li41, li42, li43, li44, li45, li47, li48, li50, li56, li57, li59, li60, li61, li62, li63, li64, li90, li96, li97, li99, li100, li122, li200, li255, li256, li900, li999, li1000, li9999, li65536, li99999, li1000000, li1048576, gg_I, gg_LI, gg_RI, gg_L, gg_IL, gg_RL, gg_R, gg_IR, gg_LR, gg_row, gg_Lrow, gg_Rrow, nI_add, pk_mul, Nat.reduceEqDiff, Nat.reduceAdd, Nat.reduceSub, Nat.reduceMul, Nat.reducePow, Nat.reduceLT, Nat.reduceLeDiff, ↓reduceIte, reduceCtorEq, and_true, true_and, and_false, false_and, and_self, not_true_eq_false, not_false_eq_true, if_true, if_false]
        · have hq' : (c != p && (v 19 c != 0 && sNear v k (v 19 c - 1))) = false := by
            cases z : (c != p && (v 19 c != 0 && sNear v k (v 19 c - 1))) with
            | false => rfl
            | true => exact absurd z hq
          have e := ih (c + 1) (by omega) (by omega) (by rw [anyB, hno, hq']; rfl)
          by_cases q1 : c = p
          · simp (disch := first | assumption | omega) only [fX9_isSpoilt_2, TC_people T, hl, h, q1, nz_bit, nz_b1, nz_b2, nz_shl, nz_not, nz_and, nz_or, ldn, ldLn, ldRn, stn, stLn, cpn, nI_ltI, nI_leI, nI_eq, callW_eq, Option.bind_some, li0, li1, li2, li3, li4, li5, li6, li7, li8, li9, li10, li11, li12, li13, li14, li15, li16, li17, li18, li19, li20, li21, li22, li23, li24, li25, li26, li27, li28, li29, li30, li31, li32, li33, li34, li35, li36, li37, li38, li39, li40, li41, li42, li43, li44, li45, li47, li48, li50, li56, li57, li59, li60, li61, li62, li63, li64, li90, li96, li97, li99, li100, li122, li200, li255, li256, li900, li999, li1000, li9999, li65536, li99999, li1000000, li1048576, gg_I, gg_LI, gg_RI, gg_L, gg_IL, gg_RL, gg_R, gg_IR, gg_LR, gg_row, gg_Lrow, gg_Rrow, nI_add, pk_mul, Nat.reduceEqDiff, Nat.reduceAdd, Nat.reduceSub, Nat.reduceMul, Nat.reducePow, Nat.reduceLT, Nat.reduceLeDiff, ↓reduceIte, reduceCtorEq, and_true, true_and, and_false, false_and, and_self, not_true_eq_false, not_false_eq_true, if_true, if_false]
            rw [q1] at e h
            simpa [h] using e
          · by_cases q2 : v 19 c = 0
            · have e1 : lst (v 19 c) = -nI 1 := by rw [q2]; rfl
              simp (disch := first | assumption | omega) only [fX9_isSpoilt_2, TC_people T, hl, e1, h, q1, nz_bit, nz_b1, nz_b2, nz_shl, nz_not, nz_and, nz_or, ldn, ldLn, ldRn, stn, stLn, cpn, nI_ltI, nI_leI, nI_eq, callW_eq, Option.bind_some, li0, li1, li2, li3, li4, li5, li6, li7, li8, li9, li10, li11, li12, li13, li14, li15, li16, li17, li18, li19, li20, li21, li22, li23, li24, li25, li26, li27, li28, li29, li30, li31, li32, li33, li34, li35, li36, li37, li38, li39, li40, li41, li42, li43, li44, li45, li47, li48, li50, li56, li57, li59, li60, li61, li62, li63, li64, li90, li96, li97, li99, li100, li122, li200, li255, li256, li900, li999, li1000, li9999, li65536, li99999, li1000000, li1048576, gg_I, gg_LI, gg_RI, gg_L, gg_IL, gg_RL, gg_R, gg_IR, gg_LR, gg_row, gg_Lrow, gg_Rrow, nI_add, pk_mul, Nat.reduceEqDiff, Nat.reduceAdd, Nat.reduceSub, Nat.reduceMul, Nat.reducePow, Nat.reduceLT, Nat.reduceLeDiff, ↓reduceIte, reduceCtorEq, and_true, true_and, and_false, false_and, and_self, not_true_eq_false, not_false_eq_true, if_true, if_false]
              exact e
            · have hn := c_isNear (N := N) T hF hN (f := k) (t := v 19 c - 1) (by omega) (by omega)
              have e1 := lst_pos q2
              have e2 : nI (v 19 c - 1) ≠ -nI 1 := nz_ne1 (by omega)
              have e3 : decide (gD (v 3) (v 0 0) (2 ^ v 0 0 - 1) k (v 19 c - 1) ≤ v 0 4) = false := by
                cases z : sNear v k (v 19 c - 1) with
                | false => exact z
                | true => rw [z] at hq'; simp [q1, q2] at hq'
              rw [e3] at hn
              simp (disch := first | assumption | omega) only [fX9_isSpoilt_2, TC_people T, hl, e1, e2, q1, hn, zB_f, h, nz_bit, nz_b1, nz_b2, nz_shl, nz_not, nz_and, nz_or, ldn, ldLn, ldRn, stn, stLn, cpn, nI_ltI, nI_leI, nI_eq, callW_eq, Option.bind_some, li0, li1, li2, li3, li4, li5, li6, li7, li8, li9, li10, li11, li12, li13, li14, li15, li16, li17, li18, li19, li20, li21, li22, li23, li24, li25, li26, li27, li28, li29, li30, li31, li32, li33, li34, li35, li36, li37, li38, li39, li40, li41, li42, li43, li44, li45, li47, li48, li50, li56, li57, li59, li60, li61, li62, li63, li64, li90, li96, li97, li99, li100, li122, li200, li255, li256, li900, li999, li1000, li9999, li65536, li99999, li1000000, li1048576, gg_I, gg_LI, gg_RI, gg_L, gg_IL, gg_RL, gg_R, gg_IR, gg_LR, gg_row, gg_Lrow, gg_Rrow, nI_add, pk_mul, Nat.reduceEqDiff, Nat.reduceAdd, Nat.reduceSub, Nat.reduceMul, Nat.reducePow, Nat.reduceLT, Nat.reduceLeDiff, ↓reduceIte, reduceCtorEq, and_true, true_and, and_false, false_and, and_self, not_true_eq_false, not_false_eq_true, if_true, if_false]
              exact e
      · have : c = v 0 1 := by omega
        subst this
        simp (disch := first | assumption | exact WF_b31 (by assumption) _ _ | omega) only [fX9_isSpoilt_2, TC_people T, nI_ltI, Nat.lt_irrefl, if_false, hno, zB_f, li0]
  unfold pX9_isSpoilt
  rw [callW_eq, li0]
  exact key N 0 (by omega) (by omega) rfl
def kNi : List Nat := [14001, 14002, 14003, 60, 62, 63, 66, 22]
theorem c_spend {v0 : Vw} {z : Int64} {p : Nat} (hF0 : WF v0) (hT0 : ∀ j, v0 18 j ≤ v0 0 5) (hL : WL v0) (hN : 100 ≤ N) (hp : p < v0 0 1) (h19 : v0 19 p ≠ 0)
    (hR : RC w i (npN v0 (v0 0 5) z p).1) (hz : gL w 13 i 2 = (npN v0 (v0 0 5) z p).2) :
    Ok (pX9_spend N i (nI p) (nI (v0 19 p - 1)) w) (fun w' => Fr kNi w w' ∧ SFr i w w' ∧ RC w' i (npN v0 (v0 0 5) z (p + 1)).1 ∧ gL w' 13 i 2 = (npN v0 (v0 0 5) z (p + 1)).2) := by
  have hn := WF_night hF0
  have h8 : ∀ p, v0 19 p ≤ 8 := fun p => Nat.le_trans (WF_lost hF0 p) (WF_parts hF0)
  have hl := WF_lost hF0 p
  obtain ⟨hF, hT⟩ := np_WF hF0 hT0 hn z p
  obtain ⟨g1, g2, g3, g4⟩ := np_keep h8 (v0 0 5) z p
  have hmr := np_mr h8 (v0 0 5) z p
  have hL' := WL_ext hmr hL
  have e00 := g1 0 0 (by omega) (by omega) (by omega)
  have e01 := g1 0 1 (by omega) (by omega) (by omega)
  have e05 := g1 0 5 (by omega) (by omega) (by omega)
  have e19 : ∀ j, (npN v0 (v0 0 5) z p).1 19 j = v0 19 j := fun j => g1 19 j (by omega) (by omega) (by omega)
  have e18 := g4 p (Nat.le_refl _)
  have h1 := WF_people hF0
  have h2 := WF_parts hF0
  have ear : sAr (npN v0 (v0 0 5) z p).1 p (v0 19 p - 1) (v0 0 5) = sAr v0 p (v0 19 p - 1) (v0 0 5) := by
    rw [sAr, sAr, sBits_ext h2 g1 (fun k hk => g2 p k (Nat.le_refl _) hk) (g3 p (Nat.le_refl _)), g1 3 _ (by omega) (by omega) (by omega)]
  have ech : ∀ ar ti, sCh (npN v0 (v0 0 5) z p).1 p (v0 19 p - 1) (v0 0 5) ar ti = sCh v0 p (v0 19 p - 1) (v0 0 5) ar ti := fun ar ti => sCh_mr hmr _ _ _ _ _
  have espo : anyB (fun q => q != p && ((npN v0 (v0 0 5) z p).1 19 q != 0 && sNear (npN v0 (v0 0 5) z p).1 (v0 19 p - 1) ((npN v0 (v0 0 5) z p).1 19 q - 1))) ((npN v0 (v0 0 5) z p).1 0 1) = sSpo v0 p := by
    rw [sSpo, e01]
    apply anyB_ext
    intro q _
    rw [e19 q, sNear_mr hmr]
  have f1 : Fr kNi w (setL w 13 i 2 (rnd (npN v0 (v0 0 5) z p).2)) := Fr_setL (Fr_refl _ _) rfl
  have f1' : Fr [14002] w (setL w 13 i 2 (rnd (npN v0 (v0 0 5) z p).2)) := Fr_setL (Fr_refl _ _) rfl
  have s1 : SFr i w (setL w 13 i 2 (rnd (npN v0 (v0 0 5) z p).2)) := SFr_setL (SFr_refl _ _) rfl
  have hR1 := RC_fr f1' hR
  have ga := c_around (N := N) hR1 hF hN (p := p) (k := v0 19 p - 1) (by rw [e01]; exact hp) (by rw [e00]; omega)
  rw [e05, ear] at ga
  have hpc := pc_le (sBits v0 p (v0 0 5) &&& v0 3 (v0 19 p - 1))
  have har : sAr v0 p (v0 19 p - 1) (v0 0 5) < 2 ^ 31 := by unfold sAr; omega
  have hti : v0 18 p < 2 ^ 31 := WF_b31 hF0 _ _
  have gt : gI w 60 i p = nI (v0 18 p) := by
    rw [SC_times hR.2 p (by rw [e01]; exact hp), e18]
  have gn : gI w 13 i 1 = nI (v0 0 5) := by rw [SC_night hR.2, e05]
  have erd : (gL w 13 i 2 * (1103515245 : Int64) + (12345 : Int64)) &&& (2147483647 : Int64) = rnd (npN v0 (v0 0 5) z p).2 := by rw [hz]; rfl
  have enp : npN v0 (v0 0 5) z (p + 1) = npP v0 (v0 0 5) p (npN v0 (v0 0 5) z p) := rfl
  rw [enp, npP, if_neg h19]
  simp (disch := first | assumption | exact WF_b31 (by assumption) _ _ | omega) only [pX9_spend, erd, ga, gt, gn, nz_bit, nz_b1, nz_b2, nz_shl, nz_not, nz_and, nz_or, ldn, ldLn, ldRn, stn, stLn, cpn, nI_ltI, nI_leI, nI_eq, callW_eq, Option.bind_some, li0, li1, li2, li3, li4, li5, li6, li7, li8, li9, li10, li11, li12, li13, li14, li15, li16, li17, li18, li19, li20, li21, li22, li23, li24, li25, li26, li27, li28, li29, li30, li31, li32, li33, li34, li35, li36, li37, li38, li39, li40, li41, li42, li43, li44, li45, li47, li48, li50, li56, li57, li59, li60, li61, li62, li63, li64, li90, li96, li97, li99, li100, li122, li200, li255, li256, li900, li999, li1000, li9999, li65536, li99999, li1000000, li1048576, gg_I, gg_LI, gg_RI, gg_L, gg_IL, gg_RL, gg_R, gg_IR, gg_LR, gg_row, gg_Lrow, gg_Rrow, nI_add, pk_mul, Nat.reduceEqDiff, Nat.reduceAdd, Nat.reduceSub, Nat.reduceMul, Nat.reducePow, Nat.reduceLT, Nat.reduceLeDiff, ↓reduceIte, reduceCtorEq, and_true, true_and, and_false, false_and, and_self, not_true_eq_false, not_false_eq_true, if_true, if_false]
  have gc := c_chanceOn (N := N) hR1 hF hL' hN (p := p) (k := v0 19 p - 1) (n := v0 0 5) (ar := sAr v0 p (v0 19 p - 1) (v0 0 5)) (ti := v0 18 p) (by rw [e01]; exact hp) (by rw [e00]; omega) (by omega) har hti
  rw [ech] at gc
  refine ok_bind gc ?_
  rintro ⟨x, w2⟩ ⟨f2, hx⟩
  simp only at f2 hx
  subst hx
  have hR2 := RC_fr f2 hR1
  have hle := sCh_le hF0 p (v0 19 p - 1) (v0 0 5) (sAr v0 p (v0 19 p - 1) (v0 0 5)) (v0 18 p)
  have f12 : Fr kNi w w2 := Fr_trans f1 (Fr_mono f2 rfl)
  have s12 : SFr i w w2 := SFr_trans s1 (SFr_fr f2)
  have gz2 : gL w2 13 i 2 = rnd (npN v0 (v0 0 5) z p).2 := by
    rw [(f2 13 i 2 rfl).2.1, gg_L, if_pos ⟨rfl, rfl, rfl⟩]
  have el : (nI (sCh v0 p (v0 19 p - 1) (v0 0 5) (sAr v0 p (v0 19 p - 1) (v0 0 5)) (v0 18 p))).toInt64 = lN (sCh v0 p (v0 19 p - 1) (v0 0 5) (sAr v0 p (v0 19 p - 1) (v0 0 5)) (v0 18 p)) := nI_l (by omega)
  have ed : (rnd (npN v0 (v0 0 5) z p).2 / (65536 : Int64) - rnd (npN v0 (v0 0 5) z p).2 / (65536 : Int64) / (100 : Int64) * (100 : Int64)) = dice (rnd (npN v0 (v0 0 5) z p).2) := rfl
  simp only [el, lgn_lt, ed]
  by_cases hd : dice (rnd (npN v0 (v0 0 5) z p).2) < lN (sCh v0 p (v0 19 p - 1) (v0 0 5) (sAr v0 p (v0 19 p - 1) (v0 0 5)) (v0 18 p))
  · have gt2 : gI w2 60 i p = nI (v0 18 p) := by
      rw [SC_times hR2.2 p (by rw [e01]; exact hp), e18]
    have f3 : Fr kNi w (setI w2 60 i p (nI (v0 18 p + 1))) := Fr_setI f12 rfl
    have s3 : SFr i w (setI w2 60 i p (nI (v0 18 p + 1))) := SFr_setI s12 rfl
    have hR3 : RC (setI w2 60 i p (nI (v0 18 p + 1))) i (up2 (npN v0 (v0 0 5) z p).1 18 p (v0 18 p + 1)) :=
      ⟨TC_ext (mr_up (by omega) (by omega)) (TC_fr (Fr_setI (Fr_refl [60] w2) rfl) hR2.1), SC_set18 hR2.2 p _⟩
    have hT0p := hT0 p
    have hF3 : WF (up2 (npN v0 (v0 0 5) z p).1 18 p (v0 18 p + 1)) := by
      refine WF_ext (mr_up (by omega) (by omega)) hF (WF_night hF :) (WF_slides hF :) (WF_spart hF :) (fun s => WF_bd hF 14 s) (WF_snight hF :) (WF_learned hF :) (WF_gone hF :) ?_ (WF_lost hF :)
      intro j
      unfold up2
      split
      · omega
      · exact WF_times hF j
    have gs := c_isSpoilt (N := N) hR3 hF3 hN (p := p) (k := v0 19 p - 1) (by rw [up2_ne (by omega), e01]; exact hp) (by rw [up2_ne (by omega), e00]; omega)
    have espo3 : anyB (fun q => q != p && (up2 (npN v0 (v0 0 5) z p).1 18 p (v0 18 p + 1) 19 q != 0 && sNear (up2 (npN v0 (v0 0 5) z p).1 18 p (v0 18 p + 1)) (v0 19 p - 1) (up2 (npN v0 (v0 0 5) z p).1 18 p (v0 18 p + 1) 19 q - 1))) (up2 (npN v0 (v0 0 5) z p).1 18 p (v0 18 p + 1) 0 1) = sSpo v0 p := by
      rw [← espo, up2_ne (by omega)]
      apply anyB_ext
      intro q _
      rw [up2_ne (by omega), sNear_mr (mr_up (by omega) (by omega))]
    rw [espo3] at gs
    simp (disch := first | assumption | exact WF_b31 (by assumption) _ _ | omega) only [hd, gt2, gs, nz_bit, nz_b1, nz_b2, nz_shl, nz_not, nz_and, nz_or, ldn, ldLn, ldRn, stn, stLn, cpn, nI_ltI, nI_leI, nI_eq, callW_eq, Option.bind_some, li0, li1, li2, li3, li4, li5, li6, li7, li8, li9, li10, li11, li12, li13, li14, li15, li16, li17, li18, li19, li20, li21, li22, li23, li24, li25, li26, li27, li28, li29, li30, li31, li32, li33, li34, li35, li36, li37, li38, li39, li40, li41, li42, li43, li44, li45, li47, li48, li50, li56, li57, li59, li60, li61, li62, li63, li64, li90, li96, li97, li99, li100, li122, li200, li255, li256, li900, li999, li1000, li9999, li65536, li99999, li1000000, li1048576, gg_I, gg_LI, gg_RI, gg_L, gg_IL, gg_RL, gg_R, gg_IR, gg_LR, gg_row, gg_Lrow, gg_Rrow, nI_add, pk_mul, Nat.reduceEqDiff, Nat.reduceAdd, Nat.reduceSub, Nat.reduceMul, Nat.reducePow, Nat.reduceLT, Nat.reduceLeDiff, ↓reduceIte, reduceCtorEq, and_true, true_and, and_false, false_and, and_self, not_true_eq_false, not_false_eq_true, if_true, if_false]
    cases hs : sSpo v0 p with
    | true =>
      simp only [zB_0, Bool.true_eq_false, if_false, if_true]
      refine ok_some ⟨f3, s3, hR3, ?_⟩
      rw [gg_LI]; exact gz2
    | false =>
      have gn2 : gI w2 13 i 1 = nI (v0 0 5) := by rw [SC_night hR2.2, e05]
      simp (disch := first | assumption | exact WF_b31 (by assumption) _ _ | omega) only [zB_f, if_true, gn2, nz_bit, nz_b1, nz_b2, nz_shl, nz_not, nz_and, nz_or, ldn, ldLn, ldRn, stn, stLn, cpn, nI_ltI, nI_leI, nI_eq, callW_eq, Option.bind_some, li0, li1, li2, li3, li4, li5, li6, li7, li8, li9, li10, li11, li12, li13, li14, li15, li16, li17, li18, li19, li20, li21, li22, li23, li24, li25, li26, li27, li28, li29, li30, li31, li32, li33, li34, li35, li36, li37, li38, li39, li40, li41, li42, li43, li44, li45, li47, li48, li50, li56, li57, li59, li60, li61, li62, li63, li64, li90, li96, li97, li99, li100, li122, li200, li255, li256, li900, li999, li1000, li9999, li65536, li99999, li1000000, li1048576, gg_I, gg_LI, gg_RI, gg_L, gg_IL, gg_RL, gg_R, gg_IR, gg_LR, gg_row, gg_Lrow, gg_Rrow, nI_add, pk_mul, Nat.reduceEqDiff, Nat.reduceAdd, Nat.reduceSub, Nat.reduceMul, Nat.reducePow, Nat.reduceLT, Nat.reduceLeDiff, ↓reduceIte, reduceCtorEq, and_true, true_and, and_false, false_and, and_self, not_true_eq_false, not_false_eq_true, if_true, if_false, Bool.false_eq_true, if_false]
      refine ok_some ⟨Fr_setI f3 rfl, SFr_setI s3 (by rw [if_pos rfl]; omega), ⟨?_, ?_⟩, ?_⟩
      · exact TC_ext (mr_up (by omega) (by omega)) (TC_fr (Fr_setI (Fr_refl [62] _) rfl) hR3.1)
      · exact SC_set16 hR3.2 (by omega) (by omega) (by rw [up2_ne (by omega), e01]; exact h1) _
      · rw [gg_LI, gg_LI]; exact gz2
  · have gg : gI w2 13 i 3 = nI (mkB (fun q => (npN v0 (v0 0 5) z p).1 17 q == 1) ((npN v0 (v0 0 5) z p).1 0 1)) := SC_gone hR2.2
    simp (disch := first | assumption | exact WF_b31 (by assumption) _ _ | omega) only [hd, gg, if_false, nz_bit, nz_b1, nz_b2, nz_shl, nz_not, nz_and, nz_or, ldn, ldLn, ldRn, stn, stLn, cpn, nI_ltI, nI_leI, nI_eq, callW_eq, Option.bind_some, li0, li1, li2, li3, li4, li5, li6, li7, li8, li9, li10, li11, li12, li13, li14, li15, li16, li17, li18, li19, li20, li21, li22, li23, li24, li25, li26, li27, li28, li29, li30, li31, li32, li33, li34, li35, li36, li37, li38, li39, li40, li41, li42, li43, li44, li45, li47, li48, li50, li56, li57, li59, li60, li61, li62, li63, li64, li90, li96, li97, li99, li100, li122, li200, li255, li256, li900, li999, li1000, li9999, li65536, li99999, li1000000, li1048576, gg_I, gg_LI, gg_RI, gg_L, gg_IL, gg_RL, gg_R, gg_IR, gg_LR, gg_row, gg_Lrow, gg_Rrow, nI_add, pk_mul, Nat.reduceEqDiff, Nat.reduceAdd, Nat.reduceSub, Nat.reduceMul, Nat.reducePow, Nat.reduceLT, Nat.reduceLeDiff, ↓reduceIte, reduceCtorEq, and_true, true_and, and_false, false_and, and_self, not_true_eq_false, not_false_eq_true, if_true, if_false]
    refine ok_some ⟨Fr_setI f12 rfl, SFr_setI s12 rfl, ⟨?_, ?_⟩, ?_⟩
    · exact TC_ext (mr_up (by omega) (by omega)) (TC_fr (Fr_setI (Fr_refl [14003] w2) rfl) hR2.1)
    · exact SC_set17 hR2.2 (by rw [e01]; exact hp)
    · rw [gg_LI]; exact gz2
theorem c_loseNobody (hN : 100 ≤ N) : Ok (pX9_loseNobody N i w) (fun w' => Fr [63] w w' ∧ SFr i w w' ∧ ∀ j, j < 6 → gI w' 63 i j = -nI 1) := by
  have key : ∀ fuel c w1, c ≤ 6 → 6 - c < fuel → (Fr [63] w w1 ∧ SFr i w w1 ∧ ∀ j, j < c → gI w1 63 i j = -nI 1) → Ok (fX9_loseNobody_2 N i fuel (nI c) w1) (fun w' => Fr [63] w w' ∧ SFr i w w' ∧ ∀ j, j < 6 → gI w' 63 i j = -nI 1) := by
    intro fuel
    induction fuel with
    | zero => intro c _ _ h; omega
    | succ f ih =>
      intro c w1 hc hf hI
      rcases Nat.lt_or_ge c 6 with h | h
      · simp (disch := first | assumption | omega) only [fX9_loseNobody_2, h, nz_bit, nz_b1, nz_b2, nz_shl, nz_not, nz_and, nz_or, ldn, ldLn, ldRn, stn, stLn, cpn, nI_ltI, nI_leI, nI_eq, callW_eq, Option.bind_some, li0, li1, li2, li3, li4, li5, li6, li7, li8, li9, li10, li11, li12, li13, li14, li15, li16, li17, li18, li19, li20, li21, li22, li23, li24, li25, li26, li27, li28, li29, li30, li31, li32, li33, li34, li35, li36, li37, li38, li39, li40, li41, li42, li43, li44, li45, li47, li48, li50, li56, li57, li59, li60, li61, li62, li63, li64, li90, li96, li97, li99, li100, li122, li200, li255, li256, li900, li999, li1000, li9999, li65536, li99999, li1000000, li1048576, gg_I, gg_LI, gg_RI, gg_L, gg_IL, gg_RL, gg_R, gg_IR, gg_LR, gg_row, gg_Lrow, gg_Rrow, nI_add, pk_mul, Nat.reduceEqDiff, Nat.reduceAdd, Nat.reduceSub, Nat.reduceMul, Nat.reducePow, Nat.reduceLT, Nat.reduceLeDiff, ↓reduceIte, reduceCtorEq, and_true, true_and, and_false, false_and, and_self, not_true_eq_false, not_false_eq_true, if_true, if_false]
        refine ih (c + 1) _ (by omega) (by omega) ⟨Fr_setI hI.1 rfl, SFr_setI hI.2.1 rfl, fun j hj => ?_⟩
        rw [gg_I]
        by_cases q : j = c
        · rw [if_pos ⟨rfl, rfl, q⟩]
        · rw [if_neg (fun z => q z.2.2)]; exact hI.2.2 j (by omega)
      · have : c = 6 := by omega
        subst this
        simp (disch := first | assumption | omega) only [fX9_loseNobody_2, li6, nI_ltI, Nat.lt_irrefl, if_false]
        exact ok_some hI
  unfold pX9_loseNobody
  rw [callW_eq, li0]
  exact key N 0 w (by omega) (by omega) ⟨Fr_refl _ _, SFr_refl _ _, fun j h => by omega⟩
theorem RC_noLost {w w' : Wd} (f : Fr [63] w w') (h : ∀ j, j < 6 → gI w' 63 i j = -nI 1) (hp : v 0 1 ≤ 6) (hR : RC w i v) : RC w' i (noLost v) := by
  have S := hR.2
  have er : gR w' 13 i 0 = gR w 13 i 0 := (f 13 i 0 rfl).2.2
  refine ⟨?_, ?_⟩
  · rw [er]
    exact TC_ext (fun r j h => by rw [noLost, if_neg (by unfold mr at h; omega)]) (TC_fr f hR.1)
  · refine ⟨?_, ?_, ?_, ?_, ?_, ?_, ?_, ?_⟩
    · rw [(f 13 i 1 rfl).1]; exact (SC_night S :)
    · rw [(f 13 i 7 rfl).1]; exact (SC_slides S :)
    · intro j hj; rw [(f 64 i j rfl).1]; exact SC_spart S j hj
    · intro j hj; rw [(f 65 i j rfl).1]; exact SC_snight S j hj
    · intro p k h1 h2; rw [(f 62 _ k rfl).1]; exact SC_learned S p k h1 h2
    · rw [(f 13 i 3 rfl).1]; exact (SC_gone S :)
    · intro j hj; rw [(f 60 i j rfl).1]; exact SC_times S j hj
    · intro j hj
      have hj' : j < v 0 1 := hj
      rw [h j (by omega)]; rfl
theorem c_goBy {z : Int64} (hR : RC w i v) (hF : WF v) (hL : WL v) (hT : ∀ j, v 18 j ≤ v 0 5) (hN : 100 ≤ N) (hz : gL w 13 i 2 = z) :
    Ok (pX9_goBy N i w) (fun w' => Fr kNi w w' ∧ SFr i w w' ∧ RC w' i (sNgt v z) ∧ gL w' 13 i 2 = sNgz v z) := by
  have h1 := WF_people hF
  have h2 := WF_parts hF
  have hn := WF_night hF
  have h8 : ∀ p, v 19 p ≤ 8 := fun p => Nat.le_trans (WF_lost hF p) (WF_parts hF)
  have key : ∀ fuel c w1, c ≤ v 0 1 → v 0 1 - c < fuel → (Fr kNi w w1 ∧ SFr i w w1 ∧ RC w1 i (npN v (v 0 5) z c).1 ∧ gL w1 13 i 2 = (npN v (v 0 5) z c).2) →
      Ok (fX9_goBy_2 N i fuel (fX9_goBy_26 N i) (nI c) w1) (fun w' => Fr kNi w w' ∧ SFr i w w' ∧ RC w' i (sNgt v z) ∧ gL w' 13 i 2 = sNgz v z) := by
    intro fuel
    induction fuel with
    | zero => intro c _ _ h; omega
    | succ f ih =>
      intro c w1 hc hf hI
      obtain ⟨i1, i2, i3, i4⟩ := hI
      obtain ⟨g1, g2, g3, g4⟩ := np_keep h8 (v 0 5) z c
      have e00 := g1 0 0 (by omega) (by omega) (by omega)
      have e01 := g1 0 1 (by omega) (by omega) (by omega)
      have e05 := g1 0 5 (by omega) (by omega) (by omega)
      have hpp : gI w1 10 (gR w1 13 i 0) 0 = nI (v 0 1) := by rw [TC_people i3.1, e01]
      have hpq : gI w1 8 (gR w1 13 i 0) 0 = nI (v 0 0) := by rw [TC_parts i3.1, e00]
      rcases Nat.lt_or_ge c (v 0 1) with h | h
      · have hl : gI w1 63 i c = lst (v 19 c) := by rw [SC_lost i3.2 c (by rw [e01]; exact h), g1 19 c (by omega) (by omega) (by omega)]
        have hb := WF_lost hF c
        by_cases q : v 19 c = 0
        · have e1 : lst (v 19 c) = -nI 1 := by rw [q]; rfl
          have enp : npN v (v 0 5) z (c + 1) = npN v (v 0 5) z c := by
            show npP v (v 0 5) c (npN v (v 0 5) z c) = _
            rw [npP, if_pos q]
          simp (disch := first | assumption | omega) only [fX9_goBy_2, hpp, hl, e1, nz_neg1, h, nz_bit, nz_b1, nz_b2, nz_shl, nz_not, nz_and, nz_or, ldn, ldLn, ldRn, stn, stLn, cpn, nI_ltI, nI_leI, nI_eq, callW_eq, Option.bind_some, li0, li1, li2, li3, li4, li5, li6, li7, li8, li9, li10, li11, li12, li13, li14, li15, li16, li17, li18, li19, li20, li21, li22, li23, li24, li25, li26, li27, li28, li29, li30, li31, li32, li33, li34, li35, li36, li37, li38, li39, li40, li41, li42, li43, li44, li45, li47, li48, li50, li56, li57, li59, li60, li61, li62, li63, li64, li90, li96, li97, li99, li100, li122, li200, li255, li256, li900, li999, li1000, li9999, li65536, li99999, li1000000, li1048576, gg_I, gg_LI, gg_RI, gg_L, gg_IL, gg_RL, gg_R, gg_IR, gg_LR, gg_row, gg_Lrow, gg_Rrow, nI_add, pk_mul, Nat.reduceEqDiff, Nat.reduceAdd, Nat.reduceSub, Nat.reduceMul, Nat.reducePow, Nat.reduceLT, Nat.reduceLeDiff, ↓reduceIte, reduceCtorEq, and_true, true_and, and_false, false_and, and_self, not_true_eq_false, not_false_eq_true, if_true, if_false]
          exact ih (c + 1) w1 (by omega) (by omega) (by rw [enp]; exact ⟨i1, i2, i3, i4⟩)
        · have e1 := lst_pos q
          have e2 : ¬ nI (v 19 c - 1) < nI 0 := nz_ge0 (by omega)
          have e3 : v 19 c - 1 < v 0 0 := by omega
          simp (disch := first | assumption | omega) only [fX9_goBy_2, hpp, hpq, hl, e1, e2, e3, h, nz_bit, nz_b1, nz_b2, nz_shl, nz_not, nz_and, nz_or, ldn, ldLn, ldRn, stn, stLn, cpn, nI_ltI, nI_leI, nI_eq, callW_eq, Option.bind_some, li0, li1, li2, li3, li4, li5, li6, li7, li8, li9, li10, li11, li12, li13, li14, li15, li16, li17, li18, li19, li20, li21, li22, li23, li24, li25, li26, li27, li28, li29, li30, li31, li32, li33, li34, li35, li36, li37, li38, li39, li40, li41, li42, li43, li44, li45, li47, li48, li50, li56, li57, li59, li60, li61, li62, li63, li64, li90, li96, li97, li99, li100, li122, li200, li255, li256, li900, li999, li1000, li9999, li65536, li99999, li1000000, li1048576, gg_I, gg_LI, gg_RI, gg_L, gg_IL, gg_RL, gg_R, gg_IR, gg_LR, gg_row, gg_Lrow, gg_Rrow, nI_add, pk_mul, Nat.reduceEqDiff, Nat.reduceAdd, Nat.reduceSub, Nat.reduceMul, Nat.reducePow, Nat.reduceLT, Nat.reduceLeDiff, ↓reduceIte, reduceCtorEq, and_true, true_and, and_false, false_and, and_self, not_true_eq_false, not_false_eq_true, if_true, if_false]
          refine ok_bind (c_spend hF hT hL hN h q i3 i4) ?_
          rintro w2 ⟨j1, j2, j3, j4⟩
          exact ih (c + 1) w2 (by omega) (by omega) ⟨Fr_trans i1 j1, SFr_trans i2 j2, j3, j4⟩
      · have : c = v 0 1 := by omega
        subst this
        simp (disch := first | assumption | exact WF_b31 (by assumption) _ _ | omega) only [fX9_goBy_2, hpp, nI_ltI, Nat.lt_irrefl, if_false, fX9_goBy_26, callW_eq]
        refine ok_bind (c_loseNobody hN) ?_
        rintro w2 ⟨j1, j2, j3⟩
        have hR2 := RC_noLost j1 j3 (by rw [e01]; exact h1) i3
        have hnn : gI w2 13 i 1 = nI (v 0 5) := by
          rw [SC_night hR2.2]
          show nI (noLost _ 0 5) = _
          rw [noLost, if_neg (by omega), e05]
        rw [hnn, li1, nI_add]
        refine ok_some ⟨Fr_setI (Fr_trans i1 (Fr_mono j1 rfl)) rfl, SFr_setI (SFr_trans i2 j2) rfl, ⟨?_, ?_⟩, ?_⟩
        · show TC _ (gR w2 13 i 0) _
          refine TC_ext ?_ (TC_fr (Fr_setI (Fr_refl [14001] w2) rfl) hR2.1)
          intro r j h
          exact if_neg (by unfold mr at h; omega)
        · have S := hR2.2
          refine ⟨by rw [gg_I, if_pos ⟨rfl, rfl, rfl⟩]; rfl, by rw [gg_I, if_neg (by omega)]; exact (SC_slides S :), (SC_spart S :), (SC_snight S :), (SC_learned S :), by rw [gg_I, if_neg (by omega)]; exact (SC_gone S :), (SC_times S :), (SC_lost S :)⟩
        · rw [gg_LI, (j1 13 i 2 rfl).2.1]; exact i4
  unfold pX9_goBy
  rw [callW_eq, li0]
  exact key N 0 w (by omega) (by omega) ⟨Fr_refl _ _, SFr_refl _ _, hR, hz⟩
end

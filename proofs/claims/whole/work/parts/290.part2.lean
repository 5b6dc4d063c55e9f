/-! ===== line: part, both ===== -/
section
variable {N : Nat} {w w' w0 w1 wc wm : Wd} {b : Nat → Nat} {n m d k i : Nat} {u u' : Vw}
/-- the reference's draft but for beside -/
def DMb (w : Wd) (u : Vw) : Prop := DR w dTm 0 u ∧ DF w dFm 0 u ∧ (gI w 16 0 26 = nI (u 26 0) ∧ gI w 16 0 29 = nI (u 26 1) ∧ gI w 16 0 30 = nI (u 26 2) ∧ gI w 16 0 28 = zB (decide (0 < u 0 3))) ∧ LM w u
theorem DM_b (h : DM w u) : DMb w u := ⟨h.1, h.2.1, h.2.2.2.1, h.2.2.2.2⟩
theorem DMb_D (h : DMb w u) (h77 : ∀ j, j < u 0 0 → gI w 77 0 (8 + j) = nI (u 3 j)) : DM w u := ⟨h.1, h.2.1, h77, h.2.2.1, h.2.2.2⟩
def kDMb : List Nat := [75, 76, 78, 79, 80, 81, 82, 83, 84, 85, 86, 87, 88, 89, 90, 17020, 17021, 17022, 17023, 17025, 17024, 17027, 17058, 17026, 17028, 17029, 17030, 91, 92, 93, 94, 95, 96]
theorem DMb_fr {l : List Nat} (f : Fr l w w') (h : DMb w u) (hl : dis l kDMb = true := by decide) : DMb w' u := by
  obtain ⟨h1, h2, ⟨h5, h6, h7, h8⟩, h9⟩ := h
  refine ⟨DR_fr okTm f h1 (dis_sub hl (by decide)), DF_fr f h2 (dF_dis (dis_sub hl (by decide))), ⟨?_, ?_, ?_, ?_⟩, LM_fr f h9 (dis_sub hl (by decide))⟩
  · rw [Fr_I f hl (by decide)]; exact h5
  · rw [Fr_I f hl (by decide)]; exact h6
  · rw [Fr_I f hl (by decide)]; exact h7
  · rw [Fr_I f hl (by decide)]; exact h8
theorem DMb_nm (h : DMb w u) : nmM w u := ⟨h.2.1 (16, 20, 0) (by decide), fun j hj => h.1 (75, 1, 0, 8) (by decide) j hj⟩
theorem DM_part {nm od B : Nat} (D : DMb w u) (h75 : gI w 75 0 (8 + u 0 0) = nI nm) (h76 : gI w 76 0 (8 + u 0 0) = nI od) (h77 : gI w 77 0 (8 + u 0 0) = nI B) (hb : ∀ q, q < u 0 0 → gI w 77 0 (8 + q) = nI (bsU u B (u 0 0) q)) : DM (setI w 16 0 20 (nI (u 0 0 + 1))) (ptU u nm od B) := by
  have F : Fr [17020] w (setI w 16 0 20 (nI (u 0 0 + 1))) := Fr_setI (Fr_refl _ _) rfl
  obtain ⟨h1, h2, ⟨h5, h6, h7, h8⟩, h9⟩ := D
  have eA : ∀ r j, r ≠ 3 → ptU u nm od B r j = app u 0 (fun r => if r = 1 then nm else od) r j := fun r j h => by unfold ptU; rw [if_neg h]
  have hD : DR (setI w 16 0 20 (nI (u 0 0 + 1))) dTm 0 (app u 0 (fun r => if r = 1 then nm else od)) := by
    refine DR_app okTm h1 (KP_Fr okTm F (by decide)) ?_
    intro e he hc
    have : e = (75, 1, 0, 8) ∨ e = (76, 2, 0, 8) := (by decide : ∀ e, e ∈ dTm → e.2.2.1 = 0 → e = (75, 1, 0, 8) ∨ e = (76, 2, 0, 8)) e he hc
    rcases this with rfl | rfl
    · show gI _ 75 0 (8 + u 0 0) = nI nm
      rw [(F 75 0 _ rfl).1]; exact h75
    · show gI _ 76 0 (8 + u 0 0) = nI od
      rw [(F 76 0 _ rfl).1]; exact h76
  refine ⟨fun e he j hj => ?_, fun e he => ?_, fun j hj => ?_, ⟨?_, ?_, ?_, ?_⟩, LM_e (fun r j p1 p2 => ptU_r (by omega) (by omega) (by rw [grp_hi p1 p2]; omega)) (by rw [ptU_n (by omega)]; exact Nat.le_refl _) (LM_fr F h9)⟩
  · have g := okT_of okTm he
    have n3 : e.2.1 ≠ 3 := fun z => by rw [z] at g; have : grp 3 = 99 := by decide
                                       omega
    rw [eA 0 _ (by omega)] at hj
    rw [eA _ _ n3]
    exact hD e he j hj
  · by_cases z : e.2.2 = 0
    · have : e = (16, 20, 0) := (by decide : ∀ e, e ∈ dFm → e.2.2 = 0 → e = (16, 20, 0)) e he z
      subst this
      show gI _ 16 0 20 = nI (ptU u nm od B 0 0)
      rw [ptU_c, gg_I, if_pos ⟨rfl, rfl, rfl⟩]
    · rw [ptU_n z, DF_oth (l := [17020]) (c := 0) F (by decide) e he z]
      exact h2 e he
  · rw [ptU_c] at hj
    show gI _ 77 0 (8 + j) = nI (if (3 : Nat) = 3 then (if j = u 0 0 then B else bsU u B (u 0 0) j) else _)
    rw [if_pos rfl, (F 77 0 _ rfl).1]
    by_cases y : j = u 0 0
    · rw [if_pos y, y]; exact h77
    · rw [if_neg y]; exact hb j (by omega)
  · rw [ptU_r (by omega) (by omega) (by decide), (F 16 0 26 rfl).1]; exact h5
  · rw [ptU_r (by omega) (by omega) (by decide), (F 16 0 29 rfl).1]; exact h6
  · rw [ptU_r (by omega) (by omega) (by decide), (F 16 0 30 rfl).1]; exact h7
  · rw [ptU_n (by omega), (F 16 0 28 rfl).1]; exact h8
theorem j_bloop (hN : 1000 ≤ N) (hU : WU u) (h8 : u 0 0 < 8) {nm od : Nat} (hnm : nm < 2 ^ 30) (hod : od ≤ 100) : ∀ r k' B i fc fm wc' wm', k' + r = m → r < fc → r < fm → B < 2 ^ u 0 0 → cnt (fun q => B.testBit q) (u 0 0) = i → JC wc' b n m d k' → JM wm' b n k' → DC wc' d u → gI wc' 30 d (u 0 0) = nI nm → FC d wc wc' → FM wm wm' → DMb wm' u → gI wm' 75 0 (8 + u 0 0) = nI nm → gI wm' 76 0 (8 + u 0 0) = nI od → gI wm' 77 0 (8 + u 0 0) = nI B → (∀ q, q < u 0 0 → gI wm' 77 0 (8 + q) = nI (bsU u B (u 0 0) q)) → k < k' →
    LnR b n m d k wc wm (fX7_readPart_29 N fc (fX7_readPart_54 N) (nI od) (nI B) (nI i) wc') (fX12_partLine_41 N fm (fX12_partLine_92 N) (nI (8 + u 0 0)) wm') := by
  intro r
  induction r using Nat.strongRecOn with
  | _ r ih =>
    intro k' B i fc fm wc' wm' hr hfc hfm hB hi hc hm Dc h30 F G Dm h75 h76 h77 hb hk
    obtain ⟨fc, rfl⟩ : ∃ z, fc = z + 1 := ⟨fc - 1, by omega⟩
    obtain ⟨fm, rfl⟩ : ∃ z, fm = z + 1 := ⟨fm - 1, by omega⟩
    have hi8 := cnt_le (fun q => B.testBit q) (u 0 0)
    rw [hi] at hi8
    have hB31 : B < 2 ^ 31 := Nat.lt_of_lt_of_le hB (Nat.pow_le_pow_right (by omega) (by omega))
    have lt : ((8 : Int32) < nI i) = False := eq_false (fun z => by
      have := (nI_ltI (a := 8) (by omega) (by omega)).mp z
      omega)
    have gk := m_isKey (N := N) hm (c := 1) (by omega)
    by_cases y : tK b n k' = 1
    · have q : (gI wc' 14 0 8 = (1 : Int32)) = True := (JC_is hc (c := 1) (by omega)).trans (eq_true y)
      rw [decide_eq_true y] at gk
      have gk' : pX12_isKey N (8 : Int32) wm' = some (zB true, wm') := gk
      obtain ⟨w1, e1, f1, j1⟩ := c_adv (N := N) hc (by omega)
      obtain ⟨w2, e2, f2, j2⟩ := m_adv (N := N) hm hN
      have n1 := DC_nm (DC_fr f1 Dc)
      have n2 := DMb_nm (DMb_fr f2 Dm)
      have hlt := JC_lt hc (by omega)
      by_cases z : otF u B b n (k' + 1) = 0
      · obtain ⟨y1, z2'⟩ := otF_0 z
        have hp := ptF_lt y1
        obtain ⟨⟨x, w3⟩, e3, ex, f3, j3⟩ := c_other (N := N) j1 (by omega) n1 (by omega) hB31 z
        simp only at ex f3 j3
        subst ex
        have ne0 : (nI (2 ^ ptN u b n (k' + 1)) = 0) = False := eq_false (fun q => by
          have h2 : 2 ^ ptN u b n (k' + 1) ≤ 2 ^ 8 := Nat.pow_le_pow_right (by omega) (by omega)
          have h1 := Nat.two_pow_pos (ptN u b n (k' + 1))
          have := (nI_eq (b := 0) (by omega) (by omega)).mp q
          omega)
        have eo : nI B ||| nI (2 ^ ptN u b n (k' + 1)) = nI (B ||| 2 ^ ptN u b n (k' + 1)) := nz_or _ _
        have ei : nI i + (1 : Int32) = nI (i + 1) := nI_add _ 1
        have Cc : fX7_readPart_29 N (fc + 1) (fX7_readPart_54 N) (nI od) (nI B) (nI i) wc' = fX7_readPart_29 N fc (fX7_readPart_54 N) (nI od) (nI (B ||| 2 ^ ptN u b n (k' + 1))) (nI (i + 1)) w3 := by
          simp only [fX7_readPart_29, ↓lt, ↓q, ↓cbnd e1, ↓cbnd e3, ↓ne0, ↓eo, ↓ei, ↓reduceIte, callW_eq]
        have g4 := m_met (N := N) j2 (by omega) n2 (by omega) y1
        have f4 : Fr [17011] w2 (setI w2 16 0 11 (nI (ptN u b n (k' + 1)))) := Fr_setI (Fr_refl _ _) rfl
        have f24 : Fr kNu wm' (setI w2 16 0 11 (nI (ptN u b n (k' + 1)))) := Fr_trans (Fr_mono f2 rfl) (Fr_mono f4 rfl)
        have j4 := JM_fr f4 j2
        have a11 : gI (setI w2 16 0 11 (nI (ptN u b n (k' + 1)))) 16 0 11 = nI (ptN u b n (k' + 1)) := by rw [gg_I, if_pos ⟨rfl, rfl, rfl⟩]
        generalize setI w2 16 0 11 (nI (ptN u b n (k' + 1))) = w4 at g4 f4 f24 j4 a11
        have a77 : gI w4 77 0 (8 + u 0 0) = nI B := by rw [(f24 77 0 _ rfl).1]; exact h77
        have l4 : ldI w4 77 0 (nI (8 + u 0 0)) 16 = some (nI B) := by rw [ldn (by omega) (by omega), a77]
        have g5 := m_isOf (N := N) (w := w4) (x := B) (k := ptN u b n (k' + 1)) hB31 (by omega)
        rw [z2', ← a11] at g5
        have es := s31 (q := ptN u b n (k' + 1)) (by omega)
        have s5 : stI w4 77 0 (nI (8 + u 0 0)) 16 (nI B ||| ((1 : Int32) <<< (gI w4 16 0 11 &&& (31 : Int32)))) = some (setI w4 77 0 (8 + u 0 0) (nI (B ||| 2 ^ ptN u b n (k' + 1)))) := by rw [a11, es, eo]; exact stn (by omega) (by omega)
        have f5 : Fr [77] w4 (setI w4 77 0 (8 + u 0 0) (nI (B ||| 2 ^ ptN u b n (k' + 1)))) := Fr_setI (Fr_refl _ _) rfl
        have b11 : gI (setI w4 77 0 (8 + u 0 0) (nI (B ||| 2 ^ ptN u b n (k' + 1)))) 16 0 11 = nI (ptN u b n (k' + 1)) := by rw [(f5 16 0 11 rfl).1]; exact a11
        have b20 : gI (setI w4 77 0 (8 + u 0 0) (nI (B ||| 2 ^ ptN u b n (k' + 1)))) 16 0 20 = nI (u 0 0) := by rw [(f5 16 0 20 rfl).1, (f24 16 0 20 rfl).1]; exact (DMb_nm Dm).1
        have bq : ∀ q, q < u 0 0 → gI (setI w4 77 0 (8 + u 0 0) (nI (B ||| 2 ^ ptN u b n (k' + 1)))) 77 0 (8 + q) = nI (bsU u B (u 0 0) q) := fun q hq => by rw [gg_I, if_neg (by omega), (f24 77 0 _ rfl).1]; exact hb q hq
        have bP : gI (setI w4 77 0 (8 + u 0 0) (nI (B ||| 2 ^ ptN u b n (k' + 1)))) 77 0 (8 + u 0 0) = nI (B ||| 2 ^ ptN u b n (k' + 1)) := by rw [gg_I, if_pos ⟨rfl, rfl, rfl⟩]
        have G5 : FM wm (setI w4 77 0 (8 + u 0 0) (nI (B ||| 2 ^ ptN u b n (k' + 1)))) := FM_setI (FM_trans G (FM_nm f24)) rfl (by show 8 ≤ _; omega)
        have j5 := JM_fr f5 j4
        generalize setI w4 77 0 (8 + u 0 0) (nI (B ||| 2 ^ ptN u b n (k' + 1))) = w5 at s5 f5 b11 b20 bq bP G5 j5
        have e8 : (8 : Int32) + gI w5 16 0 11 = nI (8 + ptN u b n (k' + 1)) := by rw [b11, show (8 : Int32) = nI 8 from rfl, nI_add]
        have l5 : ldI w5 77 0 ((8 : Int32) + gI w5 16 0 11) 16 = some (nI (bsU u B (u 0 0) (ptN u b n (k' + 1)))) := by rw [e8, ldn (by omega) (by omega), bq _ hp.1]
        have es2 := s31 (q := u 0 0) (by omega)
        have ev : nI (bsU u B (u 0 0) (ptN u b n (k' + 1))) ||| ((1 : Int32) <<< (gI w5 16 0 20 &&& (31 : Int32))) = nI (bsU u (B ||| 2 ^ ptN u b n (k' + 1)) (u 0 0) (ptN u b n (k' + 1))) := by
          rw [b20, es2, nz_or]
          congr 1
          unfold bsU
          rw [z2', if_neg (by decide), Nat.or_zero, Nat.testBit_or, Nat.testBit_two_pow, decide_eq_true rfl, Bool.or_true, if_pos rfl]
        have s6 : stI w5 77 0 ((8 : Int32) + gI w5 16 0 11) 16 (nI (bsU u B (u 0 0) (ptN u b n (k' + 1))) ||| ((1 : Int32) <<< (gI w5 16 0 20 &&& (31 : Int32)))) = some (setI w5 77 0 (8 + ptN u b n (k' + 1)) (nI (bsU u (B ||| 2 ^ ptN u b n (k' + 1)) (u 0 0) (ptN u b n (k' + 1))))) := by rw [ev, e8]; exact stn (by omega) (by omega)
        have f6 : Fr [77] w5 (setI w5 77 0 (8 + ptN u b n (k' + 1)) (nI (bsU u (B ||| 2 ^ ptN u b n (k' + 1)) (u 0 0) (ptN u b n (k' + 1))))) := Fr_setI (Fr_refl _ _) rfl
        have G6 : FM wm (setI w5 77 0 (8 + ptN u b n (k' + 1)) (nI (bsU u (B ||| 2 ^ ptN u b n (k' + 1)) (u 0 0) (ptN u b n (k' + 1))))) := FM_setI G5 rfl (by show 8 ≤ _; omega)
        have cq : ∀ q, q < u 0 0 → gI (setI w5 77 0 (8 + ptN u b n (k' + 1)) (nI (bsU u (B ||| 2 ^ ptN u b n (k' + 1)) (u 0 0) (ptN u b n (k' + 1))))) 77 0 (8 + q) = nI (bsU u (B ||| 2 ^ ptN u b n (k' + 1)) (u 0 0) q) := fun q hq => by
          by_cases yq : q = ptN u b n (k' + 1)
          · subst yq
            rw [gg_I, if_pos ⟨rfl, rfl, rfl⟩]
          · rw [gg_I, if_neg (fun z => yq (by omega)), bq q hq]
            congr 1
            unfold bsU
            rw [Nat.testBit_or, Nat.testBit_two_pow, decide_eq_false (fun z => yq z.symm), Bool.or_false]
        have cP : gI (setI w5 77 0 (8 + ptN u b n (k' + 1)) (nI (bsU u (B ||| 2 ^ ptN u b n (k' + 1)) (u 0 0) (ptN u b n (k' + 1))))) 77 0 (8 + u 0 0) = nI (B ||| 2 ^ ptN u b n (k' + 1)) := by rw [gg_I, if_neg (fun z => by omega)]; exact bP
        have j6 := JM_fr f6 j5
        generalize setI w5 77 0 (8 + ptN u b n (k' + 1)) (nI (bsU u (B ||| 2 ^ ptN u b n (k' + 1)) (u 0 0) (ptN u b n (k' + 1)))) = w6 at s6 f6 G6 cq cP j6
        obtain ⟨w7, e7, f7, j7⟩ := m_adv (N := N) j6 hN
        have Cm : fX12_partLine_41 N (fm + 1) (fX12_partLine_92 N) (nI (8 + u 0 0)) wm' = fX12_partLine_41 N fm (fX12_partLine_92 N) (nI (8 + u 0 0)) w7 := by
          simp only [fX12_partLine_41, ↓cbnd gk', ↓z1, ↓cbnd e2, ↓cbnd g4, ↓n1_0, ↓bnd l4, ↓cbnd g5, ↓z2, ↓bnd s5, ↓bnd l5, ↓bnd s6, ↓cbnd e7, ↓reduceIte, callW_eq]
        rw [Cc, Cm]
        have ff : Fr [17007, 17008, 17009, 17010, 17011, 77] wm' w7 := Fr_trans (Fr_mono f24 rfl) (Fr_trans (Fr_mono f5 rfl) (Fr_trans (Fr_mono f6 rfl) (Fr_mono f7 rfl)))
        have fc3 : Fr kAd wc' w3 := Fr_trans f1 f3
        have hlt2 := JC_lt j1 (by omega)
        refine ih (m - (k' + 1 + 1)) (by omega) (k' + 1 + 1) (B ||| 2 ^ ptN u b n (k' + 1)) (i + 1) fc fm w3 w7 (by omega) (by omega) (by omega) ?_ ?_ j3 j7 (DC_fr fc3 Dc) (by rw [(fc3 30 d _ rfl).1]; exact h30) (FC_trans F (FC_ad fc3)) (FM_trans G6 (FM_tk f7)) (DMb_fr ff Dm) (by rw [(ff 75 0 _ rfl).1]; exact h75) (by rw [(ff 76 0 _ rfl).1]; exact h76) (by rw [(f7 77 0 _ rfl).1]; exact cP) (fun q hq => by rw [(f7 77 0 _ rfl).1]; exact cq q hq) (by omega)
        · exact Nat.or_lt_two_pow hB (Nat.pow_lt_pow_right (by omega) hp.1)
        · rw [← hi]
          refine cnt_one (x := ptN u b n (k' + 1)) hp.1 z2' (fun q hq => ?_)
          rw [Nat.testBit_or, Nat.testBit_two_pow]
          congr 1
          by_cases yq : q = ptN u b n (k' + 1)
          · rw [yq, decide_eq_true rfl, beq_self_eq_true]
          · rw [decide_eq_false (fun z => yq z.symm), beq_eq_false_iff_ne.mpr yq]
      · refine Or.inl ⟨otF u B b n (k' + 1), tP b n (k' + 1), ?_, ?_⟩
        · simp only [fX7_readPart_29, ↓lt, ↓q, ↓cbnd e1, ↓reduceIte, callW_eq]
          refine ok_bind (c_otherF (N := N) j1 (by omega) n1 (by omega) hB31 z) ?_
          rintro ⟨x, w3⟩ ⟨e, h3⟩
          simp only at e h3
          subst e
          simp only [↓n0_0, ↓reduceIte]
          exact ok_some ⟨rfl, flC_B (FC_trans F (FC_ad f1)) h3⟩
        · by_cases z1' : ptF u b n (k' + 1) = 0
          · have hp := ptF_lt z1'
            have hbt : B.testBit (ptN u b n (k' + 1)) = true := by
              cases hbt : B.testBit (ptN u b n (k' + 1)) with
              | true => rfl
              | false =>
                exfalso
                apply z
                unfold otF
                rw [if_pos z1', hbt]
                rfl
            have eF : otF u B b n (k' + 1) = 3 := by
              unfold otF
              rw [if_pos z1', hbt]
              rfl
            have g4 := m_met (N := N) j2 (by omega) n2 (by omega) z1'
            have f4 : Fr [17011] w2 (setI w2 16 0 11 (nI (ptN u b n (k' + 1)))) := Fr_setI (Fr_refl _ _) rfl
            have f24 : Fr kNu wm' (setI w2 16 0 11 (nI (ptN u b n (k' + 1)))) := Fr_trans (Fr_mono f2 rfl) (Fr_mono f4 rfl)
            have j4 := JM_fr f4 j2
            have a11 : gI (setI w2 16 0 11 (nI (ptN u b n (k' + 1)))) 16 0 11 = nI (ptN u b n (k' + 1)) := by rw [gg_I, if_pos ⟨rfl, rfl, rfl⟩]
            generalize setI w2 16 0 11 (nI (ptN u b n (k' + 1))) = w4 at g4 f4 f24 j4 a11
            have l4 : ldI w4 77 0 (nI (8 + u 0 0)) 16 = some (nI B) := by rw [ldn (by omega) (by omega), (f24 77 0 _ rfl).1, h77]
            have g5 := m_isOf (N := N) (w := w4) (x := B) (k := ptN u b n (k' + 1)) hB31 (by omega)
            rw [hbt, ← a11] at g5
            simp only [fX12_partLine_41, ↓cbnd gk', ↓z1, ↓cbnd e2, ↓cbnd g4, ↓n1_0, ↓bnd l4, ↓cbnd g5, ↓reduceIte]
            rw [eF]
            exact ok_mono (m_wrongZ j4 3) (fun x hx => ⟨hx.1, flM_B (FM_trans G (FM_nm f24)) hx.2⟩)
          · have eF : otF u B b n (k' + 1) = ptF u b n (k' + 1) := by
              unfold otF
              rw [if_neg z1']
            simp only [fX12_partLine_41, ↓cbnd gk', ↓z1, ↓cbnd e2, ↓reduceIte, callW_eq]
            refine ok_bind (m_metF (N := N) j2 (by omega) n2 (by omega) z1') ?_
            rintro ⟨x, w3⟩ ⟨e, h3⟩
            simp only at e h3
            subst e
            simp only [↓n0_0, ↓reduceIte]
            rw [eF]
            exact ok_some ⟨rfl, flN_B (FM_trans G (FM_tk f2)) h3⟩
    · have q : (gI wc' 14 0 8 = (1 : Int32)) = False := (JC_is hc (c := 1) (by omega)).trans (eq_false y)
      rw [decide_eq_false y] at gk
      have gk' : pX12_isKey N (8 : Int32) wm' = some (zB false, wm') := gk
      refine Or.inr ⟨k', ptU u nm od B, hk, WU_part hU h8 hnm hod hB, ?_, ?_⟩
      · have ed := hc.2.2.2.2
        simp only [fX7_readPart_29, ↓lt, ↓q, fX7_readPart_54, ↓ed, ↓reduceIte, callW_eq]
        refine ok_bind (c_addPart (N := N) (od := od) Dc hU h8 (by omega) hB h30) ?_
        rintro w1 ⟨g1, g2, g3⟩
        exact ok_some ⟨rfl, FC_trans F g1, JC_fr g2 hc, g3⟩
      · have e20 : gI wm' 16 0 20 + (1 : Int32) = nI (u 0 0 + 1) := by rw [(DMb_nm Dm).1]; exact nI_add _ 1
        simp only [fX12_partLine_41, ↓cbnd gk', ↓z2, fX12_partLine_92, ↓e20, ↓reduceIte]
        exact ok_some ⟨rfl, FM_setI G rfl (by show 0 ≤ _; omega), JM_fr (l := [17020]) (Fr_setI (Fr_refl _ _) rfl) hm, DM_part Dm h75 h76 h77 hb⟩
theorem j_part (hc : JC wc b n m d k) (hm : JM wm b n k) (hK : tK b n k = 0) (Dc : DC wc d u) (Dm : DM wm u) (hU : WU u) (hN : 1000 ≤ N) : LnR b n m d k wc wm (wrpC N (if u 0 0 = 8 then (1 : Int32) else (0 : Int32)) (2 : Int32) (pX7_readPart N) wc) (pX12_partLine N wm) := by
  have hU' := hU
  obtain ⟨⟨U0, U1, U2, U3, U4, U6, U7⟩, UB, US, UG, UL⟩ := hU'
  have e20 : gI wm 16 0 20 = nI (u 0 0) := Dm.2.1 (16, 20, 0) (by decide)
  have hk : tK b n k ≠ 60 := by omega
  by_cases y : u 0 0 = 8
  · rw [if_pos y]
    refine Or.inl ⟨2, tP b n k, wrp_F hc 2, ?_⟩
    have q : (gI wm 16 0 20 = (8 : Int32)) = True := eq_true (by rw [e20, y]; rfl)
    simp only [pX12_partLine, ↓q, ↓reduceIte]
    exact ok_mono (m_wrongZ hm 2) (fun x hx => ⟨hx.1, flM_B (FM_refl wm) hx.2⟩)
  rw [if_neg y]
  have q : (gI wm 16 0 20 = (8 : Int32)) = False := eq_false (fun z => y (by rw [e20] at z; exact (nI_eq (b := 8) (by omega) (by omega)).mp z))
  obtain ⟨w2, e2, f2, j2⟩ := m_adv (N := N) hm hN
  have D2 := DM_fr f2 Dm
  have a20 : gI w2 16 0 20 = nI (u 0 0) := D2.2.1 (16, 20, 0) (by decide)
  refine LnR_wrap rfl hc hk (fun w1 f1 j1 => ?_)
  have D1 := DC_fr f1 Dc
  have ed := j1.2.2.2.2
  have c80 : gI w1 8 d 0 = nI (u 0 0) := D1.2.1 (8, 0, 0) (by decide)
  have lt : (nI (u 0 0) < (8 : Int32)) = True := eq_true ((nI_ltI (b := 8) (by omega) (by omega)).mpr (by omega))
  have n1 := (DC_nm D1).2
  have n2 := (DM_nm D2).2
  have F1 : FC d wc w1 := FC_ad f1
  have G2 : FM wm w2 := FM_tk f2
  by_cases z : nnF (u 1) (u 0 0) b n (k + 1) = 0
  rotate_left
  · refine Or.inl ⟨nnF (u 1) (u 0 0) b n (k + 1), tP b n (k + 1), ?_, ?_⟩
    · simp only [pX7_readPart, ↓ed, ↓c80, ↓lt, ↓reduceIte, callW_eq]
      refine ok_bind (c_newF (N := N) (k1 := 30) (L := 8) j1 (by omega) rfl (by omega) (by omega) n1 z) ?_
      rintro ⟨x, w3⟩ ⟨e, h3⟩
      simp only at e h3
      subst e
      simp only [↓n0_0, ↓reduceIte]
      exact ok_some ⟨rfl, flC_B F1 h3⟩
    · simp only [pX12_partLine, ↓q, ↓cbnd e2, ↓a20, ↓reduceIte, callW_eq]
      refine ok_bind (m_newF (N := N) (k1 := 75) (o := 8) (L := 16) j2 (by omega) rfl (by omega) (by omega) n2 z) ?_
      rintro ⟨x, w3⟩ ⟨e, h3⟩
      simp only at e h3
      subst e
      simp only [↓n0_0, ↓reduceIte]
      exact ok_some ⟨rfl, flM_B G2 h3⟩
  have h62 : tK b n (k + 1) = 62 := by
    unfold nnF at z
    by_cases t : tK b n (k + 1) = 62
    · exact t
    · rw [if_neg t] at z; omega
  obtain ⟨⟨x, w3⟩, e3, ex, ⟨wa, ewa, f3⟩, j3⟩ := c_new (N := N) (k1 := 30) (L := 8) j1 (by omega) rfl (by omega) (by omega) n1 (by decide) rfl z
  simp only at ex f3 j3
  subst ex
  have F3 : FC d wc w3 := FC_trans (by rw [ewa]; exact FC_setI F1 rfl (Or.inr rfl)) (FC_ad f3)
  have D3 : DC w3 d u := by
    have fa : Fr [30] w1 wa := by rw [ewa]; exact Fr_setI (Fr_refl _ _) rfl
    have : DC wa d u := by
      obtain ⟨h1, h2, h3', h4, h5, h6⟩ := D1
      refine ⟨DR_keep h1 (by rw [ewa]; exact KP_set (c := 0) (o := 0) (by decide) (by omega)), DF_fr fa h2 (by decide), fun j hj => by rw [(fa 32 d j rfl).1]; exact h3' j hj, PDf_fr fa h4 (by decide), ⟨by rw [(fa 8 d 16 rfl).1]; exact h5.1, by rw [(fa 11 0 2 rfl).1]; exact h5.2.1, by rw [(fa 11 0 3 rfl).1]; exact h5.2.2⟩, LC_fr fa h6⟩
    exact DC_fr f3 this
  have a30 : gI w3 30 d (u 0 0) = nI (tV b n (k + 1)) := by rw [(f3 30 d _ rfl).1, ewa, gg_I, if_pos ⟨rfl, rfl, rfl⟩]
  obtain ⟨⟨x, w4⟩, e4, ex, ⟨wb, ewb, f4⟩, j4⟩ := m_new (N := N) (k1 := 75) (o := 8) (L := 16) j2 hN rfl (by omega) (by omega) n2 (by decide) rfl z
  simp only at ex f4 j4
  subst ex
  have G4 : FM wm w4 := FM_trans (by rw [ewb]; exact FM_setI G2 rfl (by show 8 ≤ _; omega)) (FM_tk f4)
  have D4 : DM w4 u := by
    have fa : Fr [75] w2 wb := by rw [ewb]; exact Fr_setI (Fr_refl _ _) rfl
    have : DM wb u := by
      obtain ⟨h1, h2, h3', h5, h6⟩ := D2
      refine ⟨DR_keep h1 (by rw [ewb]; exact KP_set (c := 0) (o := 8) (by decide) (by omega)), DF_fr fa h2 (by decide), fun j hj => by rw [(fa 77 0 _ rfl).1]; exact h3' j hj, ⟨by rw [(fa 16 0 26 rfl).1]; exact h5.1, by rw [(fa 16 0 29 rfl).1]; exact h5.2.1, by rw [(fa 16 0 30 rfl).1]; exact h5.2.2.1, by rw [(fa 16 0 28 rfl).1]; exact h5.2.2.2⟩, LM_fr fa h6⟩
    exact DM_fr f4 this
  have a75 : gI w4 75 0 (8 + u 0 0) = nI (tV b n (k + 1)) := by rw [(f4 75 0 _ rfl).1, ewb, gg_I, if_pos ⟨rfl, rfl, rfl⟩]
  have e3' : pX7_readNewName N 30 (gR w1 11 0 1) (gI w1 8 (gR w1 11 0 1) 0) w1 = some ((1 : Int32), w3) := by rw [ed, c80]; exact e3
  have e4' : pX12_newName N 75 0 (8 : Int32) (gI w2 16 0 20) w2 = some ((1 : Int32), w4) := by rw [a20]; exact e4
  have ltr : (gI w1 8 (gR w1 11 0 1) 0 < (8 : Int32)) = True := by rw [ed, c80]; exact lt
  by_cases z5 : nmF b n (k + 1 + 1) 0 100 = 0
  rotate_left
  · refine Or.inl ⟨nmF b n (k + 1 + 1) 0 100, tP b n (k + 1 + 1), ?_, ?_⟩
    · simp only [pX7_readPart, ↓ltr, ↓cbnd e3', ↓n1_0, ↓reduceIte, callW_eq]
      refine ok_bind (c_numF (lo := 0) (hi := 100) j3 (by omega) (by omega) z5) ?_
      rintro ⟨x, w5⟩ ⟨e, h5⟩
      simp only at e h5
      subst e
      simp only [↓m1_l0, ↓reduceIte]
      exact ok_some ⟨rfl, flC_B F3 h5⟩
    · simp only [pX12_partLine, ↓q, ↓cbnd e2, ↓cbnd e4', ↓n1_0, ↓reduceIte, callW_eq]
      refine ok_bind (m_numF (lo := 0) (hi := 100) j4 (by omega) (by omega) z5) ?_
      rintro ⟨x, w5⟩ ⟨e, h5⟩
      simp only at e h5
      subst e
      simp only [↓n0_0, ↓reduceIte]
      exact ok_some ⟨rfl, flM_B G4 h5⟩
  have hr := nmF_rng z5
  have q5 : (nI (tV b n (k + 1 + 1)) < 0) = False := eq_false (nz_ge0 (by omega))
  obtain ⟨⟨x, w5⟩, e5, ex, f5, j5⟩ := c_num (N := N) (lo := 0) (hi := 100) j3 (by omega) (by omega) z5
  simp only at ex f5 j5
  subst ex
  have e5' : pX7_readNumber N (0 : Int32) (100 : Int32) w3 = some (nI (tV b n (k + 1 + 1)), w5) := e5
  obtain ⟨⟨x, w6⟩, e6, ex, f6, j6, g6⟩ := m_num (N := N) (lo := 0) (hi := 100) j4 hN (by omega) (by omega) z5
  simp only at ex f6 j6 g6
  subst ex
  have e6' : pX12_number N (0 : Int32) (100 : Int32) w4 = some ((1 : Int32), w6) := e6
  have e8 : (8 : Int32) + gI w2 16 0 20 = nI (8 + u 0 0) := by rw [a20, show (8 : Int32) = nI 8 from rfl, nI_add]
  have s6 : stI w6 76 0 ((8 : Int32) + gI w2 16 0 20) 16 (gI w6 16 0 11) = some (setI w6 76 0 (8 + u 0 0) (nI (tV b n (k + 1 + 1)))) := by rw [g6, e8]; exact stn (by omega) (by omega)
  have s7 : stI (setI w6 76 0 (8 + u 0 0) (nI (tV b n (k + 1 + 1)))) 77 0 ((8 : Int32) + gI w2 16 0 20) 16 (0 : Int32) = some (setI (setI w6 76 0 (8 + u 0 0) (nI (tV b n (k + 1 + 1)))) 77 0 (8 + u 0 0) (0 : Int32)) := by rw [e8]; exact stn (by omega) (by omega)
  have f7 : Fr [76, 77] w6 (setI (setI w6 76 0 (8 + u 0 0) (nI (tV b n (k + 1 + 1)))) 77 0 (8 + u 0 0) (0 : Int32)) := Fr_setI (Fr_setI (Fr_refl _ _) rfl) rfl
  have D6 := DM_fr f6 D4
  have D7 : DMb (setI (setI w6 76 0 (8 + u 0 0) (nI (tV b n (k + 1 + 1)))) 77 0 (8 + u 0 0) (0 : Int32)) u := by
    obtain ⟨h1, h2, h3', h5, h6⟩ := D6
    exact ⟨DR_keep h1 (KP_trans (KP_set (c := 0) (o := 8) (by decide) (by omega)) (KP_Fr okTm (l := [77]) (Fr_setI (Fr_refl _ _) rfl) (by decide))), DF_fr f7 h2 (by decide), ⟨by rw [(f7 16 0 26 rfl).1]; exact h5.1, by rw [(f7 16 0 29 rfl).1]; exact h5.2.1, by rw [(f7 16 0 30 rfl).1]; exact h5.2.2.1, by rw [(f7 16 0 28 rfl).1]; exact h5.2.2.2⟩, LM_fr f7 h6⟩
  have Cc : pX7_readPart N w1 = fX7_readPart_29 N N (fX7_readPart_54 N) (nI (tV b n (k + 1 + 1))) (nI 0) (nI 0) w5 := by
    simp only [pX7_readPart, ↓ltr, ↓cbnd e3', ↓n1_0, ↓cbnd e5', ↓q5, ↓reduceIte, callW_eq]
    rfl
  have Cm : pX12_partLine N wm = fX12_partLine_41 N N (fX12_partLine_92 N) (nI (8 + u 0 0)) (setI (setI w6 76 0 (8 + u 0 0) (nI (tV b n (k + 1 + 1)))) 77 0 (8 + u 0 0) (0 : Int32)) := by
    simp only [pX12_partLine, ↓q, ↓cbnd e2, ↓cbnd e4', ↓n1_0, ↓cbnd e6', ↓bnd s6, ↓bnd s7, ↓e8, ↓reduceIte, callW_eq]
  rw [Cc, Cm]
  have hm9 : m ≤ 900 := hc.1.1
  have hj := j5.2.1
  refine j_bloop (N := N) hN hU (by omega) (nm := tV b n (k + 1)) (od := tV b n (k + 1 + 1)) (tV_name j2 h62) (by omega) (m - (k + 1 + 1 + 1)) (k + 1 + 1 + 1) 0 0 N N w5 _ (by omega) (by omega) (by omega) (Nat.two_pow_pos _) ?_ j5 (JM_fr f7 j6) (DC_fr f5 D3) (by rw [(f5 30 d _ rfl).1]; exact a30) (FC_trans F3 (FC_ad f5)) ?_ D7 ?_ ?_ ?_ ?_ (by omega)
  · have : ∀ p, cnt (fun q => Nat.testBit 0 q) p = 0 := fun p => by
      induction p with
      | zero => rfl
      | succ p ih => rw [cnt, ih, Nat.zero_testBit]; rfl
    exact this _
  · exact FM_setI (FM_setI (FM_trans G4 (FM_nm f6)) rfl (by show 8 ≤ _; omega)) rfl (by show 8 ≤ _; omega)
  · rw [(f7 75 0 _ rfl).1, (f6 75 0 _ rfl).1]; exact a75
  · rw [gg_I, if_neg (by omega), gg_I, if_pos ⟨rfl, rfl, rfl⟩]
  · rw [gg_I, if_pos ⟨rfl, rfl, rfl⟩]; rfl
  · intro q hq
    rw [gg_I, if_neg (by omega), gg_I, if_neg (by omega), (f6 77 0 _ rfl).1, D4.2.2.1 q hq]
    congr 1
    unfold bsU
    rw [Nat.zero_testBit, if_neg (by decide), Nat.or_zero]
end

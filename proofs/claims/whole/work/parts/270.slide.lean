/-! ===== calls: slide, undo ===== -/
section
variable {N : Nat} {w w' : Wd} {v v' : Vw}
def kTMs : List Nat := [17012, 17013, 17014, 17015, 17017, 17019, 75, 76, 77, 78, 80, 81, 82, 83, 84, 85, 86, 87, 88, 91]
theorem TM_new {l : List Nat} (f : Fr l w w') (hm : ∀ r j, mr r j → v' r j = v r j) (T : TM w v) (h65 : gI w' 16 0 65 = nI (v' 0 6)) (h89 : ∀ j, j < v' 0 6 → gI w' 89 0 j = nI (v' 14 j)) (h90 : ∀ j, j < v' 0 6 → gI w' 90 0 j = nI (v' 15 j)) (hl : dis l kTMs = true := by decide) : TM w' v' := by
  have e0 : ∀ j, j ≠ 5 → j ≠ 6 → v' 0 j = v 0 j := fun j a b => hm 0 j (Or.inl ⟨rfl, a, b⟩)
  have er : ∀ r j, 1 ≤ r → r ≤ 13 → v' r j = v r j := fun r j a b => hm r j (Or.inr (Or.inl ⟨a, b⟩))
  refine ⟨?_, ?_, ?_, ?_, ?_, ?_, fun j hj => ?_, fun j hj => ?_, fun j hj => ?_, fun j hj => ?_, fun j hj => ?_, fun j hj => ?_, fun j hj => ?_, fun j hj => ?_, fun j hj => ?_, fun j hj => ?_, fun j hj => ?_, fun j hj => ?_, fun j hj => ?_, h65, h89, h90, fun a ha => ?_⟩
  · rw [Fr_I f hl (by decide), e0 0 (by omega) (by omega)]; exact TM_parts T
  · rw [Fr_I f hl (by decide), e0 1 (by omega) (by omega)]; exact TM_people T
  · rw [Fr_I f hl (by decide), e0 2 (by omega) (by omega)]; exact TM_parties T
  · rw [Fr_I f hl (by decide), e0 3 (by omega) (by omega)]; exact TM_weathers T
  · rw [Fr_I f hl (by decide), e0 4 (by omega) (by omega)]; exact TM_near T
  · rw [Fr_I f hl (by decide), e0 7 (by omega) (by omega)]; exact TM_knots T
  · rw [e0 0 (by omega) (by omega)] at hj; rw [Fr_I f hl (by rfl), er 1 j (by omega) (by omega)]; exact TM_pname T j hj
  · rw [e0 0 (by omega) (by omega)] at hj; rw [Fr_I f hl (by rfl), er 2 j (by omega) (by omega)]; exact TM_odds T j hj
  · rw [e0 0 (by omega) (by omega)] at hj; rw [Fr_I f hl (by rfl), er 3 j (by omega) (by omega)]; exact TM_beside T j hj
  · rw [e0 1 (by omega) (by omega)] at hj; rw [Fr_I f hl (by rfl), er 4 j (by omega) (by omega)]; exact TM_wname T j hj
  · rw [e0 1 (by omega) (by omega)] at hj; rw [Fr_I f hl (by rfl), er 5 j (by omega) (by omega)]; exact TM_cost T j hj
  · rw [e0 1 (by omega) (by omega)] at hj; rw [Fr_I f hl (by rfl), er 6 j (by omega) (by omega)]; exact TM_from T j hj
  · rw [e0 1 (by omega) (by omega)] at hj; rw [Fr_I f hl (by rfl), er 7 j (by omega) (by omega)]; exact TM_till T j hj
  · rw [e0 1 (by omega) (by omega)] at hj; rw [Fr_I f hl (by rfl), er 8 j (by omega) (by omega)]; exact TM_forget T j hj
  · rw [e0 2 (by omega) (by omega)] at hj; rw [Fr_I f hl (by rfl), er 9 j (by omega) (by omega)]; exact TM_pfrom T j hj
  · rw [e0 2 (by omega) (by omega)] at hj; rw [Fr_I f hl (by rfl), er 10 j (by omega) (by omega)]; exact TM_pto T j hj
  · rw [e0 2 (by omega) (by omega)] at hj; rw [Fr_I f hl (by rfl), er 11 j (by omega) (by omega)]; exact TM_pnight T j hj
  · rw [e0 2 (by omega) (by omega)] at hj; rw [Fr_I f hl (by rfl), er 12 j (by omega) (by omega)]; exact TM_price T j hj
  · rw [e0 3 (by omega) (by omega)] at hj; rw [Fr_I f hl (by rfl), er 13 j (by omega) (by omega)]; exact TM_weather T j hj
  · rw [Fr_I f hl (by rfl), hm 20 a (Or.inr (Or.inr (by omega)))]; exact TM_told T a ha
/-- a slide more, a slide less -/
def adS (v : Vw) (k n : Nat) : Vw := up2 (up2 (up2 v 14 (v 0 6) k) 15 (v 0 6) n) 0 6 (v 0 6 + 1)
def dsS (v : Vw) : Vw := up2 v 0 6 (v 0 6 - 1)
theorem adS_mr (v : Vw) (k n : Nat) : ∀ r j, mr r j → adS v k n r j = v r j := by
  intro r j h
  unfold mr at h
  unfold adS
  rw [up2, if_neg (by omega), up2_ne (by omega), up2_ne (by omega)]
theorem dsS_mr (v : Vw) : ∀ r j, mr r j → dsS v r j = v r j := by
  intro r j h
  unfold mr at h
  unfold dsS
  rw [up2, if_neg (by omega)]
theorem adS_06 (v : Vw) (k n : Nat) : adS v k n 0 6 = v 0 6 + 1 := up2_eq
theorem adS_14 (v : Vw) (k n j : Nat) : adS v k n 14 j = if j = v 0 6 then k else v 14 j := by
  unfold adS
  rw [up2_ne (by omega), up2_ne (by omega), up2]
  by_cases y : j = v 0 6
  · rw [if_pos ⟨rfl, y⟩, if_pos y]
  · rw [if_neg (fun z => y z.2), if_neg y]
theorem adS_15 (v : Vw) (k n j : Nat) : adS v k n 15 j = if j = v 0 6 then n else v 15 j := by
  unfold adS
  rw [up2_ne (by omega), up2]
  by_cases y : j = v 0 6
  · rw [if_pos ⟨rfl, y⟩, if_pos y]
  · rw [if_neg (fun z => y z.2), if_neg y, up2_ne (by omega)]
theorem adS_o (v : Vw) (k n r j : Nat) (h1 : r ≠ 0) (h2 : r ≠ 14) (h3 : r ≠ 15) : adS v k n r j = v r j := by
  unfold adS
  rw [up2_ne h1, up2_ne h3, up2_ne h2]
theorem adS_0 (v : Vw) (k n j : Nat) (h : j ≠ 6) : adS v k n 0 j = v 0 j := by
  unfold adS
  rw [up2_nj h, up2_ne (by omega), up2_ne (by omega)]
theorem dsS_o (v : Vw) (r j : Nat) (h : r ≠ 0) : dsS v r j = v r j := up2_ne h
theorem dsS_0 (v : Vw) (j : Nat) (h : j ≠ 6) : dsS v 0 j = v 0 j := up2_nj h
theorem dsS_06 (v : Vw) : dsS v 0 6 = v 0 6 - 1 := up2_eq
theorem adS_WF (hF : WF v) {k n : Nat} (h6 : v 0 6 < 12) (hk : k < v 0 0) (hn : n ≤ 1000) : WF (adS v k n) := by
  have h2 := WF_parts hF
  refine WF_ext (adS_mr v k n) hF (by rw [adS_0 v k n 5 (by omega)]; exact WF_night hF) (by rw [adS_06]; omega) (fun s hs => ?_) (fun s => ?_) (fun s => ?_) (fun s => by rw [adS_o v k n 16 s (by omega) (by omega) (by omega)]; exact WF_learned hF s) (fun s => by rw [adS_o v k n 17 s (by omega) (by omega) (by omega)]; exact WF_gone hF s) (fun s => by rw [adS_o v k n 18 s (by omega) (by omega) (by omega)]; exact WF_times hF s) (fun s => by rw [adS_o v k n 19 s (by omega) (by omega) (by omega)]; exact WF_lost hF s)
  · rw [adS_06] at hs
    rw [adS_14]
    by_cases y : s = v 0 6
    · rw [if_pos y]; exact hk
    · rw [if_neg y]; exact WF_spart hF s (by omega)
  · rw [adS_14]
    by_cases y : s = v 0 6
    · rw [if_pos y]; omega
    · rw [if_neg y]; exact WF_bd hF 14 s
  · rw [adS_15]
    by_cases y : s = v 0 6
    · rw [if_pos y]; omega
    · rw [if_neg y]; exact WF_snight hF s
theorem dsS_WF (hF : WF v) : WF (dsS v) := by
  have h6 := WF_slides hF
  refine WF_ext (dsS_mr v) hF (by rw [dsS_0 v 5 (by omega)]; exact WF_night hF) (by rw [dsS_06]; omega) (fun s hs => ?_) (fun s => by rw [dsS_o v 14 s (by omega)]; exact WF_bd hF 14 s) (fun s => by rw [dsS_o v 15 s (by omega)]; exact WF_snight hF s) (fun s => by rw [dsS_o v 16 s (by omega)]; exact WF_learned hF s) (fun s => by rw [dsS_o v 17 s (by omega)]; exact WF_gone hF s) (fun s => by rw [dsS_o v 18 s (by omega)]; exact WF_times hF s) (fun s => by rw [dsS_o v 19 s (by omega)]; exact WF_lost hF s)
  rw [dsS_06] at hs
  rw [dsS_o v 14 s (by omega)]; exact WF_spart hF s (by omega)
/-- a stand whose night and rows are the same but for slides -/
theorem SC_new {l : List Nat} {i : Nat} (f : Fr l w w') (S : SC w i v) (e5 : v' 0 5 = v 0 5) (e1 : v' 0 1 = v 0 1) (er : ∀ r j, 16 ≤ r → r ≤ 19 → v' r j = v r j) (h7 : gI w' 13 i 7 = nI (v' 0 6)) (h64 : ∀ j, j < v' 0 6 → gI w' 64 i j = nI (v' 14 j)) (h65 : ∀ j, j < v' 0 6 → gI w' 65 i j = nI (v' 15 j)) (hl : dis l [14001, 14003, 60, 62, 63] = true := by decide) : SC w' i v' := by
  refine ⟨?_, h7, h64, h65, fun q k hq hk => ?_, ?_, fun j hj => ?_, fun q hq => ?_⟩
  · rw [Fr_I f hl (by decide), e5]; exact SC_night S
  · rw [e1] at hq; rw [Fr_I f hl (by rfl), er 16 _ (by omega) (by omega)]; exact SC_learned S q k hq hk
  · rw [Fr_I f hl (by decide), e1, SC_gone S]
    exact congrArg nI (mkB_ext (fun k _ => by rw [er 17 k (by omega) (by omega)]))
  · rw [e1] at hj; rw [Fr_I f hl (by rfl), er 18 _ (by omega) (by omega)]; exact SC_times S j hj
  · rw [e1] at hq; rw [Fr_I f hl (by rfl), er 19 _ (by omega) (by omega)]; exact SC_lost S q hq
theorem SM_new {l : List Nat} {b : Nat} (f : Fr l w w') (S : SM w b v) (e1 : v' 0 1 = v 0 1) (er : ∀ r j, 16 ≤ r → r ≤ 19 → v' r j = v r j) (hl : dis l kSM = true := by decide) : SM w' b v' := by
  refine ⟨fun q k hq hk => ?_, fun q k hq hk => ?_, fun q hq => ?_, fun q hq => ?_, fun q hq => ?_⟩
  · rw [e1] at hq; rw [Fr_I f hl (by rfl), er 16 _ (by omega) (by omega)]; exact SM_learned S q k hq hk
  · rw [e1] at hq; rw [Fr_I f hl (by rfl), er 16 _ (by omega) (by omega)]; exact SM_fresh S q k hq hk
  · rw [e1] at hq; rw [Fr_I f hl (by rfl), er 17 _ (by omega) (by omega)]; exact SM_gone S q hq
  · rw [e1] at hq; rw [Fr_I f hl (by rfl), er 18 _ (by omega) (by omega)]; exact SM_times S q hq
  · rw [e1] at hq; rw [Fr_I f hl (by rfl), er 19 _ (by omega) (by omega)]; exact SM_lost S q hq
theorem s_slide (h : Iv w v) (hN : 100 ≤ N) (a : Int32) : Sp (pX11_slide N a) (pX12_slide N a) w := by
  have C := h.1
  have hF := C.2.2.1
  have h5 := C.2.2.2.2.2.2.1
  have h2 := WF_parts hF
  have h6 := WF_slides hF
  have C1 := Cu_t C
  have g1 := c_gPart (N := N) C a
  have k1 := m_gPart (N := N) C1 a
  cases ha : isI a (v 0 0) with
  | false =>
    rw [ha] at g1 k1
    exact Sp_same h (r := (-1 : Int32)) (by simp only [pX11_slide, ↓cbnd g1, ↓z2, ↓reduceIte]) (by simp only [pX12_slide, ↓cbnd k1, ↓z2, ↓reduceIte])
  | true =>
    rw [ha] at g1 k1
    obtain ⟨k, hk, ek⟩ := isI_t.mp ha
    by_cases y : v 0 6 < 12
    · have lt : (gI w 13 0 7 < (12 : Int32)) = True := eq_true (by rw [SC_slides C.1.2]; exact (nI_ltI (b := 12) (by omega) (by omega)).mpr y)
      have s1 : stI w 64 0 (gI w 13 0 7) 12 a = some (setI w 64 0 (v 0 6) a) := by rw [SC_slides C.1.2]; exact stn (by omega) (by omega)
      have a7 : gI (setI w 64 0 (v 0 6) a) 13 0 7 = nI (v 0 6) := by rw [gg_I, if_neg (by omega)]; exact SC_slides C.1.2
      have s2 : stI (setI w 64 0 (v 0 6) a) 65 0 (gI (setI w 64 0 (v 0 6) a) 13 0 7) 12 (gI w 13 0 1) = some (setI (setI w 64 0 (v 0 6) a) 65 0 (v 0 6) (gI w 13 0 1)) := by rw [a7]; exact stn (by omega) (by omega)
      have a8 : gI (setI (setI w 64 0 (v 0 6) a) 65 0 (v 0 6) (gI w 13 0 1)) 13 0 7 + (1 : Int32) = nI (v 0 6 + 1) := by rw [gg_I, if_neg (by omega), a7]; exact nI_add _ 1
      have ga : pX9_addSlide N 0 a (gI w 13 0 1) w = some (nI 1, setI (setI (setI w 64 0 (v 0 6) a) 65 0 (v 0 6) (gI w 13 0 1)) 13 0 7 (nI (v 0 6 + 1))) := by
        simp only [pX9_addSlide, ↓lt, ↓bnd s1, ↓bnd s2, ↓a8, ↓reduceIte]
        rfl
      have f1 : Fr [64, 65, 14007] w (setI (setI (setI w 64 0 (v 0 6) a) 65 0 (v 0 6) (gI w 13 0 1)) 13 0 7 (nI (v 0 6 + 1))) := Fr_setI (Fr_setI (Fr_setI (Fr_refl _ _) rfl) rfl) rfl
      have sf1 : SFr 0 w (setI (setI (setI w 64 0 (v 0 6) a) 65 0 (v 0 6) (gI w 13 0 1)) 13 0 7 (nI (v 0 6 + 1))) := SFr_setI (SFr_setI (SFr_setI (SFr_refl _ _) rfl) rfl) rfl
      have b7 : gI (setI (setI (setI w 64 0 (v 0 6) a) 65 0 (v 0 6) (gI w 13 0 1)) 13 0 7 (nI (v 0 6 + 1))) 13 0 7 = nI (v 0 6 + 1) := by rw [gg_I, if_pos ⟨rfl, rfl, rfl⟩]
      have b64 : ∀ j, gI (setI (setI (setI w 64 0 (v 0 6) a) 65 0 (v 0 6) (gI w 13 0 1)) 13 0 7 (nI (v 0 6 + 1))) 64 0 j = if j = v 0 6 then a else gI w 64 0 j := fun j => by
        rw [gg_I, if_neg (by omega), gg_I, if_neg (by omega), gg_I]
        by_cases z : j = v 0 6
        · rw [if_pos ⟨rfl, rfl, z⟩, if_pos z]
        · rw [if_neg (fun q => z q.2.2), if_neg z]
      have b65 : ∀ j, gI (setI (setI (setI w 64 0 (v 0 6) a) 65 0 (v 0 6) (gI w 13 0 1)) 13 0 7 (nI (v 0 6 + 1))) 65 0 j = if j = v 0 6 then gI w 13 0 1 else gI w 65 0 j := fun j => by
        rw [gg_I, if_neg (by omega), gg_I]
        by_cases z : j = v 0 6
        · rw [if_pos ⟨rfl, rfl, z⟩, if_pos z]
        · rw [if_neg (fun q => z q.2.2), if_neg z, gg_I, if_neg (by omega)]
      generalize setI (setI (setI w 64 0 (v 0 6) a) 65 0 (v 0 6) (gI w 13 0 1)) 13 0 7 (nI (v 0 6 + 1)) = w1 at ga f1 sf1 b7 b64 b65
      have S1 : SC w1 0 (adS v k (v 0 5)) := by
        refine SC_new f1 C.1.2 (adS_0 v k _ 5 (by omega)) (adS_0 v k _ 1 (by omega)) (fun r j a b => adS_o v k _ r j (by omega) (by omega) (by omega)) (by rw [adS_06]; exact b7) (fun j hj => ?_) (fun j hj => ?_)
        · rw [adS_06] at hj
          rw [b64, adS_14]
          by_cases z : j = v 0 6
          · rw [if_pos z, if_pos z]; exact ek
          · rw [if_neg z, if_neg z]; exact SC_spart C.1.2 j (by omega)
        · rw [adS_06] at hj
          rw [b65, adS_15]
          by_cases z : j = v 0 6
          · rw [if_pos z, if_pos z]; exact SC_night C.1.2
          · rw [if_neg z, if_neg z]; exact SC_snight C.1.2 j (by omega)
      obtain ⟨i1, i2, i3, i4, i5, i6, i7, i8, i9, i10⟩ := h
      obtain ⟨u, ep, ex, uc, um, uw⟩ := UN_iff.mp i6
      obtain ⟨w2, e2, f2, uc2⟩ := c_remember (N := N) (P := 0) (X := 0) uw.1 (UNc_fr f1 uc)
      have e2' : pX11_remember N (-1 : Int32) (-1 : Int32) w1 = some w2 := e2
      have gd : pX5_drop N w2 = some (setI w2 9 0 1 (-1 : Int32)) := rfl
      have f3 : Fr [16008, 71, 72, 10001] w1 (setI w2 9 0 1 (-1 : Int32)) := Fr_setI (Fr_mono f2 rfl) rfl
      have d1 : gI (setI w2 9 0 1 (-1 : Int32)) 9 0 1 = (-1 : Int32) := by rw [gg_I, if_pos ⟨rfl, rfl, rfl⟩]
      have uc3 : UNc (setI w2 9 0 1 (-1 : Int32)) (psN u) (psU u ep 0) (psU u ex 0) := UNc_fr (Fr_setI (l := [10001]) (Fr_refl _ _) rfl) uc2
      have d7 : gI (setI w2 9 0 1 (-1 : Int32)) 13 0 7 = nI (v 0 6 + 1) := ((f3 13 0 7 rfl).1).trans b7
      have ec : pX11_slide N a w = some (nI (v 0 6 + 1), setI w2 9 0 1 (-1 : Int32)) := by
        simp only [pX11_slide, ↓cbnd g1, ↓z1, ↓cbnd ga, ↓n10, ↓cbnd e2', ↓cbnd gd, ↓d7, ↓reduceIte]
      generalize setI w2 9 0 1 (-1 : Int32) = w3 at f3 d1 uc3 d7 ec
      have Fc : Fr [64, 65, 14007, 16008, 71, 72, 10001] w w3 := Fr_trans (Fr_mono f1 rfl) (Fr_mono f3 rfl)
      /- the reference -/
      have f4 : Fr [17002] w3 (setI w3 16 0 2 (0 : Int32)) := Fr_setI (Fr_refl _ _) rfl
      have RM4 : RM (setI w3 16 0 2 (0 : Int32)) 0 v := RM_fr f4 (RM_fr Fc C.2.1)
      have n64 : gI (setI w3 16 0 2 (0 : Int32)) 16 0 64 = nI (v 0 5) := by rw [(f4 16 0 64 rfl).1, (Fc 16 0 64 rfl).1]; exact Cu_night C
      have um4 : UNm (setI w3 16 0 2 (0 : Int32)) u ep ex := UNm_fr f4 (UNm_fr Fc um)
      have j1 : pX12_isPart N a (setI w3 16 0 2 (0 : Int32)) = some (zB true, setI w3 16 0 2 (0 : Int32)) := by
        unfold pX12_isPart
        rw [isI_if (TM_parts RM4.1) (by omega), ha]
        rfl
      generalize hw4 : setI w3 16 0 2 (0 : Int32) = w4 at f4 RM4 n64 um4 j1
      have q12 : (gI w4 16 0 65 = (12 : Int32)) = False := eq_false (fun z => by
        rw [TM_slides RM4.1] at z
        have := (nI_eq (b := 12) (by omega) (by omega)).mp z
        omega)
      obtain ⟨w5, e5, f5, um5⟩ := m_remember (N := N) (P := 0) (X := 0) (a1 := (1 : Int32)) (a2 := (0 : Int32)) (a3 := (0 : Int32)) hN uw.1 um4 rfl (fun z => absurd rfl z)
      have p65 : gI w5 16 0 65 = nI (v 0 6) := ((f5 16 0 65 rfl).1).trans (TM_slides RM4.1)
      have t1 : stI w5 89 0 (gI w5 16 0 65) 24 a = some (setI w5 89 0 (v 0 6) a) := by rw [p65]; exact stn (by omega) (by omega)
      have p65' : gI (setI w5 89 0 (v 0 6) a) 16 0 65 = nI (v 0 6) := by rw [gg_I, if_neg (by omega)]; exact p65
      have p64' : gI (setI w5 89 0 (v 0 6) a) 16 0 64 = nI (v 0 5) := by rw [gg_I, if_neg (by omega), (f5 16 0 64 rfl).1]; exact n64
      have t2 : stI (setI w5 89 0 (v 0 6) a) 90 0 (gI (setI w5 89 0 (v 0 6) a) 16 0 65) 24 (gI (setI w5 89 0 (v 0 6) a) 16 0 64) = some (setI (setI w5 89 0 (v 0 6) a) 90 0 (v 0 6) (nI (v 0 5))) := by rw [p65', p64']; exact stn (by omega) (by omega)
      have p66 : gI (setI (setI w5 89 0 (v 0 6) a) 90 0 (v 0 6) (nI (v 0 5))) 16 0 65 + (1 : Int32) = nI (v 0 6 + 1) := by rw [gg_I, if_neg (by omega), p65']; exact nI_add _ 1
      have p67 : gI (setI (setI (setI w5 89 0 (v 0 6) a) 90 0 (v 0 6) (nI (v 0 5))) 16 0 65 (nI (v 0 6 + 1))) 16 0 65 = nI (v 0 6 + 1) := by rw [gg_I, if_pos ⟨rfl, rfl, rfl⟩]
      have em : pX12_slide N a w3 = some (nI (v 0 6 + 1), setI (setI (setI w5 89 0 (v 0 6) a) 90 0 (v 0 6) (nI (v 0 5))) 16 0 65 (nI (v 0 6 + 1))) := by
        simp only [pX12_slide, ↓hw4, ↓cbnd j1, ↓z1, ↓q12, ↓cbnd e5, ↓bnd t1, ↓bnd t2, ↓p66, ↓p67, ↓reduceIte]
      have f6 : Fr [89, 90, 17065] w5 (setI (setI (setI w5 89 0 (v 0 6) a) 90 0 (v 0 6) (nI (v 0 5))) 16 0 65 (nI (v 0 6 + 1))) := Fr_setI (Fr_setI (Fr_setI (Fr_refl _ _) rfl) rfl) rfl
      have c89 : ∀ j, gI (setI (setI (setI w5 89 0 (v 0 6) a) 90 0 (v 0 6) (nI (v 0 5))) 16 0 65 (nI (v 0 6 + 1))) 89 0 j = if j = v 0 6 then a else gI w5 89 0 j := fun j => by
        rw [gg_I, if_neg (by omega), gg_I, if_neg (by omega), gg_I]
        by_cases z : j = v 0 6
        · rw [if_pos ⟨rfl, rfl, z⟩, if_pos z]
        · rw [if_neg (fun q => z q.2.2), if_neg z]
      have c90 : ∀ j, gI (setI (setI (setI w5 89 0 (v 0 6) a) 90 0 (v 0 6) (nI (v 0 5))) 16 0 65 (nI (v 0 6 + 1))) 90 0 j = if j = v 0 6 then nI (v 0 5) else gI w5 90 0 j := fun j => by
        rw [gg_I, if_neg (by omega), gg_I]
        by_cases z : j = v 0 6
        · rw [if_pos ⟨rfl, rfl, z⟩, if_pos z]
        · rw [if_neg (fun q => z q.2.2), if_neg z, gg_I, if_neg (by omega)]
      have um6 : UNm (setI (setI (setI w5 89 0 (v 0 6) a) 90 0 (v 0 6) (nI (v 0 5))) 16 0 65 (nI (v 0 6 + 1))) (psN u) (psU u ep 0) (psU u ex 0) := UNm_fr f6 um5
      generalize setI (setI (setI w5 89 0 (v 0 6) a) 90 0 (v 0 6) (nI (v 0 5))) 16 0 65 (nI (v 0 6 + 1)) = w6 at p67 em f6 c89 c90 um6
      have f46 : Fr [17074, 109, 89, 90, 17065] w4 w6 := Fr_trans (Fr_mono f5 rfl) (Fr_mono f6 rfl)
      have f36 : Fr [17002, 17074, 109, 89, 90, 17065] w3 w6 := Fr_trans (Fr_mono f4 rfl) (Fr_mono f46 rfl)
      have F : Fr [64, 65, 14007, 16008, 71, 72, 10001, 17002, 17074, 109, 89, 90, 17065] w w6 := Fr_trans (Fr_mono Fc rfl) (Fr_mono f36 rfl)
      have hmr := adS_mr v k (v 0 5)
      have M6 : TM w6 (adS v k (v 0 5)) := by
        refine TM_new f46 hmr RM4.1 (by rw [adS_06]; exact p67) (fun j hj => ?_) (fun j hj => ?_)
        · rw [adS_06] at hj
          rw [c89, adS_14]
          by_cases z : j = v 0 6
          · rw [if_pos z, if_pos z]; exact ek
          · rw [if_neg z, if_neg z, (f5 89 0 j rfl).1]; exact TM_spart RM4.1 j (by omega)
        · rw [adS_06] at hj
          rw [c90, adS_15]
          by_cases z : j = v 0 6
          · rw [if_pos z, if_pos z]
          · rw [if_neg z, if_neg z, (f5 90 0 j rfl).1]; exact TM_snight RM4.1 j (by omega)
      have S6 : SM w6 0 (adS v k (v 0 5)) := SM_new f46 RM4.2.1 (adS_0 v k _ 1 (by omega)) (fun r j a b => adS_o v k _ r j (by omega) (by omega) (by omega))
      have e13 : gR w6 13 0 0 = gR w 13 0 0 := (F 13 0 0 rfl).2.2
      refine ⟨nI (v 0 6 + 1), w3, w6, ec, em, adS v k (v 0 5), ⟨⟨?_, SC_fr f36 (SC_fr f3 S1)⟩, ⟨M6, S6, TL_ext hmr (TL_fr F C.2.1.2.2.1), ST_mr hmr (ST_fr F C.2.1.2.2.2)⟩, adS_WF hF y hk h5, WL_ext hmr C.2.2.2.1, ?_, ?_, ?_, ?_⟩, ZD_fr F i2, MO_fr F i3, TP_fr F i4, FA_fr F i5, ?_, IM_ext hmr (IM_fr f36 (IM_fr f3 (IM_sfr f1 sf1 (by omega) (f1 13 0 0 rfl).2.2 i7))), CL_ext hmr (CL_fr F i8), Or.inl (((f36 9 0 1 rfl).1).trans d1), WD_fr F i10⟩
      · rw [e13]; exact TC_ext hmr (TC_fr F C.1.1)
      · rw [(F 15 0 2 rfl).2.2, e13]; exact C.2.2.2.2.1
      · intro j
        rw [adS_o v k _ 18 j (by omega) (by omega) (by omega), adS_0 v k _ 5 (by omega)]; exact C.2.2.2.2.2.1 j
      · rw [adS_0 v k _ 5 (by omega)]; exact h5
      · rw [(F 16 0 64 rfl).1, adS_0 v k _ 5 (by omega)]; exact Cu_night C
      · refine UN_iff.mpr ⟨psN u, psU u ep 0, psU u ex 0, UNc_fr f36 uc3, um6, psU_w uw (adS_0 v k _ 0 (by omega)) (adS_0 v k _ 1 (by omega)) ?_ (by omega) (by omega)⟩
        rw [if_pos rfl, adS_06]
        omega
    · have e6 : v 0 6 = 12 := by omega
      have lt : (gI w 13 0 7 < (12 : Int32)) = False := eq_false (by rw [SC_slides C.1.2, e6]; decide)
      have ga : pX9_addSlide N 0 a (gI w 13 0 1) w = some (nI 0, w) := by
        simp only [pX9_addSlide, ↓lt, ↓reduceIte]
        rfl
      have q12 : (gI (setI w 16 0 2 (0 : Int32)) 16 0 65 = (12 : Int32)) = True := eq_true (by rw [TM_slides C1.2.1.1, e6]; rfl)
      exact Sp_same h (r := (-1 : Int32)) (by simp only [pX11_slide, ↓cbnd g1, ↓z1, ↓cbnd ga, ↓n00, ↓reduceIte]) (by simp only [pX12_slide, ↓cbnd k1, ↓z1, ↓q12, ↓reduceIte])
end

/-! ===== call: undo ===== -/
section
variable {N : Nat} {w w' : Wd} {v v' : Vw}
theorem lst0 : lst 0 = (-1 : Int32) := rfl
theorem s_undo (h : Iv w v) (hN : 100 ≤ N) : Sp (pX11_undo N) (pX12_undo N) w := by
  have C := h.1
  have hF := C.2.2.1
  have h5 := C.2.2.2.2.2.2.1
  have h1 := WF_people hF
  have h2 := WF_parts hF
  have h6 := WF_slides hF
  obtain ⟨i1, i2, i3, i4, i5, i6, i7, i8, i9, i10⟩ := h
  obtain ⟨u, ep, ex, uc, um, uw⟩ := UN_iff.mp i6
  have hu := uw.1
  have C1 := Cu_t C
  have um1 : UNm (setI w 16 0 2 (0 : Int32)) u ep ex := UNm_fr (Fr_setI (l := [17002]) (Fr_refl _ _) rfl) um
  by_cases y : u = 0
  · have q : (gI w 15 0 8 = 0) = True := eq_true (by rw [uc.1, y]; rfl)
    have q' : (gI (setI w 16 0 2 (0 : Int32)) 16 0 74 = 0) = True := eq_true (by rw [um1.1, y]; rfl)
    exact Sp_same (v := v) ⟨i1, i2, i3, i4, i5, i6, i7, i8, i9, i10⟩ (r := (-1 : Int32)) (by simp only [pX11_undo, ↓q, ↓reduceIte]) (by simp only [pX12_undo, ↓q', ↓reduceIte])
  obtain ⟨n, rfl⟩ : ∃ n, u = n + 1 := ⟨u - 1, by omega⟩
  have q : (gI w 15 0 8 = 0) = False := eq_false (fun z => by
    rw [uc.1] at z
    have := (nI_eq (b := 0) (by omega) (by omega)).mp z
    omega)
  have em1 : gI w 15 0 8 - (1 : Int32) = nI n := by rw [uc.1]; exact (dn_sub _).trans (if_neg (by omega))
  have f1 : Fr [16008] w (setI w 15 0 8 (nI n)) := Fr_setI (Fr_refl _ _) rfl
  have a8 : gI (setI w 15 0 8 (nI n)) 15 0 8 = nI n := by rw [gg_I, if_pos ⟨rfl, rfl, rfl⟩]
  generalize hw1 : setI w 15 0 8 (nI n) = w1 at f1 a8
  have x1 : ldI w1 71 0 (gI w1 15 0 8) 20 = some (lst (ep n)) := by rw [a8, ldn (by omega) (by omega), (f1 71 0 n rfl).1, (uc.2 n (by omega)).1]
  have uc1 : UNc w1 n ep ex := ⟨a8, fun j hj => by rw [(f1 71 0 j rfl).1, (f1 72 0 j rfl).1]; exact uc.2 j (by omega)⟩
  have cnn : cnt (fun j => ep j == 0) (n + 1) = cnt (fun j => ep j == 0) n + if (ep n == 0) = true then 1 else 0 := rfl
  have hcnt := uw.2.1
  /- the reference's beginning, over any world that agrees -/
  have mB : ∀ (w3 : Wd) {l : List Nat}, Fr l w w3 → dis l [17074, 109, 17065] = true → (gI (setI w3 16 0 2 (0 : Int32)) 16 0 74 = 0) = False ∧ gI (setI w3 16 0 2 (0 : Int32)) 16 0 74 - (1 : Int32) = nI n ∧ UNm (setI (setI w3 16 0 2 (0 : Int32)) 16 0 74 (nI n)) n ep ex ∧ gI (setI (setI w3 16 0 2 (0 : Int32)) 16 0 74 (nI n)) 16 0 74 = nI n ∧ gI (setI (setI w3 16 0 2 (0 : Int32)) 16 0 74 (nI n)) 109 0 (3 * n) = (if ep n = 0 then nI 1 else nI 0) ∧ (ep n ≠ 0 → gI (setI (setI w3 16 0 2 (0 : Int32)) 16 0 74 (nI n)) 109 0 (3 * n + 1) = lst (ep n) ∧ gI (setI (setI w3 16 0 2 (0 : Int32)) 16 0 74 (nI n)) 109 0 (3 * n + 2) = lst (ex n)) ∧ gI (setI (setI w3 16 0 2 (0 : Int32)) 16 0 74 (nI n)) 16 0 65 = nI (v 0 6) := by
    intro w3 l f3 hl
    have e74 : gI (setI w3 16 0 2 (0 : Int32)) 16 0 74 = nI (n + 1) := by rw [gg_I, if_neg (by omega), Fr_I f3 hl (by decide)]; exact um.1
    have e109 : ∀ j, gI (setI (setI w3 16 0 2 (0 : Int32)) 16 0 74 (nI n)) 109 0 j = gI w 109 0 j := fun j => by rw [gg_I, if_neg (by omega), gg_I, if_neg (by omega), Fr_I f3 hl (by rfl)]
    refine ⟨eq_false (fun z => ?_), ?_, ⟨by rw [gg_I, if_pos ⟨rfl, rfl, rfl⟩], fun j hj => ?_⟩, by rw [gg_I, if_pos ⟨rfl, rfl, rfl⟩], ?_, fun hz => ?_, ?_⟩
    · rw [e74] at z
      have := (nI_eq (b := 0) (by omega) (by omega)).mp z
      omega
    · rw [e74]; exact (dn_sub _).trans (if_neg (by omega))
    · rw [e109, e109, e109]; exact um.2 j (by omega)
    · rw [e109]; exact (um.2 n (by omega)).1
    · rw [e109, e109]; exact (um.2 n (by omega)).2 hz
    · rw [gg_I, if_neg (by omega), gg_I, if_neg (by omega), Fr_I f3 hl (by decide)]; exact TM_slides C.2.1.1
  by_cases ye : ep n = 0
  · /- a slide -/
    have hpos : 1 ≤ v 0 6 := by
      rw [cnn, ye] at hcnt
      simp at hcnt
      omega
    have qe : (lst (ep n) = (-1 : Int32)) = True := eq_true (by rw [ye]; rfl)
    have e7 : gI w1 13 0 7 - (1 : Int32) = nI (v 0 6 - 1) := by rw [(f1 13 0 7 rfl).1, SC_slides C.1.2]; exact (dn_sub _).trans (if_neg (by omega))
    have gd : pX5_drop N (setI w1 13 0 7 (nI (v 0 6 - 1))) = some (setI (setI w1 13 0 7 (nI (v 0 6 - 1))) 9 0 1 (-1 : Int32)) := rfl
    have d8 : gI (setI (setI w1 13 0 7 (nI (v 0 6 - 1))) 9 0 1 (-1 : Int32)) 15 0 8 = nI n := by rw [gg_I, if_neg (by omega), gg_I, if_neg (by omega)]; exact a8
    have ec : pX11_undo N w = some (nI n, setI (setI w1 13 0 7 (nI (v 0 6 - 1))) 9 0 1 (-1 : Int32)) := by
      simp only [pX11_undo, ↓q, ↓em1, ↓hw1, ↓bnd x1, ↓qe, ↓e7, ↓reduceIte, callW_eq, fX11_undo_38, ↓cbnd gd, ↓d8]
    have Fc : Fr [16008, 14007, 10001] w (setI (setI w1 13 0 7 (nI (v 0 6 - 1))) 9 0 1 (-1 : Int32)) := Fr_setI (Fr_setI (Fr_mono f1 rfl) rfl) rfl
    have fs : Fr [14007, 10001] w1 (setI (setI w1 13 0 7 (nI (v 0 6 - 1))) 9 0 1 (-1 : Int32)) := Fr_setI (Fr_setI (Fr_refl _ _) rfl) rfl
    have sf : SFr 0 w1 (setI (setI w1 13 0 7 (nI (v 0 6 - 1))) 9 0 1 (-1 : Int32)) := SFr_trans (SFr_setI (SFr_refl _ _) rfl) (SFr_fr (Fr_setI (l := [10001]) (Fr_refl _ _) rfl))
    have b7 : gI (setI (setI w1 13 0 7 (nI (v 0 6 - 1))) 9 0 1 (-1 : Int32)) 13 0 7 = nI (v 0 6 - 1) := by rw [gg_I, if_neg (by omega), gg_I, if_pos ⟨rfl, rfl, rfl⟩]
    have d1 : gI (setI (setI w1 13 0 7 (nI (v 0 6 - 1))) 9 0 1 (-1 : Int32)) 9 0 1 = (-1 : Int32) := by rw [gg_I, if_pos ⟨rfl, rfl, rfl⟩]
    have uc3 : UNc (setI (setI w1 13 0 7 (nI (v 0 6 - 1))) 9 0 1 (-1 : Int32)) n ep ex := UNc_fr (Fr_setI (l := [14007, 10001]) (Fr_setI (Fr_refl _ _) rfl) rfl) uc1
    generalize setI (setI w1 13 0 7 (nI (v 0 6 - 1))) 9 0 1 (-1 : Int32) = w3 at ec Fc fs sf b7 d1 uc3
    obtain ⟨m1, m2, m3, m4, m5, m6, m7⟩ := mB w3 Fc (by decide)
    have S3 : SC w3 0 (dsS v) := SC_new Fc C.1.2 (dsS_0 v 5 (by omega)) (dsS_0 v 1 (by omega)) (fun r j a b => dsS_o v r j (by omega)) (by rw [dsS_06]; exact b7) (fun j hj => by rw [dsS_06] at hj; rw [(Fc 64 0 j rfl).1, dsS_o v 14 j (by omega)]; exact SC_spart C.1.2 j (by omega)) (fun j hj => by rw [dsS_06] at hj; rw [(Fc 65 0 j rfl).1, dsS_o v 15 j (by omega)]; exact SC_snight C.1.2 j (by omega))
    have f4 : Fr [17002, 17074] w3 (setI (setI w3 16 0 2 (0 : Int32)) 16 0 74 (nI n)) := Fr_setI (Fr_setI (Fr_refl _ _) rfl) rfl
    generalize hw4 : setI (setI w3 16 0 2 (0 : Int32)) 16 0 74 (nI n) = w4 at m3 m4 m5 m6 m7 f4
    have y1 : ldI w4 109 0 ((3 : Int32) * gI w4 16 0 74) 60 = some (nI 1) := by rw [m4, li3, pk_mul, ldn (by omega) (by omega), m5, if_pos ye]
    have q1 : (nI 1 = (1 : Int32)) = True := eq_true rfl
    have e65 : gI w4 16 0 65 - (1 : Int32) = nI (v 0 6 - 1) := by rw [m7]; exact (dn_sub _).trans (if_neg (by omega))
    have e74 : gI (setI w4 16 0 65 (nI (v 0 6 - 1))) 16 0 74 = nI n := by rw [gg_I, if_neg (by omega)]; exact m4
    have em : pX12_undo N w3 = some (nI n, setI w4 16 0 65 (nI (v 0 6 - 1))) := by
      simp only [pX12_undo, ↓m1, ↓m2, ↓hw4, ↓bnd y1, ↓q1, ↓e65, ↓e74, ↓reduceIte]
    have f5 : Fr [17002, 17074, 17065] w3 (setI w4 16 0 65 (nI (v 0 6 - 1))) := Fr_setI (Fr_mono f4 rfl) rfl
    have F : Fr [16008, 14007, 10001, 17002, 17074, 17065] w (setI w4 16 0 65 (nI (v 0 6 - 1))) := Fr_trans (Fr_mono Fc rfl) (Fr_mono f5 rfl)
    have c65 : gI (setI w4 16 0 65 (nI (v 0 6 - 1))) 16 0 65 = nI (v 0 6 - 1) := by rw [gg_I, if_pos ⟨rfl, rfl, rfl⟩]
    have um5 : UNm (setI w4 16 0 65 (nI (v 0 6 - 1))) n ep ex := UNm_fr (Fr_setI (l := [17065]) (Fr_refl _ _) rfl) m3
    generalize setI w4 16 0 65 (nI (v 0 6 - 1)) = w5 at em f5 F c65 um5
    have hmr := dsS_mr v
    have M5 : TM w5 (dsS v) := TM_new F hmr C.2.1.1 (by rw [dsS_06]; exact c65) (fun j hj => by rw [dsS_06] at hj; rw [(F 89 0 j rfl).1, dsS_o v 14 j (by omega)]; exact TM_spart C.2.1.1 j (by omega)) (fun j hj => by rw [dsS_06] at hj; rw [(F 90 0 j rfl).1, dsS_o v 15 j (by omega)]; exact TM_snight C.2.1.1 j (by omega))
    have S5 : SM w5 0 (dsS v) := SM_new F C.2.1.2.1 (dsS_0 v 1 (by omega)) (fun r j a b => dsS_o v r j (by omega))
    have e13 : gR w5 13 0 0 = gR w 13 0 0 := (F 13 0 0 rfl).2.2
    refine ⟨nI n, w3, w5, ec, em, dsS v, ⟨⟨?_, SC_fr f5 S3⟩, ⟨M5, S5, TL_ext hmr (TL_fr F C.2.1.2.2.1), ST_mr hmr (ST_fr F C.2.1.2.2.2)⟩, dsS_WF hF, WL_ext hmr C.2.2.2.1, ?_, ?_, ?_, ?_⟩, ZD_fr F i2, MO_fr F i3, TP_fr F i4, FA_fr F i5, ?_, IM_ext hmr (IM_fr f5 (IM_sfr fs sf (by omega) (fs 13 0 0 rfl).2.2 (IM_fr f1 i7))), CL_ext hmr (CL_fr F i8), Or.inl (((f5 9 0 1 rfl).1).trans d1), WD_fr F i10⟩
    · rw [e13]; exact TC_ext hmr (TC_fr F C.1.1)
    · rw [(F 15 0 2 rfl).2.2, e13]; exact C.2.2.2.2.1
    · intro j
      rw [dsS_o v 18 j (by omega), dsS_0 v 5 (by omega)]; exact C.2.2.2.2.2.1 j
    · rw [dsS_0 v 5 (by omega)]; exact h5
    · rw [(F 16 0 64 rfl).1, dsS_0 v 5 (by omega)]; exact Cu_night C
    · refine UN_iff.mpr ⟨n, ep, ex, UNc_fr f5 uc3, um5, by omega, ?_, fun j hj => ?_⟩
      · rw [dsS_06]
        rw [cnn, ye] at hcnt
        simp at hcnt
        omega
      · rw [dsS_0 v 1 (by omega), dsS_0 v 0 (by omega)]; exact uw.2.2 j (by omega)
  · /- where a person was lost -/
    have hle := uw.2.2 n (by omega)
    have elp : lst (ep n) = nI (ep n - 1) := lst_pos ye
    have qe : (lst (ep n) = (-1 : Int32)) = False := eq_false (by rw [elp]; exact nz_ne1 (by omega))
    have x2 : ldI w1 72 0 (gI w1 15 0 8) 20 = some (lst (ex n)) := by rw [a8, ldn (by omega) (by omega), (f1 72 0 n rfl).1, (uc.2 n (by omega)).2 ye]
    have s3 : stI w1 63 0 (lst (ep n)) 6 (lst (ex n)) = some (setI w1 63 0 (ep n - 1) (lst (ex n))) := by rw [elp]; exact stn (by omega) (by omega)
    have gd : pX5_drop N (setI w1 63 0 (ep n - 1) (lst (ex n))) = some (setI (setI w1 63 0 (ep n - 1) (lst (ex n))) 9 0 1 (-1 : Int32)) := rfl
    have d8 : gI (setI (setI w1 63 0 (ep n - 1) (lst (ex n))) 9 0 1 (-1 : Int32)) 15 0 8 = nI n := by rw [gg_I, if_neg (by omega), gg_I, if_neg (by omega)]; exact a8
    have ec : pX11_undo N w = some (nI n, setI (setI w1 63 0 (ep n - 1) (lst (ex n))) 9 0 1 (-1 : Int32)) := by
      simp only [pX11_undo, ↓q, ↓em1, ↓hw1, ↓bnd x1, ↓qe, ↓bnd x2, ↓bnd s3, ↓reduceIte, callW_eq, fX11_undo_38]
      rw [gd]
      simp only [Option.bind_some, d8]
    have Fc : Fr [16008, 63, 10001] w (setI (setI w1 63 0 (ep n - 1) (lst (ex n))) 9 0 1 (-1 : Int32)) := Fr_setI (Fr_setI (Fr_mono f1 rfl) rfl) rfl
    have fs : Fr [63, 10001] w1 (setI (setI w1 63 0 (ep n - 1) (lst (ex n))) 9 0 1 (-1 : Int32)) := Fr_setI (Fr_setI (Fr_refl _ _) rfl) rfl
    have sf : SFr 0 w1 (setI (setI w1 63 0 (ep n - 1) (lst (ex n))) 9 0 1 (-1 : Int32)) := SFr_trans (SFr_setI (SFr_refl _ _) rfl) (SFr_fr (Fr_setI (l := [10001]) (Fr_refl _ _) rfl))
    have S3 : SC (setI (setI w1 63 0 (ep n - 1) (lst (ex n))) 9 0 1 (-1 : Int32)) 0 (up2 v 19 (ep n - 1) (ex n)) := SC_fr (Fr_setI (l := [10001]) (Fr_refl _ _) rfl) (SC_lostL (SC_fr f1 C.1.2) (ep n - 1) (ex n))
    have d1 : gI (setI (setI w1 63 0 (ep n - 1) (lst (ex n))) 9 0 1 (-1 : Int32)) 9 0 1 = (-1 : Int32) := by rw [gg_I, if_pos ⟨rfl, rfl, rfl⟩]
    have uc3 : UNc (setI (setI w1 63 0 (ep n - 1) (lst (ex n))) 9 0 1 (-1 : Int32)) n ep ex := UNc_fr (Fr_setI (l := [63, 10001]) (Fr_setI (Fr_refl _ _) rfl) rfl) uc1
    generalize setI (setI w1 63 0 (ep n - 1) (lst (ex n))) 9 0 1 (-1 : Int32) = w3 at ec Fc fs sf S3 d1 uc3
    obtain ⟨m1, m2, m3, m4, m5, m6, m7⟩ := mB w3 Fc (by decide)
    have f4 : Fr [17002, 17074] w3 (setI (setI w3 16 0 2 (0 : Int32)) 16 0 74 (nI n)) := Fr_setI (Fr_setI (Fr_refl _ _) rfl) rfl
    generalize hw4 : setI (setI w3 16 0 2 (0 : Int32)) 16 0 74 (nI n) = w4 at m3 m4 m5 m6 m7 f4
    have y1 : ldI w4 109 0 ((3 : Int32) * gI w4 16 0 74) 60 = some (nI 0) := by rw [m4, li3, pk_mul, ldn (by omega) (by omega), m5, if_neg ye]
    have q1 : (nI 0 = (1 : Int32)) = False := eq_false (by decide)
    have y3 : ldI w4 109 0 ((3 : Int32) * gI w4 16 0 74 + (1 : Int32)) 60 = some (lst (ep n)) := by rw [m4, li3, li1, pk_mul, nI_add, ldn (by omega) (by omega), (m6 ye).1]
    have y4 : ldI w4 109 0 ((3 : Int32) * gI w4 16 0 74 + (2 : Int32)) 60 = some (lst (ex n)) := by rw [m4, li3, li2, pk_mul, nI_add, ldn (by omega) (by omega), (m6 ye).2]
    have y5 : stI w4 105 0 (lst (ep n)) 12 (lst (ex n)) = some (setI w4 105 0 (ep n - 1) (lst (ex n))) := by rw [elp]; exact stn (by omega) (by omega)
    have e74 : gI (setI w4 105 0 (ep n - 1) (lst (ex n))) 16 0 74 = nI n := by rw [gg_I, if_neg (by omega)]; exact m4
    have em : pX12_undo N w3 = some (nI n, setI w4 105 0 (ep n - 1) (lst (ex n))) := by
      simp only [pX12_undo, ↓m1, ↓m2, ↓hw4, ↓bnd y1, ↓q1, ↓bnd y3, ↓bnd y4, ↓bnd y5, ↓e74, ↓reduceIte]
    have f5 : Fr [17002, 17074, 105] w3 (setI w4 105 0 (ep n - 1) (lst (ex n))) := Fr_setI (Fr_mono f4 rfl) rfl
    have F : Fr [16008, 63, 10001, 17002, 17074, 105] w (setI w4 105 0 (ep n - 1) (lst (ex n))) := Fr_trans (Fr_mono Fc rfl) (Fr_mono f5 rfl)
    have SMw4 : SM w4 0 v := SM_fr f4 (SM_fr Fc C.2.1.2.1)
    have SM5 := SM_lostL SMw4 (ep n - 1) (ex n)
    have um5 : UNm (setI w4 105 0 (ep n - 1) (lst (ex n))) n ep ex := UNm_fr (Fr_setI (l := [105]) (Fr_refl _ _) rfl) m3
    generalize setI w4 105 0 (ep n - 1) (lst (ex n)) = w5 at em f5 F SM5 um5
    have hmr : ∀ r j, mr r j → up2 v 19 (ep n - 1) (ex n) r j = v r j := mr_up (by omega) (by omega)
    have M5 : RM w5 0 (up2 v 19 (ep n - 1) (ex n)) := ⟨TM_ext hmr (up2_ne (by omega)) (fun j => up2_ne (by omega)) (fun j => up2_ne (by omega)) (TM_fr F C.2.1.1), SM5, TL_ext hmr (TL_fr F C.2.1.2.2.1), ST_mr hmr (ST_fr F C.2.1.2.2.2)⟩
    have e13 : gR w5 13 0 0 = gR w 13 0 0 := (F 13 0 0 rfl).2.2
    refine ⟨nI n, w3, w5, ec, em, up2 v 19 (ep n - 1) (ex n), ⟨⟨?_, SC_fr f5 S3⟩, M5, WF_19 hF hle.2, WL_ext hmr C.2.2.2.1, ?_, ?_, ?_, ?_⟩, ZD_fr F i2, MO_fr F i3, TP_fr F i4, FA_fr F i5, ?_, IM_ext hmr (IM_fr f5 (IM_sfr fs sf (by omega) (fs 13 0 0 rfl).2.2 (IM_fr f1 i7))), CL_ext hmr (CL_fr F i8), Or.inl (((f5 9 0 1 rfl).1).trans d1), WD_fr F i10⟩
    · rw [e13]; exact TC_ext hmr (TC_fr F C.1.1)
    · rw [(F 15 0 2 rfl).2.2, e13]; exact C.2.2.2.2.1
    · intro j
      rw [up2_ne (by omega), up2_ne (by omega)]; exact C.2.2.2.2.2.1 j
    · rw [up2_ne (by omega)]; exact h5
    · rw [(F 16 0 64 rfl).1, up2_ne (by omega)]; exact Cu_night C
    · refine UN_iff.mpr ⟨n, ep, ex, UNc_fr f5 uc3, um5, by omega, ?_, fun j hj => ?_⟩
      · rw [up2_ne (by omega)]
        rw [cnn] at hcnt
        omega
      · rw [up2_ne (by omega), up2_ne (by omega)]; exact uw.2.2 j (by omega)
end

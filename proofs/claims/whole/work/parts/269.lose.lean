/-! ===== calls: lose, slide, undo ===== -/
section
variable {N : Nat} {w w' : Wd} {v : Vw}
theorem SC_lostL {i : Nat} (S : SC w i v) (p L : Nat) : SC (setI w 63 i p (lst L)) i (up2 v 19 p L) := by
  have e : ∀ r j, r ≠ 19 → up2 v 19 p L r j = v r j := fun r j h => up2_ne h
  refine ⟨?_, ?_, fun j hj => ?_, fun j hj => ?_, fun q k hq hk => ?_, ?_, fun j hj => ?_, fun q hq => ?_⟩
  · rw [gg_I, if_neg (by omega), e 0 5 (by omega)]; exact SC_night S
  · rw [gg_I, if_neg (by omega), e 0 6 (by omega)]; exact SC_slides S
  · rw [e 0 6 (by omega)] at hj
    rw [gg_I, if_neg (by omega), e 14 j (by omega)]; exact SC_spart S j hj
  · rw [e 0 6 (by omega)] at hj
    rw [gg_I, if_neg (by omega), e 15 j (by omega)]; exact SC_snight S j hj
  · rw [e 0 1 (by omega)] at hq
    rw [gg_I, if_neg (by omega), e 16 _ (by omega)]; exact SC_learned S q k hq hk
  · rw [gg_I, if_neg (by omega), e 0 1 (by omega), SC_gone S]
    exact congrArg nI (mkB_ext (fun k _ => by rw [e 17 k (by omega)]))
  · rw [e 0 1 (by omega)] at hj
    rw [gg_I, if_neg (by omega), e 18 j (by omega)]; exact SC_times S j hj
  · rw [e 0 1 (by omega)] at hq
    rw [gg_I]
    by_cases y : q = p
    · subst y; rw [if_pos ⟨rfl, rfl, rfl⟩, up2_eq]
    · rw [if_neg (fun z => y z.2.2), up2_nj y]; exact SC_lost S q hq
theorem SM_lostL (S : SM w 0 v) (p L : Nat) : SM (setI w 105 0 p (lst L)) 0 (up2 v 19 p L) := by
  have e : ∀ r j, r ≠ 19 → up2 v 19 p L r j = v r j := fun r j h => up2_ne h
  refine ⟨fun q k hq hk => ?_, fun q k hq hk => ?_, fun q hq => ?_, fun q hq => ?_, fun q hq => ?_⟩
  · rw [e 0 1 (by omega)] at hq
    rw [gg_I, if_neg (by omega), e 16 _ (by omega)]; exact SM_learned S q k hq hk
  · rw [e 0 1 (by omega)] at hq
    rw [gg_I, if_neg (by omega), e 16 _ (by omega)]; exact SM_fresh S q k hq hk
  · rw [e 0 1 (by omega)] at hq
    rw [gg_I, if_neg (by omega), e 17 _ (by omega)]; exact SM_gone S q hq
  · rw [e 0 1 (by omega)] at hq
    rw [gg_I, if_neg (by omega), e 18 _ (by omega)]; exact SM_times S q hq
  · rw [e 0 1 (by omega)] at hq
    rw [gg_I]
    by_cases y : q = p
    · subst y; rw [if_pos ⟨rfl, rfl, by omega⟩, up2_eq]
    · rw [if_neg (fun z => y (by have := z.2.2; omega)), up2_nj y]; exact SM_lost S q hq
theorem opV_19 {v' : Vw} (h : ∀ r j, r ≠ 19 → v' r j = v r j) (p : Nat) (r : Nat → Nat) (i : Nat) : opV v' p r i = opV v p r i := by
  induction i with
  | zero =>
    funext a b
    show noLost v' a b = noLost v a b
    unfold noLost
    by_cases y : a = 19
    · rw [if_pos y, if_pos y]
    · rw [if_neg y, if_neg y]; exact h a b y
  | succ i ih => rw [opV, opV, ih, h 0 5 (by omega)]
theorem opP_19 {v' : Vw} (h : ∀ r j, r ≠ 19 → v' r j = v r j) (p : Nat) (r : Nat → Nat) (i : Nat) : opP v' p r i = opP v p r i := by
  induction i with
  | zero => rfl
  | succ i ih => rw [opP, opP, ih, opC, opC, opV_19 h, h 0 5 (by omega)]
theorem OC_19 {v' : Vw} (h : ∀ r j, r ≠ 19 → v' r j = v r j) (H : OC w v) : OC w v' := by
  rcases H with H | ⟨p, S, h1, h2, h3, h4, h5, h6, h7, b, h8, h9, h10⟩
  · exact Or.inl H
  · have e0 : v' 0 0 = v 0 0 := h 0 0 (by omega)
    have en : nO v' S = nO v S := by unfold nO; rw [e0]
    have et : ∀ n, sThere v' p n = sThere v p n := fun n => by unfold sThere; rw [h 17 p (by omega), h 6 p (by omega), h 7 p (by omega)]
    refine Or.inr ⟨p, S, by rw [h 0 1 (by omega)]; exact h1, by rw [e0]; exact h2, h3, fun i hi => ?_, h5, h6, by rw [en]; exact h7, b, ?_, by rw [en, opP_19 h]; exact h9, fun j hj => h10 j (by rw [en] at hj; exact hj)⟩
    · rw [en] at hi
      rw [et, h 0 5 (by omega)]; exact h4 i hi
    · rw [en]
      refine ⟨h8.1, fun s hs => ?_⟩
      have := h8.2 s hs
      unfold noW at this ⊢
      rw [opP_19 h, opP_19 h]
      exact this
/-- all, with another place where a person is lost -/
theorem WF_19 (hF : WF v) {p L : Nat} (hL : L ≤ v 0 0) : WF (up2 v 19 p L) :=
  WF_ext (mr_up (by omega) (by omega)) hF (WF_night hF :) (WF_slides hF :) (WF_spart hF :) (fun s => WF_bd hF 14 s) (WF_snight hF :) (WF_learned hF :) (WF_gone hF :) (WF_times hF :) (fun j => by
    by_cases y : j = p
    · subst y; rw [up2_eq]; exact hL
    · rw [up2_nj y]; exact WF_lost hF j)
theorem lst_of {a : Int32} {n : Nat} (h : a = (-1 : Int32) ∨ isI a n = true) : ∃ L, L ≤ n ∧ a = lst L := by
  rcases h with h | h
  · exact ⟨0, Nat.zero_le _, h⟩
  · obtain ⟨k, hk, e⟩ := isI_t.mp h
    exact ⟨k + 1, by omega, e⟩
theorem s_lose (h : Iv w v) (hN : 100 ≤ N) (a b : Int32) : Sp (pX11_lose N a b) (pX12_lose N a b) w := by
  have C := h.1
  have hF := C.2.2.1
  have h5 := C.2.2.2.2.2.2.1
  have h1 := WF_people hF
  have h2 := WF_parts hF
  have C1 := Cu_t C
  have g1 := c_gThere (N := N) C a
  have g2 := c_gPart (N := N) C b
  have k1 := m_gWho (N := N) C1 a
  have k2 := m_gPart (N := N) C1 b
  have e64 : gI (setI w 16 0 2 (0 : Int32)) 16 0 64 = nI (v 0 5) := Cu_night C1
  /- the guard on where -/
  by_cases hb : b = (-1 : Int32) ∨ isI b (v 0 0) = true
  · obtain ⟨L, hL, eL⟩ := lst_of hb
    cases ht : thI v a with
    | false =>
      rw [ht] at g1
      have ec : pX11_lose N a b w = some ((0 : Int32), w) := by simp only [pX11_lose, ↓cbnd g1, ↓z2, ↓reduceIte]
      refine Sp_same h (r := (0 : Int32)) ec ?_
      cases ha : isI a (v 0 1) with
      | false =>
        rw [ha] at k1
        simp only [pX12_lose, ↓cbnd k1, ↓z2, ↓reduceIte]
      | true =>
        rw [ha] at k1
        obtain ⟨p, hp, rfl⟩ := isI_t.mp ha
        have hth : sThere v p (v 0 5) = false := by
          cases hq : sThere v p (v 0 5) with
          | false => rfl
          | true =>
            have : thI v (nI p) = true := thI_t.mpr ⟨p, hp, rfl, hq⟩
            rw [this] at ht; cases ht
        have k3 : pX12_isThere N (0 : Int32) (nI p) (gI (setI w 16 0 2 (0 : Int32)) 16 0 64) (setI w 16 0 2 (0 : Int32)) = some (zB false, setI w 16 0 2 (0 : Int32)) := by
          rw [e64, ← hth]
          exact m_isThere (N := N) (b := 0) C1.2.1.1 C1.2.1.2.1 hF (by omega) hp (by omega)
        have e14 : fX12_lose_14 N (nI p) b (setI w 16 0 2 (0 : Int32)) = some ((0 : Int32), setI w 16 0 2 (0 : Int32)) := by simp only [fX12_lose_14, ↓cbnd k3, ↓z2, ↓reduceIte]
        by_cases y : b = (-1 : Int32)
        · have q : (b = (-1 : Int32)) = True := eq_true y
          simp only [pX12_lose, ↓cbnd k1, ↓z1, ↓q, ↓reduceIte, callW_eq]
          exact e14
        · have q : (b = (-1 : Int32)) = False := eq_false y
          have hb' : isI b (v 0 0) = true := by
            rcases hb with z | z
            · exact absurd z y
            · exact z
          rw [hb'] at k2
          simp only [pX12_lose, ↓cbnd k1, ↓z1, ↓q, ↓cbnd k2, ↓reduceIte, callW_eq]
          exact e14
    | true =>
      rw [ht] at g1
      obtain ⟨p, hp, rfl, hth⟩ := thI_t.mp ht
      obtain ⟨i1, i2, i3, i4, i5, i6, i7, i8, i9, i10⟩ := h
      obtain ⟨u, ep, ex, uc, um, uw⟩ := UN_iff.mp i6
      have x1 : ldI w 63 0 (nI p) 6 = some (lst (v 19 p)) := by rw [ldn (by omega) (by omega), SC_lost C.1.2 p hp]
      obtain ⟨w1, e1, f1, uc1⟩ := c_remember (N := N) (P := p + 1) (X := v 19 p) uw.1 uc
      have e1' : pX11_remember N (nI p) (lst (v 19 p)) w = some w1 := e1
      have s2 : stI w1 63 0 (nI p) 6 b = some (setI w1 63 0 p b) := stn (by omega) (by omega)
      have ec : pX11_lose N (nI p) b w = some ((1 : Int32), setI w1 63 0 p b) := by
        by_cases y : b = (-1 : Int32)
        · have q : (b = (-1 : Int32)) = True := eq_true y
          simp only [pX11_lose, ↓cbnd g1, ↓z1, ↓q, ↓reduceIte, callW_eq, fX11_lose_13, ↓bnd x1, ↓cbnd e1', ↓bnd s2]
        · have q : (b = (-1 : Int32)) = False := eq_false y
          have hb' : isI b (v 0 0) = true := by
            rcases hb with z | z
            · exact absurd z y
            · exact z
          rw [hb'] at g2
          simp only [pX11_lose, ↓cbnd g1, ↓z1, ↓q, ↓cbnd g2, ↓reduceIte, callW_eq, fX11_lose_13, ↓bnd x1, ↓cbnd e1', ↓bnd s2]
      have f2 : Fr [16008, 71, 72, 63] w (setI w1 63 0 p b) := Fr_setI (Fr_mono f1 rfl) rfl
      have f63 : Fr [63] w1 (setI w1 63 0 p b) := Fr_setI (Fr_refl _ _) rfl
      have sf : SFr 0 w1 (setI w1 63 0 p b) := SFr_setI (SFr_refl _ _) rfl
      have S2 : SC (setI w1 63 0 p b) 0 (up2 v 19 p L) := by rw [eL]; exact SC_lostL (SC_fr f1 C.1.2) p L
      have uc2 : UNc (setI w1 63 0 p b) (psN u) (psU u ep (p + 1)) (psU u ex (v 19 p)) := UNc_fr (Fr_setI (l := [63]) (Fr_refl _ _) rfl) uc1
      generalize hw2 : setI w1 63 0 p b = w2 at ec f2 f63 sf S2 uc2
      /- the reference, on w2 -/
      have f3 : Fr [17002] w2 (setI w2 16 0 2 (0 : Int32)) := Fr_setI (Fr_refl _ _) rfl
      have RMt : RM (setI w2 16 0 2 (0 : Int32)) 0 v := RM_fr f3 (RM_fr f2 C.2.1)
      have n64 : gI (setI w2 16 0 2 (0 : Int32)) 16 0 64 = nI (v 0 5) := by rw [(f3 16 0 64 rfl).1, (f2 16 0 64 rfl).1]; exact Cu_night C
      have um3 : UNm (setI w2 16 0 2 (0 : Int32)) u ep ex := UNm_fr f3 (UNm_fr f2 um)
      have f23 : Fr [16008, 71, 72, 63, 17002] w (setI w2 16 0 2 (0 : Int32)) := Fr_trans (Fr_mono f2 rfl) (Fr_mono f3 rfl)
      have j1 : pX12_isPerson N (nI p) (setI w2 16 0 2 (0 : Int32)) = some (zB true, setI w2 16 0 2 (0 : Int32)) := by
        unfold pX12_isPerson
        rw [isI_if (TM_people RMt.1) (by omega), isI_nI hp]
        rfl
      have j2 : isI b (v 0 0) = true → pX12_isPart N b (setI w2 16 0 2 (0 : Int32)) = some (zB true, setI w2 16 0 2 (0 : Int32)) := fun z => by
        unfold pX12_isPart
        rw [isI_if (TM_parts RMt.1) (by omega), z]
        rfl
      generalize hw3 : setI w2 16 0 2 (0 : Int32) = w3 at f3 RMt n64 um3 f23 j1 j2
      have j3 : pX12_isThere N (0 : Int32) (nI p) (gI w3 16 0 64) w3 = some (zB true, w3) := by
        rw [n64, ← hth]
        exact m_isThere (N := N) (b := 0) RMt.1 RMt.2.1 hF (by omega) hp (by omega)
      have x4 : ldI w3 105 0 (nI p) 12 = some (lst (v 19 p)) := by
        have := SM_lost RMt.2.1 p hp
        rw [show 6 * 0 + p = p by omega] at this
        rw [ldn (by omega) (by omega), this]
      obtain ⟨w4, e4, f4, um4⟩ := m_remember (N := N) (P := p + 1) (X := v 19 p) (a1 := (0 : Int32)) (a2 := nI p) (a3 := lst (v 19 p)) hN uw.1 um3 rfl (fun _ => ⟨rfl, rfl⟩)
      have s5 : stI w4 105 0 (nI p) 12 b = some (setI w4 105 0 p b) := stn (by omega) (by omega)
      have e14 : fX12_lose_14 N (nI p) b w3 = some ((1 : Int32), setI w4 105 0 p b) := by
        simp only [fX12_lose_14, ↓cbnd j3, ↓z1, ↓bnd x4, ↓cbnd e4, ↓bnd s5, ↓reduceIte]
      have em : pX12_lose N (nI p) b w2 = some ((1 : Int32), setI w4 105 0 p b) := by
        by_cases y : b = (-1 : Int32)
        · have q : (b = (-1 : Int32)) = True := eq_true y
          unfold pX12_lose
          rw [hw3]
          simp only [↓cbnd j1, ↓z1, ↓q, ↓reduceIte, callW_eq]
          exact e14
        · have q : (b = (-1 : Int32)) = False := eq_false y
          have hb' : isI b (v 0 0) = true := by
            rcases hb with z | z
            · exact absurd z y
            · exact z
          unfold pX12_lose
          rw [hw3]
          simp only [↓cbnd j1, ↓z1, ↓q, ↓cbnd (j2 hb'), ↓reduceIte, callW_eq]
          exact e14
      have f5 : Fr [17002, 17074, 109, 105] w2 (setI w4 105 0 p b) := Fr_setI (Fr_trans (Fr_mono f3 rfl) (Fr_mono f4 rfl)) rfl
      have F : Fr [16008, 71, 72, 63, 17002, 17074, 109, 105] w (setI w4 105 0 p b) := Fr_trans (Fr_mono f2 rfl) (Fr_mono f5 rfl)
      have SM5 : SM (setI w4 105 0 p b) 0 (up2 v 19 p L) := by rw [eL]; exact SM_lostL (SM_fr f4 RMt.2.1) p L
      have hmr : ∀ r j, mr r j → up2 v 19 p L r j = v r j := mr_up (by omega) (by omega)
      have T5 : TC (setI w4 105 0 p b) (gR (setI w4 105 0 p b) 13 0 0) (up2 v 19 p L) := by
        rw [(F 13 0 0 rfl).2.2]
        exact TC_ext hmr (TC_fr F C.1.1)
      have M5 : RM (setI w4 105 0 p b) 0 (up2 v 19 p L) := ⟨TM_ext hmr (up2_ne (by omega)) (fun j => up2_ne (by omega)) (fun j => up2_ne (by omega)) (TM_fr F C.2.1.1), SM5, TL_ext hmr (TL_fr F C.2.1.2.2.1), ST_mr hmr (ST_fr F C.2.1.2.2.2)⟩
      have e13 : gR (setI w4 105 0 p b) 13 0 0 = gR w 13 0 0 := (F 13 0 0 rfl).2.2
      refine ⟨(1 : Int32), w2, setI w4 105 0 p b, ec, em, up2 v 19 p L, ⟨⟨T5, SC_fr f5 S2⟩, M5, WF_19 hF hL, WL_ext hmr C.2.2.2.1, ?_, ?_, ?_, ?_⟩, ZD_fr F i2, MO_fr F i3, TP_fr F i4, FA_fr F i5, ?_, ?_, CL_ext hmr (CL_fr F i8), OC_19 (fun r j hr => up2_ne hr) (OC_fr F i9), WD_fr F i10⟩
      · rw [(F 15 0 2 rfl).2.2, e13]; exact C.2.2.2.2.1
      · intro j
        rw [up2_ne (by omega), up2_ne (by omega)]; exact C.2.2.2.2.2.1 j
      · rw [up2_ne (by omega)]; exact h5
      · rw [(F 16 0 64 rfl).1, up2_ne (by omega)]; exact Cu_night C
      · refine UN_iff.mpr ⟨psN u, psU u ep (p + 1), psU u ex (v 19 p), UNc_fr f5 uc2, UNm_fr (Fr_setI (l := [105]) (Fr_refl _ _) rfl) um4, psU_w uw (up2_ne (by omega)) (up2_ne (by omega)) ?_ (by omega) (WF_lost hF p)⟩
        rw [if_neg (by omega), up2_ne (by omega)]
        omega
      · exact IM_ext hmr (IM_fr f5 (IM_sfr f63 sf (by omega) (f63 13 0 0 rfl).2.2 (IM_fr f1 i7)))
  · have y : ¬ b = (-1 : Int32) := fun z => hb (Or.inl z)
    have q : (b = (-1 : Int32)) = False := eq_false y
    have hb' : isI b (v 0 0) = false := by
      cases hq : isI b (v 0 0) with
      | false => rfl
      | true => exact absurd (Or.inr hq) hb
    rw [hb'] at g2 k2
    refine Sp_same h (r := (0 : Int32)) ?_ ?_
    · cases ht : thI v a with
      | false => rw [ht] at g1; simp only [pX11_lose, ↓cbnd g1, ↓z2, ↓reduceIte]
      | true => rw [ht] at g1; simp only [pX11_lose, ↓cbnd g1, ↓z1, ↓q, ↓cbnd g2, ↓z2, ↓reduceIte]
    · cases ha : isI a (v 0 1) with
      | false => rw [ha] at k1; simp only [pX12_lose, ↓cbnd k1, ↓z2, ↓reduceIte]
      | true => rw [ha] at k1; simp only [pX12_lose, ↓cbnd k1, ↓z1, ↓q, ↓cbnd k2, ↓z2, ↓reduceIte]
end

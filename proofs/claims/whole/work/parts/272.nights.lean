/-! ===== call: nights ===== -/
def niN (v : Vw) (z : Int64) : Nat → Vw × Int64
  | 0 => (v, z)
  | n + 1 => (sNgt (niN v z n).1 (niN v z n).2, sNgz (niN v z n).1 (niN v z n).2)
theorem niN_facts {v : Vw} (hF : WF v) (hL : WL v) (hT : ∀ j, v 18 j ≤ v 0 5) (z : Int64) : ∀ n, v 0 5 + n ≤ 1050 → WF (niN v z n).1 ∧ WL (niN v z n).1 ∧ (∀ j, (niN v z n).1 18 j ≤ (niN v z n).1 0 5) ∧ sx (niN v z n).1 v ∧ (niN v z n).1 0 5 = v 0 5 + n := by
  intro n
  induction n with
  | zero => intro _; exact ⟨hF, hL, hT, ⟨fun _ _ _ => rfl, rfl, fun _ => rfl, fun _ => rfl⟩, rfl⟩
  | succ n ih =>
    intro hn
    obtain ⟨h1, h2, h3, h4, h5⟩ := ih (by omega)
    have h8 : ∀ p, (niN v z n).1 19 p ≤ 8 := fun p => Nat.le_trans (WF_lost h1 p) (WF_parts h1)
    obtain ⟨g1, g2⟩ := sNgt_WF h1 h3 (by omega) (niN v z n).2
    have hsx := sNgt_sx h8 (niN v z n).2
    refine ⟨g1, WL_ext hsx.1 h2, g2, sx_trans hsx h4, ?_⟩
    show sNgt (niN v z n).1 (niN v z n).2 0 5 = _
    unfold sNgt
    rw [up2_eq, h5]
    omega
section
variable {N : Nat} {w w' : Wd} {v v' : Vw}
theorem SFr_kNi {i : Nat} {w1 w2 : Wd} (h : SFr i w1 w2) : SFr i w1 w2 := h
theorem Fr_noop {l : List Nat} {k i j : Nat} : Fr l w (setI w k i j (gI w k i j)) := fun k' i' j' _ => ⟨by
  rw [gg_I]
  by_cases y : k' = k ∧ i' = i ∧ j' = j
  · rw [if_pos y, y.1, y.2.1, y.2.2]
  · rw [if_neg y], rfl, rfl⟩
theorem c_ni16 {w0 : Wd} {n : Nat} {z : Int64} (hR : RC w0 0 v) (hF : WF v) (hL : WL v) (hT : ∀ j, v 18 j ≤ v 0 5) (hN : 100 ≤ N) (hz : gL w0 13 0 2 = z) (hn : v 0 5 + n ≤ 1000) {Q : Int32 × Wd → Prop} (K : Wd → Option (Int32 × Wd))
    (hK : ∀ w, Fr kNi w0 w → SFr 0 w0 w → gR w 13 0 0 = gR w0 13 0 0 → RC w 0 (niN v z n).1 → gL w 13 0 2 = (niN v z n).2 → Ok (K w) Q) :
    ∀ fuel c w, c ≤ n → n - c < fuel → Fr kNi w0 w → SFr 0 w0 w → RC w 0 (niN v z c).1 → gL w 13 0 2 = (niN v z c).2 → Ok (fX11_nights_16 N (nI n) fuel K (nI c) w) Q := by
  intro fuel
  induction fuel with
  | zero => intro c _ _ h; omega
  | succ f ih =>
    intro c w hc hf f0 s0 r0 z0
    have e1 : nI c + (1 : Int32) = nI (c + 1) := nI_add c 1
    rcases Nat.lt_or_ge c n with y | y
    · have lt : (nI c < nI n) = True := eq_true ((nI_ltI (by omega) (by omega)).mpr y)
      obtain ⟨g1, g2, g3, g4, g5⟩ := niN_facts hF hL hT z c (by omega)
      simp only [fX11_nights_16, ↓lt, ↓e1, ↓reduceIte, callW_eq]
      refine ok_bind (c_goBy (N := N) r0 g1 g2 g3 hN z0) ?_
      rintro w1 ⟨k1, k2, k3, k4⟩
      exact ih (c + 1) w1 (by omega) (by omega) (Fr_trans f0 k1) (SFr_trans s0 k2) k3 k4
    · have : c = n := by omega
      subst this
      have lt : (nI c < nI c) = False := eq_false (fun z => by
        have := (nI_ltI (by omega) (by omega)).mp z
        omega)
      simp only [fX11_nights_16, ↓lt, ↓reduceIte]
      exact hK w f0 s0 (f0 13 0 0 rfl).2.2 r0 z0
def kNn : List Nat := 17064 :: kNm
theorem m_ni18 {w0 : Wd} {n : Nat} {z : Int64} (hR : RM w0 0 v) (hF : WF v) (hL : WL v) (hT : ∀ j, v 18 j ≤ v 0 5) (hN : 100 ≤ N) (hz : gL w0 106 0 0 = z) (hn : v 0 5 + n ≤ 1000) {Q : Int32 × Wd → Prop} (K : Wd → Option (Int32 × Wd))
    (hK : ∀ w, Fr kNn w0 w → RM w 0 (niN v z n).1 → gL w 106 0 0 = (niN v z n).2 → gI w 16 0 64 = nI (v 0 5 + n) → Ok (K w) Q) :
    ∀ fuel c w, c ≤ n → n - c < fuel → Fr kNn w0 w → RM w 0 (niN v z c).1 → gL w 106 0 0 = (niN v z c).2 → gI w 16 0 64 = nI (v 0 5 + c) → Ok (fX12_nights_18 N (nI n) fuel K (nI c) w) Q := by
  intro fuel
  induction fuel with
  | zero => intro c _ _ h; omega
  | succ f ih =>
    intro c w hc hf f0 r0 z0 n0
    have e1 : nI c + (1 : Int32) = nI (c + 1) := nI_add c 1
    rcases Nat.lt_or_ge c n with y | y
    · have lt : (nI c < nI n) = True := eq_true ((nI_ltI (by omega) (by omega)).mpr y)
      obtain ⟨g1, g2, g3, g4, g5⟩ := niN_facts hF hL hT z c (by omega)
      simp only [fX12_nights_18, ↓lt, ↓e1, ↓reduceIte, callW_eq]
      have go := m_goesBy (N := N) (b := 0) r0 g1 g2 g3 (by omega) hN z0
      rw [g5, ← n0] at go
      refine ok_bind go ?_
      rintro w1 ⟨k1, k2, k3, k4⟩
      have e64 : gI w1 16 0 64 + (1 : Int32) = nI (v 0 5 + (c + 1)) := by rw [(k1 16 0 64 rfl).1, n0]; exact nI_add _ 1
      rw [e64]
      have f1 : Fr [17064] w1 (setI w1 16 0 64 (nI (v 0 5 + (c + 1)))) := Fr_setI (Fr_refl _ _) rfl
      refine ih (c + 1) _ (by omega) (by omega) (Fr_trans f0 (Fr_trans (Fr_mono k1 rfl) (Fr_mono f1 rfl))) (RM_fr f1 k3) ?_ ?_
      · rw [(f1 106 0 0 rfl).2.1]; exact k4
      · rw [gg_I, if_pos ⟨rfl, rfl, rfl⟩]
    · have : c = n := by omega
      subst this
      have lt : (nI c < nI c) = False := eq_false (fun z => by
        have := (nI_ltI (by omega) (by omega)).mp z
        omega)
      simp only [fX12_nights_18, ↓lt, ↓reduceIte]
      exact hK w f0 r0 z0 n0
theorem s_nights (h : Iv w v) (hN : 1000 ≤ N) (a : Int32) : Sp (pX11_nights N a) (pX12_nights N a) w := by
  have C := h.1
  have hF := C.2.2.1
  have hL := C.2.2.2.1
  have hT := C.2.2.2.2.2.1
  have h5 := C.2.2.2.2.2.2.1
  have C1 := Cu_t C
  have k1 := m_gIn (N := N) (w := setI w 16 0 2 (0 : Int32)) (n := 200) (by omega) a
  have k1' : pX12_isIn N a (0 : Int32) (200 : Int32) (setI w 16 0 2 (0 : Int32)) = some (zB (isI a 201), setI w 16 0 2 (0 : Int32)) := k1
  cases ha : isI a 201 with
  | false =>
    rw [ha] at k1'
    refine Sp_same h (r := (-1 : Int32)) ?_ (by simp only [pX12_nights, ↓cbnd k1', ↓z2, ↓reduceIte])
    unfold pX11_nights
    have := isI_if2 (a := a) (n := 200) (by omega) (some ((-1 : Int32), w)) (if (1000 : Int32) < ((gI w 13 0 1) + a) then some ((-1 : Int32), w) else callW (fX11_nights_16 N a N (fX11_nights_24 N a) (0 : Int32)) w)
    refine this.trans ?_
    rw [show (200 : Nat) + 1 = 201 from rfl, ha]
    rfl
  | true =>
    rw [ha] at k1'
    have cU : pX11_nights N a w = if (1000 : Int32) < ((gI w 13 0 1) + a) then some ((-1 : Int32), w) else callW (fX11_nights_16 N a N (fX11_nights_24 N a) (0 : Int32)) w := by
      unfold pX11_nights
      have := isI_if2 (a := a) (n := 200) (by omega) (some ((-1 : Int32), w)) (if (1000 : Int32) < ((gI w 13 0 1) + a) then some ((-1 : Int32), w) else callW (fX11_nights_16 N a N (fX11_nights_24 N a) (0 : Int32)) w)
      refine this.trans ?_
      rw [show (200 : Nat) + 1 = 201 from rfl, ha]
      rfl
    obtain ⟨n, hn, en⟩ := isI_t.mp ha
    have ea : gI w 13 0 1 + a = nI (v 0 5 + n) := by rw [SC_night C.1.2, en, nI_add]
    have eb : gI (setI w 16 0 2 (0 : Int32)) 16 0 64 + a = nI (v 0 5 + n) := by rw [Cu_night C1, en, nI_add]
    by_cases y : 1000 < v 0 5 + n
    · have q : ((1000 : Int32) < nI (v 0 5 + n)) = True := eq_true ((nI_ltI (a := 1000) (by omega) (by omega)).mpr y)
      refine Sp_same h (r := (-1 : Int32)) ?_ ?_
      · rw [cU, ea]; simp only [↓q, ↓reduceIte]
      · simp only [pX12_nights, ↓cbnd k1', ↓z1, ↓eb, ↓q, ↓reduceIte]
    · have q : ((1000 : Int32) < nI (v 0 5 + n)) = False := eq_false (fun z => y ((nI_ltI (a := 1000) (by omega) (by omega)).mp z))
      obtain ⟨g1, g2, g3, g4, g5⟩ := niN_facts hF hL hT (gL w 13 0 2) n (by omega)
      obtain ⟨i1, i2, i3, i4, i5, i6, i7, i8, i9, i10⟩ := h
      have hmr := g4.1
      /- the class -/
      have cl : Ok (fX11_nights_16 N a N (fX11_nights_24 N a) (0 : Int32) w) (fun x => Fr (16008 :: 10001 :: kNi) w x.2 ∧ IM x.2 v ∧ gR x.2 13 0 0 = gR w 13 0 0 ∧ RC x.2 0 (niN v (gL w 13 0 2) n).1 ∧ gL x.2 13 0 2 = (niN v (gL w 13 0 2) n).2 ∧ x.1 = nI (v 0 5 + n) ∧ (n = 0 → Fr kNi w x.2) ∧ (n ≠ 0 → gI x.2 15 0 8 = nI 0 ∧ gI x.2 9 0 1 = (-1 : Int32))) := by
        rw [en, li0]
        refine c_ni16 (N := N) (w0 := w) C.1 hF hL hT (by omega) rfl (by omega) _ (fun w1 f1 s1 m1 r1 z1 => ?_) N 0 w (by omega) (by omega) (Fr_refl _ _) (SFr_refl _ _) C.1 rfl
        have e13 : gI w1 13 0 1 = nI (v 0 5 + n) := by rw [SC_night r1.2, g5]
        by_cases y0 : n = 0
        · have q0 : ((0 : Int32) < nI n) = False := eq_false (by rw [y0]; decide)
          simp only [fX11_nights_24, ↓q0, ↓reduceIte]
          exact ok_some ⟨Fr_mono f1 rfl, IM_sfr f1 s1 (by omega) m1 i7, m1, r1, z1, e13, fun _ => f1, fun z => absurd y0 z⟩
        · have q0 : ((0 : Int32) < nI n) = True := eq_true ((nI_ltI (a := 0) (by omega) (by omega)).mpr (by omega))
          have gd : pX5_drop N (setI w1 15 0 8 (0 : Int32)) = some (setI (setI w1 15 0 8 (0 : Int32)) 9 0 1 (-1 : Int32)) := rfl
          simp only [fX11_nights_24, ↓q0, ↓cbnd gd, ↓reduceIte]
          have f2 : Fr [16008, 10001] w1 (setI (setI w1 15 0 8 (0 : Int32)) 9 0 1 (-1 : Int32)) := Fr_setI (Fr_setI (Fr_refl _ _) rfl) rfl
          refine ok_some ⟨Fr_trans (Fr_mono f1 rfl) (Fr_mono f2 rfl), IM_fr f2 (IM_sfr f1 s1 (by omega) m1 i7), ?_, RC_fr f2 r1, ?_, ?_, fun z => absurd z y0, fun _ => ⟨?_, ?_⟩⟩
          · show gR (setI (setI w1 15 0 8 (0 : Int32)) 9 0 1 (-1 : Int32)) 13 0 0 = _
            rw [(f2 13 0 0 rfl).2.2]; exact m1
          · show gL (setI (setI w1 15 0 8 (0 : Int32)) 9 0 1 (-1 : Int32)) 13 0 2 = _
            rw [(f2 13 0 2 rfl).2.1]; exact z1
          · show gI (setI (setI w1 15 0 8 (0 : Int32)) 9 0 1 (-1 : Int32)) 13 0 1 = _
            rw [(f2 13 0 1 rfl).1]; exact e13
          · show gI (setI (setI w1 15 0 8 (0 : Int32)) 9 0 1 (-1 : Int32)) 15 0 8 = _
            rw [gg_I, if_neg (by omega), gg_I, if_pos ⟨rfl, rfl, rfl⟩]; rfl
          · show gI (setI (setI w1 15 0 8 (0 : Int32)) 9 0 1 (-1 : Int32)) 9 0 1 = _
            rw [gg_I, if_pos ⟨rfl, rfl, rfl⟩]
      obtain ⟨⟨x, w1⟩, ec, c1, c2, c3, c4, c5, c6, c7, c8⟩ := cl
      simp only at c1 c2 c3 c4 c5 c6 c7 c8
      /- the reference -/
      have f2 : Fr [17002] w1 (setI w1 16 0 2 (0 : Int32)) := Fr_setI (Fr_refl _ _) rfl
      have RM2 : RM (setI w1 16 0 2 (0 : Int32)) 0 v := RM_fr f2 (RM_fr c1 C.2.1)
      have z2 : gL (setI w1 16 0 2 (0 : Int32)) 106 0 0 = gL w 13 0 2 := by rw [(f2 106 0 0 rfl).2.1, (c1 106 0 0 rfl).2.1]; exact i2.symm
      have n2 : gI (setI w1 16 0 2 (0 : Int32)) 16 0 64 = nI (v 0 5) := by rw [(f2 16 0 64 rfl).1, (c1 16 0 64 rfl).1]; exact Cu_night C
      have k2 : pX12_isIn N a (0 : Int32) (200 : Int32) (setI w1 16 0 2 (0 : Int32)) = some (zB true, setI w1 16 0 2 (0 : Int32)) := by
        have := m_gIn (N := N) (w := setI w1 16 0 2 (0 : Int32)) (n := 200) (by omega) a
        rw [show (200 : Nat) + 1 = 201 from rfl, ha] at this
        exact this
      generalize hw2 : setI w1 16 0 2 (0 : Int32) = w2 at f2 RM2 z2 n2 k2
      have eb2 : gI w2 16 0 64 + a = nI (v 0 5 + n) := by rw [n2, en, nI_add]
      have mm : Ok (fX12_nights_18 N a N (fX12_nights_34 N a) (0 : Int32) w2) (fun x => Fr (17074 :: kNn) w2 x.2 ∧ RM x.2 0 (niN v (gL w 13 0 2) n).1 ∧ gL x.2 106 0 0 = (niN v (gL w 13 0 2) n).2 ∧ gI x.2 16 0 64 = nI (v 0 5 + n) ∧ x.1 = nI (v 0 5 + n) ∧ (n = 0 → Fr kNn w2 x.2) ∧ (n ≠ 0 → gI x.2 16 0 74 = nI 0)) := by
        rw [en, li0]
        refine m_ni18 (N := N) (w0 := w2) RM2 hF hL hT (by omega) z2 (by omega) _ (fun w3 f3 r3 z3 n3 => ?_) N 0 w2 (by omega) (by omega) (Fr_refl _ _) RM2 z2 n2
        by_cases y0 : n = 0
        · have q0 : ((0 : Int32) < nI n) = False := eq_false (by rw [y0]; decide)
          have fn : ∀ l, Fr l w3 (setI w3 16 0 74 (gI w3 16 0 74)) := fun l => Fr_noop
          simp only [fX12_nights_34, ↓q0, ↓reduceIte]
          refine ok_some ⟨Fr_trans (Fr_mono f3 rfl) (fn _), RM_fr (fn []) r3, ?_, ?_, ?_, fun _ => Fr_trans f3 (fn _), fun z => absurd y0 z⟩
          · show gL (setI w3 16 0 74 (gI w3 16 0 74)) 106 0 0 = _
            rw [(fn [] 106 0 0 rfl).2.1]; exact z3
          · show gI (setI w3 16 0 74 (gI w3 16 0 74)) 16 0 64 = _
            rw [(fn [] 16 0 64 rfl).1]; exact n3
          · show gI (setI w3 16 0 74 (gI w3 16 0 74)) 16 0 64 = _
            rw [(fn [] 16 0 64 rfl).1]; exact n3
        · have q0 : ((0 : Int32) < nI n) = True := eq_true ((nI_ltI (a := 0) (by omega) (by omega)).mpr (by omega))
          have f4 : Fr [17074] w3 (setI w3 16 0 74 (0 : Int32)) := Fr_setI (Fr_refl _ _) rfl
          simp only [fX12_nights_34, ↓q0, ↓reduceIte]
          refine ok_some ⟨Fr_trans (Fr_mono f3 rfl) (Fr_mono f4 rfl), RM_fr f4 r3, ?_, ?_, ?_, fun z => absurd z y0, fun _ => ?_⟩
          · show gL (setI w3 16 0 74 (0 : Int32)) 106 0 0 = _
            rw [(f4 106 0 0 rfl).2.1]; exact z3
          · show gI (setI w3 16 0 74 (0 : Int32)) 16 0 64 = _
            rw [(f4 16 0 64 rfl).1]; exact n3
          · show gI (setI w3 16 0 74 (0 : Int32)) 16 0 64 = _
            rw [(f4 16 0 64 rfl).1]; exact n3
          · show gI (setI w3 16 0 74 (0 : Int32)) 16 0 74 = _
            rw [gg_I, if_pos ⟨rfl, rfl, rfl⟩]; rfl
      obtain ⟨⟨x', w3⟩, em, d1, d2, d3, d4, d5, d6, d7⟩ := mm
      simp only at d1 d2 d3 d4 d5 d6 d7
      have f13 : Fr (17002 :: 17074 :: kNn) w1 w3 := Fr_trans (Fr_mono f2 rfl) (Fr_mono d1 rfl)
      have F : Fr (16008 :: 10001 :: 17002 :: 17074 :: (kNi ++ kNn)) w w3 := Fr_trans (Fr_mono c1 rfl) (Fr_mono f13 rfl)
      have e13 : gR w3 13 0 0 = gR w 13 0 0 := ((f13 13 0 0 rfl).2.2).trans c3
      refine ⟨nI (v 0 5 + n), w1, w3, ?_, ?_, (niN v (gL w 13 0 2) n).1, ⟨RC_fr f13 c4, d2, g1, g2, ?_, g3, ?_, ?_⟩, ?_, MO_fr F i3, TP_fr F i4, FA_fr F i5, ?_, IM_ext hmr (IM_fr f13 c2), CL_ext hmr (CL_fr F i8), ?_, WD_fr F i10⟩
      · rw [cU, ea]
        simp only [↓q, ↓reduceIte, callW_eq]
        rw [ec, c6]
      · unfold pX12_nights
        rw [hw2]
        simp only [↓cbnd k2, ↓z1, ↓eb2, ↓q, ↓reduceIte, callW_eq]
        rw [em, d5]
      · rw [(F 15 0 2 rfl).2.2, e13]; exact C.2.2.2.2.1
      · rw [g5]; omega
      · rw [g5]; exact d4
      · unfold ZD
        rw [(f13 13 0 2 rfl).2.1, c5, d3]
      · by_cases y0 : n = 0
        · have eF : Fr (17002 :: (kNi ++ kNn)) w w3 := Fr_trans (Fr_mono (c7 y0) rfl) (Fr_trans (Fr_mono f2 rfl) (Fr_mono (d6 y0) rfl))
          refine UN_ext (hmr 0 0 (by simp [mr])) (hmr 0 1 (by simp [mr])) (Nat.le_of_eq g4.2.1.symm) (UN_fr eF i6)
        · refine UN_no ?_ (d7 y0)
          rw [(f13 15 0 8 rfl).1]; exact (c8 y0).1
      · by_cases y0 : n = 0
        · have eF : Fr (17002 :: (kNi ++ kNn)) w w3 := Fr_trans (Fr_mono (c7 y0) rfl) (Fr_trans (Fr_mono f2 rfl) (Fr_mono (d6 y0) rfl))
          subst y0
          exact OC_fr eF i9
        · refine Or.inl ?_
          rw [(f13 9 0 1 rfl).1]; exact (c8 y0).2
end

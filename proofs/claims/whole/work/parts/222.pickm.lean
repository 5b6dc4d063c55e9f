/-! ===== masters pick: the reference ===== -/
section
variable {N : Nat} {w : Wd} {b : Nat} {v : Vw}
theorem m_pull (hR : RM w b v) (hF : WF v) (hL : WL v) (hb : b ≤ 1) (hN : 100 ≤ N) {ms p k n : Nat} (hms : ms < 4) (hp : p < v 0 1) (hk : k < v 0 0) (hn : n < 2 ^ 30) :
    Ok (pX12_pullOf N (nI ms) (nI b) (nI p) (nI k) (nI n) w) (fun r => Fr [17063, 99, 100] w r.2 ∧ r.1 = sRt v ms p k n) := by
  have h1 := WF_people hF
  have h2 := WF_parts hF
  have h3 := WF_parties hF
  obtain ⟨T, S, L, D⟩ := hR
  have hms4 : ms = 0 ∨ ms = 1 ∨ ms = 2 ∨ ms = 3 := by omega
  rcases hms4 with rfl | rfl | rfl | rfl
  · have c0 : (nI 0 = (0 : Int32)) = True := eq_true rfl
    have g := m_knownBy (N := N) T S hF hb hN hp hn
    have l2 : ldI w 77 0 (nI k) 16 = some (nI (v 3 k)) := by rw [ldn (by omega) (by omega), TM_beside T k hk]
    have hs8 := and_lt8 (y := v 3 k) (sBits_lt hF p n)
    have hz := pc_zero (x := sBits v p n &&& v 3 k) (by omega)
    have es : sRt v 0 p k n = if sAr v p k n = 0 then 0 else 1 := rfl
    rw [es]
    by_cases q : sAr v p k n = 0
    · have q' : (nI (sBits v p n) &&& nI (v 3 k) = 0) = True := eq_true (by rw [nz_and, hz.mp q]; rfl)
      simp only [pX12_pullOf, ↓c0, ↓cbnd g, ↓bnd l2, ↓q', ↓reduceIte, q]
      exact ok_some ⟨Fr_refl _ _, rfl⟩
    · have q' : (nI (sBits v p n) &&& nI (v 3 k) = 0) = False := eq_false (by rw [nz_and]; exact fun z => q (hz.mpr ((nI_eq (by omega) (by omega)).mp (show _ = nI 0 from z))))
      simp only [pX12_pullOf, ↓c0, ↓cbnd g, ↓bnd l2, ↓q', ↓reduceIte, q]
      exact ok_some ⟨Fr_refl _ _, rfl⟩
  · have c0 : (nI 1 = (0 : Int32)) = False := eq_false (by decide)
    have c1 : (nI 1 = (1 : Int32)) = True := eq_true rfl
    have g := m_wanted (N := N) T hF hN (k := k) (n := n) (by omega) hn
    have hw := sWant_le v k n
    simp only [pX12_pullOf, ↓c0, ↓c1, ↓cbnd g, ↓reduceIte]
    refine ok_some ⟨Fr_refl _ _, ?_⟩
    show (nI (sWant v k n)).toInt64 = _
    rw [nI_l (by omega)]
    rfl
  · have c0 : (nI 2 = (0 : Int32)) = False := eq_false (by decide)
    have c1 : (nI 2 = (1 : Int32)) = False := eq_false (by decide)
    have c2 : (nI 2 = (2 : Int32)) = True := eq_true rfl
    simp only [pX12_pullOf, ↓c0, ↓c1, ↓c2, ↓reduceIte, callW_eq]
    refine ok_bind (m_chance T S L hF hL hb hN hp hk hn) ?_
    rintro ⟨x, w1⟩ ⟨j1, j2⟩
    simp only at j1 j2
    subst j2
    have hc := sCh_le hF p k n (sAr v p k n) (v 18 p)
    refine ok_some ⟨j1, ?_⟩
    show (nI _).toInt64 = _
    rw [nI_l (by omega)]
    rfl
  · have c0 : (nI 3 = (0 : Int32)) = False := eq_false (by decide)
    have c1 : (nI 3 = (1 : Int32)) = False := eq_false (by decide)
    have c2 : (nI 3 = (2 : Int32)) = False := eq_false (by decide)
    have e3 : sRt v 3 p k n = (sLaw v 1 p k n (sAr v p k n) (v 18 p)).getD 0 := rfl
    have l5 : ldI w 91 0 (1 : Int32) 4 = some (zB (decide (0 < v 20 1))) := by
      rw [li1, ldn (by omega) (by omega), TM_told T 1 (by omega)]
    rw [e3]
    by_cases h0 : v 20 1 = 0
    · have hd : decide (0 < v 20 1) = false := by simp; omega
      rw [hd] at l5
      have z0 : (zB false = 0) = True := eq_true rfl
      simp only [pX12_pullOf, ↓c0, ↓c1, ↓c2, ↓bnd l5, ↓z0, ↓reduceIte]
      refine ok_some ⟨Fr_refl _ _, ?_⟩
      have : sLaw v 1 p k n (sAr v p k n) (v 18 p) = none := by rw [sLaw, h0]; rfl
      rw [this]; rfl
    · have hd : decide (0 < v 20 1) = true := by simp; omega
      rw [hd] at l5
      have z0 : (zB true = 0) = False := eq_false (by decide)
      simp only [pX12_pullOf, ↓c0, ↓c1, ↓c2, ↓bnd l5, ↓z0, ↓reduceIte, callW_eq, li1]
      refine ok_bind (m_lawOf T S L hF hL hb hN (a := 1) (by omega) (by omega) hp hk hn) ?_
      rintro ⟨x, w1⟩ ⟨g1, g2, g3⟩
      simp only at g1 g2 g3
      cases hs : sLaw v 1 p k n (sAr v p k n) (v 18 p) with
      | none =>
        have y0 : (gI w1 16 0 63 = 0) = False := eq_false (by rw [g3 hs]; decide)
        simp only [↓y0, ↓reduceIte]
        exact ok_some ⟨g1, rfl⟩
      | some y =>
        obtain ⟨p1, p2⟩ := g2 y hs
        have y0 : (gI w1 16 0 63 = 0) = True := eq_true (by rw [p2]; rfl)
        simp only [↓y0, ↓reduceIte]
        exact ok_some ⟨g1, p1⟩
def kPk : List Nat := [17063, 99, 100, 17091, 17092]
theorem m_pk23 {w0 : Wd} (hR0 : RM w0 b v) (hF : WF v) (hL : WL v) (hb : b ≤ 1) (hN : 100 ≤ N) {ms p n : Nat} (hms : ms < 4) (hp : p < v 0 1) (hn : n < 2 ^ 30) (hth : sThere v p n = true) {s : PkS} (hs : pkW v (v 0 1) s) {Q : Wd → Prop} (k61 : Int64 → Int32 → Wd → Option Wd)
    (hk : ∀ w x, (Fr kPk w0 w ∧ gI w 16 0 91 = lst (pkK v ms n p s (v 0 0)).1 ∧ gI w 16 0 92 = pkI (pkK v ms n p s (v 0 0)) ∧ ((pkK v ms n p s (v 0 0)).1 ≠ 0 → x = (pkK v ms n p s (v 0 0)).2.2)) → Ok (k61 x (nI p) w) Q) :
    ∀ fuel c w x, c ≤ v 0 0 → v 0 0 - c < fuel → (Fr kPk w0 w ∧ gI w 16 0 91 = lst (pkK v ms n p s c).1 ∧ gI w 16 0 92 = pkI (pkK v ms n p s c) ∧ ((pkK v ms n p s c).1 ≠ 0 → x = (pkK v ms n p s c).2.2)) →
    Ok (fX12_pickOf_23 N (nI ms) (nI b) (nI n) fuel k61 x (nI p) (nI c) w) Q := by
  have h1 := WF_people hF
  have h2 := WF_parts hF
  intro fuel
  induction fuel with
  | zero => intro c _ _ _ h; omega
  | succ f ih =>
    intro c w x hc hf hI
    obtain ⟨i1, i2, i3, i4⟩ := hI
    have hR := RM_fr i1 hR0
    have hW := pkK_W (ms := ms) (n := n) hp hs c hc
    rcases Nat.lt_or_ge c (v 0 0) with h | h
    · have lt : (nI c < gI w 16 0 12) = True := eq_true (by rw [TM_parts hR.1]; exact (nI_ltI (by omega) (by omega)).mpr h)
      have g1 := m_hasKnown (N := N) hR.1 hR.2.1 hF hb hN hp h hn
      cases z : sKnow v p c n with
      | true =>
        rw [z] at g1
        have z0 : (zB true = 0) = False := eq_false (by decide)
        simp only [fX12_pickOf_23, ↓lt, ↓cbnd g1, ↓z0, ↓reduceIte, callW_eq, li1, nI_add]
        have he : pkK v ms n p s (c + 1) = pkK v ms n p s c := by rw [pkK, z, if_neg (by simp)]
        exact ih (c + 1) w x (by omega) (by omega) (by rw [he]; exact ⟨i1, i2, i3, i4⟩)
      | false =>
        rw [z] at g1
        have z0 : (zB false = 0) = True := eq_true rfl
        simp only [fX12_pickOf_23, ↓lt, ↓cbnd g1, ↓z0, ↓reduceIte, callW_eq]
        refine ok_bind (m_pull hR hF hL hb hN hms hp h hn) ?_
        rintro ⟨y, w1⟩ ⟨j1, j2⟩
        simp only at j1 j2
        subst j2
        have hfr : Fr kPk w0 w1 := Fr_trans i1 (Fr_mono j1 rfl)
        have e91 : gI w1 16 0 91 = lst (pkK v ms n p s c).1 := ((j1 16 0 91 rfl).1).trans i2
        have e92 : gI w1 16 0 92 = pkI (pkK v ms n p s c) := ((j1 16 0 92 rfl).1).trans i3
        have hneg := lst_neg (L := (pkK v ms n p s c).1) (by have := hW.2.1; omega)
        have take : ((pkK v ms n p s c).1 = 0 ∨ (pkK v ms n p s c).2.2 < sRt v ms p c n) → Ok (fX12_pickOf_51 N (nI ms) (nI b) (nI n) (fX12_pickOf_23 N (nI ms) (nI b) (nI n) f k61) (nI p) (nI c) (sRt v ms p c n) w1) Q := by
          intro hq
          have he : pkK v ms n p s (c + 1) = (p + 1, c, sRt v ms p c n) := by rw [pkK, z, hth, if_pos ⟨rfl, hq⟩]
          simp only [fX12_pickOf_51, li1, nI_add]
          refine ih (c + 1) _ _ (by omega) (by omega) ⟨Fr_setI (Fr_setI hfr rfl) rfl, ?_, ?_, ?_⟩
          · rw [he, gg_I, if_neg (by omega), gg_I, if_pos ⟨rfl, rfl, rfl⟩]; rfl
          · rw [he, gg_I, if_pos ⟨rfl, rfl, rfl⟩, pkI, if_neg (by simp)]
          · intro _; rw [he]
        by_cases q0 : (pkK v ms n p s c).1 = 0
        · have q0' : (gI w1 16 0 91 < 0) = True := eq_true (by rw [e91]; exact hneg.mpr q0)
          simp only [↓q0', ↓reduceIte]
          exact take (Or.inl q0)
        · have q0' : (gI w1 16 0 91 < 0) = False := eq_false (by rw [e91]; exact fun y => q0 (hneg.mp y))
          have hx := i4 q0
          subst hx
          by_cases q : (pkK v ms n p s c).2.2 < sRt v ms p c n
          · have c0 : ((0 : Int32) < lg_cmp (sRt v ms p c n) (pkK v ms n p s c).2.2) = True := eq_true ((lg_gt _ _).mpr q)
            simp only [↓q0', ↓c0, ↓reduceIte]
            exact take (Or.inr q)
          · have c0 : ((0 : Int32) < lg_cmp (sRt v ms p c n) (pkK v ms n p s c).2.2) = False := eq_false (fun y => q ((lg_gt _ _).mp y))
            simp only [↓q0', ↓c0, ↓reduceIte, li1, nI_add]
            have he : pkK v ms n p s (c + 1) = pkK v ms n p s c := by
              rw [pkK, if_neg]
              rintro ⟨_, y | y⟩
              · exact q0 y
              · exact q y
            exact ih (c + 1) w1 _ (by omega) (by omega) (by rw [he]; exact ⟨hfr, e91, e92, fun _ => rfl⟩)
    · have : c = v 0 0 := by omega
      subst this
      have lt : (nI (v 0 0) < gI w 16 0 12) = False := eq_false (by rw [TM_parts hR.1]; exact fun z => by have := (nI_ltI (by omega) (by omega)).mp z; omega)
      simp only [fX12_pickOf_23, ↓lt, ↓reduceIte]
      exact hk w x ⟨i1, i2, i3, i4⟩
theorem m_pickOf (hR : RM w b v) (hF : WF v) (hL : WL v) (hb : b ≤ 1) (hN : 100 ≤ N) {ms n : Nat} (hms : ms < 4) (hn : n < 2 ^ 30) :
    Ok (pX12_pickOf N (nI ms) (nI b) (nI n) w) (fun w' => Fr kPk w w' ∧ gI w' 16 0 91 = lst (pkP v ms n (v 0 1)).1 ∧ gI w' 16 0 92 = pkI (pkP v ms n (v 0 1))) := by
  have h1 := WF_people hF
  have h2 := WF_parts hF
  have key : ∀ fuel c w1 x, c ≤ v 0 1 → v 0 1 - c < fuel → (Fr kPk w w1 ∧ gI w1 16 0 91 = lst (pkP v ms n c).1 ∧ gI w1 16 0 92 = pkI (pkP v ms n c) ∧ ((pkP v ms n c).1 ≠ 0 → x = (pkP v ms n c).2.2)) →
      Ok (fX12_pickOf_10 N (nI ms) (nI b) (nI n) fuel x (nI c) w1) (fun w' => Fr kPk w w' ∧ gI w' 16 0 91 = lst (pkP v ms n (v 0 1)).1 ∧ gI w' 16 0 92 = pkI (pkP v ms n (v 0 1))) := by
    intro fuel
    induction fuel with
    | zero => intro c _ _ _ h; omega
    | succ f ih =>
      intro c w1 x hc hf hI
      obtain ⟨i1, i2, i3, i4⟩ := hI
      have hR1 := RM_fr i1 hR
      rcases Nat.lt_or_ge c (v 0 1) with h | h
      · have lt : (nI c < gI w1 16 0 13) = True := eq_true (by rw [TM_people hR1.1]; exact (nI_ltI (by omega) (by omega)).mpr h)
        have g1 := m_isThere (N := N) hR1.1 hR1.2.1 hF hb h hn
        cases z : sThere v c n with
        | false =>
          rw [z] at g1
          have z0 : (zB false = 0) = True := eq_true rfl
          simp only [fX12_pickOf_10, fX12_pickOf_61, ↓lt, ↓cbnd g1, ↓z0, ↓reduceIte, callW_eq, li1, nI_add]
          have he : pkP v ms n (c + 1) = pkP v ms n c := by
            have := pkK_no (v := v) (ms := ms) (n := n) (p := c) (s := pkP v ms n c) 0 (v 0 0) (fun j _ _ => by rw [z]; rfl)
            rw [Nat.zero_add] at this
            exact this
          exact ih (c + 1) w1 x (by omega) (by omega) (by rw [he]; exact ⟨i1, i2, i3, i4⟩)
        | true =>
          rw [z] at g1
          have z0 : (zB true = 0) = False := eq_false (by decide)
          simp only [fX12_pickOf_10, ↓lt, ↓cbnd g1, ↓z0, ↓reduceIte, callW_eq, li0]
          refine m_pk23 (w0 := w1) hR1 hF hL hb hN hms h hn z (pkW_mono (pkP_W v ms n c) (by omega)) _ ?_ N 0 w1 x (by omega) (by omega) ⟨Fr_refl _ _, i2, i3, i4⟩
          rintro w2 y ⟨j1, j2, j3, j4⟩
          simp only [fX12_pickOf_61, li1, nI_add]
          exact ih (c + 1) w2 y (by omega) (by omega) ⟨Fr_trans i1 j1, j2, j3, j4⟩
      · have : c = v 0 1 := by omega
        subst this
        have lt : (nI (v 0 1) < gI w1 16 0 13) = False := eq_false (by rw [TM_people hR1.1]; exact fun z => by have := (nI_ltI (by omega) (by omega)).mp z; omega)
        simp only [fX12_pickOf_10, ↓lt, ↓reduceIte]
        exact ok_some ⟨i1, i2, i3⟩
  unfold pX12_pickOf
  rw [callW_eq, li0]
  refine key N 0 _ _ (by omega) (by omega) ⟨Fr_setI (Fr_setI (Fr_refl _ _) rfl) rfl, ?_, ?_, fun z => absurd rfl z⟩
  · rw [gg_I, if_neg (by omega), gg_I, if_pos ⟨rfl, rfl, rfl⟩]; rfl
  · rw [gg_I, if_pos ⟨rfl, rfl, rfl⟩]; rfl
end

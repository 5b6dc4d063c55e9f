/-! ===== chance, law, pick ===== -/
section
variable {N : Nat} {w : Wd} {v : Vw}
theorem Cu_night (C : Cu w v) : gI w 16 0 64 = nI (v 0 5) := C.2.2.2.2.2.2.2
theorem m_gThere (C : Cu w v) {p : Nat} (hp : p < v 0 1) : pX12_isThere N (0 : Int32) (nI p) (gI w 16 0 64) w = some (zB (sThere v p (v 0 5)), w) := by
  have hn := C.2.2.2.2.2.2.1
  rw [Cu_night C]
  exact m_isThere (N := N) (b := 0) C.2.1.1 C.2.1.2.1 C.2.2.1 (by omega) hp (by omega)
theorem thI_f {a : Int32} (h : isI a (v 0 1) = false) : thI v a = false := by
  rw [← Bool.not_eq_true, thI_t]
  rintro ⟨p, hp, e, _⟩
  rw [e, isI_nI hp] at h
  cases h
theorem thI_n (hF : WF v) {p : Nat} (hp : p < v 0 1) : thI v (nI p) = sThere v p (v 0 5) := by
  have h1 := WF_people hF
  rw [Bool.eq_iff_iff, thI_t]
  constructor
  · rintro ⟨p', hp', e, h⟩
    have := (nI_eq (by omega) (by omega)).mp e
    rw [this]; exact h
  · exact fun h => ⟨p, hp, rfl, h⟩
theorem k_chance (C : Cu w v) (hN : 2 ^ 23 ≤ N) (a b : Int32) : Both (pX11_chance N a b) (pX12_chance N a b) w := by
  have hF := C.2.2.1
  have hn := C.2.2.2.2.2.2.1
  have g1 := c_gThere (N := N) C a
  have g2 := c_gPart (N := N) C b
  have m1 : ∀ w1, Fr kQ w w1 → pX12_isPerson N a (setI w1 16 0 2 (0 : Int32)) = some (zB (isI a (v 0 1)), setI w1 16 0 2 (0 : Int32)) := fun w1 f1 => m_gWho (Cu_t (Cu_fr f1 C)) a
  have m2 : ∀ w1, Fr kQ w w1 → pX12_isPart N b (setI w1 16 0 2 (0 : Int32)) = some (zB (isI b (v 0 0)), setI w1 16 0 2 (0 : Int32)) := fun w1 f1 => m_gPart (Cu_t (Cu_fr f1 C)) b
  cases ha : isI a (v 0 1) with
  | false =>
    rw [thI_f ha] at g1
    rw [ha] at m1
    refine Both_mk (x := (-1 : Int32)) ?_ (fun w1 f1 => ?_)
    · simp only [pX11_chance, ↓cbnd g1, ↓z2, ↓reduceIte]
      exact ok_some ⟨Fr_refl _ _, rfl⟩
    · simp only [pX12_chance, ↓cbnd (m1 w1 f1), ↓z2, ↓reduceIte]
      exact ok_some ⟨Fr_t, rfl⟩
  | true =>
    rw [ha] at m1
    obtain ⟨p, hp, rfl⟩ := isI_t.mp ha
    rw [thI_n hF hp] at g1
    have m3 : ∀ w1, Fr kQ w w1 → pX12_isThere N (0 : Int32) (nI p) (gI (setI w1 16 0 2 (0 : Int32)) 16 0 64) (setI w1 16 0 2 (0 : Int32)) = some (zB (sThere v p (v 0 5)), setI w1 16 0 2 (0 : Int32)) := fun w1 f1 => m_gThere (Cu_t (Cu_fr f1 C)) hp
    cases hb : isI b (v 0 0) with
    | false =>
      rw [hb] at g2 m2
      refine Both_mk (x := (-1 : Int32)) ?_ (fun w1 f1 => ?_)
      · cases ht : sThere v p (v 0 5) with
        | false =>
          rw [ht] at g1
          simp only [pX11_chance, ↓cbnd g1, ↓z2, ↓reduceIte]
          exact ok_some ⟨Fr_refl _ _, rfl⟩
        | true =>
          rw [ht] at g1
          simp only [pX11_chance, ↓cbnd g1, ↓z1, ↓cbnd g2, ↓z2, ↓reduceIte]
          exact ok_some ⟨Fr_refl _ _, rfl⟩
      · simp only [pX12_chance, ↓cbnd (m1 w1 f1), ↓z1, ↓cbnd (m2 w1 f1), ↓z2, ↓reduceIte]
        exact ok_some ⟨Fr_t, rfl⟩
    | true =>
      rw [hb] at g2 m2
      obtain ⟨k, hk, rfl⟩ := isI_t.mp hb
      cases ht : sThere v p (v 0 5) with
      | false =>
        rw [ht] at g1 m3
        refine Both_mk (x := (-1 : Int32)) ?_ (fun w1 f1 => ?_)
        · simp only [pX11_chance, ↓cbnd g1, ↓z2, ↓reduceIte]
          exact ok_some ⟨Fr_refl _ _, rfl⟩
        · simp only [pX12_chance, ↓cbnd (m1 w1 f1), ↓z1, ↓cbnd (m2 w1 f1), ↓cbnd (m3 w1 f1), ↓z2, ↓reduceIte]
          exact ok_some ⟨Fr_t, rfl⟩
      | true =>
        rw [ht] at g1 m3
        refine Both_mk (x := nI (sCh v p k (v 0 5) (sAr v p k (v 0 5)) (v 18 p))) ?_ (fun w1 f1 => ?_)
        · simp only [pX11_chance, ↓cbnd g1, ↓z1, ↓cbnd g2, ↓reduceIte, callW_eq]
          refine ok_bind (c_chance (N := N) C.1 hF C.2.2.2.1 (by omega) hp hk) ?_
          rintro ⟨x, w3⟩ ⟨k1, k2⟩
          exact ok_some ⟨Fr_mono k1 rfl, k2⟩
        · have C1 := Cu_t (Cu_fr f1 C)
          simp only [pX12_chance, ↓cbnd (m1 w1 f1), ↓z1, ↓cbnd (m2 w1 f1), ↓cbnd (m3 w1 f1), ↓reduceIte, callW_eq]
          rw [Cu_night C1]
          refine ok_bind (m_chance (N := N) (b := 0) C1.2.1.1 C1.2.1.2.1 C1.2.1.2.2.1 hF C.2.2.2.1 (by omega) (by omega) hp hk (show v 0 5 < 2 ^ 30 by omega)) ?_
          rintro ⟨x, w3⟩ ⟨k1, k2⟩
          exact ok_some ⟨Fr_trans Fr_t (Fr_mono k1 rfl), k2⟩
theorem k_pick (C : Cu w v) (hN : 2 ^ 23 ≤ N) (a b : Int32) : Both (pX11_pick N a b) (pX12_pick N a b) w := by
  have hF := C.2.2.1
  have h1 := WF_people hF
  have hn := C.2.2.2.2.2.2.1
  have g1 := c_gMaster (N := N) (w := w) a
  have m1 : ∀ w1, pX12_isMaster N a (setI w1 16 0 2 (0 : Int32)) = some (zB (isI a 4), setI w1 16 0 2 (0 : Int32)) := fun w1 => m_gMaster a
  have m2 : ∀ w1, pX12_isIn N b (0 : Int32) (1 : Int32) (setI w1 16 0 2 (0 : Int32)) = some (zB (isI b 2), setI w1 16 0 2 (0 : Int32)) := fun w1 => m_gIn1 b
  cases ha : isI a 4 with
  | false =>
    rw [ha] at g1 m1
    refine Both_mk (x := (-1 : Int32)) ?_ (fun w1 f1 => ?_)
    · simp only [pX11_pick, ↓cbnd g1, ↓z2, ↓reduceIte]
      exact ok_some ⟨Fr_refl _ _, rfl⟩
    · simp only [pX12_pick, ↓cbnd (m1 w1), ↓z2, ↓reduceIte]
      exact ok_some ⟨Fr_t, rfl⟩
  | true =>
    rw [ha] at g1 m1
    obtain ⟨ms, hms, rfl⟩ := isI_t.mp ha
    cases hb : isI b 2 with
    | false =>
      rw [hb] at m2
      refine Both_mk (x := (-1 : Int32)) ?_ (fun w1 f1 => ?_)
      · simp only [pX11_pick, ↓cbnd g1, ↓z1, ↓isI_if1, ↓fF _ hb, ↓reduceIte]
        exact ok_some ⟨Fr_refl _ _, rfl⟩
      · simp only [pX12_pick, ↓cbnd (m1 w1), ↓z1, ↓cbnd (m2 w1), ↓z2, ↓reduceIte]
        exact ok_some ⟨Fr_t, rfl⟩
    | true =>
      rw [hb] at m2
      have hW := (pkP_W v ms (v 0 5) (v 0 1)).2.1
      refine Both_mk (x := if (pkP v ms (v 0 5) (v 0 1)).1 = 0 then (-2 : Int32) else if b = nI 0 then lst (pkP v ms (v 0 5) (v 0 1)).1 else pkI (pkP v ms (v 0 5) (v 0 1))) ?_ (fun w1 f1 => ?_)
      · simp only [pX11_pick, ↓cbnd g1, ↓z1, ↓isI_if1, ↓fT _ hb, ↓reduceIte, callW_eq]
        refine ok_bind (c_choose (N := N) C.1 hF C.2.2.2.1 (by omega) hms) ?_
        rintro ⟨x, w3⟩ ⟨k1, k2, k3, k4⟩
        simp only at k1 k2 k3 k4
        subst k4
        by_cases y : (pkP v ms (v 0 5) (v 0 1)).1 = 0
        · have : decide ((pkP v ms (v 0 5) (v 0 1)).1 ≠ 0) = false := decide_eq_false (fun z => z y)
          rw [if_pos y]
          simp only [this, ↓z2, ↓reduceIte]
          exact ok_some ⟨Fr_mono k1 rfl, rfl⟩
        · have : decide ((pkP v ms (v 0 5) (v 0 1)).1 ≠ 0) = true := decide_eq_true y
          rw [if_neg y]
          rcases tw_nI hb with u | u <;> subst u
          · simp only [this, ↓z1, ↓n00, ↓reduceIte]
            exact ok_some ⟨Fr_mono k1 rfl, k2⟩
          · have e : (nI 1 = nI 0) = False := eq_false (by decide)
            simp only [this, ↓z1, ↓n10, ↓e, ↓reduceIte]
            exact ok_some ⟨Fr_mono k1 rfl, k3⟩
      · have C1 := Cu_t (Cu_fr f1 C)
        simp only [pX12_pick, ↓cbnd (m1 w1), ↓z1, ↓cbnd (m2 w1), ↓reduceIte, callW_eq]
        rw [Cu_night C1]
        refine ok_bind (m_pickOf (N := N) (b := 0) C1.2.1 hF C.2.2.2.1 (by omega) (by omega) hms (show v 0 5 < 2 ^ 30 by omega)) ?_
        rintro w3 ⟨k1, k2, k3⟩
        have fr : Fr kQ w1 w3 := Fr_trans Fr_t (Fr_mono k1 rfl)
        have hneg : (gI w3 16 0 91 < 0) ↔ (pkP v ms (v 0 5) (v 0 1)).1 = 0 := by
          rw [k2]
          exact lst_neg (by omega)
        by_cases y : (pkP v ms (v 0 5) (v 0 1)).1 = 0
        · have lt : (gI w3 16 0 91 < 0) = True := eq_true (hneg.mpr y)
          rw [if_pos y]
          simp only [↓lt, ↓reduceIte]
          exact ok_some ⟨fr, rfl⟩
        · have lt : (gI w3 16 0 91 < 0) = False := eq_false (fun z => y (hneg.mp z))
          rw [if_neg y]
          rcases tw_nI hb with u | u <;> subst u
          · simp only [↓lt, ↓n00, ↓reduceIte]
            exact ok_some ⟨fr, k2⟩
          · have e : (nI 1 = nI 0) = False := eq_false (by decide)
            simp only [↓lt, ↓n10, ↓e, ↓reduceIte]
            exact ok_some ⟨fr, k3⟩
theorem k_law (C : Cu w v) (hN : 2 ^ 23 ≤ N) (b a c : Int32) : Both (pX11_law N b a c) (pX12_law N b a c) w := by
  have hF := C.2.2.1
  have hn := C.2.2.2.2.2.2.1
  have g1 := c_gThere (N := N) C a
  have g2 := c_gPart (N := N) C c
  have m0 : ∀ w1, pX12_isIn N b (0 : Int32) (1 : Int32) (setI w1 16 0 2 (0 : Int32)) = some (zB (isI b 2), setI w1 16 0 2 (0 : Int32)) := fun w1 => m_gIn1 b
  have m1 : ∀ w1, Fr kQ w w1 → pX12_isPerson N a (setI w1 16 0 2 (0 : Int32)) = some (zB (isI a (v 0 1)), setI w1 16 0 2 (0 : Int32)) := fun w1 f1 => m_gWho (Cu_t (Cu_fr f1 C)) a
  have m2 : ∀ w1, Fr kQ w w1 → pX12_isPart N c (setI w1 16 0 2 (0 : Int32)) = some (zB (isI c (v 0 0)), setI w1 16 0 2 (0 : Int32)) := fun w1 f1 => m_gPart (Cu_t (Cu_fr f1 C)) c
  cases hb : isI b 2 with
  | false =>
    rw [hb] at m0
    refine Both_mk (x := (-9223372036854775808 : Int64)) ?_ (fun w1 f1 => ?_)
    · simp only [pX11_law, ↓isI_if1, ↓fF _ hb, ↓reduceIte]
      exact ok_some ⟨Fr_refl _ _, rfl⟩
    · simp only [pX12_law, ↓cbnd (m0 w1), ↓z2, ↓reduceIte]
      exact ok_some ⟨Fr_t, rfl⟩
  | true =>
    rw [hb] at m0
    obtain ⟨lw, hlw, rfl⟩ := isI_t.mp hb
    have l2 : ∀ w1, Fr kQ w w1 → ldI (setI w1 16 0 2 (0 : Int32)) 91 0 (nI lw) 4 = some (zB (decide (0 < v 20 lw))) := fun w1 f1 => by
      rw [ldn (by omega) (by omega), TM_told (Cu_t (Cu_fr f1 C)).2.1.1 lw hlw]
    /- the class's answer, whatever the law -/
    have cl : ∀ p k, p < v 0 1 → k < v 0 0 → a = nI p → c = nI k → sThere v p (v 0 5) = true → Ok (pX11_law N (nI lw) a c w) (fun r => Fr kQ w r.2 ∧ r.1 = (sLaw v lw p k (v 0 5) (sAr v p k (v 0 5)) (v 18 p)).getD (-9223372036854775808 : Int64)) := by
      intro p k hp hk ea ec ht
      subst ea; subst ec
      rw [thI_n hF hp, ht] at g1
      rw [isI_nI hk] at g2
      have e := c_lawTonight (N := N) C.1 hF C.2.2.2.1 (by omega) hlw hp hk
      rw [← C.2.2.2.2.1] at e
      rcases (show lw = 0 ∨ lw = 1 by omega) with y | y <;> subst y
      · simp only [pX11_law, ↓isI_if1, ↓fT _ hb, ↓cbnd g1, ↓z1, ↓cbnd g2, ↓n00, ↓reduceIte, callW_eq]
        refine ok_bind e ?_
        rintro ⟨x, w3⟩ ⟨k1, k2⟩
        exact ok_some ⟨Fr_mono k1 rfl, k2⟩
      · simp only [pX11_law, ↓isI_if1, ↓fT _ hb, ↓cbnd g1, ↓z1, ↓cbnd g2, ↓n10, ↓reduceIte, callW_eq]
        refine ok_bind e ?_
        rintro ⟨x, w3⟩ ⟨k1, k2⟩
        exact ok_some ⟨Fr_mono k1 rfl, k2⟩
    have bad : (thI v a = false ∨ isI c (v 0 0) = false) → Ok (pX11_law N (nI lw) a c w) (fun r => Fr kQ w r.2 ∧ r.1 = (-9223372036854775808 : Int64)) := by
      intro h
      cases ht : thI v a with
      | false =>
        rw [ht] at g1
        simp only [pX11_law, ↓isI_if1, ↓fT _ hb, ↓cbnd g1, ↓z2, ↓reduceIte]
        exact ok_some ⟨Fr_refl _ _, rfl⟩
      | true =>
        rcases h with h | h
        · rw [ht] at h; cases h
        · rw [ht] at g1
          rw [h] at g2
          simp only [pX11_law, ↓isI_if1, ↓fT _ hb, ↓cbnd g1, ↓z1, ↓cbnd g2, ↓z2, ↓reduceIte]
          exact ok_some ⟨Fr_refl _ _, rfl⟩
    by_cases h0 : 0 < v 20 lw
    · have d0 : decide (0 < v 20 lw) = true := decide_eq_true h0
      rw [d0] at l2
      cases ha : isI a (v 0 1) with
      | false =>
        rw [ha] at m1
        refine Both_mk (x := (-9223372036854775808 : Int64)) (bad (Or.inl (thI_f ha))) (fun w1 f1 => ?_)
        simp only [pX12_law, ↓cbnd (m0 w1), ↓z1, ↓bnd (l2 w1 f1), ↓cbnd (m1 w1 f1), ↓z2, ↓reduceIte]
        exact ok_some ⟨Fr_t, rfl⟩
      | true =>
        rw [ha] at m1
        obtain ⟨p, hp, rfl⟩ := isI_t.mp ha
        have m3 : ∀ w1, Fr kQ w w1 → pX12_isThere N (0 : Int32) (nI p) (gI (setI w1 16 0 2 (0 : Int32)) 16 0 64) (setI w1 16 0 2 (0 : Int32)) = some (zB (sThere v p (v 0 5)), setI w1 16 0 2 (0 : Int32)) := fun w1 f1 => m_gThere (Cu_t (Cu_fr f1 C)) hp
        cases hc : isI c (v 0 0) with
        | false =>
          rw [hc] at m2
          refine Both_mk (x := (-9223372036854775808 : Int64)) (bad (Or.inr hc)) (fun w1 f1 => ?_)
          simp only [pX12_law, ↓cbnd (m0 w1), ↓z1, ↓bnd (l2 w1 f1), ↓cbnd (m1 w1 f1), ↓cbnd (m2 w1 f1), ↓z2, ↓reduceIte]
          exact ok_some ⟨Fr_t, rfl⟩
        | true =>
          rw [hc] at m2
          obtain ⟨k, hk, rfl⟩ := isI_t.mp hc
          cases ht : sThere v p (v 0 5) with
          | false =>
            rw [ht] at m3
            refine Both_mk (x := (-9223372036854775808 : Int64)) (bad (Or.inl (by rw [thI_n hF hp, ht]))) (fun w1 f1 => ?_)
            simp only [pX12_law, ↓cbnd (m0 w1), ↓z1, ↓bnd (l2 w1 f1), ↓cbnd (m1 w1 f1), ↓cbnd (m2 w1 f1), ↓cbnd (m3 w1 f1), ↓z2, ↓reduceIte]
            exact ok_some ⟨Fr_t, rfl⟩
          | true =>
            rw [ht] at m3
            refine Both_mk (cl p k hp hk rfl rfl ht) (fun w1 f1 => ?_)
            have C1 := Cu_t (Cu_fr f1 C)
            simp only [pX12_law, ↓cbnd (m0 w1), ↓z1, ↓bnd (l2 w1 f1), ↓cbnd (m1 w1 f1), ↓cbnd (m2 w1 f1), ↓cbnd (m3 w1 f1), ↓reduceIte, callW_eq]
            rw [Cu_night C1]
            refine ok_bind (m_lawOf (N := N) (b := 0) C1.2.1.1 C1.2.1.2.1 C1.2.1.2.2.1 hF C.2.2.2.1 (by omega) (by omega) hlw h0 hp hk (show v 0 5 < 2 ^ 30 by omega)) ?_
            rintro ⟨x, w3⟩ ⟨k1, k2, k3⟩
            simp only at k1 k2 k3
            have fr : Fr kQ w1 w3 := Fr_trans Fr_t (Fr_mono k1 rfl)
            cases hs : sLaw v lw p k (v 0 5) (sAr v p k (v 0 5)) (v 18 p) with
            | none =>
              have z : (gI w3 16 0 63 = 0) = False := eq_false (by rw [k3 hs]; decide)
              simp only [↓z, ↓reduceIte]
              exact ok_some ⟨fr, rfl⟩
            | some y =>
              obtain ⟨e1, e2⟩ := k2 y hs
              have z : (gI w3 16 0 63 = 0) = True := eq_true (by rw [e2]; rfl)
              simp only [↓z, ↓reduceIte]
              exact ok_some ⟨fr, e1⟩
    · have d0 : decide (0 < v 20 lw) = false := decide_eq_false h0
      rw [d0] at l2
      refine Both_mk (x := (-9223372036854775808 : Int64)) ?_ (fun w1 f1 => ?_)
      · cases ht : thI v a with
        | false => exact bad (Or.inl ht)
        | true =>
          cases hc : isI c (v 0 0) with
          | false => exact bad (Or.inr hc)
          | true =>
            obtain ⟨p, hp, ea, ht'⟩ := thI_t.mp ht
            obtain ⟨k, hk, ec⟩ := isI_t.mp hc
            refine ok_mono (cl p k hp hk ea ec ht') (fun r hr => ⟨hr.1, ?_⟩)
            rw [hr.2]
            have : sLaw v lw p k (v 0 5) (sAr v p k (v 0 5)) (v 18 p) = none := by rw [sLaw, evl, if_pos (by omega)]
            rw [this]
            rfl
      · simp only [pX12_law, ↓cbnd (m0 w1), ↓z1, ↓bnd (l2 w1 f1), ↓z2, ↓reduceIte]
        exact ok_some ⟨Fr_t, rfl⟩
end

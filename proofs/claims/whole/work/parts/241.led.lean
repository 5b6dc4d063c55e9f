/-! ===== led and way ===== -/
theorem isI_if1 {α : Type} {a : Int32} (A B : α) : (if a < 0 then A else if (1 : Int32) < a then A else B) = if isI a 2 = true then B else A := isI_if2 (n := 1) (by omega) A B
theorem fT (b : Bool) (h : b = true) : (b = true) = True := eq_true h
theorem fF (b : Bool) (h : b = false) : (b = true) = False := eq_false (by rw [h]; decide)
theorem z1 : (zB true = (0 : Int32)) = False := eq_false (by decide)
theorem z2 : (zB false = (0 : Int32)) = True := eq_true (by decide)
theorem n10 : (nI 1 = (0 : Int32)) = False := eq_false (by decide)
theorem n00 : (nI 0 = (0 : Int32)) = True := eq_true (by decide)
theorem tw_nI {b : Int32} (h : isI b 2 = true) : b = nI 0 ∨ b = nI 1 := by
  obtain ⟨k, hk, e⟩ := isI_t.mp h
  rcases (show k = 0 ∨ k = 1 by omega) with y | y <;> subst y
  · exact Or.inl e
  · exact Or.inr e
section
variable {N : Nat} {w : Wd} {v : Vw}
theorem m_gIn1 (a : Int32) : pX12_isIn N a (0 : Int32) (1 : Int32) w = some (zB (isI a 2), w) := m_gIn (n := 1) (by omega) a
theorem k_led (C : Cu w v) (hN : 2 ^ 23 ≤ N) (a b : Int32) : Both (pX11_led N a b) (pX12_led N a b) w := by
  have gc := c_gParty (N := N) C a
  have gm : ∀ w1, Fr kQ w w1 → pX12_isParty N a (setI w1 16 0 2 (0 : Int32)) = some (zB (isI a (v 0 2)), setI w1 16 0 2 (0 : Int32)) := fun w1 f1 => m_gParty (Cu_t (Cu_fr f1 C)) a
  cases ha : isI a (v 0 2) with
  | false =>
    rw [ha] at gc gm
    refine Both_mk (x := (-1 : Int32)) ?_ (fun w1 f1 => ?_)
    · simp only [pX11_led, ↓cbnd gc, ↓z2, ↓reduceIte]
      exact ok_some ⟨Fr_refl _ _, rfl⟩
    · simp only [pX12_led, ↓cbnd (gm w1 f1), ↓z2, ↓reduceIte]
      exact ok_some ⟨Fr_t, rfl⟩
  | true =>
    rw [ha] at gc gm
    obtain ⟨q, hq, rfl⟩ := isI_t.mp ha
    cases hb : isI b 2 with
    | false =>
      refine Both_mk (x := (-1 : Int32)) ?_ (fun w1 f1 => ?_)
      · simp only [pX11_led, ↓cbnd gc, ↓z1, ↓isI_if1, ↓fF _ hb, ↓reduceIte]
        exact ok_some ⟨Fr_refl _ _, rfl⟩
      · have gi := m_gIn1 (N := N) (w := setI w1 16 0 2 (0 : Int32)) b
        rw [hb] at gi
        simp only [pX12_led, ↓cbnd (gm w1 f1), ↓z1, ↓z2, ↓cbnd gi, ↓reduceIte]
        exact ok_some ⟨Fr_t, rfl⟩
    | true =>
      have hF := C.2.2.1
      have h3 := WF_parties hF
      have hpn := WF_pnight hF q
      refine Both_ex (δ := Nat → Nat) (P := fun D => FD v (knF v (v 11 q) 0) (v 10 q) D) (x := fun D => if lsF D (v 9 q) 7 < 99999 then (if b = nI 0 then nI (lsF D (v 9 q) 7 / 100) else nI (lsF D (v 9 q) 7 % 100)) else (-2 : Int32)) (fun w1 f1 => ?_) (fun D hD => ?_)
      · have gi := m_gIn1 (N := N) (w := setI w1 16 0 2 (0 : Int32)) b
        rw [hb] at gi
        have C1 := Cu_t (Cu_fr f1 C)
        have l3 : ldI (setI w1 16 0 2 (0 : Int32)) 86 0 (nI q) 16 = some (nI (v 11 q)) := by rw [ldn (by omega) (by omega), TM_pnight C1.2.1.1 q hq]
        simp only [pX12_led, ↓cbnd (gm w1 f1), ↓z1, ↓cbnd gi, ↓bnd l3, ↓reduceIte, callW_eq]
        refine ok_bind (m_layKnown (N := N) (b := 0) (more := 0) C1.2.1.1 C1.2.1.2.1 hF (by omega) (by omega) (by omega)) ?_
        rintro w2 ⟨j1, j2⟩
        refine ok_bind (m_leastOf (N := N) (TM_fr j1 C1.2.1.1) hF hN (fun g hg => ⟨j2 g hg, knF_lt hF (by omega) g⟩) hq) ?_
        rintro ⟨x, w3⟩ ⟨k1, D, k2, k3, k4⟩
        simp only at k1 k4
        subst k4
        have hle := (lsF_le D (v 9 q) 7).1
        have fr : Fr kQ w1 w3 := Fr_trans Fr_t (Fr_trans (Fr_mono j1 rfl) (Fr_mono k1 rfl))
        have ed : nI (lsF D (v 9 q) 7) / (100 : Int32) = nI (lsF D (v 9 q) 7 / 100) := pk_div (a := lsF D (v 9 q) 7) (d := 100) (by omega) (by omega) (by omega)
        have er : nI (lsF D (v 9 q) 7) - nI (lsF D (v 9 q) 7 / 100) * (100 : Int32) = nI (lsF D (v 9 q) 7 % 100) := by
          rw [li100, pk_mul]
          have e : lsF D (v 9 q) 7 = lsF D (v 9 q) 7 % 100 + lsF D (v 9 q) 7 / 100 * 100 := by omega
          conv => lhs; arg 1; rw [e, ← nI_add]
          exact Int32.add_sub_cancel _ _
        by_cases hlt : lsF D (v 9 q) 7 < 99999
        · have lt : (nI (lsF D (v 9 q) 7) < (99999 : Int32)) = True := eq_true ((nI_ltI (b := 99999) (by omega) (by omega)).mpr hlt)
          rcases tw_nI hb with y | y <;> subst y
          · simp only [lt, ↓n00, ↓ed, ↓reduceIte]
            exact ok_some ⟨fr, D, k3, by simp only [hlt, ↓reduceIte]⟩
          · simp only [lt, ↓n10, ↓ed, ↓er, ↓reduceIte]
            refine ok_some ⟨fr, D, k3, ?_⟩
            have : (nI 1 = nI 0) = False := eq_false (by decide)
            simp only [hlt, this, ↓reduceIte]
        · have lt : (nI (lsF D (v 9 q) 7) < (99999 : Int32)) = False := eq_false (fun z => hlt ((nI_ltI (b := 99999) (by omega) (by omega)).mp z))
          simp only [lt, ↓reduceIte]
          exact ok_some ⟨fr, D, k3, by simp only [hlt, ↓reduceIte]⟩
      · simp only [pX11_led, ↓cbnd gc, ↓z1, ↓isI_if1, ↓fT _ hb, ↓reduceIte, callW_eq]
        refine ok_bind (c_lead (N := N) C.1 hF (by omega) hq hD) ?_
        rintro ⟨x, w3⟩ ⟨k1, k2⟩
        simp only at k1 k2
        have fr : Fr kQ w w3 := Fr_mono k1 rfl
        by_cases hlt : lsF D (v 9 q) 7 < 99999
        · rw [if_pos hlt] at k2
          obtain ⟨e0, e1, e2, _⟩ := k2
          subst e0
          rcases tw_nI hb with y | y <;> subst y
          · simp only [↓n10, ↓n00, ↓reduceIte]
            exact ok_some ⟨fr, by simp only [hlt, ↓reduceIte]; exact e2⟩
          · simp only [↓n10, ↓reduceIte]
            have : (nI 1 = nI 0) = False := eq_false (by decide)
            exact ok_some ⟨fr, by simp only [hlt, this, ↓reduceIte]; exact e1⟩
        · rw [if_neg hlt] at k2
          subst k2
          simp only [↓n00, ↓reduceIte]
          exact ok_some ⟨fr, by simp only [hlt, ↓reduceIte]⟩
theorem k_way (C : Cu w v) (hN : 2 ^ 23 ≤ N) (a k b : Int32) : Both (pX11_way N a k b) (pX12_way N a k b) w := by
  have gc := c_gParty (N := N) C a
  have gm : ∀ w1, Fr kQ w w1 → pX12_isParty N a (setI w1 16 0 2 (0 : Int32)) = some (zB (isI a (v 0 2)), setI w1 16 0 2 (0 : Int32)) := fun w1 f1 => m_gParty (Cu_t (Cu_fr f1 C)) a
  cases ha : isI a (v 0 2) with
  | false =>
    rw [ha] at gc gm
    refine Both_mk (x := (-1 : Int32)) ?_ (fun w1 f1 => ?_)
    · simp only [pX11_way, ↓cbnd gc, ↓z2, ↓reduceIte]
      exact ok_some ⟨Fr_refl _ _, rfl⟩
    · simp only [pX12_way, ↓cbnd (gm w1 f1), ↓z2, ↓reduceIte]
      exact ok_some ⟨Fr_t, rfl⟩
  | true =>
    rw [ha] at gc gm
    obtain ⟨q, hq, rfl⟩ := isI_t.mp ha
    by_cases hk : k < 0
    · have hk' : (k < 0) = True := eq_true hk
      refine Both_mk (x := (-1 : Int32)) ?_ (fun w1 f1 => ?_)
      · simp only [pX11_way, ↓cbnd gc, ↓z1, hk', ↓reduceIte]
        exact ok_some ⟨Fr_refl _ _, rfl⟩
      · simp only [pX12_way, ↓cbnd (gm w1 f1), ↓z1, hk', ↓reduceIte]
        exact ok_some ⟨Fr_t, rfl⟩
    have hk' : (k < 0) = False := eq_false hk
    obtain ⟨j, hj, rfl⟩ := a_nI k hk
    cases hb : isI b 2 with
    | false =>
      refine Both_mk (x := (-1 : Int32)) ?_ (fun w1 f1 => ?_)
      · simp only [pX11_way, ↓cbnd gc, ↓z1, hk', ↓isI_if1, ↓fF _ hb, ↓reduceIte]
        exact ok_some ⟨Fr_refl _ _, rfl⟩
      · have gi := m_gIn1 (N := N) (w := setI w1 16 0 2 (0 : Int32)) b
        rw [hb] at gi
        simp only [pX12_way, ↓cbnd (gm w1 f1), ↓z1, hk', ↓z2, ↓cbnd gi, ↓reduceIte]
        exact ok_some ⟨Fr_t, rfl⟩
    | true =>
      have hF := C.2.2.1
      have h3 := WF_parties hF
      have h2 := WF_parts hF
      have hpn := WF_pnight hF q
      have hf := WF_pfrom hF q hq
      have ht := WF_pto hF q hq
      refine Both_ex (δ := Nat → Nat) (P := fun D => FD v (knF v (v 11 q) 0) (v 10 q) D) (x := fun D => if lsF D (v 9 q) 7 < 99999 ∧ j < lsF D (v 9 q) 7 % 100 then (if b = nI 0 then nI (wyS v D (v 9 q) j).1 else nI (gS v D (v 9 q) (lsF D (v 9 q) 7 % 100) j)) else (-2 : Int32)) (fun w1 f1 => ?_) (fun D hD => ?_)
      · have gi := m_gIn1 (N := N) (w := setI w1 16 0 2 (0 : Int32)) b
        rw [hb] at gi
        have C1 := Cu_t (Cu_fr f1 C)
        have l3 : ldI (setI w1 16 0 2 (0 : Int32)) 86 0 (nI q) 16 = some (nI (v 11 q)) := by rw [ldn (by omega) (by omega), TM_pnight C1.2.1.1 q hq]
        simp only [pX12_way, ↓cbnd (gm w1 f1), ↓z1, hk', ↓cbnd gi, ↓bnd l3, ↓reduceIte, callW_eq]
        refine ok_bind (m_layKnown (N := N) (b := 0) (more := 0) C1.2.1.1 C1.2.1.2.1 hF (by omega) (by omega) (by omega)) ?_
        rintro w2 ⟨j1, j2⟩
        refine ok_bind (m_layWay (N := N) (TM_fr j1 C1.2.1.1) hF hN (fun g hg => ⟨j2 g hg, knF_lt hF (by omega) g⟩) hq) ?_
        rintro ⟨x, w3⟩ ⟨k1, D, k3, k4⟩
        simp only at k1 k4
        have fr : Fr kQ w1 w3 := Fr_trans Fr_t (Fr_trans (Fr_mono j1 rfl) (Fr_mono k1 rfl))
        by_cases hlt : lsF D (v 9 q) 7 < 99999
        · rw [if_pos hlt] at k4
          obtain ⟨e0, e1, e2⟩ := k4
          subst e0
          have hB := FD_best k3 (show v 10 q < 8 by omega) (show v 9 q < 8 by omega) hlt
          by_cases hjl : j < lsF D (v 9 q) 7 % 100
          · have lt : (nI j < gI w3 16 0 82) = True := eq_true (by rw [e1]; exact (nI_ltI (by omega) (by omega)).mpr hjl)
            have l6 : ldI w3 113 0 (nI j) 9 = some (nI (wyS v D (v 9 q) j).1) := by rw [ldn (by omega) (by omega), (e2 j hjl).1]
            have l7 : ldI w3 114 0 (nI j) 9 = some (nI (gS v D (v 9 q) (lsF D (v 9 q) 7 % 100) j)) := by rw [ldn (by omega) (by omega), (e2 j hjl).2]
            rcases tw_nI hb with y | y <;> subst y
            · simp only [↓n10, ↓lt, ↓n00, ↓bnd l6, ↓reduceIte]
              exact ok_some ⟨fr, D, k3, by simp only [hlt, hjl, and_self, ↓reduceIte]⟩
            · simp only [↓n10, ↓lt, ↓bnd l7, ↓reduceIte]
              have : (nI 1 = nI 0) = False := eq_false (by decide)
              exact ok_some ⟨fr, D, k3, by simp only [hlt, hjl, and_self, this, ↓reduceIte]⟩
          · have lt : (nI j < gI w3 16 0 82) = False := eq_false (fun z => by
              rw [e1] at z
              exact hjl ((nI_ltI (by omega) (by omega)).mp z))
            simp only [↓n10, ↓lt, ↓reduceIte]
            exact ok_some ⟨fr, D, k3, by simp only [hlt, hjl, and_false, ↓reduceIte]⟩
        · rw [if_neg hlt] at k4
          subst k4
          simp only [↓n00, ↓reduceIte]
          exact ok_some ⟨fr, D, k3, by simp only [hlt, false_and, ↓reduceIte]⟩
      · simp only [pX11_way, ↓cbnd gc, ↓z1, hk', ↓isI_if1, ↓fT _ hb, ↓reduceIte, callW_eq]
        refine ok_bind (c_lead (N := N) C.1 hF (by omega) hq hD) ?_
        rintro ⟨x, w3⟩ ⟨k1, k2⟩
        simp only at k1 k2
        have fr : Fr kQ w w3 := Fr_mono k1 rfl
        by_cases hlt : lsF D (v 9 q) 7 < 99999
        · rw [if_pos hlt] at k2
          obtain ⟨e0, e1, _, e2⟩ := k2
          subst e0
          have hB := FD_best hD (show v 10 q < 8 by omega) (show v 9 q < 8 by omega) hlt
          by_cases hjl : j < lsF D (v 9 q) 7 % 100
          · have lt : (nI j < gI w3 6 0 7) = True := eq_true (by rw [e1]; exact (nI_ltI (by omega) (by omega)).mpr hjl)
            have l6 : ldI w3 28 0 (nI j) 8 = some (nI (wyS v D (v 9 q) j).1) := by rw [ldn (by omega) (by omega), (e2 j hjl).1]
            have l7 : ldI w3 29 0 (nI j) 8 = some (nI (gS v D (v 9 q) (lsF D (v 9 q) 7 % 100) j)) := by rw [ldn (by omega) (by omega), (e2 j hjl).2]
            rcases tw_nI hb with y | y <;> subst y
            · simp only [↓n10, ↓lt, ↓n00, ↓bnd l6, ↓reduceIte]
              exact ok_some ⟨fr, by simp only [hlt, hjl, and_self, ↓reduceIte]⟩
            · simp only [↓n10, ↓lt, ↓bnd l7, ↓reduceIte]
              have : (nI 1 = nI 0) = False := eq_false (by decide)
              exact ok_some ⟨fr, by simp only [hlt, hjl, and_self, this, ↓reduceIte]⟩
          · have lt : (nI j < gI w3 6 0 7) = False := eq_false (fun z => by
              rw [e1] at z
              exact hjl ((nI_ltI (by omega) (by omega)).mp z))
            simp only [↓n10, ↓lt, ↓reduceIte]
            exact ok_some ⟨fr, by simp only [hlt, hjl, and_false, ↓reduceIte]⟩
        · rw [if_neg hlt] at k2
          subst k2
          simp only [↓n00, ↓reduceIte]
          exact ok_some ⟨fr, by simp only [hlt, false_and, ↓reduceIte]⟩
end

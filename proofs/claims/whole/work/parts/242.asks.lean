/-! ===== steps, knows, chance, law, pick ===== -/
section
variable {N : Nat} {w : Wd} {v : Vw}
theorem Cu_T (C : Cu w v) : TC w (gR w 15 0 2) v := by rw [C.2.2.2.2.1]; exact C.1.1
theorem k_steps (C : Cu w v) (hN : 2 ^ 23 ≤ N) (a b : Int32) : Both (pX11_steps N a b) (pX12_steps N a b) w := by
  have hF := C.2.2.1
  have h2 := WF_parts hF
  have g1 := c_gPart (N := N) C a
  have g2 := c_gPart (N := N) C b
  have m1 : ∀ w1, Fr kQ w w1 → pX12_isPart N a (setI w1 16 0 2 (0 : Int32)) = some (zB (isI a (v 0 0)), setI w1 16 0 2 (0 : Int32)) := fun w1 f1 => m_gPart (Cu_t (Cu_fr f1 C)) a
  have m2 : ∀ w1, Fr kQ w w1 → pX12_isPart N b (setI w1 16 0 2 (0 : Int32)) = some (zB (isI b (v 0 0)), setI w1 16 0 2 (0 : Int32)) := fun w1 f1 => m_gPart (Cu_t (Cu_fr f1 C)) b
  cases ha : isI a (v 0 0) with
  | false =>
    rw [ha] at g1 m1
    refine Both_mk (x := (-1 : Int32)) ?_ (fun w1 f1 => ?_)
    · simp only [pX11_steps, ↓cbnd g1, ↓z2, ↓reduceIte]
      exact ok_some ⟨Fr_refl _ _, rfl⟩
    · simp only [pX12_steps, ↓cbnd (m1 w1 f1), ↓z2, ↓reduceIte]
      exact ok_some ⟨Fr_t, rfl⟩
  | true =>
    cases hb : isI b (v 0 0) with
    | false =>
      rw [ha] at g1 m1
      rw [hb] at g2 m2
      refine Both_mk (x := (-1 : Int32)) ?_ (fun w1 f1 => ?_)
      · simp only [pX11_steps, ↓cbnd g1, ↓z1, ↓cbnd g2, ↓z2, ↓reduceIte]
        exact ok_some ⟨Fr_refl _ _, rfl⟩
      · simp only [pX12_steps, ↓cbnd (m1 w1 f1), ↓z1, ↓cbnd (m2 w1 f1), ↓z2, ↓reduceIte]
        exact ok_some ⟨Fr_t, rfl⟩
    | true =>
      rw [ha] at g1 m1
      rw [hb] at g2 m2
      obtain ⟨x, hx, rfl⟩ := isI_t.mp ha
      obtain ⟨y, hy, rfl⟩ := isI_t.mp hb
      have hp : 2 ^ v 0 0 - 1 < 2 ^ 8 := by
        have : 2 ^ v 0 0 ≤ 2 ^ 8 := Nat.pow_le_pow_right (by omega) h2
        have := Nat.two_pow_pos (v 0 0)
        omega
      refine Both_mk (x := dI (gD (v 3) (v 0 0) (2 ^ v 0 0 - 1) x y)) ?_ (fun w1 f1 => ?_)
      · have e1 := c_allParts (N := N) (Cu_T C) hF
        have e2 := c_dist (N := N) (Cu_T C) hF (by omega) (show x < 8 by omega) (show y < 8 by omega) hp
        simp only [pX11_steps, ↓cbnd g1, ↓z1, ↓cbnd g2, ↓cbnd e1, ↓cbnd e2, ↓reduceIte]
        exact ok_some ⟨Fr_refl _ _, rfl⟩
      · have C1 := Cu_t (Cu_fr f1 C)
        have l3 : ldI (setI w1 16 0 2 (0 : Int32)) 107 0 ((8 : Int32) * nI x + nI y) 64 = some (nI (gD (v 3) (v 0 0) (2 ^ v 0 0 - 1) x y)) := by
          rw [li8, pk_mul, nI_add, ldn (by omega) (by omega), C1.2.1.2.2.2 x y hx hy]
        rcases gD_lt (v 3) (v 0 0) (2 ^ v 0 0 - 1) x y with q | q
        · have lt : (nI (gD (v 3) (v 0 0) (2 ^ v 0 0 - 1) x y) < (99 : Int32)) = True := eq_true ((nI_ltI (b := 99) (by omega) (by omega)).mpr (by omega))
          simp only [pX12_steps, ↓cbnd (m1 w1 f1), ↓z1, ↓cbnd (m2 w1 f1), ↓bnd l3, ↓lt, ↓reduceIte]
          refine ok_some ⟨Fr_t, ?_⟩
          rw [dI, if_neg (by omega)]
        · rw [q] at l3 ⊢
          have lt : (nI 99 < (99 : Int32)) = False := eq_false (by decide)
          simp only [pX12_steps, ↓cbnd (m1 w1 f1), ↓z1, ↓cbnd (m2 w1 f1), ↓bnd l3, ↓lt, ↓reduceIte]
          exact ok_some ⟨Fr_t, rfl⟩
theorem bit_zB {s k : Nat} (hs : s < 2 ^ 31) (hk : k < 32) : (nI s >>> (nI k &&& (31 : Int32))) &&& (1 : Int32) = zB (s.testBit k) := by
  rw [li31, li1, nz_and, nz_bit hs hk]
  cases s.testBit k <;> rfl
theorem sBits_bit {p n k : Nat} (hk : k < v 0 0) : (sBits v p n).testBit k = sKnow v p k n := by
  rw [sBits, mkB_bit]
  simp [hk]
theorem zz (b : Bool) (w : Wd) : (if zB b = 0 then some ((0 : Int32), w) else some ((1 : Int32), w)) = some (zB b, w) := by cases b <;> rfl
theorem k_knows (C : Cu w v) (hN : 2 ^ 23 ≤ N) (a b c : Int32) : Both (pX11_knows N a b c) (pX12_knows N a b c) w := by
  have hF := C.2.2.1
  have h2 := WF_parts hF
  have g1 := c_gWho (N := N) C a
  have g2 := c_gPart (N := N) C b
  have g3 := c_gNight (N := N) (w := w) c
  have m1 : ∀ w1, Fr kQ w w1 → pX12_isPerson N a (setI w1 16 0 2 (0 : Int32)) = some (zB (isI a (v 0 1)), setI w1 16 0 2 (0 : Int32)) := fun w1 f1 => m_gWho (Cu_t (Cu_fr f1 C)) a
  have m2 : ∀ w1, Fr kQ w w1 → pX12_isPart N b (setI w1 16 0 2 (0 : Int32)) = some (zB (isI b (v 0 0)), setI w1 16 0 2 (0 : Int32)) := fun w1 f1 => m_gPart (Cu_t (Cu_fr f1 C)) b
  have m3 : ∀ w1, pX12_isNight N c (setI w1 16 0 2 (0 : Int32)) = some (zB (isI c 1000), setI w1 16 0 2 (0 : Int32)) := fun w1 => m_gNight c
  cases ha : isI a (v 0 1) with
  | false =>
    rw [ha] at g1 m1
    refine Both_mk (x := (-1 : Int32)) ?_ (fun w1 f1 => ?_)
    · simp only [pX11_knows, ↓cbnd g1, ↓z2, ↓reduceIte]
      exact ok_some ⟨Fr_refl _ _, rfl⟩
    · simp only [pX12_knows, ↓cbnd (m1 w1 f1), ↓z2, ↓reduceIte]
      exact ok_some ⟨Fr_t, rfl⟩
  | true =>
    rw [ha] at g1 m1
    cases hb : isI b (v 0 0) with
    | false =>
      rw [hb] at g2 m2
      refine Both_mk (x := (-1 : Int32)) ?_ (fun w1 f1 => ?_)
      · simp only [pX11_knows, ↓cbnd g1, ↓z1, ↓cbnd g2, ↓z2, ↓reduceIte]
        exact ok_some ⟨Fr_refl _ _, rfl⟩
      · simp only [pX12_knows, ↓cbnd (m1 w1 f1), ↓z1, ↓cbnd (m2 w1 f1), ↓z2, ↓reduceIte]
        exact ok_some ⟨Fr_t, rfl⟩
    | true =>
      rw [hb] at g2 m2
      cases hc : isI c 1000 with
      | false =>
        rw [hc] at g3 m3
        refine Both_mk (x := (-1 : Int32)) ?_ (fun w1 f1 => ?_)
        · simp only [pX11_knows, ↓cbnd g1, ↓z1, ↓cbnd g2, ↓cbnd g3, ↓z2, ↓reduceIte]
          exact ok_some ⟨Fr_refl _ _, rfl⟩
        · simp only [pX12_knows, ↓cbnd (m1 w1 f1), ↓z1, ↓cbnd (m2 w1 f1), ↓cbnd (m3 w1), ↓z2, ↓reduceIte]
          exact ok_some ⟨Fr_t, rfl⟩
      | true =>
        rw [hc] at g3 m3
        obtain ⟨p, hp, rfl⟩ := isI_t.mp ha
        obtain ⟨k, hk, rfl⟩ := isI_t.mp hb
        obtain ⟨n, hn, rfl⟩ := isI_t.mp hc
        refine Both_mk (x := zB (sKnow v p k n)) ?_ (fun w1 f1 => ?_)
        · have e := c_known (N := N) C.1 hF (by omega) hp (show n < 2 ^ 30 by omega)
          have hs := sBits_lt hF p n
          simp only [pX11_knows, ↓cbnd g1, ↓z1, ↓cbnd g2, ↓cbnd g3, ↓cbnd e, ↓reduceIte]
          refine ok_some ⟨Fr_refl _ _, ?_⟩
          rw [← sBits_bit hk]
          exact bit_zB (by omega) (by omega)
        · have C1 := Cu_t (Cu_fr f1 C)
          have e : pX12_hasKnown N (0 : Int32) (nI p) (nI k) (nI n) (setI w1 16 0 2 (0 : Int32)) = _ := m_hasKnown (N := N) C1.2.1.1 C1.2.1.2.1 hF (by omega) (by omega) hp hk (show n < 2 ^ 30 by omega)
          simp only [pX12_knows, ↓cbnd (m1 w1 f1), ↓z1, ↓cbnd (m2 w1 f1), ↓cbnd (m3 w1), ↓cbnd e, ↓reduceIte]
          rw [zz]
          exact ok_some ⟨Fr_t, rfl⟩
/-- who is there tonight -/
noncomputable def thI (v : Vw) (a : Int32) : Bool := @decide (∃ p, p < v 0 1 ∧ a = nI p ∧ sThere v p (v 0 5) = true) (Classical.propDecidable _)
theorem thI_t {a : Int32} : thI v a = true ↔ ∃ p, p < v 0 1 ∧ a = nI p ∧ sThere v p (v 0 5) = true := by unfold thI; exact @decide_eq_true_iff _ (Classical.propDecidable _)
theorem c_gThere (C : Cu w v) (a : Int32) : pX11_isThereTonight N a w = some (zB (thI v a), w) := by
  have hF := C.2.2.1
  have hn := C.2.2.2.2.2.2.1
  have h1 := WF_people hF
  have g1 := c_gWho (N := N) C a
  cases ha : isI a (v 0 1) with
  | false =>
    rw [ha] at g1
    have : thI v a = false := by
      rw [← Bool.not_eq_true, thI_t]
      rintro ⟨p, hp, e, _⟩
      rw [e, isI_nI hp] at ha
      cases ha
    rw [this]
    simp only [pX11_isThereTonight, ↓cbnd g1, ↓z2, ↓reduceIte]
    rfl
  | true =>
    rw [ha] at g1
    obtain ⟨p, hp, rfl⟩ := isI_t.mp ha
    have e := c_isThere (N := N) C.1 hF hp (show v 0 5 < 2 ^ 30 by omega)
    rw [← SC_night C.1.2] at e
    have : thI v (nI p) = sThere v p (v 0 5) := by
      rw [Bool.eq_iff_iff, thI_t]
      constructor
      · rintro ⟨p', hp', e, h⟩
        have := (nI_eq (by omega) (by omega)).mp e
        rw [this]; exact h
      · exact fun h => ⟨p, hp, rfl, h⟩
    rw [this]
    simp only [pX11_isThereTonight, ↓cbnd g1, ↓z1, ↓cbnd e, ↓reduceIte]
    exact zz _ _
end

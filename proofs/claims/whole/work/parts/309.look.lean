/-! ===== look: what the class gives where it doesn't throw, and the reference ===== -/
section
variable {N : Nat} {w : Wd} {v : Vw}
noncomputable def lkT (N : Nat) (a1 a2 : Int32) (w : Wd) : Option (Int32 × Wd) :=
  if a2 = (0 : Int32) then
    (callW (pX9_isThere N 0 a1 (gI w 13 0 1)) w).bind fun r1 =>
    if r1.1 = 0 then some ((0 : Int32), r1.2) else
    some ((1 : Int32), r1.2)
  else
  if a2 = (1 : Int32) then some ((((gI w 13 0 3) >>> (a1 &&& (31 : Int32))) &&& (1 : Int32)), w) else
  if a2 = (2 : Int32) then
    (callW (pX9_knownBits N 0 a1 (gI w 13 0 1)) w).bind fun r1 =>
    some (r1.1, r1.2)
  else
  if a2 = (3 : Int32) then
    (ldI w 60 0 a1 6).bind fun x1 =>
    some (x1, w)
  else
  if a2 = (4 : Int32) then
    (ldI w 50 (gR w 15 0 2) a1 6).bind fun x1 =>
    some (x1, w)
  else
  if a2 = (5 : Int32) then
    (ldI w 63 0 a1 6).bind fun x1 =>
    some (x1, w)
  else none
def is6 (b : Int32) : Prop := b = (0 : Int32) ∨ b = (1 : Int32) ∨ b = (2 : Int32) ∨ b = (3 : Int32) ∨ b = (4 : Int32) ∨ b = (5 : Int32)
/-- no such person -/
theorem m_look1 (C : Cu w v) (a b : Int32) (h : isI a (v 0 1) = false) : pX12_look N a b w = some ((0 : Int32), setI (setI w 16 0 2 (0 : Int32)) 16 0 2 (1 : Int32)) := by
  have m1 := m_gWho (N := N) (Cu_t C) a
  rw [h] at m1
  simp only [pX12_look, ↓cbnd m1, ↓z2, ↓reduceIte]
  rw [callW_eq]
  rfl
/-- no such what -/
theorem m_look2 (C : Cu w v) (a b : Int32) (h : isI a (v 0 1) = true) (hb : ¬ is6 b) : pX12_look N a b w = some ((0 : Int32), setI (setI w 16 0 2 (0 : Int32)) 16 0 2 (2 : Int32)) := by
  have m1 := m_gWho (N := N) (Cu_t C) a
  rw [h] at m1
  have q0 : (b = (0 : Int32)) = False := eq_false (fun z => hb (Or.inl z))
  have q1 : (b = (1 : Int32)) = False := eq_false (fun z => hb (Or.inr (Or.inl z)))
  have q2 : (b = (2 : Int32)) = False := eq_false (fun z => hb (Or.inr (Or.inr (Or.inl z))))
  have q3 : (b = (3 : Int32)) = False := eq_false (fun z => hb (Or.inr (Or.inr (Or.inr (Or.inl z)))))
  have q4 : (b = (4 : Int32)) = False := eq_false (fun z => hb (Or.inr (Or.inr (Or.inr (Or.inr (Or.inl z))))))
  have q5 : (b = (5 : Int32)) = False := eq_false (fun z => hb (Or.inr (Or.inr (Or.inr (Or.inr (Or.inr (z)))))))
  simp only [pX12_look, ↓cbnd m1, ↓z1, ↓q0, ↓q1, ↓q2, ↓q3, ↓q4, ↓q5, ↓reduceIte]
  rw [callW_eq]
  rfl
/-- there are both -/
theorem k_look (C : Cu w v) (hN : 100 ≤ N) (a b : Int32) (h : isI a (v 0 1) = true) (hb : is6 b) : ∃ r, lkT N a b w = some (r, w) ∧ pX12_look N a b w = some (r, setI w 16 0 2 (0 : Int32)) := by
  have hF := C.2.2.1
  have h1 := WF_people hF
  have hn := C.2.2.2.2.2.2.1
  have C1 := Cu_t C
  have m1 := m_gWho (N := N) C1 a
  rw [h] at m1
  obtain ⟨p, hp, rfl⟩ := isI_t.mp h
  by_cases b0 : b = (0 : Int32)
  · have q0 : (b = (0 : Int32)) = True := eq_true b0
    refine ⟨zB (sThere v p (v 0 5)), ?_, ?_⟩
    · have e := c_isThere (N := N) C.1 hF hp (show v 0 5 < 2 ^ 30 by omega)
      rw [← SC_night C.1.2] at e
      cases hs : sThere v p (v 0 5) with
      | false =>
        rw [hs] at e
        simp only [lkT, ↓q0, ↓cbnd e, ↓z2, ↓reduceIte]
        rfl
      | true =>
        rw [hs] at e
        simp only [lkT, ↓q0, ↓cbnd e, ↓z1, ↓reduceIte]
        rfl
    · have e : pX12_isThere N (0 : Int32) (nI p) (gI (setI w 16 0 2 (0 : Int32)) 16 0 64) (setI w 16 0 2 (0 : Int32)) = some (zB (sThere v p (v 0 5)), setI w 16 0 2 (0 : Int32)) := by
        rw [Cu_night C1]
        exact m_isThere (N := N) (b := 0) C1.2.1.1 C1.2.1.2.1 hF (by omega) hp (by omega)
      cases hs : sThere v p (v 0 5) with
      | false =>
        rw [hs] at e
        simp only [pX12_look, ↓cbnd m1, ↓z1, ↓q0, ↓cbnd e, ↓z2, ↓reduceIte]
        rfl
      | true =>
        rw [hs] at e
        simp only [pX12_look, ↓cbnd m1, ↓z1, ↓q0, ↓cbnd e, ↓reduceIte]
        rfl
  have q0 : (b = (0 : Int32)) = False := eq_false b0
  by_cases b1 : b = (1 : Int32)
  · have q1 : (b = (1 : Int32)) = True := eq_true b1
    refine ⟨nI (v 17 p), ?_, ?_⟩
    · have hlt : mkB (fun p => v 17 p == 1) (v 0 1) < 2 ^ 31 := Nat.lt_of_lt_of_le (mkB_lt _ _) (Nat.pow_le_pow_right (by omega) (by omega))
      have e : (gI w 13 0 3 >>> (nI p &&& (31 : Int32))) &&& (1 : Int32) = nI (v 17 p) := by
        rw [SC_gone C.1.2, bit_zB hlt (by omega), mkB_bit]
        have := WF_gone hF p
        rcases Nat.lt_or_ge 0 (v 17 p) with y | y
        · have y' : v 17 p = 1 := by omega
          simp [y', hp, zB]
        · have y' : v 17 p = 0 := by omega
          simp [y', zB]
      simp only [lkT, ↓q0, ↓q1, ↓e, ↓reduceIte]
    · have l : ldI (setI w 16 0 2 (0 : Int32)) 103 0 (nI p) 12 = some (nI (v 17 p)) := by
        rw [ldn (by omega) (by omega)]
        have := SM_gone C1.2.1.2.1 p hp
        rw [Nat.mul_zero, Nat.zero_add] at this
        rw [this]
      have := WF_gone hF p
      rcases Nat.lt_or_ge 0 (v 17 p) with y | y
      · have y' : v 17 p = 1 := by omega
        rw [y'] at l ⊢
        have z : (nI 1 = 0) = False := eq_false (by decide)
        simp only [pX12_look, ↓cbnd m1, ↓z1, ↓q0, ↓q1, ↓bnd l, ↓z, ↓reduceIte]
        rfl
      · have y' : v 17 p = 0 := by omega
        rw [y'] at l ⊢
        have z : (nI 0 = 0) = True := eq_true rfl
        simp only [pX12_look, ↓cbnd m1, ↓z1, ↓q0, ↓q1, ↓bnd l, ↓z, ↓reduceIte]
        rfl
  have q1 : (b = (1 : Int32)) = False := eq_false b1
  by_cases b2 : b = (2 : Int32)
  · have q2 : (b = (2 : Int32)) = True := eq_true b2
    refine ⟨nI (sBits v p (v 0 5)), ?_, ?_⟩
    · have e := c_known (N := N) C.1 hF hN hp (show v 0 5 < 2 ^ 30 by omega)
      rw [← SC_night C.1.2] at e
      rw [SC_night C.1.2] at e
      have e' : pX9_knownBits N 0 (nI p) (gI w 13 0 1) w = some (nI (sBits v p (v 0 5)), w) := by rw [SC_night C.1.2]; exact e
      simp only [lkT, ↓q0, ↓q1, ↓q2, ↓cbnd e', ↓reduceIte]
    · have e : pX12_knownBy N (0 : Int32) (nI p) (gI (setI w 16 0 2 (0 : Int32)) 16 0 64) (setI w 16 0 2 (0 : Int32)) = some (nI (sBits v p (v 0 5)), setI w 16 0 2 (0 : Int32)) := by
        rw [Cu_night C1]
        exact m_knownBy (N := N) (b := 0) C1.2.1.1 C1.2.1.2.1 hF (by omega) hN hp (by omega)
      simp only [pX12_look, ↓cbnd m1, ↓z1, ↓q0, ↓q1, ↓q2, ↓cbnd e, ↓reduceIte]
  have q2 : (b = (2 : Int32)) = False := eq_false b2
  by_cases b3 : b = (3 : Int32)
  · have q3 : (b = (3 : Int32)) = True := eq_true b3
    refine ⟨nI (v 18 p), ?_, ?_⟩
    · have l : ldI w 60 0 (nI p) 6 = some (nI (v 18 p)) := by rw [ldn (by omega) (by omega), SC_times C.1.2 p hp]
      simp only [lkT, ↓q0, ↓q1, ↓q2, ↓q3, ↓bnd l, ↓reduceIte]
    · have l : ldI (setI w 16 0 2 (0 : Int32)) 104 0 (nI p) 12 = some (nI (v 18 p)) := by
        rw [ldn (by omega) (by omega)]
        have := SM_times C1.2.1.2.1 p hp
        rw [Nat.mul_zero, Nat.zero_add] at this
        rw [this]
      simp only [pX12_look, ↓cbnd m1, ↓z1, ↓q0, ↓q1, ↓q2, ↓q3, ↓bnd l, ↓reduceIte]
  have q3 : (b = (3 : Int32)) = False := eq_false b3
  by_cases b4 : b = (4 : Int32)
  · have q4 : (b = (4 : Int32)) = True := eq_true b4
    refine ⟨nI (v 5 p), ?_, ?_⟩
    · have l : ldI w 50 (gR w 15 0 2) (nI p) 6 = some (nI (v 5 p)) := by rw [ldn (by omega) (by omega), TC_cost (Cu_T C) p hp]
      simp only [lkT, ↓q0, ↓q1, ↓q2, ↓q3, ↓q4, ↓bnd l, ↓reduceIte]
    · have l : ldI (setI w 16 0 2 (0 : Int32)) 80 0 (nI p) 12 = some (nI (v 5 p)) := by
        rw [ldn (by omega) (by omega)]
        have := TM_cost C1.2.1.1 p hp
        rw [this]
      simp only [pX12_look, ↓cbnd m1, ↓z1, ↓q0, ↓q1, ↓q2, ↓q3, ↓q4, ↓bnd l, ↓reduceIte]
  have q4 : (b = (4 : Int32)) = False := eq_false b4
  by_cases b5 : b = (5 : Int32)
  · have q5 : (b = (5 : Int32)) = True := eq_true b5
    refine ⟨lst (v 19 p), ?_, ?_⟩
    · have l : ldI w 63 0 (nI p) 6 = some (lst (v 19 p)) := by rw [ldn (by omega) (by omega), SC_lost C.1.2 p hp]
      simp only [lkT, ↓q0, ↓q1, ↓q2, ↓q3, ↓q4, ↓q5, ↓bnd l, ↓reduceIte]
    · have l : ldI (setI w 16 0 2 (0 : Int32)) 105 0 (nI p) 12 = some (lst (v 19 p)) := by
        rw [ldn (by omega) (by omega)]
        have := SM_lost C1.2.1.2.1 p hp
        rw [Nat.mul_zero, Nat.zero_add] at this
        rw [this]
      simp only [pX12_look, ↓cbnd m1, ↓z1, ↓q0, ↓q1, ↓q2, ↓q3, ↓q4, ↓q5, ↓bnd l, ↓reduceIte]
  have q5 : (b = (5 : Int32)) = False := eq_false b5
  exact absurd hb (fun z => by
    rcases z with z | z | z | z | z | z
    · exact b0 z
    · exact b1 z
    · exact b2 z
    · exact b3 z
    · exact b4 z
    · exact b5 z)
/-- what the reference leaves -/
theorem Iv_look (h : Iv w v) (x : Int32) : Iv (setI (setI w 16 0 2 (0 : Int32)) 16 0 2 x) v := Iv_fr (l := [17002]) (Fr_setI (Fr_setI (Fr_refl _ _) rfl) rfl) h
theorem Iv_look0 (h : Iv w v) : Iv (setI w 16 0 2 (0 : Int32)) v := Iv_fr (l := [17002]) (Fr_setI (Fr_refl _ _) rfl) h
end

/-! ===== copies of the stand ===== -/
def kCp : List Nat := [14000, 14001, 14002, 14003, 14007, 60, 62, 63, 64, 65]
theorem c_copyFrom {N : Nat} {w : Wd} {i0 i1 : Nat} {v : Vw} (hi : i0 ≠ i1) (hR : RC w i1 v) (hF : WF v) (hN : 100 ≤ N) :
    Ok (pX9_copyFrom N i0 i1 w) (fun w' => Fr kCp w w' ∧ SFr i0 w w' ∧ RC w' i0 v ∧ gL w' 13 i0 2 = gL w 13 i1 2 ∧ gR w' 13 i0 0 = gR w 13 i1 0) := by
  have hp6 := WF_people hF
  have hs12 := WF_slides hF
  obtain ⟨T, S⟩ := hR
  have hi' : i1 ≠ i0 := fun z => hi z.symm
  /- what stands once the first fields are copied -/
  have last : ∀ w1, (Fr kCp w w1 ∧ SFr i0 w w1 ∧ gR w1 13 i0 0 = gR w 13 i1 0 ∧ gI w1 13 i0 1 = gI w 13 i1 1 ∧ gL w1 13 i0 2 = gL w 13 i1 2 ∧ gI w1 13 i0 3 = gI w 13 i1 3 ∧
      (∀ p, p < 6 → gI w1 60 i0 p = gI w 60 i1 p ∧ gI w1 63 i0 p = gI w 63 i1 p ∧ ∀ k, k < 8 → gI w1 62 (p + 6 * i0) k = gI w 62 (p + 6 * i1) k)) →
      Ok (fX9_copyFrom_51 N i0 i1 w1) (fun w' => Fr kCp w w' ∧ SFr i0 w w' ∧ RC w' i0 v ∧ gL w' 13 i0 2 = gL w 13 i1 2 ∧ gR w' 13 i0 0 = gR w 13 i1 0) := by
    rintro w1 ⟨f1, s1, a0, a1, a2, a3, a4⟩
    have b7 : gI w1 13 i1 7 = gI w 13 i1 7 := (s1 13 i1 7 (by simpa using hi') (Or.inl rfl)).1
    have b64 : ∀ j, gI w1 64 i1 j = gI w 64 i1 j := fun j => (s1 64 i1 j (by simpa using hi') (Or.inr ⟨by omega, by omega⟩)).1
    have b65 : ∀ j, gI w1 65 i1 j = gI w 65 i1 j := fun j => (s1 65 i1 j (by simpa using hi') (Or.inr ⟨by omega, by omega⟩)).1
    have l1 : cpI (setI w1 13 i0 7 (gI w1 13 i1 7)) 64 i1 (0 : Int32) 12 64 i0 (0 : Int32) 12 (12 : Int32) = some (setRowI (setI w1 13 i0 7 (gI w1 13 i1 7)) 64 i0 (va_cpy (gI (setI w1 13 i0 7 (gI w1 13 i1 7)) 64 i1) (gI (setI w1 13 i0 7 (gI w1 13 i1 7)) 64 i0) 0 0 12)) := cpn (sp := 0) (dp := 0) (n := 12) (by omega) (by omega) (by omega) (by omega)
    generalize hw2 : setRowI (setI w1 13 i0 7 (gI w1 13 i1 7)) 64 i0 (va_cpy (gI (setI w1 13 i0 7 (gI w1 13 i1 7)) 64 i1) (gI (setI w1 13 i0 7 (gI w1 13 i1 7)) 64 i0) 0 0 12) = w2 at l1
    have l2 : cpI w2 65 i1 (0 : Int32) 12 65 i0 (0 : Int32) 12 (12 : Int32) = some (setRowI w2 65 i0 (va_cpy (gI w2 65 i1) (gI w2 65 i0) 0 0 12)) := cpn (sp := 0) (dp := 0) (n := 12) (by omega) (by omega) (by omega) (by omega)
    simp only [fX9_copyFrom_51, ↓bnd l1, ↓bnd l2]
    have f2 : Fr kCp w w2 := by rw [← hw2]; exact Fr_row (Fr_setI f1 rfl) (fun _ => rfl)
    have s2 : SFr i0 w w2 := by rw [← hw2]; exact SFr_row (SFr_setI s1 rfl) rfl
    have c13 : ∀ j, j ≠ 7 → gI w2 13 i0 j = gI w1 13 i0 j := by
      intro j hj
      rw [← hw2, gg_row, if_neg (by omega), gg_I, if_neg (by omega)]
    have c137 : gI w2 13 i0 7 = gI w 13 i1 7 := by
      rw [← hw2, gg_row, if_neg (by omega), gg_I, if_pos ⟨rfl, rfl, rfl⟩, b7]
    have cL : gL w2 13 i0 2 = gL w1 13 i0 2 := by rw [← hw2, gg_Lrow, gg_LI]
    have cR : gR w2 13 i0 0 = gR w1 13 i0 0 := by rw [← hw2, gg_Rrow, gg_RI]
    have c64 : ∀ j, j < 12 → gI w2 64 i0 j = gI w 64 i1 j := by
      intro j hj
      rw [← hw2, gg_row, if_pos ⟨rfl, rfl⟩, pk_cpy_in (by omega) (by omega), gg_I, if_neg (by omega), b64]
      simp
    have cK : ∀ k i j, k ≠ 13 → k ≠ 64 → gI w2 k i j = gI w1 k i j := by
      intro k i j h1 h2
      rw [← hw2, gg_row, if_neg (by omega), gg_I, if_neg (by omega)]
    have f3 : Fr kCp w (setRowI w2 65 i0 (va_cpy (gI w2 65 i1) (gI w2 65 i0) 0 0 12)) := Fr_row f2 (fun _ => rfl)
    have s3 : SFr i0 w (setRowI w2 65 i0 (va_cpy (gI w2 65 i1) (gI w2 65 i0) 0 0 12)) := SFr_row s2 rfl
    have dK : ∀ k i j, k ≠ 65 → gI (setRowI w2 65 i0 (va_cpy (gI w2 65 i1) (gI w2 65 i0) 0 0 12)) k i j = gI w2 k i j := by
      intro k i j h1
      rw [gg_row, if_neg (by omega)]
    have eR : gR (setRowI w2 65 i0 (va_cpy (gI w2 65 i1) (gI w2 65 i0) 0 0 12)) 13 i0 0 = gR w 13 i1 0 := by rw [gg_Rrow, cR, a0]
    refine ok_some ⟨f3, s3, ⟨?_, ?_⟩, ?_, eR⟩
    · rw [eR]
      exact TC_fr f3 T
    · refine ⟨?_, ?_, ?_, ?_, ?_, ?_, ?_, ?_⟩
      · rw [dK _ _ _ (by omega), c13 1 (by omega), a1]; exact SC_night S
      · rw [dK _ _ _ (by omega), c137]; exact SC_slides S
      · intro j hj; rw [dK _ _ _ (by omega), c64 j (by omega)]; exact SC_spart S j hj
      · intro j hj
        rw [gg_row, if_pos ⟨rfl, rfl⟩, pk_cpy_in (by omega) (by omega), cK 65 _ _ (by omega) (by omega), b65]
        simp only [Nat.zero_add, Nat.sub_zero]
        exact SC_snight S j hj
      · intro p k h1 h2
        rw [dK _ _ _ (by omega), cK 62 _ _ (by omega) (by omega), (a4 p (by omega)).2.2 k h2]; exact SC_learned S p k h1 h2
      · rw [dK _ _ _ (by omega), c13 3 (by omega), a3]; exact SC_gone S
      · intro j hj; rw [dK _ _ _ (by omega), cK 60 _ _ (by omega) (by omega), (a4 j (by omega)).1]; exact SC_times S j hj
      · intro j hj; rw [dK _ _ _ (by omega), cK 63 _ _ (by omega) (by omega), (a4 j (by omega)).2.1]; exact SC_lost S j hj
    · rw [gg_Lrow, cL, a2]
  have key : ∀ fuel c w1, c ≤ 6 → 6 - c < fuel → (Fr kCp w w1 ∧ SFr i0 w w1 ∧ gR w1 13 i0 0 = gR w 13 i1 0 ∧ gI w1 13 i0 1 = gI w 13 i1 1 ∧ gL w1 13 i0 2 = gL w 13 i1 2 ∧ gI w1 13 i0 3 = gI w 13 i1 3 ∧
      (∀ p, p < c → gI w1 60 i0 p = gI w 60 i1 p ∧ gI w1 63 i0 p = gI w 63 i1 p ∧ ∀ k, k < 8 → gI w1 62 (p + 6 * i0) k = gI w 62 (p + 6 * i1) k)) →
      Ok (fX9_copyFrom_18 N i0 i1 fuel (fX9_copyFrom_51 N i0 i1) (nI c) w1) (fun w' => Fr kCp w w' ∧ SFr i0 w w' ∧ RC w' i0 v ∧ gL w' 13 i0 2 = gL w 13 i1 2 ∧ gR w' 13 i0 0 = gR w 13 i1 0) := by
    intro fuel
    induction fuel with
    | zero => intro c _ _ h; omega
    | succ f ih =>
      intro c w1 hc hf hI
      rcases Nat.lt_or_ge c 6 with h | h
      · obtain ⟨f1, s1, a0, a1, a2, a3, a4⟩ := hI
        have lt : (nI c < (6 : Int32)) = True := eq_true ((nI_ltI (a := c) (b := 6) (by omega) (by omega)).mpr h)
        have b60 : gI w1 60 i1 c = gI w 60 i1 c := (s1 60 i1 c (by simpa using hi') (Or.inr ⟨by omega, by omega⟩)).1
        have b63 : gI w1 63 i1 c = gI w 63 i1 c := (s1 63 i1 c (by simpa using hi') (Or.inr ⟨by omega, by omega⟩)).1
        have b62 : ∀ k, gI w1 62 (c + 6 * i1) k = gI w 62 (c + 6 * i1) k := fun k => (s1 62 (c + 6 * i1) k (by rw [if_pos rfl]; omega) (Or.inr ⟨by omega, by omega⟩)).1
        have l1 : ldI w1 60 i1 (nI c) 6 = some (gI w 60 i1 c) := by rw [ldn h (by omega), b60]
        have l2 : stI w1 60 i0 (nI c) 6 (gI w 60 i1 c) = some (setI w1 60 i0 c (gI w 60 i1 c)) := stn h (by omega)
        have l3 : ldI (setI w1 60 i0 c (gI w 60 i1 c)) 63 i1 (nI c) 6 = some (gI w 63 i1 c) := by rw [ldn h (by omega), gg_I, if_neg (by omega), b63]
        have l4 : stI (setI w1 60 i0 c (gI w 60 i1 c)) 63 i0 (nI c) 6 (gI w 63 i1 c) = some (setI (setI w1 60 i0 c (gI w 60 i1 c)) 63 i0 c (gI w 63 i1 c)) := stn h (by omega)
        have l5 : ldR (nI c) 6 i1 = some (c + 6 * i1) := ldRn h (by omega)
        have l6 : ldR (nI c) 6 i0 = some (c + 6 * i0) := ldRn h (by omega)
        generalize hw4 : setI (setI w1 60 i0 c (gI w 60 i1 c)) 63 i0 c (gI w 63 i1 c) = w4 at l4
        have f4 : Fr kCp w w4 := by rw [← hw4]; exact Fr_setI (Fr_setI f1 rfl) rfl
        have s4 : SFr i0 w w4 := by rw [← hw4]; exact SFr_setI (SFr_setI s1 rfl) rfl
        have l7 : cpI w4 62 (c + 6 * i1) (0 : Int32) 8 62 (c + 6 * i0) (0 : Int32) 8 (8 : Int32) = some (setRowI w4 62 (c + 6 * i0) (va_cpy (gI w4 62 (c + 6 * i1)) (gI w4 62 (c + 6 * i0)) 0 0 8)) := cpn (sp := 0) (dp := 0) (n := 8) (by omega) (by omega) (by omega) (by omega)
        simp only [fX9_copyFrom_18, ↓lt, ↓bnd l1, ↓bnd l2, ↓bnd l3, ↓bnd l4, ↓bnd l5, ↓bnd l6, ↓bnd l7, ↓reduceIte, callW_eq, li1, nI_add]
        have g13 : ∀ j, gI w4 13 i0 j = gI w1 13 i0 j := fun j => by rw [← hw4, gg_I, if_neg (by omega), gg_I, if_neg (by omega)]
        have g62 : ∀ i j, gI w4 62 i j = gI w1 62 i j := fun i j => by rw [← hw4, gg_I, if_neg (by omega), gg_I, if_neg (by omega)]
        refine ih (c + 1) _ (by omega) (by omega) ⟨Fr_row f4 (fun _ => rfl), SFr_row s4 (by rw [if_pos rfl]; omega), ?_, ?_, ?_, ?_, ?_⟩
        · rw [gg_Rrow, ← hw4]; exact a0
        · rw [gg_row, if_neg (by omega), g13]; exact a1
        · rw [gg_Lrow, ← hw4]; exact a2
        · rw [gg_row, if_neg (by omega), g13]; exact a3
        · intro p hp
          refine ⟨?_, ?_, fun k hk => ?_⟩
          · rw [gg_row, if_neg (by omega), ← hw4, gg_I, if_neg (by omega), gg_I]
            by_cases y : p = c
            · subst y; rw [if_pos ⟨rfl, rfl, rfl⟩]
            · rw [if_neg (fun z => y z.2.2)]; exact (a4 p (by omega)).1
          · rw [gg_row, if_neg (by omega), ← hw4, gg_I]
            by_cases y : p = c
            · subst y; rw [if_pos ⟨rfl, rfl, rfl⟩]
            · rw [if_neg (fun z => y z.2.2), gg_I, if_neg (by omega)]; exact (a4 p (by omega)).2.1
          · rw [gg_row]
            by_cases y : p = c
            · subst y
              rw [if_pos ⟨rfl, rfl⟩, pk_cpy_in (by omega) (by omega), g62, b62]
              simp
            · rw [if_neg (fun z => y (by have := z.2; omega)), g62]; exact (a4 p (by omega)).2.2 k hk
      · have : c = 6 := by omega
        subst this
        have lt : (nI 6 < (6 : Int32)) = False := eq_false (by decide)
        simp only [fX9_copyFrom_18, ↓lt, ↓reduceIte]
        exact last w1 hI
  unfold pX9_copyFrom
  dsimp only
  rw [callW_eq, li0]
  refine key N 0 _ (by omega) (by omega) ⟨Fr_setI (Fr_setL (Fr_setI (Fr_setR (Fr_refl _ _) rfl) rfl) rfl) rfl, SFr_setI (SFr_setL (SFr_setI (SFr_setR (SFr_refl _ _) rfl) rfl) rfl) rfl, ?_, ?_, ?_, ?_, fun p h => by omega⟩
  · simp only [gg_RI, gg_RL, gg_R, and_self, if_true]
  · have n1 : ¬ (1 : Nat) = 3 := by omega
    simp only [gg_I, gg_IL, gg_IR, n1, and_false, if_false, and_self, if_true]
  · simp only [gg_LI, gg_L, gg_LR, and_self, if_true]
  · have n1 : ¬ i1 = i0 := hi'
    simp only [gg_I, gg_IL, gg_IR, and_self, if_true, n1, false_and, and_false, if_false]
theorem and1 {x : Nat} (h : x ≤ 1) : nI x &&& 1 = nI x := by
  rcases (show x = 0 ∨ x = 1 by omega) with rfl | rfl <;> decide
theorem and1z (b : Bool) : zB b &&& 1 = zB b := by cases b <;> decide
theorem m_layTried {N : Nat} {w : Wd} {v : Vw} (S : SM w 0 v) (hF : WF v) (hN : 100 ≤ N) :
    Ok (pX12_layTried N w) (fun w' => Fr [101, 102, 103, 104, 105] w w' ∧ BFr 1 w w' ∧ SM w' 1 (noLost v)) := by
  have h1 := WF_people hF
  have second : ∀ fuel c w1, c ≤ 6 → 6 - c < fuel → (Fr [101, 102, 103, 104, 105] w w1 ∧ BFr 1 w w1 ∧ (∀ k, k < 48 → gI w1 101 0 (48 + k) = gI w 101 0 k ∧ gI w1 102 0 (48 + k) = gI w 102 0 k &&& 1) ∧
      (∀ p, p < c → gI w1 103 0 (6 + p) = gI w 103 0 p &&& 1 ∧ gI w1 104 0 (6 + p) = gI w 104 0 p ∧ gI w1 105 0 (6 + p) = -nI 1)) →
      Ok (fX12_layTried_29 N fuel (nI c) w1) (fun w' => Fr [101, 102, 103, 104, 105] w w' ∧ BFr 1 w w' ∧ SM w' 1 (noLost v)) := by
    intro fuel
    induction fuel with
    | zero => intro c _ _ h; omega
    | succ f ih =>
      intro c w1 hc hf hI
      obtain ⟨i1, i2, i3, i4⟩ := hI
      rcases Nat.lt_or_ge c 6 with h | h
      · have lt : (nI c < (6 : Int32)) = True := eq_true ((nI_ltI (a := c) (b := 6) (by omega) (by omega)).mpr h)
        have b103 : gI w1 103 0 c = gI w 103 0 c := i2.2.1 103 c (by omega) (by omega)
        have b104 : gI w1 104 0 c = gI w 104 0 c := i2.2.1 104 c (by omega) (by omega)
        have ix : (6 : Int32) + nI c = nI (6 + c) := nI_add 6 c
        have l1 : ldI w1 103 0 (nI c) 12 = some (gI w 103 0 c) := by rw [ldn (by omega) (by omega), b103]
        have l2 : stI w1 103 0 ((6 : Int32) + nI c) 12 (gI w 103 0 c &&& 1) = some (setI w1 103 0 (6 + c) (gI w 103 0 c &&& 1)) := by rw [ix]; exact stn (by omega) (by omega)
        have l3 : ldI (setI w1 103 0 (6 + c) (gI w 103 0 c &&& 1)) 104 0 (nI c) 12 = some (gI w 104 0 c) := by rw [ldn (by omega) (by omega), gg_I, if_neg (by omega), b104]
        have l4 : stI (setI w1 103 0 (6 + c) (gI w 103 0 c &&& 1)) 104 0 ((6 : Int32) + nI c) 12 (gI w 104 0 c) = some (setI (setI w1 103 0 (6 + c) (gI w 103 0 c &&& 1)) 104 0 (6 + c) (gI w 104 0 c)) := by rw [ix]; exact stn (by omega) (by omega)
        have l5 : stI (setI (setI w1 103 0 (6 + c) (gI w 103 0 c &&& 1)) 104 0 (6 + c) (gI w 104 0 c)) 105 0 ((6 : Int32) + nI c) 12 (-1 : Int32) = some (setI (setI (setI w1 103 0 (6 + c) (gI w 103 0 c &&& 1)) 104 0 (6 + c) (gI w 104 0 c)) 105 0 (6 + c) (-nI 1)) := by rw [ix]; exact stn (by omega) (by omega)
        simp only [fX12_layTried_29, ↓lt, ↓bnd l1, ↓bnd l2, ↓bnd l3, ↓bnd l4, ↓bnd l5, ↓reduceIte, callW_eq, li1, nI_add]
        refine ih (c + 1) _ (by omega) (by omega) ⟨Fr_setI (Fr_setI (Fr_setI i1 rfl) rfl) rfl, BFr_set (BFr_set (BFr_set i2 (Or.inr ⟨by omega, by omega⟩)) (Or.inr ⟨by omega, by omega⟩)) (Or.inr ⟨by omega, by omega⟩), fun k hk => ?_, fun p hp => ?_⟩
        · rw [gg_I, if_neg (by omega), gg_I, if_neg (by omega), gg_I, if_neg (by omega), gg_I, if_neg (by omega), gg_I, if_neg (by omega), gg_I, if_neg (by omega)]
          exact i3 k hk
        · by_cases y : p = c
          · subst y
            refine ⟨?_, ?_, ?_⟩
            · rw [gg_I, if_neg (by omega), gg_I, if_neg (by omega), gg_I, if_pos ⟨rfl, rfl, rfl⟩]; rfl
            · rw [gg_I, if_neg (by omega), gg_I, if_pos ⟨rfl, rfl, rfl⟩]
            · rw [gg_I, if_pos ⟨rfl, rfl, rfl⟩]
          · refine ⟨?_, ?_, ?_⟩
            · rw [gg_I, if_neg (by omega), gg_I, if_neg (by omega), gg_I, if_neg (by omega)]; exact (i4 p (by omega)).1
            · rw [gg_I, if_neg (by omega), gg_I, if_neg (by omega), gg_I, if_neg (by omega)]; exact (i4 p (by omega)).2.1
            · rw [gg_I, if_neg (by omega), gg_I, if_neg (by omega), gg_I, if_neg (by omega)]; exact (i4 p (by omega)).2.2
      · have : c = 6 := by omega
        subst this
        have lt : (nI 6 < (6 : Int32)) = False := eq_false (by decide)
        simp only [fX12_layTried_29, ↓lt, ↓reduceIte]
        refine ok_some ⟨i1, i2, ?_, ?_, ?_, ?_, ?_⟩
        · intro p k hp hk
          have hp' : p < v 0 1 := hp
          have e : gI w 101 0 (48 * 0 + 8 * p + k) = lrm (v 16 (8 * p + k)) := SM_learned S p k hp hk
          rw [show 48 * 0 + 8 * p + k = 8 * p + k by omega] at e
          rw [show 48 * 1 + 8 * p + k = 48 + (8 * p + k) by omega, (i3 (8 * p + k) (by omega)).1, e]
          rfl
        · intro p k hp hk
          have hp' : p < v 0 1 := hp
          have e : gI w 102 0 (48 * 0 + 8 * p + k) = zB (v 16 (8 * p + k) == 1) := SM_fresh S p k hp hk
          rw [show 48 * 0 + 8 * p + k = 8 * p + k by omega] at e
          rw [show 48 * 1 + 8 * p + k = 48 + (8 * p + k) by omega, (i3 (8 * p + k) (by omega)).2, e, and1z]
          rfl
        · intro p hp
          have hp' : p < v 0 1 := hp
          have e : gI w 103 0 (6 * 0 + p) = nI (v 17 p) := SM_gone S p hp
          rw [show 6 * 0 + p = p by omega] at e
          rw [show 6 * 1 + p = 6 + p by omega, (i4 p (by omega)).1, e, and1 (WF_gone hF p)]
          rfl
        · intro p hp
          have hp' : p < v 0 1 := hp
          have e : gI w 104 0 (6 * 0 + p) = nI (v 18 p) := SM_times S p hp
          rw [show 6 * 0 + p = p by omega] at e
          rw [show 6 * 1 + p = 6 + p by omega, (i4 p (by omega)).2.1, e]
          rfl
        · intro p hp
          have hp' : p < v 0 1 := hp
          rw [show 6 * 1 + p = 6 + p by omega, (i4 p (by omega)).2.2]
          rfl
  have first : ∀ fuel c w1, c ≤ 48 → 48 - c < fuel → (Fr [101, 102, 103, 104, 105] w w1 ∧ BFr 1 w w1 ∧ (∀ k, k < c → gI w1 101 0 (48 + k) = gI w 101 0 k ∧ gI w1 102 0 (48 + k) = gI w 102 0 k &&& 1)) →
      Ok (fX12_layTried_2 N fuel (fX12_layTried_27 N) (nI c) w1) (fun w' => Fr [101, 102, 103, 104, 105] w w' ∧ BFr 1 w w' ∧ SM w' 1 (noLost v)) := by
    intro fuel
    induction fuel with
    | zero => intro c _ _ h; omega
    | succ f ih =>
      intro c w1 hc hf hI
      obtain ⟨i1, i2, i3⟩ := hI
      rcases Nat.lt_or_ge c 48 with h | h
      · have lt : (nI c < (48 : Int32)) = True := eq_true ((nI_ltI (a := c) (b := 48) (by omega) (by omega)).mpr h)
        have b101 : gI w1 101 0 c = gI w 101 0 c := i2.1 101 c (by omega) (by omega)
        have b102 : gI w1 102 0 c = gI w 102 0 c := i2.1 102 c (by omega) (by omega)
        have ix : (48 : Int32) + nI c = nI (48 + c) := nI_add 48 c
        have l1 : ldI w1 101 0 (nI c) 96 = some (gI w 101 0 c) := by rw [ldn (by omega) (by omega), b101]
        have l2 : stI w1 101 0 ((48 : Int32) + nI c) 96 (gI w 101 0 c) = some (setI w1 101 0 (48 + c) (gI w 101 0 c)) := by rw [ix]; exact stn (by omega) (by omega)
        have l3 : ldI (setI w1 101 0 (48 + c) (gI w 101 0 c)) 102 0 (nI c) 96 = some (gI w 102 0 c) := by rw [ldn (by omega) (by omega), gg_I, if_neg (by omega), b102]
        have l4 : stI (setI w1 101 0 (48 + c) (gI w 101 0 c)) 102 0 ((48 : Int32) + nI c) 96 (gI w 102 0 c &&& 1) = some (setI (setI w1 101 0 (48 + c) (gI w 101 0 c)) 102 0 (48 + c) (gI w 102 0 c &&& 1)) := by rw [ix]; exact stn (by omega) (by omega)
        simp only [fX12_layTried_2, ↓lt, ↓bnd l1, ↓bnd l2, ↓bnd l3, ↓bnd l4, ↓reduceIte, callW_eq]
        have e1 : nI c + (1 : Int32) = nI (c + 1) := nI_add c 1
        rw [e1]
        refine ih (c + 1) _ (by omega) (by omega) ⟨Fr_setI (Fr_setI i1 rfl) rfl, BFr_set (BFr_set i2 (Or.inl ⟨by omega, by omega⟩)) (Or.inl ⟨by omega, by omega⟩), fun k hk => ?_⟩
        by_cases y : k = c
        · subst y
          refine ⟨?_, ?_⟩
          · rw [gg_I, if_neg (by omega), gg_I, if_pos ⟨rfl, rfl, rfl⟩]
          · rw [gg_I, if_pos ⟨rfl, rfl, rfl⟩]
        · refine ⟨?_, ?_⟩
          · rw [gg_I, if_neg (by omega), gg_I, if_neg (by omega)]; exact (i3 k (by omega)).1
          · rw [gg_I, if_neg (by omega), gg_I, if_neg (by omega)]; exact (i3 k (by omega)).2
      · have : c = 48 := by omega
        subst this
        have lt : (nI 48 < (48 : Int32)) = False := eq_false (by decide)
        simp only [fX12_layTried_2, fX12_layTried_27, ↓lt, ↓reduceIte, callW_eq, li0]
        exact second N 0 w1 (by omega) (by omega) ⟨i1, i2, i3, fun p h => by omega⟩
  unfold pX12_layTried
  rw [callW_eq, li0]
  exact first N 0 w (by omega) (by omega) ⟨Fr_refl _ _, BFr_refl _ _, fun k h => by omega⟩

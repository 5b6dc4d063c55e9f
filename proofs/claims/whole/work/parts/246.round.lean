/-! ===== part and round ===== -/
section
variable {N : Nat} {w : Wd} {v : Vw}
theorem c_knowers (C : Cu w v) (hN : 100 ≤ N) {k : Nat} (hk : k < v 0 0) : pX9_knowers N 0 (nI k) w = some (nI (cnt (fun p => sKnow v p k (v 0 5)) (v 0 1)), w) := by
  have hF := C.2.2.1
  have h1 := WF_people hF
  have h2 := WF_parts hF
  have hn := C.2.2.2.2.2.2.1
  have key : ∀ fuel c, c ≤ v 0 1 → v 0 1 - c < fuel → fX9_knowers_4 N 0 (nI k) fuel (nI (cnt (fun p => sKnow v p k (v 0 5)) c)) (nI c) w = some (nI (cnt (fun p => sKnow v p k (v 0 5)) (v 0 1)), w) := by
    intro fuel
    induction fuel with
    | zero => intro c _ h; omega
    | succ f ih =>
      intro c hc hf
      rcases Nat.lt_or_ge c (v 0 1) with h | h
      · have lt : (nI c < gI w 10 (gR w 13 0 0) 0) = True := eq_true (by rw [TC_people C.1.1]; exact (nI_ltI (by omega) (by omega)).mpr h)
        have e := c_known (N := N) C.1 hF hN h (show v 0 5 < 2 ^ 30 by omega)
        rw [← SC_night C.1.2] at e
        have hs := sBits_lt hF c (v 0 5)
        have eb : (nI (sBits v c (v 0 5)) >>> (nI k &&& (31 : Int32))) &&& (1 : Int32) = nI (if sKnow v c k (v 0 5) then 1 else 0) := by
          rw [bit_zB (by omega) (by omega), sBits_bit hk]
          cases sKnow v c k (v 0 5) <;> rfl
        have ea : nI (cnt (fun p => sKnow v p k (v 0 5)) c) + nI (if sKnow v c k (v 0 5) then 1 else 0) = nI (cnt (fun p => sKnow v p k (v 0 5)) (c + 1)) := nI_add _ _
        have e1 : nI c + (1 : Int32) = nI (c + 1) := nI_add c 1
        simp only [fX9_knowers_4, ↓lt, ↓cbnd e, ↓eb, ↓ea, ↓e1, ↓reduceIte, callW_eq]
        exact ih (c + 1) (by omega) (by omega)
      · have : c = v 0 1 := by omega
        subst this
        have lt : (nI (v 0 1) < gI w 10 (gR w 13 0 0) 0) = False := eq_false (fun z => by
          rw [TC_people C.1.1] at z
          have := (nI_ltI (by omega) (by omega)).mp z
          omega)
        simp only [fX9_knowers_4, ↓lt, ↓reduceIte]
  unfold pX9_knowers
  rw [callW_eq, li0]
  exact key N 0 (by omega) (by omega)
theorem m_knowers (C : Cu w v) (hN : 100 ≤ N) {k : Nat} (hk : k < v 0 0) : fX12_part_31 N (nI k) N (0 : Int32) (0 : Int32) w = some (nI (cnt (fun p => sKnow v p k (v 0 5)) (v 0 1)), w) := by
  have hF := C.2.2.1
  have h1 := WF_people hF
  have h2 := WF_parts hF
  have hn := C.2.2.2.2.2.2.1
  have key : ∀ fuel c, c ≤ v 0 1 → v 0 1 - c < fuel → fX12_part_31 N (nI k) fuel (nI (cnt (fun p => sKnow v p k (v 0 5)) c)) (nI c) w = some (nI (cnt (fun p => sKnow v p k (v 0 5)) (v 0 1)), w) := by
    intro fuel
    induction fuel with
    | zero => intro c _ h; omega
    | succ f ih =>
      intro c hc hf
      rcases Nat.lt_or_ge c (v 0 1) with h | h
      · have lt : (nI c < gI w 16 0 13) = True := eq_true (by rw [TM_people C.2.1.1]; exact (nI_ltI (by omega) (by omega)).mpr h)
        have e : pX12_hasKnown N (0 : Int32) (nI c) (nI k) (gI w 16 0 64) w = some (zB (sKnow v c k (v 0 5)), w) := by
          rw [Cu_night C]
          exact m_hasKnown (N := N) (b := 0) C.2.1.1 C.2.1.2.1 hF (by omega) hN h hk (by omega)
        have e1 : nI c + (1 : Int32) = nI (c + 1) := nI_add c 1
        have en := ih (c + 1) (by omega) (by omega)
        rw [cnt] at en
        cases hs : sKnow v c k (v 0 5) with
        | false =>
          rw [hs] at e en
          have ea : nI (cnt (fun p => sKnow v p k (v 0 5)) c) + (0 : Int32) = nI (cnt (fun p => sKnow v p k (v 0 5)) c + 0) := nI_add _ 0
          simp only [fX12_part_31, ↓lt, ↓cbnd e, ↓z2, ↓ea, ↓e1, ↓reduceIte, callW_eq]
          exact en
        | true =>
          rw [hs] at e en
          have ea : nI (cnt (fun p => sKnow v p k (v 0 5)) c) + (1 : Int32) = nI (cnt (fun p => sKnow v p k (v 0 5)) c + 1) := nI_add _ 1
          simp only [fX12_part_31, ↓lt, ↓cbnd e, ↓z1, ↓ea, ↓e1, ↓reduceIte, callW_eq]
          exact en
      · have : c = v 0 1 := by omega
        subst this
        have lt : (nI (v 0 1) < gI w 16 0 13) = False := eq_false (fun z => by
          rw [TM_people C.2.1.1] at z
          have := (nI_ltI (by omega) (by omega)).mp z
          omega)
        simp only [fX12_part_31, ↓lt, ↓reduceIte]
  have e := key N 0 (by omega) (by omega)
  exact e
theorem k_part (C : Cu w v) (hN : 2 ^ 23 ≤ N) (a b : Int32) : Both (pX11_part N a b) (pX12_part N a b) w := by
  have hF := C.2.2.1
  have h2 := WF_parts hF
  have hn := C.2.2.2.2.2.2.1
  have g1 := c_gPart (N := N) C a
  have m1 : ∀ w1, Fr kQ w w1 → pX12_isPart N a (setI w1 16 0 2 (0 : Int32)) = some (zB (isI a (v 0 0)), setI w1 16 0 2 (0 : Int32)) := fun w1 f1 => m_gPart (Cu_t (Cu_fr f1 C)) a
  cases ha : isI a (v 0 0) with
  | false =>
    rw [ha] at g1 m1
    refine Both_mk (x := (-1 : Int32)) ?_ (fun w1 f1 => ?_)
    · simp only [pX11_part, ↓cbnd g1, ↓z2, ↓reduceIte]
      exact ok_some ⟨Fr_refl _ _, rfl⟩
    · simp only [pX12_part, ↓cbnd (m1 w1 f1), ↓z2, ↓reduceIte]
      exact ok_some ⟨Fr_t, rfl⟩
  | true =>
    rw [ha] at g1 m1
    obtain ⟨k, hk, rfl⟩ := isI_t.mp ha
    by_cases b0 : b = (0 : Int32)
    · have q0 : (b = (0 : Int32)) = True := eq_true b0
      refine Both_mk (x := nI (v 2 k)) ?_ (fun w1 f1 => ?_)
      · have l2 : ldI w 31 (gR w 15 0 2) (nI k) 8 = some (nI (v 2 k)) := by rw [ldn (by omega) (by omega), TC_odds (Cu_T C) k hk]
        simp only [pX11_part, ↓cbnd g1, ↓z1, ↓q0, ↓bnd l2, ↓reduceIte]
        exact ok_some ⟨Fr_refl _ _, rfl⟩
      · have C1 := Cu_t (Cu_fr f1 C)
        have l2 : ldI (setI w1 16 0 2 (0 : Int32)) 76 0 (nI k) 16 = some (nI (v 2 k)) := by rw [ldn (by omega) (by omega), TM_odds C1.2.1.1 k hk]
        simp only [pX12_part, ↓cbnd (m1 w1 f1), ↓z1, ↓q0, ↓bnd l2, ↓reduceIte]
        exact ok_some ⟨Fr_t, rfl⟩
    have q0 : (b = (0 : Int32)) = False := eq_false b0
    by_cases b1 : b = (1 : Int32)
    · have q1 : (b = (1 : Int32)) = True := eq_true b1
      refine Both_mk (x := nI (v 3 k)) ?_ (fun w1 f1 => ?_)
      · have l2 : ldI w 32 (gR w 15 0 2) (nI k) 8 = some (nI (v 3 k)) := by rw [ldn (by omega) (by omega), TC_beside (Cu_T C) k hk]
        simp only [pX11_part, ↓cbnd g1, ↓z1, ↓q0, ↓q1, ↓bnd l2, ↓reduceIte]
        exact ok_some ⟨Fr_refl _ _, rfl⟩
      · have C1 := Cu_t (Cu_fr f1 C)
        have l2 : ldI (setI w1 16 0 2 (0 : Int32)) 77 0 (nI k) 16 = some (nI (v 3 k)) := by rw [ldn (by omega) (by omega), TM_beside C1.2.1.1 k hk]
        simp only [pX12_part, ↓cbnd (m1 w1 f1), ↓z1, ↓q0, ↓q1, ↓bnd l2, ↓reduceIte]
        exact ok_some ⟨Fr_t, rfl⟩
    have q1 : (b = (1 : Int32)) = False := eq_false b1
    by_cases b2 : b = (2 : Int32)
    · have q2 : (b = (2 : Int32)) = True := eq_true b2
      refine Both_mk (x := nI (sWant v k (v 0 5))) ?_ (fun w1 f1 => ?_)
      · have e : pX4_wantedOn N (gR w 15 0 2) (nI k) (gI w 13 0 1) w = some (nI (sWant v k (v 0 5)), w) := by
          rw [SC_night C.1.2]
          exact c_wanted (Cu_T C) hF (by omega) (by omega) (by omega)
        simp only [pX11_part, ↓cbnd g1, ↓z1, ↓q0, ↓q1, ↓q2, ↓cbnd e, ↓reduceIte]
        exact ok_some ⟨Fr_refl _ _, rfl⟩
      · have C1 := Cu_t (Cu_fr f1 C)
        have e : pX12_wantedOf N (nI k) (gI (setI w1 16 0 2 (0 : Int32)) 16 0 64) (setI w1 16 0 2 (0 : Int32)) = some (nI (sWant v k (v 0 5)), setI w1 16 0 2 (0 : Int32)) := by
          rw [Cu_night C1]
          exact m_wanted C1.2.1.1 hF (by omega) (by omega) (by omega)
        simp only [pX12_part, ↓cbnd (m1 w1 f1), ↓z1, ↓q0, ↓q1, ↓q2, ↓cbnd e, ↓reduceIte]
        exact ok_some ⟨Fr_t, rfl⟩
    have q2 : (b = (2 : Int32)) = False := eq_false b2
    by_cases b3 : b = (3 : Int32)
    · have q3 : (b = (3 : Int32)) = True := eq_true b3
      refine Both_mk (x := nI (cnt (fun p => sKnow v p k (v 0 5)) (v 0 1))) ?_ (fun w1 f1 => ?_)
      · have e := c_knowers (N := N) C (by omega) hk
        simp only [pX11_part, ↓cbnd g1, ↓z1, ↓q0, ↓q1, ↓q2, ↓q3, ↓cbnd e, ↓reduceIte]
        exact ok_some ⟨Fr_refl _ _, rfl⟩
      · have e := m_knowers (N := N) (Cu_t (Cu_fr f1 C)) (by omega) hk
        simp only [pX12_part, ↓cbnd (m1 w1 f1), ↓z1, ↓q0, ↓q1, ↓q2, ↓q3, ↓reduceIte, callW_eq]
        rw [e]
        exact ok_some ⟨Fr_t, rfl⟩
    · have q3 : (b = (3 : Int32)) = False := eq_false b3
      refine Both_mk (x := (-1 : Int32)) ?_ (fun w1 f1 => ?_)
      · simp only [pX11_part, ↓cbnd g1, ↓z1, ↓q0, ↓q1, ↓q2, ↓q3, ↓reduceIte]
        exact ok_some ⟨Fr_refl _ _, rfl⟩
      · simp only [pX12_part, ↓cbnd (m1 w1 f1), ↓z1, ↓q0, ↓q1, ↓q2, ↓q3, ↓reduceIte]
        exact ok_some ⟨Fr_t, rfl⟩
theorem e_not8 {x g : Nat} (hx : x < 2 ^ 32) (hg : g < 32) : nI x &&& (((1 : Int32) <<< (nI g &&& (31 : Int32))) ^^^ (-1 : Int32)) = nI (rmv x g) := by
  have e1 : (1 : Int32) <<< (nI g &&& (31 : Int32)) = nI (2 ^ g) := by
    rw [li1, li31, nz_and]
    exact nz_shl hg
  rw [e1]
  exact nz_not hx
theorem dI_neg {d : Nat} (h : d < 8 ∨ d = 99) : dI d < 0 ↔ d = 99 := by
  rcases h with h | h
  · rw [dI, if_neg (by omega)]
    exact ⟨fun z => absurd z (nz_ge0 (by omega)), fun z => by omega⟩
  · subst h; exact ⟨fun _ => rfl, fun _ => nz_neg2⟩
theorem k_round (C : Cu w v) (hN : 2 ^ 23 ≤ N) (a b : Int32) : Both (pX11_round N a b) (pX12_round N a b) w := by
  have hF := C.2.2.1
  have h2 := WF_parts hF
  have h3 := WF_parties hF
  have g1 := c_gParty (N := N) C a
  have g2 := c_gPart (N := N) C b
  have m1 : ∀ w1, Fr kQ w w1 → pX12_isParty N a (setI w1 16 0 2 (0 : Int32)) = some (zB (isI a (v 0 2)), setI w1 16 0 2 (0 : Int32)) := fun w1 f1 => m_gParty (Cu_t (Cu_fr f1 C)) a
  have m2 : ∀ w1, Fr kQ w w1 → pX12_isPart N b (setI w1 16 0 2 (0 : Int32)) = some (zB (isI b (v 0 0)), setI w1 16 0 2 (0 : Int32)) := fun w1 f1 => m_gPart (Cu_t (Cu_fr f1 C)) b
  cases ha : isI a (v 0 2) with
  | false =>
    rw [ha] at g1 m1
    refine Both_mk (x := (-1 : Int32)) ?_ (fun w1 f1 => ?_)
    · simp only [pX11_round, ↓cbnd g1, ↓z2, ↓reduceIte]
      exact ok_some ⟨Fr_refl _ _, rfl⟩
    · simp only [pX12_round, ↓cbnd (m1 w1 f1), ↓z2, ↓reduceIte]
      exact ok_some ⟨Fr_t, rfl⟩
  | true =>
    rw [ha] at g1 m1
    cases hb : isI b (v 0 0) with
    | false =>
      rw [hb] at g2 m2
      refine Both_mk (x := (-1 : Int32)) ?_ (fun w1 f1 => ?_)
      · simp only [pX11_round, ↓cbnd g1, ↓z1, ↓cbnd g2, ↓z2, ↓reduceIte]
        exact ok_some ⟨Fr_refl _ _, rfl⟩
      · simp only [pX12_round, ↓cbnd (m1 w1 f1), ↓z1, ↓cbnd (m2 w1 f1), ↓z2, ↓reduceIte]
        exact ok_some ⟨Fr_t, rfl⟩
    | true =>
      rw [hb] at g2 m2
      obtain ⟨q, hq, rfl⟩ := isI_t.mp ha
      obtain ⟨k, hk, rfl⟩ := isI_t.mp hb
      have hf := WF_pfrom hF q hq
      have ht := WF_pto hF q hq
      have hp8 := pw8 h2
      have h0 := Nat.two_pow_pos (v 0 0)
      have hA : 2 ^ v 0 0 - 1 < 2 ^ 8 := by omega
      have hR : rmv (2 ^ v 0 0 - 1) k < 2 ^ 8 := rmv_lt hA
      have eW : gD (v 3) (v 0 0) (alW k) (v 9 q) (v 10 q) = gD (v 3) (v 0 0) (rmv (2 ^ v 0 0 - 1) k) (v 9 q) (v 10 q) := gD_ext hf (WF_beside hF) (fun j hj => by
        rw [alW, mkB_bit, rmv_bit, Nat.testBit_two_pow_sub_one]
        have : j < 8 := by omega
        by_cases y : j = k
        · subst y; simp
        · have y' : ¬ k = j := fun z => y z.symm
          simp [y, y', hj, this])
      have d1 := gD_lt (v 3) (v 0 0) (2 ^ v 0 0 - 1) (v 9 q) (v 10 q)
      have d2 := gD_lt (v 3) (v 0 0) (rmv (2 ^ v 0 0 - 1) k) (v 9 q) (v 10 q)
      generalize hg1 : gD (v 3) (v 0 0) (2 ^ v 0 0 - 1) (v 9 q) (v 10 q) = s at d1
      generalize hg2 : gD (v 3) (v 0 0) (rmv (2 ^ v 0 0 - 1) k) (v 9 q) (v 10 q) = t at d2 eW
      refine Both_mk (x := if s = 99 ∨ k = v 9 q ∨ k = v 10 q then (-1 : Int32) else if t = 99 then (-2 : Int32) else nI t - nI s) ?_ (fun w1 f1 => ?_)
      · have l3 : ldI w 33 (gR w 15 0 2) (nI q) 8 = some (nI (v 9 q)) := by rw [ldn (by omega) (by omega), TC_pfrom (Cu_T C) q hq]
        have l4 : ldI w 34 (gR w 15 0 2) (nI q) 8 = some (nI (v 10 q)) := by rw [ldn (by omega) (by omega), TC_pto (Cu_T C) q hq]
        have e5 := c_allParts (N := N) (Cu_T C) hF
        have e6 := c_dist (N := N) (Cu_T C) hF (by omega) (show v 9 q < 8 by omega) (show v 10 q < 8 by omega) hA
        have e8 := c_dist (N := N) (Cu_T C) hF (by omega) (show v 9 q < 8 by omega) (show v 10 q < 8 by omega) hR
        have en := e_not8 (x := 2 ^ v 0 0 - 1) (g := k) (by omega) (by omega)
        rw [hg1] at e6
        rw [hg2] at e8
        have i1 := dI_neg d1
        have i2 := dI_neg d2
        by_cases y1 : s = 99
        · have c1 : (dI s < 0) = True := eq_true (i1.mpr y1)
          rw [if_pos (Or.inl y1)]
          simp only [pX11_round, ↓cbnd g1, ↓z1, ↓cbnd g2, ↓bnd l3, ↓bnd l4, ↓cbnd e5, ↓cbnd e6, ↓c1, ↓reduceIte]
          exact ok_some ⟨Fr_refl _ _, rfl⟩
        have c1 : (dI s < 0) = False := eq_false (fun z => y1 (i1.mp z))
        by_cases y2 : k = v 9 q
        · have c2 : (nI k = nI (v 9 q)) = True := eq_true (by rw [y2])
          rw [if_pos (Or.inr (Or.inl y2))]
          simp only [pX11_round, ↓cbnd g1, ↓z1, ↓cbnd g2, ↓bnd l3, ↓bnd l4, ↓cbnd e5, ↓cbnd e6, ↓c1, ↓c2, ↓reduceIte]
          exact ok_some ⟨Fr_refl _ _, rfl⟩
        have c2 : (nI k = nI (v 9 q)) = False := eq_false (fun z => y2 ((nI_eq (by omega) (by omega)).mp z))
        by_cases y3 : k = v 10 q
        · have c3 : (nI k = nI (v 10 q)) = True := eq_true (by rw [y3])
          rw [if_pos (Or.inr (Or.inr y3))]
          simp only [pX11_round, ↓cbnd g1, ↓z1, ↓cbnd g2, ↓bnd l3, ↓bnd l4, ↓cbnd e5, ↓cbnd e6, ↓c1, ↓c2, ↓c3, ↓reduceIte]
          exact ok_some ⟨Fr_refl _ _, rfl⟩
        have c3 : (nI k = nI (v 10 q)) = False := eq_false (fun z => y3 ((nI_eq (by omega) (by omega)).mp z))
        rw [if_neg (by omega)]
        by_cases y4 : t = 99
        · have c4 : (dI t < 0) = True := eq_true (i2.mpr y4)
          rw [if_pos y4]
          simp only [pX11_round, ↓cbnd g1, ↓z1, ↓cbnd g2, ↓bnd l3, ↓bnd l4, ↓cbnd e5, ↓cbnd e6, ↓c1, ↓c2, ↓c3, ↓en, ↓cbnd e8, ↓c4, ↓reduceIte]
          exact ok_some ⟨Fr_refl _ _, rfl⟩
        · have c4 : (dI t < 0) = False := eq_false (fun z => y4 (i2.mp z))
          rw [if_neg y4]
          simp only [pX11_round, ↓cbnd g1, ↓z1, ↓cbnd g2, ↓bnd l3, ↓bnd l4, ↓cbnd e5, ↓cbnd e6, ↓c1, ↓c2, ↓c3, ↓en, ↓cbnd e8, ↓c4, ↓reduceIte]
          refine ok_some ⟨Fr_refl _ _, ?_⟩
          show dI t - dI s = _
          rw [dI, dI, if_neg y4, if_neg y1]
      · have C1 := Cu_t (Cu_fr f1 C)
        have l3 : ldI (setI w1 16 0 2 (0 : Int32)) 84 0 (nI q) 16 = some (nI (v 9 q)) := by rw [ldn (by omega) (by omega), TM_pfrom C1.2.1.1 q hq]
        have l4 : ldI (setI w1 16 0 2 (0 : Int32)) 85 0 (nI q) 16 = some (nI (v 10 q)) := by rw [ldn (by omega) (by omega), TM_pto C1.2.1.1 q hq]
        have l7 : ldI (setI w1 16 0 2 (0 : Int32)) 107 0 ((8 : Int32) * nI (v 9 q) + nI (v 10 q)) 64 = some (nI s) := by
          rw [li8, pk_mul, nI_add, ldn (by omega) (by omega), C1.2.1.2.2.2 _ _ hf ht, hg1]
        by_cases y2 : k = v 9 q
        · have c2 : (nI (v 9 q) = nI k) = True := eq_true (by rw [y2])
          rw [if_pos (Or.inr (Or.inl y2))]
          simp only [pX12_round, ↓cbnd (m1 w1 f1), ↓z1, ↓cbnd (m2 w1 f1), ↓bnd l3, ↓c2, ↓reduceIte]
          exact ok_some ⟨Fr_t, rfl⟩
        have c2 : (nI (v 9 q) = nI k) = False := eq_false (fun z => y2 ((nI_eq (by omega) (by omega)).mp z.symm))
        by_cases y3 : k = v 10 q
        · have c3 : (nI (v 10 q) = nI k) = True := eq_true (by rw [y3])
          rw [if_pos (Or.inr (Or.inr y3))]
          simp only [pX12_round, ↓cbnd (m1 w1 f1), ↓z1, ↓cbnd (m2 w1 f1), ↓bnd l3, ↓c2, ↓bnd l4, ↓c3, ↓reduceIte]
          exact ok_some ⟨Fr_t, rfl⟩
        have c3 : (nI (v 10 q) = nI k) = False := eq_false (fun z => y3 ((nI_eq (by omega) (by omega)).mp z.symm))
        by_cases y1 : s = 99
        · have c1 : (nI s < (99 : Int32)) = False := eq_false (by rw [y1]; decide)
          rw [if_pos (Or.inl y1)]
          simp only [pX12_round, ↓cbnd (m1 w1 f1), ↓z1, ↓cbnd (m2 w1 f1), ↓bnd l3, ↓c2, ↓bnd l4, ↓c3, ↓bnd l7, ↓c1, ↓reduceIte]
          exact ok_some ⟨Fr_t, rfl⟩
        have c1 : (nI s < (99 : Int32)) = True := eq_true ((nI_ltI (b := 99) (by omega) (by omega)).mpr (by omega))
        rw [if_neg (by omega)]
        simp only [pX12_round, ↓cbnd (m1 w1 f1), ↓z1, ↓cbnd (m2 w1 f1), ↓bnd l3, ↓c2, ↓bnd l4, ↓c3, ↓bnd l7, ↓c1, ↓reduceIte, callW_eq]
        refine ok_bind (m_layWays (N := N) (kk := 108) (wo := k) C1.2.1.1 hF (by omega) rfl (by decide) (fun _ => rfl) (fun x hx => nI_eq (by omega) (by omega))) ?_
        rintro w2 ⟨j1, j2⟩
        have fr : Fr kQ w1 w2 := Fr_trans Fr_t (Fr_mono j1 rfl)
        have l9 : ldI w2 108 0 ((8 : Int32) * nI (v 9 q) + nI (v 10 q)) 64 = some (nI t) := by
          rw [li8, pk_mul, nI_add, ldn (by omega) (by omega), j2 _ _ (by omega) (by omega), eW]
        have l11 : ldI w2 107 0 ((8 : Int32) * nI (v 9 q) + nI (v 10 q)) 64 = some (nI s) := by
          rw [li8, pk_mul, nI_add, ldn (by omega) (by omega), (ST_fr j1 C1.2.1.2.2.2) _ _ hf ht, hg1]
        by_cases y4 : t = 99
        · have c4 : (nI t < (99 : Int32)) = False := eq_false (by rw [y4]; decide)
          rw [if_pos y4]
          simp only [↓bnd l9, ↓c4, ↓reduceIte]
          exact ok_some ⟨fr, rfl⟩
        · have c4 : (nI t < (99 : Int32)) = True := eq_true ((nI_ltI (b := 99) (by omega) (by omega)).mpr (by omega))
          rw [if_neg y4]
          simp only [↓bnd l9, ↓c4, ↓bnd l11, ↓reduceIte]
          exact ok_some ⟨fr, rfl⟩
end

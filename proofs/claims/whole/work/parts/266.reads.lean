/-! ===== calls: fault, count, named, wrongly, against, claim ===== -/
section
variable {N : Nat} {w : Wd} {v : Vw}
theorem Iv_t (h : Iv w v) : Iv (setI w 16 0 2 (0 : Int32)) v := Iv_fr (Fr_setI (l := [17002]) (Fr_refl _ _) rfl) h
theorem Sp_same {α : Type} {c m : Wd → Option (α × Wd)} {r : α} (h : Iv w v) (e1 : c w = some (r, w)) (e2 : m w = some (r, setI w 16 0 2 (0 : Int32))) : Sp c m w := ⟨r, w, _, e1, e2, v, Iv_t h⟩
theorem s_fault (h : Iv w v) (a : Int32) : Sp (pX11_fault N a) (pX12_fault N a) w := by
  have hf := h.2.2.2.2.1
  have e4 : gI (setI w 16 0 2 (0 : Int32)) 16 0 4 = gI w 11 0 8 := by rw [gg_I, if_neg (by omega)]; exact hf.1.symm
  have e5 : gI (setI w 16 0 2 (0 : Int32)) 16 0 5 = gI w 11 0 9 := by rw [gg_I, if_neg (by omega)]; exact hf.2.symm
  by_cases y : a = 0
  · have q : (a = 0) = True := eq_true y
    exact Sp_same h (by simp only [pX11_fault, ↓q, ↓reduceIte]; rfl) (by simp only [pX12_fault, ↓q, ↓reduceIte, e4])
  · have q : (a = 0) = False := eq_false y
    by_cases y1 : a = (1 : Int32)
    · have q1 : (a = (1 : Int32)) = True := eq_true y1
      exact Sp_same h (by simp only [pX11_fault, ↓q, ↓q1, ↓reduceIte]; rfl) (by simp only [pX12_fault, ↓q, ↓q1, ↓reduceIte, e5])
    · have q1 : (a = (1 : Int32)) = False := eq_false y1
      exact Sp_same h (by simp only [pX11_fault, ↓q, ↓q1, ↓reduceIte]; rfl) (by simp only [pX12_fault, ↓q, ↓q1, ↓reduceIte])
theorem m_manyGone (hN : 100 ≤ N) (T : TM w v) (S : SM w 0 v) (hF : WF v) : pX12_manyGone N w = some (nI (cnt (fun p => v 17 p == 1) (v 0 1)), w) := by
  have h1 := WF_people hF
  have key : ∀ fuel c, c ≤ v 0 1 → v 0 1 - c < fuel → fX12_manyGone_4 N fuel (nI (cnt (fun p => v 17 p == 1) c)) (nI c) w = some (nI (cnt (fun p => v 17 p == 1) (v 0 1)), w) := by
    intro fuel
    induction fuel with
    | zero => intro c _ h; omega
    | succ f ih =>
      intro c hc hf
      have e1 : nI c + (1 : Int32) = nI (c + 1) := nI_add c 1
      rcases Nat.lt_or_ge c (v 0 1) with y | y
      · have lt : (nI c < gI w 16 0 13) = True := eq_true (by rw [TM_people T]; exact (nI_ltI (by omega) (by omega)).mpr y)
        have l1 : ldI w 103 0 (nI c) 12 = some (nI (v 17 c)) := by
          have := SM_gone S c y
          rw [show 6 * 0 + c = c by omega] at this
          rw [ldn (by omega) (by omega), this]
        have hg := WF_gone hF c
        have en := ih (c + 1) (by omega) (by omega)
        rw [cnt] at en
        by_cases z : v 17 c = 1
        · have q : (nI (v 17 c) = 0) = False := eq_false (by rw [z]; decide)
          rw [z] at en
          have ea : nI (cnt (fun p => v 17 p == 1) c) + (1 : Int32) = nI (cnt (fun p => v 17 p == 1) c + 1) := nI_add _ 1
          simp only [fX12_manyGone_4, ↓lt, ↓bnd l1, ↓q, ↓ea, ↓e1, ↓reduceIte, callW_eq]
          exact en
        · have z0 : v 17 c = 0 := by omega
          have q : (nI (v 17 c) = 0) = True := eq_true (by rw [z0]; rfl)
          rw [z0] at en
          have ea : nI (cnt (fun p => v 17 p == 1) c) + (0 : Int32) = nI (cnt (fun p => v 17 p == 1) c + 0) := nI_add _ 0
          simp only [fX12_manyGone_4, ↓lt, ↓bnd l1, ↓q, ↓ea, ↓e1, ↓reduceIte, callW_eq]
          exact en
      · have : c = v 0 1 := by omega
        subst this
        have lt : (nI (v 0 1) < gI w 16 0 13) = False := eq_false (fun z => by
          rw [TM_people T] at z
          have := (nI_ltI (by omega) (by omega)).mp z
          omega)
        simp only [fX12_manyGone_4, ↓lt, ↓reduceIte]
  unfold pX12_manyGone
  rw [callW_eq]
  exact key N 0 (by omega) (by omega)
theorem s_count (h : Iv w v) (hN : 100 ≤ N) (a : Int32) : Sp (pX11_count N a) (pX12_count N a) w := by
  have C := h.1
  have hF := C.2.2.1
  have h1 := WF_people hF
  have T := C.1.1
  have S := C.1.2
  have TMx := C.2.1.1
  obtain ⟨u, ep, ex, _, u1, u2, _⟩ := h.2.2.2.2.2.1
  obtain ⟨e, ec, em, _⟩ := h.2.2.2.2.2.2.2.1
  have em5 := C.2.2.2.2.1
  have g : ∀ j, j ≠ 2 → gI (setI w 16 0 2 (0 : Int32)) 16 0 j = gI w 16 0 j := fun j hj => by rw [gg_I, if_neg (by omega)]
  have gb : pJ6_bitCount_0f7a4 N (gI w 13 0 3) w = some (nI (cnt (fun p => v 17 p == 1) (v 0 1)), w) := by
    rw [SC_gone S]
    have hlt := mkB_lt (fun p => v 17 p == 1) (v 0 1)
    have h64 : 2 ^ v 0 1 ≤ 2 ^ 6 := Nat.pow_le_pow_right (by omega) h1
    have := c_bits (N := N) (w := w) (x := mkB (fun p => v 17 p == 1) (v 0 1)) (by omega)
    rw [pc_mkB _ (by omega)] at this
    exact this
  have gk : pX4_knots N (gR w 15 0 2) w = some (nI (v 0 7), w) := by
    unfold pX4_knots
    rw [em5, TC_knots T]
  have C1 := Cu_t C
  have gm := m_manyGone (N := N) (w := setI w 16 0 2 (0 : Int32)) hN C1.2.1.1 C1.2.1.2.1 hF
  by_cases y0 : a = (0 : Int32)
  · have q0 : (a = (0 : Int32)) = True := eq_true y0
    have ee : gI w 8 (gR w 15 0 2) 0 = gI (setI w 16 0 2 (0 : Int32)) 16 0 12 := by rw [em5, TC_parts T, g 12 (by omega), TM_parts TMx]
    exact Sp_same h (r := gI w 8 (gR w 15 0 2) 0) (by simp only [pX11_count, ↓q0, ↓reduceIte]) (by simp only [pX12_count, ↓q0, ↓reduceIte, ee])
  have q0 : (a = (0 : Int32)) = False := eq_false y0
  by_cases y1 : a = (1 : Int32)
  · have q1 : (a = (1 : Int32)) = True := eq_true y1
    have ee : gI w 10 (gR w 15 0 2) 0 = gI (setI w 16 0 2 (0 : Int32)) 16 0 13 := by rw [em5, TC_people T, g 13 (by omega), TM_people TMx]
    exact Sp_same h (r := gI w 10 (gR w 15 0 2) 0) (by simp only [pX11_count, ↓q0, ↓q1, ↓reduceIte]) (by simp only [pX12_count, ↓q0, ↓q1, ↓reduceIte, ee])
  have q1 : (a = (1 : Int32)) = False := eq_false y1
  by_cases y2 : a = (2 : Int32)
  · have q2 : (a = (2 : Int32)) = True := eq_true y2
    have ee : gI w 8 (gR w 15 0 2) 5 = gI (setI w 16 0 2 (0 : Int32)) 16 0 14 := by rw [em5, TC_parties T, g 14 (by omega), TM_parties TMx]
    exact Sp_same h (r := gI w 8 (gR w 15 0 2) 5) (by simp only [pX11_count, ↓q0, ↓q1, ↓q2, ↓reduceIte]) (by simp only [pX12_count, ↓q0, ↓q1, ↓q2, ↓reduceIte, ee])
  have q2 : (a = (2 : Int32)) = False := eq_false y2
  by_cases y3 : a = (3 : Int32)
  · have q3 : (a = (3 : Int32)) = True := eq_true y3
    have ee : gI w 13 0 7 = gI (setI w 16 0 2 (0 : Int32)) 16 0 65 := by rw [SC_slides S, g 65 (by omega), TM_slides TMx]
    exact Sp_same h (r := gI w 13 0 7) (by simp only [pX11_count, ↓q0, ↓q1, ↓q2, ↓q3, ↓reduceIte]) (by simp only [pX12_count, ↓q0, ↓q1, ↓q2, ↓q3, ↓reduceIte, ee])
  have q3 : (a = (3 : Int32)) = False := eq_false y3
  by_cases y4 : a = (4 : Int32)
  · have q4 : (a = (4 : Int32)) = True := eq_true y4
    have ee : gI (setI w 16 0 2 (0 : Int32)) 16 0 19 = nI (v 0 7) := by rw [g 19 (by omega), TM_knots TMx]
    exact Sp_same h (r := nI (v 0 7)) (by simp only [pX11_count, ↓q0, ↓q1, ↓q2, ↓q3, ↓q4, ↓reduceIte, ↓cbnd gk]) (by simp only [pX12_count, ↓q0, ↓q1, ↓q2, ↓q3, ↓q4, ↓reduceIte, ee])
  have q4 : (a = (4 : Int32)) = False := eq_false y4
  by_cases y5 : a = (5 : Int32)
  · have q5 : (a = (5 : Int32)) = True := eq_true y5
    have ee : gI w 13 0 1 = gI (setI w 16 0 2 (0 : Int32)) 16 0 64 := by rw [SC_night S, g 64 (by omega), Cu_night C]
    exact Sp_same h (r := gI w 13 0 1) (by simp only [pX11_count, ↓q0, ↓q1, ↓q2, ↓q3, ↓q4, ↓q5, ↓reduceIte]) (by simp only [pX12_count, ↓q0, ↓q1, ↓q2, ↓q3, ↓q4, ↓q5, ↓reduceIte, ee])
  have q5 : (a = (5 : Int32)) = False := eq_false y5
  by_cases y6 : a = (6 : Int32)
  · have q6 : (a = (6 : Int32)) = True := eq_true y6
    have ee : gI w 4 0 0 = gI (setI w 16 0 2 (0 : Int32)) 16 0 93 := by rw [ec.1, g 93 (by omega), em.1]
    exact Sp_same h (r := gI w 4 0 0) (by simp only [pX11_count, ↓q0, ↓q1, ↓q2, ↓q3, ↓q4, ↓q5, ↓q6, ↓reduceIte]) (by simp only [pX12_count, ↓q0, ↓q1, ↓q2, ↓q3, ↓q4, ↓q5, ↓q6, ↓reduceIte, ee])
  have q6 : (a = (6 : Int32)) = False := eq_false y6
  by_cases y7 : a = (7 : Int32)
  · have q7 : (a = (7 : Int32)) = True := eq_true y7
    exact Sp_same h (r := nI (cnt (fun p => v 17 p == 1) (v 0 1))) (by simp only [pX11_count, ↓q0, ↓q1, ↓q2, ↓q3, ↓q4, ↓q5, ↓q6, ↓q7, ↓reduceIte, ↓cbnd gb]) (by simp only [pX12_count, ↓q0, ↓q1, ↓q2, ↓q3, ↓q4, ↓q5, ↓q6, ↓q7, ↓reduceIte, ↓cbnd gm])
  have q7 : (a = (7 : Int32)) = False := eq_false y7
  by_cases y8 : a = (8 : Int32)
  · have q8 : (a = (8 : Int32)) = True := eq_true y8
    have ee : gI w 15 0 8 = gI (setI w 16 0 2 (0 : Int32)) 16 0 74 := by rw [u1, g 74 (by omega), u2]
    exact Sp_same h (r := gI w 15 0 8) (by simp only [pX11_count, ↓q0, ↓q1, ↓q2, ↓q3, ↓q4, ↓q5, ↓q6, ↓q7, ↓q8, ↓reduceIte]) (by simp only [pX12_count, ↓q0, ↓q1, ↓q2, ↓q3, ↓q4, ↓q5, ↓q6, ↓q7, ↓q8, ↓reduceIte, ee])
  have q8 : (a = (8 : Int32)) = False := eq_false y8
  by_cases y9 : a = (9 : Int32)
  · have q9 : (a = (9 : Int32)) = True := eq_true y9
    have ee : gI w 8 (gR w 15 0 2) 15 = gI (setI w 16 0 2 (0 : Int32)) 16 0 17 := by rw [em5, TC_near T, g 17 (by omega), TM_near TMx]
    exact Sp_same h (r := gI w 8 (gR w 15 0 2) 15) (by simp only [pX11_count, ↓q0, ↓q1, ↓q2, ↓q3, ↓q4, ↓q5, ↓q6, ↓q7, ↓q8, ↓q9, ↓reduceIte]) (by simp only [pX12_count, ↓q0, ↓q1, ↓q2, ↓q3, ↓q4, ↓q5, ↓q6, ↓q7, ↓q8, ↓q9, ↓reduceIte, ee])
  have q9 : (a = (9 : Int32)) = False := eq_false y9
  exact Sp_same h (r := (-1 : Int32)) (by simp only [pX11_count, ↓q0, ↓q1, ↓q2, ↓q3, ↓q4, ↓q5, ↓q6, ↓q7, ↓q8, ↓q9, ↓reduceIte]) (by simp only [pX12_count, ↓q0, ↓q1, ↓q2, ↓q3, ↓q4, ↓q5, ↓q6, ↓q7, ↓q8, ↓q9, ↓reduceIte])
/-- the first of that name -/
def nmI (g : Nat → Int32) (x : Int32) : Nat → Nat → Int32
  | 0, _ => (-1 : Int32)
  | d + 1, c => if g c = x then nI c else nmI g x d (c + 1)
theorem c_indexOf {k0 i0 n L : Nat} {x : Int32} (hN : 100 ≤ N) (hL : ln k0 i0 = L) (hn : n ≤ L) (hL2 : L ≤ 20) : pX11_indexOf N k0 i0 (nI n) x w = some (nmI (gI w k0 i0) x n 0, w) := by
  have key : ∀ d c fuel, c + d = n → d < fuel → fX11_indexOf_2 N k0 i0 (nI n) x fuel (nI c) w = some (nmI (gI w k0 i0) x d c, w) := by
    intro d
    induction d with
    | zero =>
      intro c fuel hc hf
      obtain ⟨m, rfl⟩ : ∃ m, fuel = m + 1 := ⟨fuel - 1, by omega⟩
      have lt : (nI c < nI n) = False := eq_false (fun z => by
        have := (nI_ltI (by omega) (by omega)).mp z
        omega)
      simp only [fX11_indexOf_2, ↓lt, ↓reduceIte]
      rfl
    | succ d ih =>
      intro c fuel hc hf
      obtain ⟨m, rfl⟩ : ∃ m, fuel = m + 1 := ⟨fuel - 1, by omega⟩
      have lt : (nI c < nI n) = True := eq_true ((nI_ltI (by omega) (by omega)).mpr (by omega))
      have lt2 : (nI c < Int32.ofNat (ln k0 i0)) = True := eq_true (by rw [hL]; exact (nI_ltI (by omega) (by omega)).mpr (by omega))
      have l1 : ldI w k0 i0 (nI c) (ln k0 i0) = some (gI w k0 i0 c) := by rw [hL]; exact ldn (by omega) (by omega)
      have e1 : nI c + (1 : Int32) = nI (c + 1) := nI_add c 1
      rw [nmI]
      by_cases y : gI w k0 i0 c = x
      · have q : (gI w k0 i0 c = x) = True := eq_true y
        simp only [fX11_indexOf_2, ↓lt, ↓lt2, ↓bnd l1, ↓q, ↓reduceIte]
      · have q : (gI w k0 i0 c = x) = False := eq_false y
        simp only [fX11_indexOf_2, ↓lt, ↓lt2, ↓bnd l1, ↓q, ↓e1, ↓reduceIte, callW_eq]
        exact ih (c + 1) m (by omega) (by omega)
  unfold pX11_indexOf
  rw [callW_eq]
  exact key n 0 N (by omega) (by omega)
theorem m_find {k0 o n L : Nat} {x : Int32} (hN : 100 ≤ N) (hL : ln k0 0 = L) (hn : o + n ≤ L) (hL2 : L ≤ 20) : pX12_find N k0 0 (nI o) (nI n) x w = some (nmI (fun j => gI w k0 0 (o + j)) x n 0, w) := by
  have key : ∀ d c fuel, c + d = n → d < fuel → fX12_find_2 N k0 0 (nI o) (nI n) x fuel (nI c) w = some (nmI (fun j => gI w k0 0 (o + j)) x d c, w) := by
    intro d
    induction d with
    | zero =>
      intro c fuel hc hf
      obtain ⟨m, rfl⟩ : ∃ m, fuel = m + 1 := ⟨fuel - 1, by omega⟩
      have lt : (nI c < nI n) = False := eq_false (fun z => by
        have := (nI_ltI (by omega) (by omega)).mp z
        omega)
      simp only [fX12_find_2, ↓lt, ↓reduceIte]
      rfl
    | succ d ih =>
      intro c fuel hc hf
      obtain ⟨m, rfl⟩ : ∃ m, fuel = m + 1 := ⟨fuel - 1, by omega⟩
      have lt : (nI c < nI n) = True := eq_true ((nI_ltI (by omega) (by omega)).mpr (by omega))
      have l1 : ldI w k0 0 (nI o + nI c) (ln k0 0) = some (gI w k0 0 (o + c)) := by rw [hL, nI_add]; exact ldn (by omega) (by omega)
      have e1 : nI c + (1 : Int32) = nI (c + 1) := nI_add c 1
      rw [nmI]
      by_cases y : gI w k0 0 (o + c) = x
      · have q : (gI w k0 0 (o + c) = x) = True := eq_true y
        simp only [fX12_find_2, ↓lt, ↓bnd l1, ↓q, ↓reduceIte]
      · have q : (gI w k0 0 (o + c) = x) = False := eq_false y
        simp only [fX12_find_2, ↓lt, ↓bnd l1, ↓q, ↓e1, ↓reduceIte, callW_eq]
        exact ih (c + 1) m (by omega) (by omega)
  unfold pX12_find
  rw [callW_eq]
  exact key n 0 N (by omega) (by omega)
theorem nmI_ext {f g : Nat → Int32} {x : Int32} : ∀ d c, (∀ j, c ≤ j → j < c + d → f j = g j) → nmI f x d c = nmI g x d c := by
  intro d
  induction d with
  | zero => intro c _; rfl
  | succ d ih =>
    intro c h
    rw [nmI, nmI, h c (by omega) (by omega), ih (c + 1) (fun j a b => h j (by omega) (by omega))]
theorem s_named (h : Iv w v) (hN : 100 ≤ N) (a x : Int32) : Sp (pX11_named N a x) (pX12_named N a x) w := by
  have C := h.1
  have hF := C.2.2.1
  have h1 := WF_people hF
  have h2 := WF_parts hF
  have em5 := C.2.2.2.2.1
  have C1 := Cu_t C
  by_cases y : a = 0
  · have q : (a = 0) = True := eq_true y
    have e1 : pX11_indexOf N 30 (gR w 15 0 2) (gI w 8 (gR w 15 0 2) 0) x w = some (nmI (gI w 30 (gR w 13 0 0)) x (v 0 0) 0, w) := by
      rw [em5, TC_parts C.1.1]
      exact c_indexOf (N := N) (w := w) (k0 := 30) (i0 := gR w 13 0 0) (n := v 0 0) (L := 8) (x := x) hN rfl h2 (by omega)
    have e2 : pX12_find N 75 0 (0 : Int32) (gI (setI w 16 0 2 (0 : Int32)) 16 0 12) x (setI w 16 0 2 (0 : Int32)) = some (nmI (fun j => gI (setI w 16 0 2 (0 : Int32)) 75 0 (0 + j)) x (v 0 0) 0, setI w 16 0 2 (0 : Int32)) := by
      rw [TM_parts C1.2.1.1]
      exact m_find (N := N) (w := setI w 16 0 2 (0 : Int32)) (k0 := 75) (o := 0) (n := v 0 0) (L := 16) (x := x) hN rfl (by omega) (by omega)
    have ee : nmI (fun j => gI (setI w 16 0 2 (0 : Int32)) 75 0 (0 + j)) x (v 0 0) 0 = nmI (gI w 30 (gR w 13 0 0)) x (v 0 0) 0 := nmI_ext _ _ (fun j _ hj => by
      rw [TC_pname C.1.1 j (by omega), show 0 + j = j by omega, TM_pname C1.2.1.1 j (by omega)])
    rw [ee] at e2
    exact Sp_same h (by simp only [pX11_named, ↓q, ↓reduceIte, ↓cbnd e1]; rfl) (by simp only [pX12_named, ↓q, ↓reduceIte, ↓cbnd e2])
  · have q : (a = 0) = False := eq_false y
    by_cases y1 : a = (1 : Int32)
    · have q1 : (a = (1 : Int32)) = True := eq_true y1
      have e1 : pX11_indexOf N 48 (gR w 15 0 2) (gI w 10 (gR w 15 0 2) 0) x w = some (nmI (gI w 48 (gR w 13 0 0)) x (v 0 1) 0, w) := by
        rw [em5, TC_people C.1.1]
        exact c_indexOf (N := N) (w := w) (k0 := 48) (i0 := gR w 13 0 0) (n := v 0 1) (L := 6) (x := x) hN rfl h1 (by omega)
      have e2 : pX12_find N 78 0 (0 : Int32) (gI (setI w 16 0 2 (0 : Int32)) 16 0 13) x (setI w 16 0 2 (0 : Int32)) = some (nmI (fun j => gI (setI w 16 0 2 (0 : Int32)) 78 0 (0 + j)) x (v 0 1) 0, setI w 16 0 2 (0 : Int32)) := by
        rw [TM_people C1.2.1.1]
        exact m_find (N := N) (w := setI w 16 0 2 (0 : Int32)) (k0 := 78) (o := 0) (n := v 0 1) (L := 12) (x := x) hN rfl (by omega) (by omega)
      have ee : nmI (fun j => gI (setI w 16 0 2 (0 : Int32)) 78 0 (0 + j)) x (v 0 1) 0 = nmI (gI w 48 (gR w 13 0 0)) x (v 0 1) 0 := nmI_ext _ _ (fun j _ hj => by
        rw [TC_wname C.1.1 j (by omega), show 0 + j = j by omega, TM_wname C1.2.1.1 j (by omega)])
      rw [ee] at e2
      exact Sp_same h (by simp only [pX11_named, ↓q, ↓q1, ↓reduceIte, ↓cbnd e1]; rfl) (by simp only [pX12_named, ↓q, ↓q1, ↓reduceIte, ↓cbnd e2])
    · have q1 : (a = (1 : Int32)) = False := eq_false y1
      exact Sp_same h (r := (-1 : Int32)) (by simp only [pX11_named, ↓q, ↓q1, ↓reduceIte]) (by simp only [pX12_named, ↓q, ↓q1, ↓reduceIte])
theorem s_wrongly (h : Iv w v) (hN : 5000 ≤ N) : Sp (pX11_wrongly N) (pX12_wrongly N) w := by
  have C1 := Cu_t h.1
  have hF := h.1.2.2.1
  obtain ⟨e, ec, em, ew⟩ := h.2.2.2.2.2.2.2.1
  have hw := ew.1
  obtain ⟨⟨x, w1⟩, e1, hw1, b, hb, hx1⟩ := c_false (N := N) ec ew hN
  simp only at hw1 hx1
  rw [hw1, hx1] at e1
  have em1 : CM (setI w 16 0 2 (0 : Int32)) e := CM_fr (Fr_setI (l := [17002]) (Fr_refl _ _) rfl) em
  obtain ⟨⟨x', w2⟩, e2, hw2, b', hb', hx2⟩ := m_wrongly (N := N) C1.2.1 hF em1 ew hN
  simp only at hw2 hx2
  rw [hw2, hx2] at e2
  have eb := isW_uniq hb hb'
  rw [← eb] at e2
  have hp : 2 ^ e 0 3 ≤ 2 ^ 12 := Nat.pow_le_pow_right (by omega) hw
  have hP1 := Nat.two_pow_pos (e 0 3)
  have ex : ((1 : Int32) <<< ((gI (setI w 16 0 2 (0 : Int32)) 16 0 93) &&& (31 : Int32))) - (1 : Int32) = nI (2 ^ e 0 3 - 1) := by
    rw [em1.1, li31, li1, nz_and, nz_shl (by omega)]
    exact (dn_sub _).trans (if_neg (by omega))
  refine Sp_same h (r := nI b) (by simp only [pX11_wrongly, ↓cbnd e1]) ?_
  unfold pX12_wrongly
  rw [callW_eq, ex]
  exact e2
theorem s_against (h : Iv w v) (hN : 100 ≤ N) (a : Int32) : Sp (pX11_against N a) (pX12_against N a) w := by
  have C1 := Cu_t h.1
  have hF := h.1.2.2.1
  obtain ⟨e, ec, em, ew⟩ := h.2.2.2.2.2.2.2.1
  have hw := ew.1
  have em1 : CM (setI w 16 0 2 (0 : Int32)) e := CM_fr (Fr_setI (l := [17002]) (Fr_refl _ _) rfl) em
  by_cases y : a < 0
  · have q : (a < 0) = True := eq_true y
    exact Sp_same h (r := (-1 : Int32)) (by simp only [pX11_against, ↓q, ↓reduceIte]) (by simp only [pX12_against, ↓q, ↓reduceIte])
  · have q : (a < 0) = False := eq_false y
    obtain ⟨k, hk, rfl⟩ := a_nI a y
    by_cases z : k < e 0 3
    · have lt1 : (nI k < gI w 4 0 0) = True := eq_true (by rw [ec.1]; exact (nI_ltI (by omega) (by omega)).mpr z)
      have lt2 : (nI k < gI (setI w 16 0 2 (0 : Int32)) 16 0 93) = True := eq_true (by rw [em1.1]; exact (nI_ltI (by omega) (by omega)).mpr z)
      have l1 : ldI w 20 0 (nI k) 12 = some (nI (mkB (cn v e k) (e 0 3))) := by rw [ldn (by omega) (by omega), (ec.2 k z).2.2.2]
      have hlt := mkB_lt (cn v e k) (e 0 3)
      have hp : 2 ^ e 0 3 ≤ 2 ^ 12 := Nat.pow_le_pow_right (by omega) hw
      have gb := c_bits (N := N) (w := w) (x := mkB (cn v e k) (e 0 3)) (by omega)
      rw [pc_mkB _ (by omega)] at gb
      refine Sp_same h (r := nI (cnt (cn v e k) (e 0 3))) (by simp only [pX11_against, ↓q, ↓lt1, ↓bnd l1, ↓cbnd gb, ↓reduceIte]) ?_
      simp only [pX12_against, ↓q, ↓lt2, ↓reduceIte, callW_eq]
      exact m_against (N := N) C1.2.1 hF em1 ew hN z
    · have lt1 : (nI k < gI w 4 0 0) = False := eq_false (fun u => by rw [ec.1] at u; exact z ((nI_ltI (by omega) (by omega)).mp u))
      have lt2 : (nI k < gI (setI w 16 0 2 (0 : Int32)) 16 0 93) = False := eq_false (fun u => by rw [em1.1] at u; exact z ((nI_ltI (by omega) (by omega)).mp u))
      exact Sp_same h (r := (-1 : Int32)) (by simp only [pX11_against, ↓q, ↓lt1, ↓reduceIte]) (by simp only [pX12_against, ↓q, ↓lt2, ↓reduceIte])
end

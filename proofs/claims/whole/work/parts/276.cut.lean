/-! ===== the class cuts a text ===== -/
theorem idx_at {x : Nat} : ∀ (L : List Nat) (c : Nat), c < L.length → L.getD c 0 = x → (∀ j, j < c → L.getD j 0 ≠ x) → L.idxOf x = c := by
  intro L
  induction L with
  | nil => intro c h; simp at h
  | cons a L ih =>
    intro c hc h1 h2
    rw [List.idxOf_cons]
    cases c with
    | zero =>
      have : a = x := by simpa using h1
      simp [this]
    | succ c =>
      have h0 := h2 0 (by omega)
      have h0' : ¬ a = x := by simpa using h0
      have hb : (a == x) = false := beq_eq_false_iff_ne.mpr h0'
      rw [hb]
      have := ih c (by simpa using hc) (by simpa using h1) (fun j hj => by have := h2 (j + 1) (by omega); simpa using this)
      simp [this]
theorem idx_no {x : Nat} : ∀ (L : List Nat), (∀ j, j < L.length → L.getD j 0 ≠ x) → L.idxOf x = L.length := by
  intro L
  induction L with
  | nil => intro _; rfl
  | cons a L ih =>
    intro h
    rw [List.idxOf_cons]
    have h0 := h 0 (by simp)
    have h0' : ¬ a = x := by simpa using h0
    have hb : (a == x) = false := beq_eq_false_iff_ne.mpr h0'
    rw [hb]
    have := ih (fun j hj => by have := h (j + 1) (by simp; omega); simpa using this)
    simp [this]
section
variable {N : Nat} {w w' : Wd} {b : Nat → Nat} {n : Nat}
def bt (b : Nat → Nat) (n i : Nat) : Nat := if i < n then b i else 0
/-- the text that the class cuts -/
def BC (w : Wd) (b : Nat → Nat) (n : Nat) : Prop := gR w 14 0 6 = 0 ∧ gI w 14 0 7 = nI n ∧ n ≤ 900 ∧ ∀ j, j < n → b j < 256 ∧ gI w 3 0 j &&& (255 : Int32) = nI (b j)
theorem BC_fr {l : List Nat} (f : Fr l w w') (h : BC w b n) (hl : dis l [15006, 15007] = true := by decide) (h3 : n3 l = true := by decide) : BC w' b n := by
  obtain ⟨h1, h2, h4, h5⟩ := h
  refine ⟨by rw [Fr_R f hl (by decide)]; exact h1, by rw [Fr_I f hl (by decide)]; exact h2, h4, fun j hj => ?_⟩
  rw [(f 3 0 j (n3_of h3 (by omega))).1]
  exact h5 j hj
theorem bt_lt (h : BC w b n) (i : Nat) : bt b n i < 256 := by
  unfold bt
  split
  · rename_i z; exact (h.2.2.2 i z).1
  · omega
theorem c_byteAt (h : BC w b n) {i : Nat} (hi : i < 2 ^ 30) : pX10_byteAt N (nI i) w = some (nI (bt b n i), w) := by
  obtain ⟨h1, h2, h3, h4⟩ := h
  have q : (nI i < 0) = False := eq_false (nz_ge0 (by omega))
  unfold bt
  by_cases y : i < n
  · have lt : (nI i < gI w 14 0 7) = True := eq_true (by rw [h2]; exact (nI_ltI (by omega) (by omega)).mpr y)
    have l1 : ldI w 3 (gR w 14 0 6) (nI i) (ln 3 (gR w 14 0 6)) = some (gI w 3 0 i) := by
      rw [h1]
      exact ldn (n := 900) (by omega) (by omega)
    rw [if_pos y]
    simp only [pX10_byteAt, ↓q, ↓lt, ↓bnd l1, ↓reduceIte]
    rw [(h4 i y).2]
  · have lt : (nI i < gI w 14 0 7) = False := eq_false (fun z => by rw [h2] at z; exact y ((nI_ltI (by omega) (by omega)).mp z))
    rw [if_neg y]
    simp only [pX10_byteAt, ↓q, ↓lt, ↓reduceIte]
    rfl
theorem c_isLetter {x : Nat} (hx : x < 2 ^ 31) : pX10_isLetter N (nI x) w = some (zB (isL x), w) := by
  unfold isL
  by_cases y : x < 97
  · have q : (nI x < (97 : Int32)) = True := eq_true ((nI_ltI (b := 97) hx (by omega)).mpr y)
    have e : decide (97 ≤ x) = false := decide_eq_false (by omega)
    simp only [pX10_isLetter, ↓q, ↓reduceIte, e, Bool.false_and]
    rfl
  · have q : (nI x < (97 : Int32)) = False := eq_false (fun z => y ((nI_ltI (b := 97) hx (by omega)).mp z))
    have e : decide (97 ≤ x) = true := decide_eq_true (by omega)
    by_cases y2 : 122 < x
    · have q2 : ((122 : Int32) < nI x) = True := eq_true ((nI_ltI (a := 122) (by omega) hx).mpr y2)
      have e2 : decide (x ≤ 122) = false := decide_eq_false (by omega)
      simp only [pX10_isLetter, ↓q, ↓q2, ↓reduceIte, e, e2, Bool.true_and]
      rfl
    · have q2 : ((122 : Int32) < nI x) = False := eq_false (fun z => y2 ((nI_ltI (a := 122) (by omega) hx).mp z))
      have e2 : decide (x ≤ 122) = true := decide_eq_true (by omega)
      simp only [pX10_isLetter, ↓q, ↓q2, ↓reduceIte, e, e2, Bool.true_and]
      rfl
theorem c_isDigit {x : Nat} (hx : x < 2 ^ 31) : pX10_isDigit N (nI x) w = some (zB (isD x), w) := by
  unfold isD
  by_cases y : x < 48
  · have q : (nI x < (48 : Int32)) = True := eq_true ((nI_ltI (b := 48) hx (by omega)).mpr y)
    have e : decide (48 ≤ x) = false := decide_eq_false (by omega)
    simp only [pX10_isDigit, ↓q, ↓reduceIte, e, Bool.false_and]
    rfl
  · have q : (nI x < (48 : Int32)) = False := eq_false (fun z => y ((nI_ltI (b := 48) hx (by omega)).mp z))
    have e : decide (48 ≤ x) = true := decide_eq_true (by omega)
    by_cases y2 : 57 < x
    · have q2 : ((57 : Int32) < nI x) = True := eq_true ((nI_ltI (a := 57) (by omega) hx).mpr y2)
      have e2 : decide (x ≤ 57) = false := decide_eq_false (by omega)
      simp only [pX10_isDigit, ↓q, ↓q2, ↓reduceIte, e, e2, Bool.true_and]
      rfl
    · have q2 : ((57 : Int32) < nI x) = False := eq_false (fun z => y2 ((nI_ltI (a := 57) (by omega) hx).mp z))
      have e2 : decide (x ≤ 57) = true := decide_eq_true (by omega)
      simp only [pX10_isDigit, ↓q, ↓q2, ↓reduceIte, e, e2, Bool.true_and]
      rfl
theorem wlL_lt : ∀ j, j < 24 → wlL.getD j 0 < 2 ^ 60 := by decide +kernel
theorem c_wordNumber (hN : 100 ≤ N) (hw : WD w) {x : Nat} (hx : x < 2 ^ 62) : pX10_wordNumber N (lN x) w = some (if wlL.idxOf x < 24 then nI (wlL.idxOf x) else (-1 : Int32), w) := by
  have key : ∀ d c fuel, c + d = 24 → d < fuel → (∀ j, j < c → wlL.getD j 0 ≠ x) → fX10_wordNumber_2 N (lN x) fuel (nI c) w = some (if wlL.idxOf x < 24 then nI (wlL.idxOf x) else (-1 : Int32), w) := by
    intro d
    induction d with
    | zero =>
      intro c fuel hc hf hno
      obtain ⟨m, rfl⟩ : ∃ m, fuel = m + 1 := ⟨fuel - 1, by omega⟩
      have : c = 24 := by omega
      subst this
      have lt : (nI 24 < (24 : Int32)) = False := eq_false (by decide)
      have e : wlL.idxOf x = 24 := idx_no wlL (fun j hj => hno j hj)
      simp only [fX10_wordNumber_2, ↓lt, ↓reduceIte]
      rw [e, if_neg (by omega)]
    | succ d ih =>
      intro c fuel hc hf hno
      obtain ⟨m, rfl⟩ : ∃ m, fuel = m + 1 := ⟨fuel - 1, by omega⟩
      have lt : (nI c < (24 : Int32)) = True := eq_true ((nI_ltI (b := 24) (by omega) (by omega)).mpr (by omega))
      have l1 : ldL w 67 0 (nI c) 24 = some (lN (wlL.getD c 0)) := by rw [ldLn (by omega) (by omega), hw.1 c (by omega)]
      have e1 : nI c + (1 : Int32) = nI (c + 1) := nI_add c 1
      have hlt := wlL_lt c (by omega)
      by_cases y : wlL.getD c 0 = x
      · have q : (lg_cmp (lN (wlL.getD c 0)) (lN x) = 0) = True := eq_true ((lg_eq _ _).mpr (by rw [y]))
        have e : wlL.idxOf x = c := idx_at wlL c (show c < 24 by omega) y hno
        simp only [fX10_wordNumber_2, ↓lt, ↓bnd l1, ↓q, ↓reduceIte]
        rw [e, if_pos (by omega)]
      · have q : (lg_cmp (lN (wlL.getD c 0)) (lN x) = 0) = False := eq_false (fun z => y ((pk_lEQ (by omega) (by omega)).mp ((lg_eq _ _).mp z)))
        simp only [fX10_wordNumber_2, ↓lt, ↓bnd l1, ↓q, ↓e1, ↓reduceIte, callW_eq]
        refine ih (c + 1) m (by omega) (by omega) (fun j hj => ?_)
        rcases Nat.lt_or_ge j c with z | z
        · exact hno j z
        · have : j = c := by omega
          subst this; exact y
  unfold pX10_wordNumber
  rw [callW_eq]
  exact key 24 0 N (by omega) (by omega) (fun j hj => by omega)
/-- a token more -/
theorem c_addT {k : Nat} {a1 a2 a3 : Int32} (hk : k ≤ 900) (h4 : gI w 14 0 4 = nI k) : Ok (pX10_add N a1 a2 a3 w) (fun w' => Fr [68, 69, 70, 15004] w w' ∧ gI w' 14 0 4 = nI (k + 1) ∧ (∀ j, j < k → gI w' 68 0 j = gI w 68 0 j ∧ gI w' 69 0 j = gI w 69 0 j ∧ gI w' 70 0 j = gI w 70 0 j) ∧ gI w' 68 0 k = a1 ∧ gI w' 69 0 k = a2 ∧ gI w' 70 0 k = a3) := by
  have q : ((900 : Int32) < gI w 14 0 4) = False := eq_false (fun z => by
    rw [h4] at z
    have := (nI_ltI (a := 900) (by omega) (by omega)).mp z
    omega)
  have s1 : stI w 68 0 (gI w 14 0 4) 901 a1 = some (setI w 68 0 k a1) := by rw [h4]; exact stn (by omega) (by omega)
  have e1 : gI (setI w 68 0 k a1) 14 0 4 = nI k := by rw [gg_I, if_neg (by omega)]; exact h4
  have s2 : stI (setI w 68 0 k a1) 69 0 (gI (setI w 68 0 k a1) 14 0 4) 901 a2 = some (setI (setI w 68 0 k a1) 69 0 k a2) := by rw [e1]; exact stn (by omega) (by omega)
  have e2 : gI (setI (setI w 68 0 k a1) 69 0 k a2) 14 0 4 = nI k := by rw [gg_I, if_neg (by omega)]; exact e1
  have s3 : stI (setI (setI w 68 0 k a1) 69 0 k a2) 70 0 (gI (setI (setI w 68 0 k a1) 69 0 k a2) 14 0 4) 901 a3 = some (setI (setI (setI w 68 0 k a1) 69 0 k a2) 70 0 k a3) := by rw [e2]; exact stn (by omega) (by omega)
  have e3 : gI (setI (setI (setI w 68 0 k a1) 69 0 k a2) 70 0 k a3) 14 0 4 + (1 : Int32) = nI (k + 1) := by rw [gg_I, if_neg (by omega), e2]; exact nI_add _ 1
  simp only [pX10_add, ↓q, ↓bnd s1, ↓bnd s2, ↓bnd s3, ↓e3, ↓reduceIte]
  refine ok_some ⟨Fr_setI (Fr_setI (Fr_setI (Fr_setI (Fr_refl _ _) rfl) rfl) rfl) rfl, by rw [gg_I, if_pos ⟨rfl, rfl, rfl⟩], fun j hj => ⟨?_, ?_, ?_⟩, ?_, ?_, ?_⟩
  · rw [gg_I, if_neg (by omega), gg_I, if_neg (by omega), gg_I, if_neg (by omega), gg_I, if_neg (fun z => by omega)]
  · rw [gg_I, if_neg (by omega), gg_I, if_neg (by omega), gg_I, if_neg (fun z => by omega), gg_I, if_neg (by omega)]
  · rw [gg_I, if_neg (by omega), gg_I, if_neg (fun z => by omega), gg_I, if_neg (by omega), gg_I, if_neg (by omega)]
  · rw [gg_I, if_neg (by omega), gg_I, if_neg (by omega), gg_I, if_neg (by omega), gg_I, if_pos ⟨rfl, rfl, rfl⟩]
  · rw [gg_I, if_neg (by omega), gg_I, if_neg (by omega), gg_I, if_pos ⟨rfl, rfl, rfl⟩]
  · rw [gg_I, if_neg (by omega), gg_I, if_pos ⟨rfl, rfl, rfl⟩]
end

/-! ===== the reference finds a word ===== -/
/-- numbers of the words: the class's to the reference's, and back; where they begin, how long they are -/
def wrL : List Nat := [0, 8, 1, 9, 10, 11, 12, 13, 2, 3, 4, 5, 6, 7, 14, 15, 17, 16, 18, 19, 20, 21, 22, 23]
def rwL : List Nat := [0, 2, 8, 9, 10, 11, 12, 13, 1, 3, 4, 5, 6, 7, 14, 15, 17, 16, 18, 19, 20, 21, 22, 23]
def ofL : List Nat := [0, 5, 12, 18, 26, 32, 37, 42, 46, 53, 59, 64, 69, 74, 81, 85, 90, 94, 97, 101, 106, 113, 119, 126, 132]
def lwL : List Nat := [4, 6, 5, 7, 5, 4, 4, 3, 6, 5, 4, 4, 4, 6, 3, 4, 3, 2, 3, 4, 6, 5, 6, 5]
theorem wr_f : ∀ c, c < 24 → wrL.getD c 0 < 24 ∧ rwL.getD (wrL.getD c 0) 0 = c := by decide +kernel
theorem rw_f : ∀ k, k < 24 → rwL.getD k 0 < 24 ∧ wrL.getD (rwL.getD k 0) 0 = k := by decide +kernel
theorem of_f : ∀ k, k < 24 → ofL.getD (k + 1) 0 = ofL.getD k 0 + lwL.getD k 0 + 1 ∧ ofL.getD (k + 1) 0 ≤ 132 ∧ 1 ≤ lwL.getD k 0 ∧ lwL.getD k 0 ≤ 7 := by decide +kernel
theorem of_0 : ofL.getD 0 0 = 0 ∧ ofL.getD 24 0 = 132 := by decide +kernel
theorem wm_32 : ∀ k, k < 24 → wmL.getD (ofL.getD k 0 + lwL.getD k 0) 0 = 32 := by decide +kernel
theorem wm_let : ∀ k, k < 24 → ∀ j, j < 7 → j < lwL.getD k 0 → isL (wmL.getD (ofL.getD k 0 + j) 0) = true := by decide +kernel
theorem wm_pk : ∀ k, k < 24 → pkL (fun j => wmL.getD j 0) (ofL.getD k 0) (lwL.getD k 0) = wlL.getD (rwL.getD k 0) 0 := by decide +kernel
theorem wl_inj : ∀ j, j < 24 → ∀ i, i < j → wlL.getD i 0 ≠ wlL.getD j 0 := by decide +kernel
theorem wl_idx {x j : Nat} (hj : j < 24) (h : wlL.getD j 0 = x) : wlL.idxOf x = j := idx_at wlL j hj h (fun i hi z => wl_inj j hj i hi (z.trans h.symm))
theorem pkL_inj {f g : Nat → Nat} {i j : Nat} : ∀ d e, (∀ t, t < d → isL (f (i + t)) = true) → (∀ t, t < e → isL (g (j + t)) = true) → pkL f i d = pkL g j e → d = e ∧ ∀ t, t < d → f (i + t) = g (j + t) := by
  intro d
  induction d with
  | zero =>
    intro e _ hg h
    cases e with
    | zero => exact ⟨rfl, fun t ht => absurd ht (Nat.not_lt_zero t)⟩
    | succ e =>
      have h1 := pkL_ge (b := g) (i := j) e hg
      have h2 := Nat.two_pow_pos (5 * e)
      rw [← h, pkL] at h1
      omega
  | succ d ih =>
    intro e hf hg h
    cases e with
    | zero =>
      have h1 := pkL_ge (b := f) (i := i) d hf
      have h2 := Nat.two_pow_pos (5 * d)
      rw [h, pkL] at h1
      omega
    | succ e =>
      have a := hf d (by omega)
      have c := hg e (by omega)
      unfold isL at a c
      rw [Bool.and_eq_true, decide_eq_true_eq, decide_eq_true_eq] at a c
      rw [pkL, pkL] at h
      have h1 : pkL f i d = pkL g j e := by omega
      have h2 : f (i + d) = g (j + e) := by omega
      obtain ⟨r1, r2⟩ := ih e (fun t ht => hf t (by omega)) (fun t ht => hg t (by omega)) h1
      refine ⟨by omega, fun t ht => ?_⟩
      rcases Nat.lt_or_ge t d with z | z
      · exact r2 t z
      · have : t = d := by omega
        subst this
        rw [h2, r1]
section
variable {N : Nat} {w w' : Wd} {b : Nat → Nat} {n : Nat}
def BM (w : Wd) (b : Nat → Nat) (n : Nat) : Prop := gI w 16 0 6 = nI n ∧ n ≤ 900 ∧ ∀ j, j < n → b j < 256 ∧ gI w 73 0 j = nI (b j)
theorem BM_fr {l : List Nat} (f : Fr l w w') (h : BM w b n) (hl : dis l [17006, 73] = true := by decide) : BM w' b n :=
  ⟨by rw [Fr_I f hl (by decide)]; exact h.1, h.2.1, fun j hj => by rw [Fr_I f hl (by rfl)]; exact h.2.2 j hj⟩
/-- word k stands from i to i + d -/
def smW (b : Nat → Nat) (i d k : Nat) : Prop := lwL.getD k 0 = d ∧ ∀ j, j < d → wmL.getD (ofL.getD k 0 + j) 0 = b (i + j)
theorem smW_iff {i d k : Nat} (hk : k < 24) (hl : ∀ j, j < d → isL (b (i + j)) = true) : smW b i d k ↔ pkL b i d = wlL.getD (rwL.getD k 0) 0 := by
  have hlw := of_f k hk
  have hwl : ∀ t, t < lwL.getD k 0 → isL (wmL.getD (ofL.getD k 0 + t) 0) = true := fun t ht => wm_let k hk t (by omega) ht
  constructor
  · rintro ⟨h1, h2⟩
    rw [← wm_pk k hk, h1]
    have : ∀ e, e ≤ d → pkL b i e = pkL (fun j => wmL.getD j 0) (ofL.getD k 0) e := by
      intro e
      induction e with
      | zero => intro _; rfl
      | succ e ih =>
        intro he
        rw [pkL, pkL, ih (by omega), ← h2 e (by omega)]
    exact this d (Nat.le_refl _)
  · intro h
    rw [← wm_pk k hk] at h
    obtain ⟨r1, r2⟩ := pkL_inj (f := b) (g := fun j => wmL.getD j 0) (i := i) (j := ofL.getD k 0) d (lwL.getD k 0) hl hwl h
    exact ⟨r1.symm, fun j hj => (r2 j hj).symm⟩
theorem m_wa11 (hW : WD w) (hN : 100 ≤ N) {k : Nat} (hk : k < 24) {a1 a2 v3 : Int32} (K : Int32 → Int32 → Int32 → Wd → Option (Int32 × Wd)) : ∀ d c fuel, c + d = lwL.getD k 0 → d < fuel → fX12_wordAt_11 N a1 a2 fuel K v3 (nI (ofL.getD k 0)) (nI c) w = K v3 (nI (ofL.getD k 0)) (nI (lwL.getD k 0)) w := by
  have hf := of_f k hk
  intro d
  induction d with
  | zero =>
    intro c fuel hc hfu
    obtain ⟨m, rfl⟩ : ∃ m, fuel = m + 1 := ⟨fuel - 1, by omega⟩
    have e : c = lwL.getD k 0 := by omega
    rw [e]
    have l1 : ldI w 74 0 (nI (ofL.getD k 0) + nI (lwL.getD k 0)) 132 = some (nI 32) := by rw [nI_add, ldn (by omega) (by omega), hW.2 _ (by omega), wm_32 k hk]
    have q : (nI 32 = (32 : Int32)) = True := eq_true rfl
    simp only [fX12_wordAt_11, ↓bnd l1, ↓q, ↓reduceIte]
  | succ d ih =>
    intro c fuel hc hfu
    obtain ⟨m, rfl⟩ : ∃ m, fuel = m + 1 := ⟨fuel - 1, by omega⟩
    have hlet := wm_let k hk c (by omega) (by omega)
    have l1 : ldI w 74 0 (nI (ofL.getD k 0) + nI c) 132 = some (nI (wmL.getD (ofL.getD k 0 + c) 0)) := by rw [nI_add, ldn (by omega) (by omega), hW.2 _ (by omega)]
    unfold isL at hlet
    rw [Bool.and_eq_true, decide_eq_true_eq, decide_eq_true_eq] at hlet
    have q : (nI (wmL.getD (ofL.getD k 0 + c) 0) = (32 : Int32)) = False := eq_false (fun z => by
      have := (nI_eq (b := 32) (by omega) (by omega)).mp z
      omega)
    have e1 : nI c + (1 : Int32) = nI (c + 1) := nI_add _ 1
    simp only [fX12_wordAt_11, ↓bnd l1, ↓q, ↓e1, ↓reduceIte, callW_eq]
    exact ih (c + 1) m (by omega) (by omega)
theorem m_wa32 (hW : WD w) (hM : BM w b n) {i k d : Nat} (hk : k < 24) (hin : i + d ≤ n) (hd : lwL.getD k 0 = d) {a2 v3 : Int32} (K : Int32 → Int32 → Int32 → Int32 → Wd → Option (Int32 × Wd)) {R : Option (Int32 × Wd)}
    (h1 : smW b i d k → K v3 (nI (ofL.getD k 0)) (nI d) (1 : Int32) w = R) (h0 : ¬ smW b i d k → K v3 (nI (ofL.getD k 0)) (nI d) (0 : Int32) w = R) :
    ∀ r c fuel, c + r = d → r < fuel → (∀ j, j < c → wmL.getD (ofL.getD k 0 + j) 0 = b (i + j)) → fX12_wordAt_32 N (nI i) a2 fuel K v3 (nI (ofL.getD k 0)) (nI d) (1 : Int32) (nI c) w = R := by
  have hf := of_f k hk
  have hn := hM.2.1
  intro r
  induction r with
  | zero =>
    intro c fuel hc hfu hall
    obtain ⟨m, rfl⟩ : ∃ m, fuel = m + 1 := ⟨fuel - 1, by omega⟩
    have e : c = d := by omega
    have lt : (nI c < nI d) = False := eq_false (fun z => by
      have := (nI_ltI (by omega) (by omega)).mp z
      omega)
    simp only [fX12_wordAt_32, ↓lt, ↓reduceIte]
    exact h1 ⟨hd, fun j hj => hall j (by omega)⟩
  | succ r ih =>
    intro c fuel hc hfu hall
    obtain ⟨m, rfl⟩ : ∃ m, fuel = m + 1 := ⟨fuel - 1, by omega⟩
    have lt : (nI c < nI d) = True := eq_true ((nI_ltI (by omega) (by omega)).mpr (by omega))
    have q1 : ((1 : Int32) = 0) = False := eq_false (by decide)
    have l1 : ldI w 74 0 (nI (ofL.getD k 0) + nI c) 132 = some (nI (wmL.getD (ofL.getD k 0 + c) 0)) := by rw [nI_add, ldn (by omega) (by omega), hW.2 _ (by omega)]
    have l2 : ldI w 73 0 (nI i + nI c) 900 = some (nI (b (i + c))) := by rw [nI_add, ldn (by omega) (by omega), (hM.2.2 _ (by omega)).2]
    have e1 : nI c + (1 : Int32) = nI (c + 1) := nI_add _ 1
    have hb8 := (hM.2.2 (i + c) (by omega)).1
    have hlet := wm_let k hk c (by omega) (by omega)
    unfold isL at hlet
    rw [Bool.and_eq_true, decide_eq_true_eq, decide_eq_true_eq] at hlet
    by_cases y : wmL.getD (ofL.getD k 0 + c) 0 = b (i + c)
    · have q : (nI (wmL.getD (ofL.getD k 0 + c) 0) = nI (b (i + c))) = True := eq_true (by rw [y])
      simp only [fX12_wordAt_32, ↓lt, ↓q1, ↓bnd l1, ↓bnd l2, ↓q, ↓e1, ↓reduceIte, callW_eq]
      refine ih (c + 1) m (by omega) (by omega) (fun j hj => ?_)
      rcases Nat.lt_or_ge j c with z | z
      · exact hall j z
      · have : j = c := by omega
        subst this; exact y
    · have q : (nI (wmL.getD (ofL.getD k 0 + c) 0) = nI (b (i + c))) = False := eq_false (fun z => y ((nI_eq (by omega) (by omega)).mp z))
      have no : ¬ smW b i d k := fun z => y (z.2 c (by omega))
      simp only [fX12_wordAt_32, ↓lt, ↓q1, ↓bnd l1, ↓bnd l2, ↓q, ↓e1, ↓reduceIte, callW_eq]
      obtain ⟨m', rfl⟩ : ∃ m', m = m' + 1 := ⟨m - 1, by omega⟩
      have q0 : ((0 : Int32) = 0) = True := eq_true rfl
      by_cases yc : c + 1 < d
      · have lt2 : (nI (c + 1) < nI d) = True := eq_true ((nI_ltI (by omega) (by omega)).mpr yc)
        simp only [fX12_wordAt_32, ↓lt2, ↓q0, ↓reduceIte]
        exact h0 no
      · have lt2 : (nI (c + 1) < nI d) = False := eq_false (fun z => yc ((nI_ltI (by omega) (by omega)).mp z))
        simp only [fX12_wordAt_32, ↓lt2, ↓reduceIte]
        exact h0 no
theorem m_wordAt (hW : WD w) (hM : BM w b n) (hN : 200 ≤ N) {i d : Nat} (hin : i + d ≤ n) (hl : ∀ j, j < d → isL (b (i + j)) = true) : pX12_wordAt N (nI i) (nI (i + d)) w = some (if wdN b i d < 24 then nI (wrL.getD (wdN b i d) 0) else (-1 : Int32), w) := by
  have hn := hM.2.1
  /- which word it is -/
  have yes : ∀ k, k < 24 → smW b i d k → wdN b i d = rwL.getD k 0 := by
    intro k hk h
    have h1 := of_f k hk
    have h2 := (smW_iff hk hl).mp h
    have h3 := h.1
    unfold wdN
    rw [if_pos (by omega)]
    exact wl_idx (rw_f k hk).1 h2.symm
  have none : (∀ k, k < 24 → ¬ smW b i d k) → wdN b i d = 24 := by
    intro h
    unfold wdN
    by_cases y : d ≤ 12
    · rw [if_pos y]
      refine idx_no wlL (fun j hj z => ?_)
      have hj' : j < 24 := hj
      have h1 := wr_f j hj'
      refine h (wrL.getD j 0) h1.1 ((smW_iff h1.1 hl).mpr ?_)
      rw [h1.2]
      exact z.symm
    · rw [if_neg y]
  have key : ∀ r k fuel, k + r = 24 → r < fuel → (∀ j, j < k → ¬ smW b i d j) → fX12_wordAt_4 N (nI i) (nI (i + d)) fuel (nI k) (nI (ofL.getD k 0)) w = some (if wdN b i d < 24 then nI (wrL.getD (wdN b i d) 0) else (-1 : Int32), w) := by
    intro r
    induction r with
    | zero =>
      intro k fuel hk hf hno
      obtain ⟨m, rfl⟩ : ∃ m, fuel = m + 1 := ⟨fuel - 1, by omega⟩
      have e : k = 24 := by omega
      subst e
      have lt : (nI (ofL.getD 24 0) < Int32.ofNat 132) = False := eq_false (by rw [of_0.2]; decide)
      simp only [fX12_wordAt_4, ↓lt, ↓reduceIte]
      rw [none hno, if_neg (by omega)]
    | succ r ih =>
      intro k fuel hk hf hno
      obtain ⟨m, rfl⟩ : ∃ m, fuel = m + 1 := ⟨fuel - 1, by omega⟩
      have hk' : k < 24 := by omega
      have h1 := of_f k hk'
      have lt : (nI (ofL.getD k 0) < Int32.ofNat 132) = True := eq_true ((nI_ltI (b := 132) (by omega) (by omega)).mpr (by omega))
      have ey : smW b i d k → some (nI k, w) = some (if wdN b i d < 24 then nI (wrL.getD (wdN b i d) 0) else (-1 : Int32), w) := fun h => by
        rw [yes k hk' h, if_pos (rw_f k hk').1, (rw_f k hk').2]
      have en : ¬ smW b i d k → fX12_wordAt_4 N (nI i) (nI (i + d)) m (nI (k + 1)) (nI (ofL.getD (k + 1) 0)) w = some (if wdN b i d < 24 then nI (wrL.getD (wdN b i d) 0) else (-1 : Int32), w) := fun h => ih (k + 1) m (by omega) (by omega) (fun j hj => by
        rcases Nat.lt_or_ge j k with z | z
        · exact hno j z
        · have : j = k := by omega
          subst this; exact h)
      have e1 : nI k + (1 : Int32) = nI (k + 1) := nI_add _ 1
      have e2 : nI (ofL.getD k 0) + (nI (lwL.getD k 0) + (1 : Int32)) = nI (ofL.getD (k + 1) 0) := by rw [li1, nI_add, nI_add, h1.1]; congr 1
      have ed : nI (i + d) - nI i = nI d := by rw [nI_sb (by omega)]; congr 1; omega
      have k1 : fX12_wordAt_56 N (nI i) (nI (i + d)) (fX12_wordAt_4 N (nI i) (nI (i + d)) m) (nI k) (nI (ofL.getD k 0)) (nI (lwL.getD k 0)) (1 : Int32) w = some (nI k, w) := by
        have q : ((1 : Int32) = 0) = False := eq_false (by decide)
        simp only [fX12_wordAt_56, ↓q, ↓reduceIte]
      have k0 : fX12_wordAt_56 N (nI i) (nI (i + d)) (fX12_wordAt_4 N (nI i) (nI (i + d)) m) (nI k) (nI (ofL.getD k 0)) (nI (lwL.getD k 0)) (0 : Int32) w = fX12_wordAt_4 N (nI i) (nI (i + d)) m (nI (k + 1)) (nI (ofL.getD (k + 1) 0)) w := by
        have q : ((0 : Int32) = 0) = True := eq_true rfl
        simp only [fX12_wordAt_56, ↓q, ↓e1, ↓e2, ↓reduceIte]
      have g := m_wa11 (N := N) hW (by omega) hk' (a1 := nI i) (a2 := nI (i + d)) (v3 := nI k) (fX12_wordAt_21 N (nI i) (nI (i + d)) (fX12_wordAt_4 N (nI i) (nI (i + d)) m)) (lwL.getD k 0) 0 N (by omega) (by omega)
      simp only [fX12_wordAt_4, ↓lt, ↓reduceIte, callW_eq]
      rw [li0, g]
      by_cases y : lwL.getD k 0 = d
      · have q : (nI (lwL.getD k 0) = nI (i + d) - nI i) = True := eq_true (by rw [ed, y])
        simp only [fX12_wordAt_21, ↓q, ↓reduceIte, callW_eq]
        rw [li0]
        rw [y] at k1 k0
        have := m_wa32 (N := N) (w := w) (b := b) (n := n) (i := i) (k := k) (d := d) hW hM hk' hin y (a2 := nI (i + d)) (v3 := nI k) (fX12_wordAt_56 N (nI i) (nI (i + d)) (fX12_wordAt_4 N (nI i) (nI (i + d)) m)) (R := some (if wdN b i d < 24 then nI (wrL.getD (wdN b i d) 0) else (-1 : Int32), w)) (fun h => k1.trans (ey h)) (fun h => k0.trans (en h)) d 0 N (by omega) (by omega) (fun j hj => by omega)
        rw [y]
        exact this
      · have q : (nI (lwL.getD k 0) = nI (i + d) - nI i) = False := eq_false (fun z => by
          rw [ed] at z
          exact y ((nI_eq (by omega) (by omega)).mp z))
        have no : ¬ smW b i d k := fun z => y z.1
        simp only [fX12_wordAt_21, ↓q, ↓reduceIte, callW_eq]
        rw [li0]
        obtain ⟨N', hN'⟩ : ∃ m, N = m + 1 := ⟨N - 1, by omega⟩
        have lt0 : (nI 0 < nI (lwL.getD k 0)) = True := eq_true ((nI_ltI (by omega) (by omega)).mpr (by omega))
        have q0 : ((nI 0 : Int32) = 0) = True := eq_true rfl
        have go : fX12_wordAt_32 N (nI i) (nI (i + d)) N (fX12_wordAt_56 N (nI i) (nI (i + d)) (fX12_wordAt_4 N (nI i) (nI (i + d)) m)) (nI k) (nI (ofL.getD k 0)) (nI (lwL.getD k 0)) (nI 0) (nI 0) w = fX12_wordAt_56 N (nI i) (nI (i + d)) (fX12_wordAt_4 N (nI i) (nI (i + d)) m) (nI k) (nI (ofL.getD k 0)) (nI (lwL.getD k 0)) (nI 0) w := by
          have : ∀ M X, fX12_wordAt_32 N (nI i) (nI (i + d)) (M + 1) X (nI k) (nI (ofL.getD k 0)) (nI (lwL.getD k 0)) (nI 0) (nI 0) w = X (nI k) (nI (ofL.getD k 0)) (nI (lwL.getD k 0)) (nI 0) w := fun M X => by
            simp only [fX12_wordAt_32, ↓lt0, ↓q0, ↓reduceIte]
          have h2 := this N' (fX12_wordAt_56 N (nI i) (nI (i + d)) (fX12_wordAt_4 N (nI i) (nI (i + d)) m))
          rw [← hN'] at h2
          exact h2
        rw [go]
        exact k0.trans (en no)
  unfold pX12_wordAt
  rw [callW_eq]
  have := key 24 0 N (by omega) (by omega) (fun j hj => by omega)
  rw [of_0.1] at this
  exact this
end

/-! ===== what can be undone ===== -/
def psN (u : Nat) : Nat := if u = 20 then 20 else u + 1
def psU (u : Nat) (e : Nat → Nat) (x : Nat) : Nat → Nat := fun j => if u = 20 then (if j < 19 then e (j + 1) else x) else (if j = u then x else e j)
theorem cnt_shift (f : Nat → Bool) (n : Nat) : cnt (fun j => f (j + 1)) n + (if f 0 then 1 else 0) = cnt f (n + 1) := by
  induction n with
  | zero => rw [cnt, cnt, cnt]
  | succ n ih =>
    rw [cnt, cnt]
    omega
theorem psU_cnt {u x : Nat} {e : Nat → Nat} (hu : u ≤ 20) : cnt (fun j => psU u e x j == 0) (psN u) ≤ cnt (fun j => e j == 0) u + (if x = 0 then 1 else 0) := by
  by_cases y : u = 20
  · subst y
    have e1 : psN 20 = 19 + 1 := rfl
    rw [e1, cnt]
    have h1 : cnt (fun j => psU 20 e x j == 0) 19 = cnt (fun j => (fun i => e i == 0) (j + 1)) 19 := cnt_ext (fun k hk => by
      show (psU 20 e x k == 0) = (e (k + 1) == 0)
      rw [psU, if_pos rfl, if_pos hk])
    have h2 := cnt_shift (fun i => e i == 0) 19
    have h3 : psU 20 e x 19 = x := by rw [psU, if_pos rfl, if_neg (by omega)]
    rw [h1, h3]
    have h4 : (if (x == 0) = true then 1 else 0) = (if x = 0 then 1 else 0) := by
      by_cases z : x = 0 <;> simp [z]
    rw [h4]
    have h6 : cnt (fun j => (fun i => e i == 0) (j + 1)) 19 ≤ cnt (fun j => e j == 0) 20 := Nat.le_trans (Nat.le_add_right _ _) (Nat.le_of_eq h2)
    exact Nat.add_le_add_right h6 _
  · have e1 : psN u = u + 1 := if_neg y
    rw [e1, cnt]
    have h1 : cnt (fun j => psU u e x j == 0) u = cnt (fun j => e j == 0) u := cnt_ext (fun k hk => by
      rw [psU, if_neg y, if_neg (by omega)])
    have h3 : psU u e x u = x := by rw [psU, if_neg y, if_pos rfl]
    rw [h1, h3]
    have h4 : (if (x == 0) = true then 1 else 0) = (if x = 0 then 1 else 0) := by
      by_cases z : x = 0 <;> simp [z]
    omega
section
variable {N : Nat} {w w' : Wd} {v : Vw}
def UNc (w : Wd) (u : Nat) (ep ex : Nat → Nat) : Prop := gI w 15 0 8 = nI u ∧ ∀ j, j < u → gI w 71 0 j = lst (ep j) ∧ (ep j ≠ 0 → gI w 72 0 j = lst (ex j))
def UNm (w : Wd) (u : Nat) (ep ex : Nat → Nat) : Prop := gI w 16 0 74 = nI u ∧ ∀ j, j < u → gI w 109 0 (3 * j) = (if ep j = 0 then nI 1 else nI 0) ∧ (ep j ≠ 0 → gI w 109 0 (3 * j + 1) = lst (ep j) ∧ gI w 109 0 (3 * j + 2) = lst (ex j))
def UNw (v : Vw) (u : Nat) (ep ex : Nat → Nat) : Prop := u ≤ 20 ∧ cnt (fun j => ep j == 0) u ≤ v 0 6 ∧ ∀ j, j < u → ep j ≤ v 0 1 ∧ ex j ≤ v 0 0
theorem UN_iff : UN w v ↔ ∃ u ep ex, UNc w u ep ex ∧ UNm w u ep ex ∧ UNw v u ep ex := by
  constructor
  · rintro ⟨u, ep, ex, h1, h2, h3, h4, h5⟩
    exact ⟨u, ep, ex, ⟨h2, fun j hj => ⟨(h5 j hj).2.2.1, fun z => ((h5 j hj).2.2.2.2 z).2.1⟩⟩, ⟨h3, fun j hj => ⟨(h5 j hj).2.2.2.1, fun z => ⟨((h5 j hj).2.2.2.2 z).1, ((h5 j hj).2.2.2.2 z).2.2⟩⟩⟩, h1, h4, fun j hj => ⟨(h5 j hj).1, (h5 j hj).2.1⟩⟩
  · rintro ⟨u, ep, ex, ⟨a1, a2⟩, ⟨b1, b2⟩, c1, c2, c3⟩
    exact ⟨u, ep, ex, c1, a1, b1, c2, fun j hj => ⟨(c3 j hj).1, (c3 j hj).2, (a2 j hj).1, (b2 j hj).1, fun z => ⟨((b2 j hj).2 z).1, (a2 j hj).2 z, ((b2 j hj).2 z).2⟩⟩⟩
theorem UNc_fr {l : List Nat} {u : Nat} {ep ex : Nat → Nat} (f : Fr l w w') (h : UNc w u ep ex) (hl : dis l [16008, 71, 72] = true := by decide) : UNc w' u ep ex :=
  ⟨by rw [Fr_I f hl (by decide)]; exact h.1, fun j hj => by rw [Fr_I f hl (k := 71) rfl, Fr_I f hl (k := 72) rfl]; exact h.2 j hj⟩
theorem UNm_fr {l : List Nat} {u : Nat} {ep ex : Nat → Nat} (f : Fr l w w') (h : UNm w u ep ex) (hl : dis l [17074, 109] = true := by decide) : UNm w' u ep ex :=
  ⟨by rw [Fr_I f hl (by decide)]; exact h.1, fun j hj => by rw [Fr_I f hl (k := 109) (j := 3 * j) rfl, Fr_I f hl (k := 109) (j := 3 * j + 1) rfl, Fr_I f hl (k := 109) (j := 3 * j + 2) rfl]; exact h.2 j hj⟩
theorem psU_w {u P X : Nat} {ep ex : Nat → Nat} {v' : Vw} (h : UNw v u ep ex) (e0 : v' 0 0 = v 0 0) (e1 : v' 0 1 = v 0 1) (e6 : v 0 6 + (if P = 0 then 1 else 0) ≤ v' 0 6) (hP : P ≤ v 0 1) (hX : X ≤ v 0 0) : UNw v' (psN u) (psU u ep P) (psU u ex X) := by
  obtain ⟨h1, h2, h3⟩ := h
  have hc := psU_cnt (x := P) (e := ep) h1
  refine ⟨by unfold psN; split <;> omega, by omega, fun j hj => ?_⟩
  rw [e0, e1]
  by_cases y : u = 20
  · subst y
    have hj' : j < 20 := hj
    by_cases z : j < 19
    · rw [psU, psU, if_pos rfl, if_pos rfl, if_pos z, if_pos z]; exact h3 (j + 1) (by omega)
    · rw [psU, psU, if_pos rfl, if_pos rfl, if_neg z, if_neg z]; exact ⟨hP, hX⟩
  · have hj' : j < u + 1 := by rw [psN, if_neg y] at hj; exact hj
    by_cases z : j = u
    · rw [psU, psU, if_neg y, if_neg y, if_pos z, if_pos z]; exact ⟨hP, hX⟩
    · rw [psU, psU, if_neg y, if_neg y, if_neg z, if_neg z]; exact h3 j (by omega)
theorem c_remember {u P X : Nat} {ep ex : Nat → Nat} (hu : u ≤ 20) (h : UNc w u ep ex) : Ok (pX11_remember N (lst P) (lst X) w) (fun w' => Fr [16008, 71, 72] w w' ∧ UNc w' (psN u) (psU u ep P) (psU u ex X)) := by
  obtain ⟨h1, h2⟩ := h
  have fin : ∀ (w1 : Wd) (n : Nat), n < 20 → gI w1 15 0 8 = nI n → Ok (fX11_remember_28 N (lst P) (lst X) w1) (fun w' => Fr [16008, 71, 72] w1 w' ∧ gI w' 15 0 8 = nI (n + 1) ∧ (∀ j, gI w' 71 0 j = if j = n then lst P else gI w1 71 0 j) ∧ (∀ j, gI w' 72 0 j = if j = n then lst X else gI w1 72 0 j)) := by
    intro w1 n hn e1
    have s1 : stI w1 71 0 (gI w1 15 0 8) 20 (lst P) = some (setI w1 71 0 n (lst P)) := by rw [e1]; exact stn (by omega) (by omega)
    have e2 : gI (setI w1 71 0 n (lst P)) 15 0 8 = nI n := by rw [gg_I, if_neg (by omega)]; exact e1
    have s2 : stI (setI w1 71 0 n (lst P)) 72 0 (gI (setI w1 71 0 n (lst P)) 15 0 8) 20 (lst X) = some (setI (setI w1 71 0 n (lst P)) 72 0 n (lst X)) := by rw [e2]; exact stn (by omega) (by omega)
    have e3 : gI (setI (setI w1 71 0 n (lst P)) 72 0 n (lst X)) 15 0 8 + (1 : Int32) = nI (n + 1) := by rw [gg_I, if_neg (by omega), e2]; exact nI_add _ 1
    simp only [fX11_remember_28, ↓bnd s1, ↓bnd s2, ↓e3]
    refine ok_some ⟨Fr_setI (Fr_setI (Fr_setI (Fr_refl _ _) rfl) rfl) rfl, by rw [gg_I, if_pos ⟨rfl, rfl, rfl⟩], fun j => ?_, fun j => ?_⟩
    · rw [gg_I, if_neg (by omega), gg_I, if_neg (by omega), gg_I]
      by_cases z : j = n
      · rw [if_pos ⟨rfl, rfl, z⟩, if_pos z]
      · rw [if_neg (fun q => z q.2.2), if_neg z]
    · rw [gg_I, if_neg (by omega), gg_I]
      by_cases z : j = n
      · rw [if_pos ⟨rfl, rfl, z⟩, if_pos z]
      · rw [if_neg (fun q => z q.2.2), if_neg z, gg_I, if_neg (by omega)]
  by_cases y : u = 20
  · subst y
    have q : (gI w 15 0 8 = (20 : Int32)) = True := eq_true (by rw [h1]; rfl)
    have e0 : gI w 15 0 8 - (1 : Int32) = nI 19 := by rw [h1]; exact (dn_sub 20).trans (if_neg (by omega))
    have e1 : gI (setI w 15 0 8 (nI 19)) 15 0 8 = nI 19 := by rw [gg_I, if_pos ⟨rfl, rfl, rfl⟩]
    have f1 : Fr [16008, 71, 72] w (setI w 15 0 8 (nI 19)) := Fr_setI (Fr_refl _ _) rfl
    have a71 : ∀ j, gI (setI w 15 0 8 (nI 19)) 71 0 j = gI w 71 0 j := fun j => by rw [gg_I, if_neg (by omega)]
    have a72 : ∀ j, gI (setI w 15 0 8 (nI 19)) 72 0 j = gI w 72 0 j := fun j => by rw [gg_I, if_neg (by omega)]
    generalize hw1 : setI w 15 0 8 (nI 19) = w1 at e1 f1 a71 a72
    have c1 : cpI w1 71 0 (1 : Int32) 20 71 0 (0 : Int32) 20 (gI w1 15 0 8) = some (setRowI w1 71 0 (va_cpy (gI w1 71 0) (gI w1 71 0) 1 0 19)) := by
      rw [e1]
      exact cpn (sp := 1) (dp := 0) (by omega) (by omega) (by omega) (by omega)
    have f2 : Fr [16008, 71, 72] w1 (setRowI w1 71 0 (va_cpy (gI w1 71 0) (gI w1 71 0) 1 0 19)) := Fr_row (Fr_refl _ _) (fun _ => rfl)
    have e2 : gI (setRowI w1 71 0 (va_cpy (gI w1 71 0) (gI w1 71 0) 1 0 19)) 15 0 8 = nI 19 := by rw [gg_row, if_neg (by omega)]; exact e1
    have b71 : ∀ j, j < 19 → gI (setRowI w1 71 0 (va_cpy (gI w1 71 0) (gI w1 71 0) 1 0 19)) 71 0 j = gI w 71 0 (j + 1) := fun j hj => by
      rw [gg_row, if_pos ⟨rfl, rfl⟩, pk_cpy_in (by omega) (by omega), a71]
      congr 1
      omega
    have b72 : ∀ j, gI (setRowI w1 71 0 (va_cpy (gI w1 71 0) (gI w1 71 0) 1 0 19)) 72 0 j = gI w 72 0 j := fun j => by rw [gg_row, if_neg (by omega)]; exact a72 j
    generalize hw2 : setRowI w1 71 0 (va_cpy (gI w1 71 0) (gI w1 71 0) 1 0 19) = w2 at c1 f2 e2 b71 b72
    have c2 : cpI w2 72 0 (1 : Int32) 20 72 0 (0 : Int32) 20 (gI w2 15 0 8) = some (setRowI w2 72 0 (va_cpy (gI w2 72 0) (gI w2 72 0) 1 0 19)) := by
      rw [e2]
      exact cpn (sp := 1) (dp := 0) (by omega) (by omega) (by omega) (by omega)
    have f3 : Fr [16008, 71, 72] w2 (setRowI w2 72 0 (va_cpy (gI w2 72 0) (gI w2 72 0) 1 0 19)) := Fr_row (Fr_refl _ _) (fun _ => rfl)
    have e3 : gI (setRowI w2 72 0 (va_cpy (gI w2 72 0) (gI w2 72 0) 1 0 19)) 15 0 8 = nI 19 := by rw [gg_row, if_neg (by omega)]; exact e2
    have d71 : ∀ j, j < 19 → gI (setRowI w2 72 0 (va_cpy (gI w2 72 0) (gI w2 72 0) 1 0 19)) 71 0 j = gI w 71 0 (j + 1) := fun j hj => by rw [gg_row, if_neg (by omega)]; exact b71 j hj
    have d72 : ∀ j, j < 19 → gI (setRowI w2 72 0 (va_cpy (gI w2 72 0) (gI w2 72 0) 1 0 19)) 72 0 j = gI w 72 0 (j + 1) := fun j hj => by
      rw [gg_row, if_pos ⟨rfl, rfl⟩, pk_cpy_in (by omega) (by omega), b72]
      congr 1
      omega
    generalize hw3 : setRowI w2 72 0 (va_cpy (gI w2 72 0) (gI w2 72 0) 1 0 19) = w3 at c2 f3 e3 d71 d72
    simp only [pX11_remember, ↓q, ↓e0, ↓hw1, ↓bnd c1, ↓bnd c2, ↓reduceIte, callW_eq]
    refine ok_mono (fin w3 19 (by omega) e3) (fun w4 h4 => ?_)
    obtain ⟨g1, g2, g3, g4⟩ := h4
    refine ⟨Fr_trans f1 (Fr_trans f2 (Fr_trans f3 g1)), g2, fun j hj => ?_⟩
    have hj' : j < 20 := hj
    rw [g3, g4, psU, psU, if_pos rfl, if_pos rfl]
    by_cases z : j < 19
    · rw [if_neg (show j ≠ 19 by omega), if_neg (show j ≠ 19 by omega), if_pos z, if_pos z, d71 j z, d72 j z]
      exact h2 (j + 1) (by omega)
    · rw [if_pos (show j = 19 by omega), if_pos (show j = 19 by omega), if_neg z, if_neg z]
      exact ⟨rfl, fun _ => rfl⟩
  · have q : (gI w 15 0 8 = (20 : Int32)) = False := eq_false (fun z => by
      rw [h1] at z
      exact y ((nI_eq (b := 20) (by omega) (by omega)).mp z))
    simp only [pX11_remember, ↓q, ↓reduceIte, callW_eq]
    refine ok_mono (fin w u (by omega) h1) (fun w4 h4 => ?_)
    obtain ⟨g1, g2, g3, g4⟩ := h4
    have en : psN u = u + 1 := if_neg y
    refine ⟨g1, by rw [en]; exact g2, fun j hj => ?_⟩
    rw [en] at hj
    rw [g3, g4, psU, psU, if_neg y, if_neg y]
    by_cases z : j = u
    · rw [if_pos z, if_pos z, if_pos z, if_pos z]
      exact ⟨rfl, fun _ => rfl⟩
    · rw [if_neg z, if_neg z, if_neg z, if_neg z]
      exact h2 j (by omega)
theorem m_rem6 {w0 : Wd} {a1 a2 a3 : Int32} {Q : Wd → Prop} (K : Wd → Option Wd) (hK : ∀ w, Fr [109] w0 w → (∀ j, j < 57 → gI w 109 0 j = gI w0 109 0 (j + 3)) → Ok (K w) Q) :
    ∀ fuel c w, c ≤ 57 → 57 - c < fuel → Fr [109] w0 w → (∀ j, j < c → gI w 109 0 j = gI w0 109 0 (j + 3)) → (∀ j, c ≤ j → gI w 109 0 j = gI w0 109 0 j) → Ok (fX12_remember_6 N a1 a2 a3 fuel K (nI c) w) Q := by
  intro fuel
  induction fuel with
  | zero => intro c _ _ h; omega
  | succ f ih =>
    intro c w hc hf f0 h1 h2
    have e1 : nI c + (1 : Int32) = nI (c + 1) := nI_add c 1
    rcases Nat.lt_or_ge c 57 with y | y
    · have lt : (nI c < (57 : Int32)) = True := eq_true ((nI_ltI (b := 57) (by omega) (by omega)).mpr y)
      have l1 : ldI w 109 0 (nI c + (3 : Int32)) 60 = some (gI w0 109 0 (c + 3)) := by rw [li3, nI_add, ldn (by omega) (by omega), h2 _ (by omega)]
      have s1 : ∀ x, stI w 109 0 (nI c) 60 x = some (setI w 109 0 c x) := fun x => stn (by omega) (by omega)
      simp only [fX12_remember_6, ↓lt, ↓bnd l1, ↓bnd (s1 _), ↓e1, ↓reduceIte, callW_eq]
      refine ih (c + 1) _ (by omega) (by omega) (Fr_setI f0 rfl) (fun j hj => ?_) (fun j hj => ?_)
      · rw [gg_I]
        by_cases z : j = c
        · subst z; rw [if_pos ⟨rfl, rfl, rfl⟩]
        · rw [if_neg (fun q => z q.2.2)]; exact h1 j (by omega)
      · rw [gg_I, if_neg (fun q => by omega)]; exact h2 j (by omega)
    · have : c = 57 := by omega
      subst this
      have lt : (nI 57 < (57 : Int32)) = False := eq_false (by decide)
      simp only [fX12_remember_6, ↓lt, ↓reduceIte]
      exact hK w f0 h1
theorem m_remember {u P X : Nat} {ep ex : Nat → Nat} {a1 a2 a3 : Int32} (hN : 100 ≤ N) (hu : u ≤ 20) (h : UNm w u ep ex) (ha1 : a1 = if P = 0 then nI 1 else nI 0) (ha : P ≠ 0 → a2 = lst P ∧ a3 = lst X) : Ok (pX12_remember N a1 a2 a3 w) (fun w' => Fr [17074, 109] w w' ∧ UNm w' (psN u) (psU u ep P) (psU u ex X)) := by
  obtain ⟨h1, h2⟩ := h
  have fin : ∀ (w1 : Wd) (n : Nat), n < 20 → gI w1 16 0 74 = nI n → Ok (fX12_remember_27 N a1 a2 a3 w1) (fun w' => Fr [17074, 109] w1 w' ∧ gI w' 16 0 74 = nI (n + 1) ∧ (∀ j, j < 3 * n → gI w' 109 0 j = gI w1 109 0 j) ∧ gI w' 109 0 (3 * n) = a1 ∧ gI w' 109 0 (3 * n + 1) = a2 ∧ gI w' 109 0 (3 * n + 2) = a3) := by
    intro w1 n hn e1
    have i0 : (3 : Int32) * gI w1 16 0 74 = nI (3 * n) := by rw [e1, li3, pk_mul]
    have s1 : stI w1 109 0 ((3 : Int32) * gI w1 16 0 74) 60 a1 = some (setI w1 109 0 (3 * n) a1) := by rw [i0]; exact stn (by omega) (by omega)
    have e2 : gI (setI w1 109 0 (3 * n) a1) 16 0 74 = nI n := by rw [gg_I, if_neg (by omega)]; exact e1
    have b2 : ∀ j, gI (setI w1 109 0 (3 * n) a1) 109 0 j = if j = 3 * n then a1 else gI w1 109 0 j := fun j => by
      rw [gg_I]
      by_cases z : j = 3 * n
      · rw [if_pos ⟨rfl, rfl, z⟩, if_pos z]
      · rw [if_neg (fun q => z q.2.2), if_neg z]
    have f2 : Fr [17074, 109] w1 (setI w1 109 0 (3 * n) a1) := Fr_setI (Fr_refl _ _) rfl
    generalize setI w1 109 0 (3 * n) a1 = w2 at s1 e2 b2 f2
    have s2 : stI w2 109 0 (((3 : Int32) * gI w2 16 0 74) + (1 : Int32)) 60 a2 = some (setI w2 109 0 (3 * n + 1) a2) := by
      rw [e2, li3, li1, pk_mul, nI_add]; exact stn (by omega) (by omega)
    have e3 : gI (setI w2 109 0 (3 * n + 1) a2) 16 0 74 = nI n := by rw [gg_I, if_neg (by omega)]; exact e2
    have b3 : ∀ j, gI (setI w2 109 0 (3 * n + 1) a2) 109 0 j = if j = 3 * n + 1 then a2 else gI w2 109 0 j := fun j => by
      rw [gg_I]
      by_cases z : j = 3 * n + 1
      · rw [if_pos ⟨rfl, rfl, z⟩, if_pos z]
      · rw [if_neg (fun q => z q.2.2), if_neg z]
    have f3 : Fr [17074, 109] w2 (setI w2 109 0 (3 * n + 1) a2) := Fr_setI (Fr_refl _ _) rfl
    generalize setI w2 109 0 (3 * n + 1) a2 = w3 at s2 e3 b3 f3
    have s3 : stI w3 109 0 (((3 : Int32) * gI w3 16 0 74) + (2 : Int32)) 60 a3 = some (setI w3 109 0 (3 * n + 2) a3) := by
      rw [e3, li3, li2, pk_mul, nI_add]; exact stn (by omega) (by omega)
    have e4 : gI (setI w3 109 0 (3 * n + 2) a3) 16 0 74 + (1 : Int32) = nI (n + 1) := by rw [gg_I, if_neg (by omega), e3]; exact nI_add _ 1
    have b4 : ∀ j, gI (setI w3 109 0 (3 * n + 2) a3) 109 0 j = if j = 3 * n + 2 then a3 else gI w3 109 0 j := fun j => by
      rw [gg_I]
      by_cases z : j = 3 * n + 2
      · rw [if_pos ⟨rfl, rfl, z⟩, if_pos z]
      · rw [if_neg (fun q => z q.2.2), if_neg z]
    have f4 : Fr [17074, 109] w3 (setI w3 109 0 (3 * n + 2) a3) := Fr_setI (Fr_refl _ _) rfl
    generalize setI w3 109 0 (3 * n + 2) a3 = w4 at s3 e4 b4 f4
    simp only [fX12_remember_27, ↓bnd s1, ↓bnd s2, ↓bnd s3, ↓e4]
    have c5 : ∀ j, gI (setI w4 16 0 74 (nI (n + 1))) 109 0 j = gI w4 109 0 j := fun j => by rw [gg_I, if_neg (by omega)]
    refine ok_some ⟨Fr_setI (Fr_trans f2 (Fr_trans f3 f4)) rfl, by rw [gg_I, if_pos ⟨rfl, rfl, rfl⟩], fun j hj => ?_, ?_, ?_, ?_⟩
    · rw [c5, b4, if_neg (by omega), b3, if_neg (by omega), b2, if_neg (by omega)]
    · rw [c5, b4, if_neg (by omega), b3, if_neg (by omega), b2, if_pos rfl]
    · rw [c5, b4, if_neg (by omega), b3, if_pos rfl]
    · rw [c5, b4, if_pos rfl]
  by_cases y : u = 20
  · subst y
    have q : (gI w 16 0 74 = (20 : Int32)) = True := eq_true (by rw [h1]; rfl)
    simp only [pX12_remember, ↓q, ↓reduceIte, callW_eq]
    rw [li0]
    refine m_rem6 (N := N) (w0 := w) _ (fun w1 f1 c1 => ?_) N 0 w (by omega) (by omega) (Fr_refl _ _) (fun j hj => by omega) (fun _ _ => rfl)
    have e0 : gI w1 16 0 74 - (1 : Int32) = nI 19 := by rw [(f1 16 0 74 rfl).1, h1]; exact (dn_sub 20).trans (if_neg (by omega))
    unfold fX12_remember_21
    rw [callW_eq, e0]
    have c2 : ∀ j, gI (setI w1 16 0 74 (nI 19)) 109 0 j = gI w1 109 0 j := fun j => by rw [gg_I, if_neg (by omega)]
    have f2 : Fr [17074, 109] w (setI w1 16 0 74 (nI 19)) := Fr_setI (Fr_mono f1 rfl) rfl
    refine ok_mono (fin (setI w1 16 0 74 (nI 19)) 19 (by omega) (by rw [gg_I, if_pos ⟨rfl, rfl, rfl⟩])) (fun w4 h4 => ?_)
    obtain ⟨g1, g2, g3, g4, g5, g6⟩ := h4
    refine ⟨Fr_trans f2 g1, g2, fun j hj => ?_⟩
    have hj' : j < 20 := hj
    rw [psU, psU, if_pos rfl, if_pos rfl]
    by_cases z : j < 19
    · rw [if_pos z, if_pos z, g3 _ (by omega), g3 _ (by omega), g3 _ (by omega), c2, c2, c2, c1 _ (by omega), c1 _ (by omega), c1 _ (by omega)]
      have := h2 (j + 1) (by omega)
      rw [show 3 * (j + 1) = 3 * j + 3 by omega] at this
      rw [show 3 * j + 1 + 3 = 3 * j + 3 + 1 by omega, show 3 * j + 2 + 3 = 3 * j + 3 + 2 by omega]
      exact this
    · have : j = 19 := by omega
      subst this
      rw [if_neg z, if_neg z, g4, g5, g6]
      exact ⟨ha1, fun hp => ha hp⟩
  · have q : (gI w 16 0 74 = (20 : Int32)) = False := eq_false (fun z => by
      rw [h1] at z
      exact y ((nI_eq (b := 20) (by omega) (by omega)).mp z))
    simp only [pX12_remember, ↓q, ↓reduceIte, callW_eq]
    refine ok_mono (fin w u (by omega) h1) (fun w4 h4 => ?_)
    obtain ⟨g1, g2, g3, g4, g5, g6⟩ := h4
    have en : psN u = u + 1 := if_neg y
    refine ⟨g1, by rw [en]; exact g2, fun j hj => ?_⟩
    rw [en] at hj
    rw [psU, psU, if_neg y, if_neg y]
    by_cases z : j = u
    · subst z
      rw [if_pos rfl, if_pos rfl, g4, g5, g6]
      exact ⟨ha1, fun hp => ha hp⟩
    · rw [if_neg z, if_neg z, g3 _ (by omega), g3 _ (by omega), g3 _ (by omega)]
      exact h2 j (by omega)
end

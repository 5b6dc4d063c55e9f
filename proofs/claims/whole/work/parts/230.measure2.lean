/-! ===== the class's table is the reference's ===== -/
/-- all ways of at most r parts stand -/
def cmp (D : Nat → Nat) (P r : Nat) (X : Nat → Nat → Nat) : Prop := ∀ k g, k < 8 → g < P → D (7 * k + g) < 99999 → D (7 * k + g) % 100 ≤ r → X k g ≤ lT D k g
section
variable {N : Nat} {w : Wd} {v : Vw} {kn : Nat → Nat} {to : Nat} {D : Nat → Nat}
theorem cmp_step (hF : WF v) (hD : FD v kn to D) (ht : to < 8) (hP : ∀ g, v 0 1 ≤ g → g < 7 → kn g = 0) {r : Nat} {X0 X : Nat → Nat → Nat} {M0 : Nat → Nat} (hM0 : MJ D X0 M0) (h1 : ∀ k g, k < 8 → g < 6 → X k g ≤ X0 k g) (h0 : cmp D (v 0 1) r X0) (hr : 1 ≤ r)
    (h2 : ∀ k g n, k < 8 → g < v 0 1 → n < 8 → (kn g).testBit k = true → (v 3 k).testBit n = true → X k g ≤ 1 + X0 n g ∧ X k g ≤ 1 + M0 n + 16) : cmp D (v 0 1) (r + 1) X := by
  have hp6 := WF_people hF
  intro k g hk hg hf hm
  have hx1 := h1 k g hk (by omega)
  rcases lT_go hD ht hk (show g < 7 by omega) hf with ⟨e, e1, e2⟩ | ⟨k', g', a1, a2, a3, a4, a5, a6⟩
  · have := h0 k g hk hg hf (by omega)
    omega
  · have hkn := FD_kn hD hk (show g < 7 by omega) hf
    have hg' : g' < v 0 1 := by
      apply Classical.byContradiction
      intro q
      have := FD_kn hD a1 a2 a4
      rw [hP g' (by omega) a2] at this
      simp at this
    have hx := h0 k' g' a1 hg' a4 (by omega)
    have h3 := h2 k g k' hk hg a1 hkn a3
    have h4 := (hM0.1 k' g' a1 (by omega)).2.2
    by_cases q : g = g'
    · subst q
      rw [if_pos rfl] at a5
      omega
    · rw [if_neg q] at a5
      omega
theorem cmp_fix (hF : WF v) (hD : FD v kn to D) (ht : to < 8) (hP : ∀ g, v 0 1 ≤ g → g < 7 → kn g = 0) {X : Nat → Nat → Nat} {M : Nat → Nat} (hM : MJ D X M) (h0 : cmp D (v 0 1) 1 X)
    (h2 : ∀ k g n, k < 8 → g < v 0 1 → n < 8 → (kn g).testBit k = true → (v 3 k).testBit n = true → X k g ≤ 1 + X n g ∧ X k g ≤ 1 + M n + 16) : ∀ r, 1 ≤ r → cmp D (v 0 1) r X := by
  intro r
  induction r with
  | zero => intro h; omega
  | succ r ih =>
    intro _
    rcases Nat.eq_zero_or_pos r with h | h
    · subst h; exact h0
    · exact cmp_step hF hD ht hP hM (fun _ _ _ _ => Nat.le_refl _) (ih h) h h2
def iX (kn : Nat → Nat) (to d k g : Nat) : Nat := if k = to ∧ g < d ∧ (kn g).testBit to = true then 1 else 1048576
def iM (kn : Nat → Nat) (to d k : Nat) : Nat := if k = to ∧ anyB (fun g => (kn g).testBit to) d = true then 1 else 1048576
def mR (w0 : Wd) (D : Nat → Nat) (P r : Nat) (w : Wd) : Prop := Fr kM2 w0 w ∧ ∃ X M, lXT w X M ∧ MJ D X M ∧ cmp D P r X
theorem c_me67 {w0 : Wd} (hR0 : RC w0 0 v) (hF : WF v) (hD : FD v kn to D) (ht : to < 8) (hN : 100 ≤ N) (hP : ∀ g, v 0 1 ≤ g → g < 7 → kn g = 0) (hkn : ∀ g, g < v 0 1 → gI w0 23 0 g = nI (kn g)) (h8 : ∀ g, kn g < 2 ^ 8) {X0 : Nat → Nat → Nat} {M0 : Nat → Nat} (hX0 : lXT w0 X0 M0) (hM0 : MJ D X0 M0) {r : Nat} (hr : 1 ≤ r) (h0 : cmp D (v 0 1) r X0) {v3 : Int32} {Q : Wd → Prop} (k81 : Int32 → Int32 → Wd → Option Wd)
    (hk : ∀ m w, m ≤ 1 → mR w0 D (v 0 1) (r + 1) w → (m = 0 → mR w0 D (v 0 1) 9 w) → Ok (k81 (nI m) v3 w) Q) :
    ∀ fuel c m w, c ≤ v 0 0 → v 0 0 - c < fuel → m ≤ 1 → (Fr kM2 w0 w ∧ ∃ X M, lXT w X M ∧ MJ D X M ∧ (∀ k g, k < 8 → g < 6 → X k g ≤ X0 k g) ∧ (∀ k, k < 8 → M k ≤ M0 k) ∧ (m = 0 → (∀ k g, k < 8 → g < 6 → X k g = X0 k g) ∧ ∀ k, k < 8 → M k = M0 k) ∧
      ∀ k g n, k < c → g < v 0 1 → n < 8 → (kn g).testBit k = true → (v 3 k).testBit n = true → X k g ≤ 1 + X0 n g ∧ X k g ≤ 1 + M0 n + 16) →
    Ok (fX2_measure_67 N fuel k81 (nI m) v3 (nI c) w) Q := by
  have h1 := WF_people hF
  have h2 := WF_parts hF
  intro fuel
  induction fuel with
  | zero => intro c m w _ h; omega
  | succ f ih =>
    intro c m w hc hf hm hI
    obtain ⟨i1, X, M, i2, i3, i4, i5, i6, i7⟩ := hI
    have hR := RC_fr i1 hR0
    have e1 : nI c + (1 : Int32) = nI (c + 1) := nI_add c 1
    rcases Nat.lt_or_ge c (v 0 0) with h | h
    · have lt : (nI c < gI w 8 (gR w 13 0 0) 0) = True := eq_true (by rw [TC_parts hR.1]; exact (nI_ltI (by omega) (by omega)).mpr h)
      simp only [fX2_measure_67, ↓lt, ↓reduceIte, callW_eq, ↓e1]
      have hf1 : v 0 0 - (c + 1) < f := by omega
      refine ok_bind (c_shorten hR hF hD ht hN (fun g hg => ((i1 23 0 g rfl).1).trans (hkn g hg)) h8 i2 i3 h) ?_
      rintro ⟨x, w1⟩ ⟨m', hm', rfl, j1, X', M', j2, j3, j4, j5, j6, j7⟩
      rw [nz_or]
      have hmm : m ||| m' ≤ 1 ∧ (m ||| m' = 0 → m = 0 ∧ m' = 0) := by
        rcases (show m = 0 ∨ m = 1 by omega) with rfl | rfl <;> rcases (show m' = 0 ∨ m' = 1 by omega) with rfl | rfl <;> decide
      refine ih (c + 1) (m ||| m') w1 (by omega) hf1 hmm.1 ⟨Fr_trans i1 j1, X', M', j2, j3, fun k g a b => Nat.le_trans (j4 k g a b) (i4 k g a b), fun k a => Nat.le_trans (j5 k a) (i5 k a), fun z => ?_, fun k g n a b c1 c2 c3 => ?_⟩
      · obtain ⟨z1, z2⟩ := hmm.2 z
        obtain ⟨p1, p2⟩ := i6 z1
        obtain ⟨q1, q2⟩ := j6 z2
        exact ⟨fun k g a b => (q1 k g a b).trans (p1 k g a b), fun k a => (q2 k a).trans (p2 k a)⟩
      · rcases Nat.lt_or_ge k c with y | y
        · have t1 := i7 k g n y b c1 c2 c3
          have t2 := j4 k g (by omega) (by omega)
          omega
        · have : k = c := by omega
          subst this
          have t1 := j7 g n b c1 c2 c3
          have t2 := i4 n g c1 (by omega)
          have t3 := i5 n c1
          omega
    · have : c = v 0 0 := by omega
      subst this
      have lt : (nI (v 0 0) < gI w 8 (gR w 13 0 0) 0) = False := eq_false (by rw [TC_parts hR.1]; exact fun z => by have := (nI_ltI (by omega) (by omega)).mp z; omega)
      simp only [fX2_measure_67, ↓lt, ↓reduceIte]
      have all : ∀ k g n, k < 8 → g < v 0 1 → n < 8 → (kn g).testBit k = true → (v 3 k).testBit n = true → X k g ≤ 1 + X0 n g ∧ X k g ≤ 1 + M0 n + 16 := fun k g n a b c1 c2 c3 => i7 k g n (adj_lt hF c3).1 b c1 c2 c3
      refine hk m w hm ⟨i1, X, M, i2, i3, cmp_step hF hD ht hP hM0 i4 h0 hr all⟩ (fun z => ⟨i1, X, M, i2, i3, ?_⟩)
      obtain ⟨p1, p2⟩ := i6 z
      refine cmp_fix hF hD ht hP i3 ?_ ?_ 9 (by omega)
      · intro k g a b c1 c2
        rw [p1 k g a (by omega)]
        exact h0 k g a b c1 (by omega)
      · intro k g n a b c1 c2 c3
        have := all k g n a b c1 c2 c3
        rw [p1 n g c1 (by omega), p2 n c1]
        exact this
theorem c_me58 {w0 : Wd} (hR0 : RC w0 0 v) (hF : WF v) (hD : FD v kn to D) (ht : to < 8) (hN : 100 ≤ N) (hP : ∀ g, v 0 1 ≤ g → g < 7 → kn g = 0) (hkn : ∀ g, g < v 0 1 → gI w0 23 0 g = nI (kn g)) (h8 : ∀ g, kn g < 2 ^ 8) :
    ∀ fuel c m w, c ≤ 8 → 8 - c < fuel → m ≤ 1 → mR w0 D (v 0 1) (c + 1) w → (m = 0 → mR w0 D (v 0 1) 9 w) → Ok (fX2_measure_58 N fuel (nI m) (nI c) w) (fun w' => mR w0 D (v 0 1) 9 w') := by
  have h2 := WF_parts hF
  intro fuel
  induction fuel with
  | zero => intro c m w _ h; omega
  | succ f ih =>
    intro c m w hc hf hm hI hz
    have e1 : nI c + (1 : Int32) = nI (c + 1) := nI_add c 1
    rcases Nat.lt_or_ge c 8 with h | h
    · have lt : (nI c < (8 : Int32)) = True := eq_true ((nI_ltI (a := c) (b := 8) (by omega) (by omega)).mpr h)
      rcases (show m = 0 ∨ m = 1 by omega) with rfl | rfl
      · have y0 : (nI 0 = (0 : Int32)) = True := eq_true rfl
        simp only [fX2_measure_58, ↓lt, ↓y0, ↓reduceIte]
        exact ok_some (hz rfl)
      · have y0 : (nI 1 = (0 : Int32)) = False := eq_false (by decide)
        obtain ⟨i1, X, M, i2, i3, i4⟩ := hI
        have hR := RC_fr i1 hR0
        simp only [fX2_measure_58, ↓lt, ↓y0, ↓reduceIte, callW_eq, li0]
        refine c_me67 (w0 := w) (r := c + 1) (v3 := nI c) hR hF hD ht hN hP (fun g hg => ((i1 23 0 g rfl).1).trans (hkn g hg)) h8 i2 i3 (by omega) i4 _ ?_ N 0 0 w (by omega) (by omega) (by omega) ⟨Fr_refl _ _, X, M, i2, i3, fun _ _ _ _ => Nat.le_refl _, fun _ _ => Nat.le_refl _, fun _ => ⟨fun _ _ _ _ => rfl, fun _ _ => rfl⟩, fun k g n h => by omega⟩
        intro m' w' hm' hA hB
        simp only [fX2_measure_81, ↓e1]
        have lift : ∀ r, mR w D (v 0 1) r w' → mR w0 D (v 0 1) r w' := fun r q => ⟨Fr_trans i1 q.1, q.2⟩
        exact ih (c + 1) m' w' (by omega) (by omega) hm' (lift _ hA) (fun z => lift _ (hB z))
    · have : c = 8 := by omega
      subst this
      have lt : (nI 8 < (8 : Int32)) = False := eq_false (by decide)
      simp only [fX2_measure_58, ↓lt, ↓reduceIte]
      exact ok_some hI
theorem c_measure {w0 : Wd} (hR0 : RC w0 0 v) (hF : WF v) (hD : FD v kn to D) (ht : to < v 0 0) (hN : 100 ≤ N) (hP : ∀ g, v 0 1 ≤ g → g < 7 → kn g = 0) (hkn : ∀ g, g < v 0 1 → gI w0 23 0 g = nI (kn g)) (h8 : ∀ g, kn g < 2 ^ 8) :
    Ok (pX2_measure N (nI to) w0) (fun w' => Fr kM2 w0 w' ∧ (∀ k g, k < 8 → g < 6 → gI w' 25 k g = nI (lT D k g)) ∧ ∀ k, k < 8 → gI w' 26 0 k = nI (ph (lsF D k 7))) := by
  have h1 := WF_people hF
  have h2 := WF_parts hF
  have ht8 : to < 8 := by omega
  have finish : ∀ w', mR w0 D (v 0 1) 9 w' → Fr kM2 w0 w' ∧ (∀ k g, k < 8 → g < 6 → gI w' 25 k g = nI (lT D k g)) ∧ ∀ k, k < 8 → gI w' 26 0 k = nI (ph (lsF D k 7)) := by
    rintro w' ⟨i1, X, M, i2, i3, i4⟩
    have hX : ∀ k g, k < 8 → g < 6 → X k g = lT D k g := by
      intro k g hk hg
      have hs := i3.1 k g hk hg
      rcases Nat.lt_or_ge (D (7 * k + g)) 99999 with q | q
      · have hgP : g < v 0 1 := by
          apply Classical.byContradiction
          intro y
          have := FD_kn hD hk (show g < 7 by omega) q
          rw [hP g (by omega) (by omega)] at this
          simp at this
        have hp := FD_hp hD ht8 hk (show g < 7 by omega) q
        have := i4 k g hk hgP q (by omega)
        omega
      · have : lT D k g = 1048576 := by unfold lT ph; rw [if_neg (by omega)]
        omega
    refine ⟨i1, fun k g hk hg => by rw [i2.1 k g hk hg, hX k g hk hg], fun k hk => ?_⟩
    rw [i2.2 k hk]
    congr 1
    obtain ⟨l1, l2, l3⟩ := lsF_le D k 7
    have h6 : D (7 * k + 6) = 99999 := by
      apply Classical.byContradiction
      intro q
      have hb := FD_bd hD hk (show 6 < 7 by omega)
      have := FD_kn hD hk (show 6 < 7 by omega) (by omega)
      rw [hP 6 (by omega) (by omega)] at this
      simp at this
    obtain ⟨m1, m2⟩ := i3.2 k hk
    rcases l3 with e | ⟨g, hg, e⟩
    · have far : ph (lsF D k 7) = 1048576 := by rw [e]; rfl
      rcases m2 with z | ⟨g', a1, a2⟩
      · omega
      · rw [hX k g' hk a1] at a2
        have hb := FD_bd hD hk (show g' < 7 by omega)
        have := l2 g' (by omega)
        have : lT D k g' = 1048576 := by unfold lT ph; rw [if_neg (by omega)]
        omega
    · rcases Nat.lt_or_ge (D (7 * k + g)) 99999 with q | q
      · have hg6 : g < 6 := by
          rcases Nat.lt_or_ge g 6 with y | y
          · exact y
          · have : g = 6 := by omega
            subst this; omega
        have t1 := (i3.1 k g hk hg6).2.2
        rw [hX k g hk hg6] at t1
        have e2 : lT D k g = ph (lsF D k 7) := by unfold lT; rw [e]
        rcases m2 with z | ⟨g', a1, a2⟩
        · have := ph_far.mpr q
          unfold lT at t1
          omega
        · rw [hX k g' hk a1] at a2
          have hb := FD_bd hD hk (show g' < 7 by omega)
          have lle := l2 g' (by omega)
          rcases Nat.lt_or_ge (D (7 * k + g')) 99999 with y | y
          · have p1 := FD_hp hD ht8 hk (show g < 7 by omega) q
            have p2 := FD_hp hD ht8 hk (show g' < 7 by omega) y
            have := (ph_mono p1.1 p1.2 p2.1 p2.2).mp (by omega)
            unfold lT at a2 t1
            rw [e]
            omega
          · have : lT D k g' = 1048576 := by unfold lT ph; rw [if_neg (by omega)]
            have := ph_far.mpr q
            unfold lT at t1
            omega
      · have far : ph (lsF D k 7) = 1048576 := by
          unfold ph; rw [if_neg (by omega)]
        rcases m2 with z | ⟨g', a1, a2⟩
        · omega
        · rw [hX k g' hk a1] at a2
          have := l2 g' (by omega)
          have : lT D k g' = 1048576 := by unfold lT ph; rw [if_neg (by omega)]
          omega
  have third : ∀ fuel d w1, d ≤ v 0 1 → v 0 1 - d < fuel → (Fr kM2 w0 w1 ∧ lXT w1 (iX kn to d) (iM kn to d)) →
      Ok (fX2_measure_28 N (nI to) fuel (fX2_measure_54 N) (nI d) w1) (fun w' => Fr kM2 w0 w' ∧ (∀ k g, k < 8 → g < 6 → gI w' 25 k g = nI (lT D k g)) ∧ ∀ k, k < 8 → gI w' 26 0 k = nI (ph (lsF D k 7))) := by
    intro fuel
    induction fuel with
    | zero => intro d w1 _ h; omega
    | succ f ih =>
      intro d w1 hd hf hI
      obtain ⟨i1, i2⟩ := hI
      have hR := RC_fr i1 hR0
      have e1 : nI d + (1 : Int32) = nI (d + 1) := nI_add d 1
      rcases Nat.lt_or_ge d (v 0 1) with h | h
      · have lt : (nI d < gI w1 10 (gR w1 13 0 0) 0) = True := eq_true (by rw [TC_people hR.1]; exact (nI_ltI (by omega) (by omega)).mpr h)
        have gk := c_isKnown (N := N) (w := w1) (kn := kn) (k := to) (g := d) (by omega) (by omega) (((i1 23 0 d rfl).1).trans (hkn d h)) (h8 d)
        cases z : (kn d).testBit to with
        | false =>
          rw [z] at gk
          have z0 : (zB false = 0) = True := eq_true rfl
          simp only [fX2_measure_28, ↓lt, ↓cbnd gk, ↓z0, ↓reduceIte, callW_eq, ↓e1]
          refine ih (d + 1) w1 (by omega) (by omega) ⟨i1, fun k g a b => ?_, fun k a => ?_⟩
          · rw [i2.1 k g a b]
            congr 1
            unfold iX
            by_cases y : k = to ∧ g < d ∧ (kn g).testBit to = true
            · rw [if_pos y, if_pos ⟨y.1, by omega, y.2.2⟩]
            · rw [if_neg y, if_neg]
              rintro ⟨y1, y2, y3⟩
              by_cases y4 : g = d
              · subst y4; rw [z] at y3; cases y3
              · exact y ⟨y1, by omega, y3⟩
          · rw [i2.2 k a, iM, iM, anyB, z, Bool.or_false]
        | true =>
          rw [z] at gk
          have z0 : (zB true = 0) = False := eq_false (by decide)
          have l1 := l8 ht8
          have s3 : stI w1 25 to (nI d) 6 (1 : Int32) = some (setI w1 25 to d (nI 1)) := stn (by omega) (by omega)
          have s4 : stI (setI w1 25 to d (nI 1)) 26 0 (nI to) 8 (1 : Int32) = some (setI (setI w1 25 to d (nI 1)) 26 0 to (nI 1)) := stn (by omega) (by omega)
          simp only [fX2_measure_28, ↓lt, ↓cbnd gk, ↓z0, ↓bnd l1, ↓bnd s3, ↓bnd s4, ↓reduceIte, callW_eq, ↓e1]
          refine ih (d + 1) _ (by omega) (by omega) ⟨Fr_setI (Fr_setI i1 rfl) rfl, fun k g a b => ?_, fun k a => ?_⟩
          · rw [gg_I, if_neg (by omega), gg_I]
            by_cases y : k = to ∧ g = d
            · obtain ⟨rfl, rfl⟩ := y
              rw [if_pos ⟨rfl, rfl, rfl⟩, iX, if_pos ⟨rfl, by omega, z⟩]
            · rw [if_neg (fun q => y ⟨q.2.1, q.2.2⟩), i2.1 k g a b]
              congr 1
              unfold iX
              by_cases y2 : k = to ∧ g < d ∧ (kn g).testBit to = true
              · rw [if_pos y2, if_pos ⟨y2.1, by omega, y2.2.2⟩]
              · rw [if_neg y2, if_neg]
                rintro ⟨y3, y4, y5⟩
                exact y2 ⟨y3, by omega, y5⟩
          · rw [gg_I]
            by_cases y : k = to
            · subst y
              rw [if_pos ⟨rfl, rfl, rfl⟩, iM, anyB, z, Bool.or_true, if_pos ⟨rfl, rfl⟩]
            · rw [if_neg (fun q => y q.2.2), gg_I, if_neg (by omega), i2.2 k a, iM, iM, if_neg (fun q => y q.1), if_neg (fun q => y q.1)]
      · have : d = v 0 1 := by omega
        subst this
        have lt : (nI (v 0 1) < gI w1 10 (gR w1 13 0 0) 0) = False := eq_false (by rw [TC_people hR.1]; exact fun z => by have := (nI_ltI (by omega) (by omega)).mp z; omega)
        simp only [fX2_measure_28, fX2_measure_54, ↓lt, ↓reduceIte, callW_eq, li0, li1]
        refine ok_mono (c_me58 hR0 hF hD ht8 hN hP hkn h8 N 0 1 w1 (by omega) (by omega) (by omega) ⟨i1, _, _, i2, ⟨fun k g a b => ?_, fun k a => ?_⟩, ?_⟩ (fun z => by omega)) finish
        · unfold iX iM
          by_cases y : k = to ∧ g < v 0 1 ∧ (kn g).testBit to = true
          · have y' : k = to ∧ anyB (fun g => (kn g).testBit to) (v 0 1) = true := ⟨y.1, anyB_true.mpr ⟨g, y.2⟩⟩
            rw [if_pos y, if_pos y']
            refine ⟨by omega, ?_, by omega⟩
            obtain ⟨rfl, y2, y3⟩ := y
            have := FD_1 hD ht8 (show g < 7 by omega) y3
            unfold lT
            rw [this]
            decide
          · rw [if_neg y]
            refine ⟨by omega, ph_bd _, ?_⟩
            split <;> omega
        · unfold iX iM
          by_cases y : k = to ∧ anyB (fun g => (kn g).testBit to) (v 0 1) = true
          · rw [if_pos y]
            obtain ⟨g, b1, b2⟩ := anyB_true.mp y.2
            exact ⟨by omega, Or.inr ⟨g, by omega, by rw [if_pos ⟨y.1, b1, b2⟩]⟩⟩
          · rw [if_neg y]
            exact ⟨by omega, Or.inl rfl⟩
        · intro k g a b c1 c2
          have hp := FD_hp hD ht8 a (show g < 7 by omega) c1
          have hkg := FD_kn hD a (show g < 7 by omega) c1
          rcases lT_go hD ht8 a (show g < 7 by omega) c1 with ⟨y1, y2, y3⟩ | ⟨k', g', y1, y2, y3, y4, y5, y6⟩
          · subst y1
            rw [iX, if_pos ⟨rfl, b, hkg⟩, y2]; omega
          · have := FD_hp hD ht8 y1 y2 y4
            omega
  have second : ∀ (c : Nat), c < 8 → ∀ (w2 : Wd), (Fr kM2 w0 w2 ∧ (∀ k g, k < c → g < 6 → gI w2 25 k g = nI 1048576) ∧ ∀ k, k < c + 1 → gI w2 26 0 k = nI 1048576) → ∀ {Q : Wd → Prop} (k24 : Int32 → Wd → Option Wd), (∀ w3, (Fr kM2 w0 w3 ∧ (∀ k g, k < c + 1 → g < 6 → gI w3 25 k g = nI 1048576) ∧ ∀ k, k < c + 1 → gI w3 26 0 k = nI 1048576) → Ok (k24 (nI c) w3) Q) →
      ∀ fuel d w3, d ≤ 6 → 6 - d < fuel → (Fr kM2 w0 w3 ∧ (∀ k g, k < c → g < 6 → gI w3 25 k g = nI 1048576) ∧ (∀ g, g < d → gI w3 25 c g = nI 1048576) ∧ ∀ k, k < c + 1 → gI w3 26 0 k = nI 1048576) → Ok (fX2_measure_12 N (nI to) fuel k24 (nI c) (nI d) w3) Q := by
    intro c hc w2 _ Q k24 hk fuel
    induction fuel with
    | zero => intro d w1 _ h; omega
    | succ f ih =>
      intro d w3 hd hf hI
      obtain ⟨i1, i2, i3, i4⟩ := hI
      have e1 : nI d + (1 : Int32) = nI (d + 1) := nI_add d 1
      rcases Nat.lt_or_ge d 6 with h | h
      · have lt : (nI d < (6 : Int32)) = True := eq_true ((nI_ltI (a := d) (b := 6) (by omega) (by omega)).mpr h)
        have l1 := l8 hc
        have s2 : stI w3 25 c (nI d) 6 (1048576 : Int32) = some (setI w3 25 c d (nI 1048576)) := stn (by omega) (by omega)
        simp only [fX2_measure_12, ↓lt, ↓bnd l1, ↓bnd s2, ↓reduceIte, callW_eq, ↓e1]
        refine ih (d + 1) _ (by omega) (by omega) ⟨Fr_setI i1 rfl, fun k g a b => ?_, fun g a => ?_, fun k a => ?_⟩
        · rw [gg_I, if_neg (fun z => by have := z.2.1; omega)]; exact i2 k g a b
        · rw [gg_I]
          by_cases y : g = d
          · rw [if_pos ⟨rfl, rfl, y⟩]
          · rw [if_neg (fun z => y z.2.2)]; exact i3 g (by omega)
        · rw [gg_I, if_neg (by omega)]; exact i4 k a
      · have : d = 6 := by omega
        subst this
        have lt : (nI 6 < (6 : Int32)) = False := eq_false (by decide)
        simp only [fX2_measure_12, ↓lt, ↓reduceIte]
        refine hk w3 ⟨i1, fun k g a b => ?_, i4⟩
        by_cases y : k = c
        · subst y; exact i3 g b
        · exact i2 k g (by omega) b
  have first : ∀ fuel c w1, c ≤ 8 → 8 - c < fuel → (Fr kM2 w0 w1 ∧ (∀ k g, k < c → g < 6 → gI w1 25 k g = nI 1048576) ∧ ∀ k, k < c → gI w1 26 0 k = nI 1048576) →
      Ok (fX2_measure_2 N (nI to) fuel (fX2_measure_26 N (nI to)) (nI c) w1) (fun w' => Fr kM2 w0 w' ∧ (∀ k g, k < 8 → g < 6 → gI w' 25 k g = nI (lT D k g)) ∧ ∀ k, k < 8 → gI w' 26 0 k = nI (ph (lsF D k 7))) := by
    intro fuel
    induction fuel with
    | zero => intro d w1 _ h; omega
    | succ f ih =>
      intro c w1 hc hf hI
      obtain ⟨i1, i2, i3⟩ := hI
      have e1 : nI c + (1 : Int32) = nI (c + 1) := nI_add c 1
      rcases Nat.lt_or_ge c 8 with h | h
      · have lt : (nI c < (8 : Int32)) = True := eq_true ((nI_ltI (a := c) (b := 8) (by omega) (by omega)).mpr h)
        have s1 : stI w1 26 0 (nI c) 8 (1048576 : Int32) = some (setI w1 26 0 c (nI 1048576)) := stn (by omega) (by omega)
        simp only [fX2_measure_2, ↓lt, ↓bnd s1, ↓reduceIte, callW_eq, li0]
        have hI2 : Fr kM2 w0 (setI w1 26 0 c (nI 1048576)) ∧ (∀ k g, k < c → g < 6 → gI (setI w1 26 0 c (nI 1048576)) 25 k g = nI 1048576) ∧ ∀ k, k < c + 1 → gI (setI w1 26 0 c (nI 1048576)) 26 0 k = nI 1048576 := by
          refine ⟨Fr_setI i1 rfl, fun k g a b => ?_, fun k a => ?_⟩
          · rw [gg_I, if_neg (by omega)]; exact i2 k g a b
          · rw [gg_I]
            by_cases y : k = c
            · rw [if_pos ⟨rfl, rfl, y⟩]
            · rw [if_neg (fun z => y z.2.2)]; exact i3 k (by omega)
        refine second c h _ hI2 _ ?_ N 0 _ (by omega) (by omega) ⟨hI2.1, hI2.2.1, fun g h => by omega, hI2.2.2⟩
        intro w3 h3
        simp only [fX2_measure_24, ↓e1]
        exact ih (c + 1) w3 (by omega) (by omega) h3
      · have : c = 8 := by omega
        subst this
        have lt : (nI 8 < (8 : Int32)) = False := eq_false (by decide)
        simp only [fX2_measure_2, fX2_measure_26, ↓lt, ↓reduceIte, callW_eq, li0]
        refine third N 0 w1 (by omega) (by omega) ⟨i1, fun k g a b => ?_, fun k a => ?_⟩
        · rw [i2 k g a b, iX, if_neg (by omega)]
        · rw [i3 k a, iM, if_neg (by simp [anyB])]
  unfold pX2_measure
  rw [callW_eq, li0]
  exact first N 0 w0 (by omega) (by omega) ⟨Fr_refl _ _, fun k g h => by omega, fun k h => by omega⟩
end

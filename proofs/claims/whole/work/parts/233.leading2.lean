/-! ===== the class leads: parts, guides ===== -/
section
variable {N : Nat} {w : Wd} {v : Vw} {kn : Nat → Nat} {to : Nat} {D : Nat → Nat} {f : Nat}
def kLd : List Nat := [27, 28, 29, 7007, 7008]
theorem c_follow (hR : RC w 0 v) (hF : WF v) (hT : LDt w D) (hD : FD v kn to D) (ht : to < 8) (hN : 100 ≤ N) (hP : ∀ g, v 0 1 ≤ g → g < 7 → kn g = 0) (hf : f < v 0 0) (hb : lsF D f 7 < 99999) :
    Ok (pX2_followParts N (nI f) (nI (lsF D f 7 % 100)) w) (fun w' => Fr [27, 28, 7007] w w' ∧ wyL w' v D f (lsF D f 7 % 100) ∧ gI w' 6 0 7 = nI (lsF D f 7 % 100)) := by
  have h1 := WF_people hF
  have h2 := WF_parts hF
  have hlen := FD_best hD ht (show f < 8 by omega) hb
  have second : ∀ fuel c w1, 1 ≤ c → c ≤ lsF D f 7 % 100 → lsF D f 7 % 100 - c < fuel → (Fr [27, 28, 7007] w w1 ∧ wyL w1 v D f c ∧ gI w1 6 0 7 = nI (lsF D f 7 % 100)) → Ok (fX2_followParts_49 N fuel (nI c) w1) (fun w' => Fr [27, 28, 7007] w w' ∧ wyL w' v D f (lsF D f 7 % 100) ∧ gI w' 6 0 7 = nI (lsF D f 7 % 100)) := by
    intro fuel
    induction fuel with
    | zero => intro c _ _ _ h; omega
    | succ n ih =>
      intro c w1 hc1 hc hf' hI
      obtain ⟨i1, i2, i3⟩ := hI
      have e1 : nI c + (1 : Int32) = nI (c + 1) := nI_add c 1
      rcases Nat.lt_or_ge c (lsF D f 7 % 100) with h | h
      · have lt : (nI c < gI w1 6 0 7) = True := eq_true (by rw [i3]; exact (nI_ltI (by omega) (by omega)).mpr h)
        simp only [fX2_followParts_49, ↓lt, ↓reduceIte, callW_eq, ↓e1]
        obtain ⟨i, rfl⟩ : ∃ i, c = i + 1 := ⟨c - 1, by omega⟩
        refine ok_bind (c_chooseNext (RC_fr i1 hR) hF (LDt_fr i1 hT) hD ht hN hP hf hb h i2) ?_
        rintro w2 ⟨j1, j2⟩
        exact ih (i + 2) w2 (by omega) (by omega) (by omega) ⟨Fr_trans i1 (Fr_mono j1 rfl), j2, ((j1 6 0 7 rfl).1).trans i3⟩
      · have : c = lsF D f 7 % 100 := by omega
        subst this
        have lt : (nI (lsF D f 7 % 100) < gI w1 6 0 7) = False := eq_false (by rw [i3]; exact fun z => by have := (nI_ltI (by omega) (by omega)).mp z; omega)
        simp only [fX2_followParts_49, ↓lt, ↓reduceIte]
        exact ok_some ⟨i1, i2, i3⟩
  have eqA : ∀ g, g < v 0 1 → ((D (7 * f + g) == lsF D f 7) = true ↔ lT D f g = ph (lsF D f 7)) := by
    intro g hg
    rw [beq_iff_eq]
    unfold lT
    constructor
    · intro e; rw [e]
    · intro e
      have hfin : D (7 * f + g) < 99999 := ph_far.mp (by rw [e]; exact ph_far.mpr hb)
      have p1 := FD_hp hD ht (show f < 8 by omega) (show g < 7 by omega) hfin
      have m1 := (ph_mono p1.1 p1.2 hlen.1 hlen.2).mpr (by omega)
      have m2 := (ph_mono hlen.1 hlen.2 p1.1 p1.2).mpr (by omega)
      omega
  have hA0 : mkB (fun g => D (7 * f + g) == lsF D f 7) (v 0 1) = (wyS v D f 0).2 := by
    show _ = mkB _ 7
    apply Nat.eq_of_testBit_eq
    intro g
    rw [mkB_bit, mkB_bit]
    by_cases q : g < v 0 1
    · have q7 : g < 7 := by omega
      simp [q, q7]
    · have : (decide (g < 7) && (D (7 * f + g) == lsF D f 7)) = false := by
        cases z : (decide (g < 7) && (D (7 * f + g) == lsF D f 7)) with
        | false => rfl
        | true =>
          rw [Bool.and_eq_true, decide_eq_true_eq, beq_iff_eq] at z
          exact absurd (gP hF hD hP (show f < 8 by omega) z.1 (by omega)) q
      rw [this]; simp [q]
  have first : ∀ fuel d w1, d ≤ v 0 1 → v 0 1 - d < fuel → (Fr [27, 28, 7007] w w1 ∧ gI w1 28 0 0 = nI f ∧ gI w1 27 0 0 = nI (mkB (fun g => D (7 * f + g) == lsF D f 7) d)) → Ok (fX2_followParts_12 N (nI f) (nI (lsF D f 7 % 100)) fuel (fX2_followParts_42 N (nI (lsF D f 7 % 100))) (nI d) w1) (fun w' => Fr [27, 28, 7007] w w' ∧ wyL w' v D f (lsF D f 7 % 100) ∧ gI w' 6 0 7 = nI (lsF D f 7 % 100)) := by
    intro fuel
    induction fuel with
    | zero => intro c _ _ h; omega
    | succ n ih =>
      intro d w1 hc hf' hI
      obtain ⟨i1, i2, i3⟩ := hI
      have hR1 := RC_fr i1 hR
      have hT1 := LDt_fr i1 hT
      have e1 : nI d + (1 : Int32) = nI (d + 1) := nI_add d 1
      rcases Nat.lt_or_ge d (v 0 1) with h | h
      · have lt : (nI d < gI w1 10 (gR w1 13 0 0) 0) = True := eq_true (by rw [TC_people hR1.1]; exact (nI_ltI (by omega) (by omega)).mpr h)
        have l1 := l8 (show f < 8 by omega)
        have l2 : ldI w1 25 f (nI d) 6 = some (nI (lT D f d)) := by rw [ldn (by omega) (by omega), hT1.1 f d (by omega) (by omega)]
        have l3 : ldI w1 26 0 (nI f) 8 = some (nI (ph (lsF D f 7))) := by rw [ldn (by omega) (by omega), hT1.2 f (by omega)]
        have b1 := ph_bd (D (7 * f + d))
        have b2 := ph_bd (lsF D f 7)
        have ea := eqA d h
        by_cases q : lT D f d = ph (lsF D f 7)
        · have q' : (nI (lT D f d) = nI (ph (lsF D f 7))) = True := eq_true (by rw [q])
          have l4 : ldI w1 27 0 (0 : Int32) 8 = some (nI (mkB (fun g => D (7 * f + g) == lsF D f 7) d)) := by rw [li0, ldn (by omega) (by omega), i3]
          have ex : nI (mkB (fun g => D (7 * f + g) == lsF D f 7) d) ||| ((1 : Int32) <<< (nI d &&& (31 : Int32))) = nI (mkB (fun g => D (7 * f + g) == lsF D f 7) (d + 1)) := by
            rw [li1, li31, nz_and, nz_shl (by omega), nz_or, mkB, if_pos (ea.mpr q)]
          have s5 : stI w1 27 0 (0 : Int32) 8 (nI (mkB (fun g => D (7 * f + g) == lsF D f 7) d) ||| ((1 : Int32) <<< (nI d &&& (31 : Int32)))) = some (setI w1 27 0 0 (nI (mkB (fun g => D (7 * f + g) == lsF D f 7) (d + 1)))) := by rw [ex, li0]; exact stn (by omega) (by omega)
          simp only [fX2_followParts_12, ↓lt, ↓bnd l1, ↓bnd l2, ↓bnd l3, ↓q', ↓bnd l4, ↓bnd s5, ↓reduceIte, callW_eq, ↓e1]
          exact ih (d + 1) _ (by omega) (by omega) ⟨Fr_setI i1 rfl, by rw [gg_I, if_neg (by omega)]; exact i2, by rw [gg_I, if_pos ⟨rfl, rfl, rfl⟩]⟩
        · have q' : (nI (lT D f d) = nI (ph (lsF D f 7))) = False := eq_false (fun z => q ((nI_eq (by unfold lT; omega) (by omega)).mp z))
          simp only [fX2_followParts_12, ↓lt, ↓bnd l1, ↓bnd l2, ↓bnd l3, ↓q', ↓reduceIte, callW_eq, ↓e1]
          have hz : (D (7 * f + d) == lsF D f 7) = false := by
            cases z : (D (7 * f + d) == lsF D f 7) with
            | false => rfl
            | true => exact absurd (ea.mp z) q
          exact ih (d + 1) w1 (by omega) (by omega) ⟨i1, i2, by rw [i3, mkB, hz]; simp⟩
      · have : d = v 0 1 := by omega
        subst this
        have lt : (nI (v 0 1) < gI w1 10 (gR w1 13 0 0) 0) = False := eq_false (by rw [TC_people hR1.1]; exact fun z => by have := (nI_ltI (by omega) (by omega)).mp z; omega)
        have gm := c_min (N := N) (w := w1) (a := lsF D f 7 % 100) (b := 8) (by omega) (by omega)
        have em : (if 8 < lsF D f 7 % 100 then 8 else lsF D f 7 % 100) = lsF D f 7 % 100 := if_neg (by omega)
        rw [em] at gm
        have e8 : (8 : Int32) = nI 8 := rfl
        rw [← e8] at gm
        simp only [fX2_followParts_12, fX2_followParts_42, ↓lt, ↓cbnd gm, ↓reduceIte, callW_eq, li1]
        rw [hA0] at i3
        refine second N 1 _ (by omega) (by omega) (by omega) ⟨Fr_setI i1 rfl, fun i hi => ?_, by rw [gg_I, if_pos ⟨rfl, rfl, rfl⟩]⟩
        have : i = 0 := by omega
        subst this
        rw [gg_I, if_neg (by omega), gg_I, if_neg (by omega)]
        exact ⟨i2, i3⟩
  have s1 : stI w 28 0 (0 : Int32) 8 (nI f) = some (setI w 28 0 0 (nI f)) := stn (j := 0) (by omega) (by omega)
  have s2 : stI (setI w 28 0 0 (nI f)) 27 0 (0 : Int32) 8 (0 : Int32) = some (setI (setI w 28 0 0 (nI f)) 27 0 0 (nI 0)) := stn (j := 0) (by omega) (by omega)
  simp only [pX2_followParts, ↓bnd s1, ↓bnd s2, callW_eq, li0]
  exact first N 0 _ (by omega) (by omega) ⟨Fr_setI (Fr_setI (Fr_refl _ _) rfl) rfl, by rw [gg_I, if_neg (by omega), gg_I, if_pos ⟨rfl, rfl, rfl⟩], by rw [gg_I, if_pos ⟨rfl, rfl, rfl⟩]; rfl⟩
/-- the least guide behind another, as an answer -/
def mI (d : Nat) : Int32 := if d = 99 then -nI 1 else nI d
theorem c_leastGuide (hR : RC w 0 v) (hF : WF v) (hT : LDt w D) (hD : FD v kn to D) (ht : to < 8) (hN : 100 ≤ N) (hP : ∀ g, v 0 1 ≤ g → g < 7 → kn g = 0) {i g B a k : Nat} (hi : i + 1 < 8) (hg : g < 6) (hB : B < 2 ^ 7) (ha : a < 8) (hk : k < 8) (h28 : gI w 28 0 i = nI a) (h28' : gI w 28 0 (i + 1) = nI k) :
    pX2_leastGuide N (nI i) (nI g) (nI B) w = some (mI (fnd (fun h => B.testBit h && isBst D a g k h) 7 0), w) := by
  have h1 := WF_people hF
  have key : ∀ fuel c, c ≤ v 0 1 → v 0 1 - c < fuel → (∀ h, h < c → (B.testBit h && isBst D a g k h) = false) → fX2_leastGuide_2 N (nI i) (nI g) (nI B) fuel (nI c) w = some (mI (fnd (fun h => B.testBit h && isBst D a g k h) 7 0), w) := by
    intro fuel
    induction fuel with
    | zero => intro c _ h; omega
    | succ n ih =>
      intro c hc hf hno
      have e1 : nI c + (1 : Int32) = nI (c + 1) := nI_add c 1
      rcases Nat.lt_or_ge c (v 0 1) with h | h
      · have lt : (nI c < gI w 10 (gR w 13 0 0) 0) = True := eq_true (by rw [TC_people hR.1]; exact (nI_ltI (by omega) (by omega)).mpr h)
        have eb : ((nI B >>> (nI c &&& (31 : Int32))) &&& (1 : Int32)) = zB (B.testBit c) := by
          rw [li31, li1, nz_and, nz_bit (by omega) (by omega)]; rfl
        have nxt : (B.testBit c && isBst D a g k c) = false → fX2_leastGuide_2 N (nI i) (nI g) (nI B) n (nI (c + 1)) w = some (mI (fnd (fun h => B.testBit h && isBst D a g k h) 7 0), w) := by
          intro hz
          refine ih (c + 1) (by omega) (by omega) (fun j hj => ?_)
          rcases Nat.lt_or_ge j c with y | y
          · exact hno j y
          · have : j = c := by omega
            subst this; exact hz
        cases z : B.testBit c with
        | false =>
          rw [z] at eb
          have z0 : (zB false = 0) = True := eq_true rfl
          simp only [fX2_leastGuide_2, ↓lt, ↓eb, ↓z0, ↓reduceIte, callW_eq, ↓e1]
          exact nxt (by rw [z]; rfl)
        | true =>
          rw [z] at eb
          have z0 : (zB true = 0) = False := eq_false (by decide)
          have l1 : ldI w 28 0 (nI i) 8 = some (nI a) := by rw [ldn (by omega) (by omega), h28]
          have l2 : ldI w 28 0 (nI i + (1 : Int32)) 8 = some (nI k) := by rw [li1, nI_add, ldn (by omega) (by omega), h28']
          have gb := c_isBest (N := N) hT hD ht ha hg hk (show c < 6 by omega)
          cases y : isBst D a g k c with
          | false =>
            rw [y] at gb
            have y0 : (zB false = 0) = True := eq_true rfl
            simp only [fX2_leastGuide_2, ↓lt, ↓eb, ↓z0, ↓bnd l1, ↓bnd l2, ↓cbnd gb, ↓y0, ↓reduceIte, callW_eq, ↓e1]
            exact nxt (by rw [z, y]; rfl)
          | true =>
            rw [y] at gb
            simp only [fX2_leastGuide_2, ↓lt, ↓eb, ↓z0, ↓bnd l1, ↓bnd l2, ↓cbnd gb, ↓reduceIte]
            have : fnd (fun h => B.testBit h && isBst D a g k h) 7 0 = c := fnd_at (fun j _ hj => hno j hj) (by omega) (by omega) (by rw [z, y]; rfl) (by omega)
            rw [this, mI, if_neg (by omega)]
      · have : c = v 0 1 := by omega
        subst this
        have lt : (nI (v 0 1) < gI w 10 (gR w 13 0 0) 0) = False := eq_false (by rw [TC_people hR.1]; exact fun z => by have := (nI_ltI (by omega) (by omega)).mp z; omega)
        simp only [fX2_leastGuide_2, ↓lt, ↓reduceIte]
        have : fnd (fun h => B.testBit h && isBst D a g k h) 7 0 = 99 := fnd_none (fun j _ hj => by
          rcases Nat.lt_or_ge j (v 0 1) with y | y
          · exact hno j y
          · cases z : isBst D a g k j with
            | false => simp
            | true =>
              rw [isBst_iff] at z
              have := gP hF hD hP hk (show j < 7 by omega) z.1
              omega) (by omega)
        rw [this]; rfl
  unfold pX2_leastGuide
  rw [callW_eq, li0]
  exact key N 0 (by omega) (by omega) (fun h q => by omega)
theorem dn_sub2 {n : Nat} (h : 1 ≤ n) : nI n - nI 2 = dn (n - 1) := by
  rcases (show n = 1 ∨ 2 ≤ n by omega) with rfl | q
  · decide
  · rw [pk_sub q, dn, if_neg (by omega)]; congr 1
theorem c_nameG (hR : RC w 0 v) (hF : WF v) (hT : LDt w D) (hD : FD v kn to D) (ht : to < 8) (hN : 100 ≤ N) (hP : ∀ g, v 0 1 ≤ g → g < 7 → kn g = 0) (hf : f < v 0 0) (hb : lsF D f 7 < 99999) (hL : wyL w v D f (lsF D f 7 % 100)) (h67 : gI w 6 0 7 = nI (lsF D f 7 % 100)) :
    Ok (pX2_nameGuides N w) (fun w' => Fr [27, 29] w w' ∧ ∀ i, i < lsF D f 7 % 100 → gI w' 29 0 i = nI (gS v D f (lsF D f 7 % 100) i)) := by
  have h1 := WF_people hF
  have h2 := WF_parts hF
  have hlen := FD_best hD ht (show f < 8 by omega) hb
  generalize hln : lsF D f 7 % 100 = len at *
  have hgP : ∀ i, i < len → ∀ g, (wyS v D f i).2.testBit g = true → g < v 0 1 := fun i hi g hg => by
    obtain ⟨a1, a2, a3⟩ := way_facts hF hD ht hf hb i (by omega)
    obtain ⟨x1, x2, x3⟩ := a3 g hg
    exact gP hF hD hP (by omega) x1 x2
  have hw8 : ∀ i, i < len → (wyS v D f i).1 < 8 := fun i hi => by
    have := (way_facts hF hD ht hf hb i (by omega)).1
    omega
  have gfacts := gS_facts hF hD ht hf hb
  rw [hln] at gfacts
  have hg6 : ∀ i, i < len → gS v D f len i < 6 := fun i hi => by
    obtain ⟨x1, x2⟩ := gfacts i hi
    have := bS_sub _ _ x2
    rw [show len - 1 - (len - 1 - i) = i by omega] at this
    have := hgP i hi _ this
    omega
  have bne := bS_ne0 hF hD ht hf hb
  rw [hln] at bne
  /- the guides by their order -/
  have names : ∀ fuel c w1, 1 ≤ c → c ≤ len → len - c < fuel → (Fr [27, 29] w w1 ∧ (∀ i, i < len → gI w1 27 0 i = nI (bS v D f len (len - 1 - i))) ∧ ∀ i, i < c → gI w1 29 0 i = nI (gS v D f len i)) →
      Ok (fX2_nameGuides_65 N fuel (nI c) w1) (fun w' => Fr [27, 29] w w' ∧ ∀ i, i < len → gI w' 29 0 i = nI (gS v D f len i)) := by
    intro fuel
    induction fuel with
    | zero => intro c _ _ _ h; omega
    | succ n ih =>
      intro c w1 hc1 hc hf' hI
      obtain ⟨i1, i2, i3⟩ := hI
      have e1 : nI c + (1 : Int32) = nI (c + 1) := nI_add c 1
      have e67 : gI w1 6 0 7 = nI len := ((i1 6 0 7 rfl).1).trans h67
      rcases Nat.lt_or_ge c len with h | h
      · obtain ⟨i, rfl⟩ : ∃ i, c = i + 1 := ⟨c - 1, by omega⟩
        have lt : (nI (i + 1) < gI w1 6 0 7) = True := eq_true (by rw [e67]; exact (nI_ltI (by omega) (by omega)).mpr h)
        have hm : nI (i + 1) - (1 : Int32) = nI i := nI_pred i
        have l1 : ldI w1 29 0 (nI (i + 1) - (1 : Int32)) 8 = some (nI (gS v D f len i)) := by rw [hm, ldn (by omega) (by omega), i3 i (by omega)]
        have l2 : ldI w1 27 0 (nI (i + 1)) 8 = some (nI (bS v D f len (len - 1 - (i + 1)))) := by rw [ldn (by omega) (by omega), i2 (i + 1) h]
        have g3 := c_leastGuide (N := N) (RC_fr i1 hR) hF (LDt_fr i1 hT) hD ht hN hP (i := i) (g := gS v D f len i) (B := bS v D f len (len - 1 - (i + 1))) (by omega) (hg6 i (by omega)) (bS_lt v D f len _) (hw8 i (by omega)) (hw8 (i + 1) h) (((i1 28 0 i rfl).1).trans (hL i (by omega)).1) (((i1 28 0 (i + 1) rfl).1).trans (hL (i + 1) h).1)
        have eg : fnd (fun h => (bS v D f len (len - 1 - (i + 1))).testBit h && isBst D (wyS v D f i).1 (gS v D f len i) (wyS v D f (i + 1)).1 h) 7 0 = gS v D f len (i + 1) := rfl
        have hg7 := hg6 (i + 1) h
        have em : mI (gS v D f len (i + 1)) = nI (gS v D f len (i + 1)) := if_neg (by omega)
        rw [eg, em, ← hm] at g3
        have s4 : ∀ x, stI w1 29 0 (nI (i + 1)) 8 x = some (setI w1 29 0 (i + 1) x) := fun x => stn (by omega) (by omega)
        simp only [fX2_nameGuides_65, ↓lt, ↓bnd l1, ↓bnd l2, ↓cbnd g3, ↓bnd (s4 _), ↓reduceIte, callW_eq, ↓e1]
        refine ih (i + 2) _ (by omega) (by omega) (by omega) ⟨Fr_setI i1 rfl, fun j hj => by rw [gg_I, if_neg (by omega)]; exact i2 j hj, fun j hj => ?_⟩
        rw [gg_I]
        by_cases y : j = i + 1
        · subst y; rw [if_pos ⟨rfl, rfl, rfl⟩]
        · rw [if_neg (fun z => y z.2.2)]; exact i3 j (by omega)
      · have : c = len := by omega
        subst this
        have lt : (nI c < gI w1 6 0 7) = False := eq_false (by rw [e67]; exact fun z => by have := (nI_ltI (by omega) (by omega)).mp z; omega)
        simp only [fX2_nameGuides_65, ↓lt, ↓reduceIte]
        exact ok_some ⟨i1, i3⟩
  have start : ∀ w1, (Fr [27, 29] w w1 ∧ ∀ i, i < len → gI w1 27 0 i = nI (bS v D f len (len - 1 - i))) → Ok (fX2_nameGuides_54 N w1) (fun w' => Fr [27, 29] w w' ∧ ∀ i, i < len → gI w' 29 0 i = nI (gS v D f len i)) := by
    rintro w1 ⟨i1, i2⟩
    have l1 : ldI w1 27 0 (0 : Int32) 8 = some (nI (bS v D f len (len - 1))) := by rw [li0, ldn (by omega) (by omega), i2 0 (by omega)]; rfl
    have hB6 : bS v D f len (len - 1) < 2 ^ 6 := by
      apply Nat.lt_pow_two_of_testBit
      intro g hg
      cases z : (bS v D f len (len - 1)).testBit g with
      | false => rfl
      | true =>
        have := bS_sub _ _ z
        rw [show len - 1 - (len - 1) = 0 by omega] at this
        have := hgP 0 (by omega) g this
        omega
    have gz := c_tz (N := N) (w := w1) hB6 (bne (len - 1) (by omega))
    have eg : fnd (fun g => (bS v D f len (len - 1)).testBit g) 7 0 = gS v D f len 0 := rfl
    rw [eg] at gz
    have s4 : ∀ x, stI w1 29 0 (0 : Int32) 8 x = some (setI w1 29 0 0 x) := fun x => stn (j := 0) (by omega) (by omega)
    simp only [fX2_nameGuides_54, ↓bnd l1, ↓cbnd gz, ↓bnd (s4 _), callW_eq, li1]
    refine names N 1 _ (by omega) (by omega) (by omega) ⟨Fr_setI i1 rfl, fun j hj => by rw [gg_I, if_neg (by omega)]; exact i2 j hj, fun j hj => ?_⟩
    have : j = 0 := by omega
    subst this
    rw [gg_I, if_pos ⟨rfl, rfl, rfl⟩]
  have inner : ∀ (i : Nat), i + 1 < len → ∀ (w1 : Wd), Fr [27, 29] w w1 → (∀ j, j < len → gI w1 27 0 j = nI (if j < i + 1 then (wyS v D f j).2 else bS v D f len (len - 1 - j))) → ∀ {Q : Wd → Prop} (k47 : Int32 → Int32 → Wd → Option Wd), Ok (k47 (nI i) (nI (bS v D f len (len - 1 - i))) w1) Q →
      ∀ fuel d, d ≤ v 0 1 → v 0 1 - d < fuel → Ok (fX2_nameGuides_11 N fuel k47 (nI i) (nI (mkB (fun g => (wyS v D f i).2.testBit g && anyB (fun h => (bS v D f len (len - 1 - (i + 1))).testBit h && isBst D (wyS v D f i).1 g (wyS v D f (i + 1)).1 h) 7) d)) (nI d) w1) Q := by
    intro i hi w1 i1 i2 Q k47 hk fuel
    have hR1 := RC_fr i1 hR
    have hT1 := LDt_fr i1 hT
    have ej : len - 1 - i = (len - 1 - (i + 1)) + 1 := by omega
    have eB : bS v D f len (len - 1 - i) = mkB (fun g => (wyS v D f i).2.testBit g && anyB (fun h => (bS v D f len (len - 1 - (i + 1))).testBit h && isBst D (wyS v D f i).1 g (wyS v D f (i + 1)).1 h) 7) 7 := by
      rw [ej, bS, show len - 1 - ((len - 1 - (i + 1)) + 1) = i by omega, show len - 1 - (len - 1 - (i + 1)) = i + 1 by omega]
    have hA7 := wyS_lt v D f i
    induction fuel with
    | zero => intro c _ h; omega
    | succ n ih =>
      intro d hc hf'
      have e1 : nI d + (1 : Int32) = nI (d + 1) := nI_add d 1
      rcases Nat.lt_or_ge d (v 0 1) with h | h
      · have lt : (nI d < gI w1 10 (gR w1 13 0 0) 0) = True := eq_true (by rw [TC_people hR1.1]; exact (nI_ltI (by omega) (by omega)).mpr h)
        have l1 : ldI w1 27 0 (nI i) 8 = some (nI (wyS v D f i).2) := by rw [ldn (by omega) (by omega), i2 i (by omega), if_pos (by omega)]
        have eb : ((nI (wyS v D f i).2 >>> (nI d &&& (31 : Int32))) &&& (1 : Int32)) = zB ((wyS v D f i).2.testBit d) := by
          rw [li31, li1, nz_and, nz_bit (by omega) (by omega)]; rfl
        have e := ih (d + 1) (by omega) (by omega)
        rw [mkB] at e
        cases z : (wyS v D f i).2.testBit d with
        | false =>
          rw [z] at eb e
          have z0 : (zB false = 0) = True := eq_true rfl
          simp only [fX2_nameGuides_11, ↓lt, ↓bnd l1, ↓eb, ↓z0, ↓reduceIte, callW_eq, ↓e1]
          simpa using e
        | true =>
          rw [z] at eb e
          have z0 : (zB true = 0) = False := eq_false (by decide)
          have l2 : ldI w1 27 0 (nI i + (1 : Int32)) 8 = some (nI (bS v D f len (len - 1 - (i + 1)))) := by rw [li1, nI_add, ldn (by omega) (by omega), i2 (i + 1) hi, if_neg (by omega)]
          have g3 := c_leastGuide (N := N) hR1 hF hT1 hD ht hN hP (i := i) (g := d) (B := bS v D f len (len - 1 - (i + 1))) (by omega) (by omega) (bS_lt v D f len _) (hw8 i (by omega)) (hw8 (i + 1) hi) (((i1 28 0 i rfl).1).trans (hL i (by omega)).1) (((i1 28 0 (i + 1) rfl).1).trans (hL (i + 1) hi).1)
          rcases fnd_spec (fun h => (bS v D f len (len - 1 - (i + 1))).testBit h && isBst D (wyS v D f i).1 d (wyS v D f (i + 1)).1 h) 7 0 with q | q
          · have hany : anyB (fun h => (bS v D f len (len - 1 - (i + 1))).testBit h && isBst D (wyS v D f i).1 d (wyS v D f (i + 1)).1 h) 7 = false := anyB_false.mpr (fun h hh => q.2 h (by omega) (by omega))
            rw [q.1] at g3
            rw [hany] at e
            have y0 : (mI 99 = (-1 : Int32)) = True := eq_true rfl
            simp only [fX2_nameGuides_11, ↓lt, ↓bnd l1, ↓eb, ↓z0, ↓bnd l2, ↓cbnd g3, ↓y0, ↓reduceIte, callW_eq, ↓e1]
            simpa using e
          · have hany : anyB (fun h => (bS v D f len (len - 1 - (i + 1))).testBit h && isBst D (wyS v D f i).1 d (wyS v D f (i + 1)).1 h) 7 = true := anyB_true.mpr ⟨_, by have := q.2.1; omega, q.2.2.1⟩
            rw [hany] at e
            have hlt := q.2.1
            generalize fnd (fun h => (bS v D f len (len - 1 - (i + 1))).testBit h && isBst D (wyS v D f i).1 d (wyS v D f (i + 1)).1 h) 7 0 = X at *
            have y0 : (mI X = (-1 : Int32)) = False := eq_false (by rw [mI, if_neg (by omega)]; exact nz_ne1 (by omega))
            have ex : ∀ B, nI B ||| ((1 : Int32) <<< (nI d &&& (31 : Int32))) = nI (B ||| 2 ^ d) := fun B => by rw [li1, li31, nz_and, nz_shl (by omega), nz_or]
            simp only [fX2_nameGuides_11, ↓lt, ↓bnd l1, ↓eb, ↓z0, ↓bnd l2, ↓cbnd g3, ↓y0, ↓reduceIte, callW_eq, ↓e1, ↓ex]
            simpa using e
      · have : d = v 0 1 := by omega
        subst this
        have lt : (nI (v 0 1) < gI w1 10 (gR w1 13 0 0) 0) = False := eq_false (by rw [TC_people hR1.1]; exact fun z => by have := (nI_ltI (by omega) (by omega)).mp z; omega)
        simp only [fX2_nameGuides_11, ↓lt, ↓reduceIte]
        have hcut : mkB (fun g => (wyS v D f i).2.testBit g && anyB (fun h => (bS v D f len (len - 1 - (i + 1))).testBit h && isBst D (wyS v D f i).1 g (wyS v D f (i + 1)).1 h) 7) (v 0 1) = bS v D f len (len - 1 - i) := by
          rw [eB]
          apply Nat.eq_of_testBit_eq
          intro g
          rw [mkB_bit, mkB_bit]
          by_cases q : g < v 0 1
          · have q7 : g < 7 := by omega
            simp [q, q7]
          · have : (wyS v D f i).2.testBit g = false := by
              cases z : (wyS v D f i).2.testBit g with
              | false => rfl
              | true => exact absurd (hgP i (by omega) g z) q
            rw [this]; simp
        rw [hcut]
        exact hk
  have down : ∀ fuel c w1, c ≤ len - 1 → c < fuel → (Fr [27, 29] w w1 ∧ ∀ j, j < len → gI w1 27 0 j = nI (if j < c then (wyS v D f j).2 else bS v D f len (len - 1 - j))) → Ok (fX2_nameGuides_5 N fuel (fX2_nameGuides_54 N) (dn c) w1) (fun w' => Fr [27, 29] w w' ∧ ∀ i, i < len → gI w' 29 0 i = nI (gS v D f len i)) := by
    intro fuel
    induction fuel with
    | zero => intro c _ _ h; omega
    | succ n ih =>
      intro c w1 hc hf' hI
      obtain ⟨i1, i2⟩ := hI
      cases c with
      | zero =>
        have lt : (dn 0 < 0) = True := eq_true nz_neg1
        simp only [fX2_nameGuides_5, ↓lt, ↓reduceIte]
        exact start w1 ⟨i1, fun j hj => by rw [i2 j hj, if_neg (by omega)]⟩
      | succ i =>
        have ed : dn (i + 1) = nI i := if_neg (by omega)
        have lt : (nI i < 0) = False := eq_false (nI_pos (by omega))
        rw [ed]
        simp only [fX2_nameGuides_5, ↓lt, ↓reduceIte, callW_eq, li0]
        refine inner i (by omega) w1 i1 i2 _ ?_ N 0 (by omega) (by omega)
        have s1 : ∀ x, stI w1 27 0 (nI i) 8 x = some (setI w1 27 0 i x) := fun x => stn (by omega) (by omega)
        have e1 : nI i + (-1 : Int32) = dn i := dn_add i
        simp only [fX2_nameGuides_47, ↓bnd (s1 _), ↓e1]
        refine ih i _ (by omega) (by omega) ⟨Fr_setI i1 rfl, fun j hj => ?_⟩
        rw [gg_I]
        by_cases y : j = i
        · subst y; rw [if_pos ⟨rfl, rfl, rfl⟩, if_neg (by omega)]
        · rw [if_neg (fun z => y z.2.2), i2 j hj]
          by_cases y2 : j < i
          · rw [if_pos y2, if_pos (by omega)]
          · rw [if_neg y2, if_neg (by omega)]
  unfold pX2_nameGuides
  have e0 : gI w 6 0 7 - (2 : Int32) = dn (len - 1) := by rw [h67]; exact dn_sub2 (by omega)
  rw [callW_eq, e0]
  refine down N (len - 1) w (by omega) (by omega) ⟨Fr_refl _ _, fun j hj => ?_⟩
  rw [(hL j hj).2]
  by_cases y : j < len - 1
  · rw [if_pos y]
  · have : j = len - 1 := by omega
    subst this
    rw [if_neg y, Nat.sub_self]
    rfl
theorem ph_dm {x : Nat} (h : x < 99999) (h8 : x % 100 ≤ 8) : ph x / 16 = x / 100 ∧ ph x % 16 = x % 100 := by
  unfold ph
  rw [if_pos h]
  omega
def kLf : List Nat := [23, 25, 26, 27, 28, 29, 7007, 7008]
theorem c_lead (hR : RC w 0 v) (hF : WF v) (hN : 100 ≤ N) {q : Nat} (hq : q < v 0 2) (hD : FD v (knF v (v 11 q) 0) (v 10 q) D) :
    Ok (pX2_find N (nI q) w) (fun r => Fr kLf w r.2 ∧ (if lsF D (v 9 q) 7 < 99999 then r.1 = nI 1 ∧ gI r.2 6 0 7 = nI (lsF D (v 9 q) 7 % 100) ∧ gI r.2 6 0 8 = nI (lsF D (v 9 q) 7 / 100) ∧ (∀ i, i < lsF D (v 9 q) 7 % 100 → gI r.2 28 0 i = nI (wyS v D (v 9 q) i).1 ∧ gI r.2 29 0 i = nI (gS v D (v 9 q) (lsF D (v 9 q) 7 % 100) i)) else r.1 = nI 0)) := by
  have h1 := WF_people hF
  have h2 := WF_parts hF
  have h3 := WF_parties hF
  have h5 := WF_pfrom hF q hq
  have h6 := WF_pto hF q hq
  have hpn := WF_pnight hF q
  have hP : ∀ g, v 0 1 ≤ g → g < 7 → knF v (v 11 q) 0 g = 0 := fun g a b => by
    unfold knF
    rw [if_neg (by omega)]
    split <;> rfl
  have h8 : ∀ g, knF v (v 11 q) 0 g < 2 ^ 8 := fun g => knF_lt hF (by omega) g
  have second : ∀ w1, (Fr kLf w w1 ∧ ∀ g, g < v 0 1 → gI w1 23 0 g = nI (knF v (v 11 q) 0 g)) → Ok (fX2_find_31 N (nI q) (gR w 13 0 0) w1) (fun r => Fr kLf w r.2 ∧ (if lsF D (v 9 q) 7 < 99999 then r.1 = nI 1 ∧ gI r.2 6 0 7 = nI (lsF D (v 9 q) 7 % 100) ∧ gI r.2 6 0 8 = nI (lsF D (v 9 q) 7 / 100) ∧ (∀ i, i < lsF D (v 9 q) 7 % 100 → gI r.2 28 0 i = nI (wyS v D (v 9 q) i).1 ∧ gI r.2 29 0 i = nI (gS v D (v 9 q) (lsF D (v 9 q) 7 % 100) i)) else r.1 = nI 0)) := by
    rintro w1 ⟨i1, i2⟩
    have hR1 := RC_fr i1 hR
    have hm1 : gR w1 13 0 0 = gR w 13 0 0 := (i1 13 0 0 rfl).2.2
    have T1 : TC w1 (gR w 13 0 0) v := hm1 ▸ hR1.1
    have l1 : ldI w1 34 (gR w 13 0 0) (nI q) 8 = some (nI (v 10 q)) := by rw [ldn (by omega) (by omega), TC_pto T1 q hq]
    simp only [fX2_find_31, ↓bnd l1, callW_eq]
    refine ok_bind (c_measure hR1 hF hD h6 hN hP i2 h8) ?_
    rintro w2 ⟨f2, t1, t2⟩
    have hT2 : LDt w2 D := ⟨t1, t2⟩
    have hR2 := RC_fr f2 hR1
    have T2 : TC w2 (gR w 13 0 0) v := TC_fr f2 T1
    have fr2 : Fr kLf w w2 := Fr_trans i1 (Fr_mono f2 rfl)
    have l3 : ldI w2 33 (gR w 13 0 0) (nI q) 8 = some (nI (v 9 q)) := by rw [ldn (by omega) (by omega), TC_pfrom T2 q hq]
    have l4 : ldI w2 26 0 (nI (v 9 q)) 8 = some (nI (ph (lsF D (v 9 q) 7))) := by rw [ldn (by omega) (by omega), t2 _ (by omega)]
    have b1 := ph_bd (lsF D (v 9 q) 7)
    by_cases hb : lsF D (v 9 q) 7 < 99999
    · have c1 : (nI (ph (lsF D (v 9 q) 7)) < (1048576 : Int32)) = True := eq_true ((nI_ltI (b := 1048576) (by omega) (by omega)).mpr (ph_far.mpr hb))
      have hlen := FD_best hD (show v 10 q < 8 by omega) (show v 9 q < 8 by omega) hb
      have edm := ph_dm hb hlen.1
      have ed : nI (ph (lsF D (v 9 q) 7)) / (16 : Int32) = nI (lsF D (v 9 q) 7 / 100) := by
        rw [li16, pk_div (by omega) (by omega) (by omega), edm.1]
      have l5 : ldI (setI w2 6 0 8 (nI (ph (lsF D (v 9 q) 7)) / (16 : Int32))) 26 0 (nI (v 9 q)) 8 = some (nI (ph (lsF D (v 9 q) 7))) := by
        rw [ldn (by omega) (by omega), gg_I, if_neg (by omega), t2 _ (by omega)]
      have er : nI (ph (lsF D (v 9 q) 7)) - nI (ph (lsF D (v 9 q) 7)) / (16 : Int32) * (16 : Int32) = nI (lsF D (v 9 q) 7 % 100) := by
        rw [li16, pk_rem (by omega) (by omega) (by omega), edm.2]
      simp only [↓bnd l3, ↓bnd l4, ↓c1, ↓bnd l5, ↓er, ↓reduceIte]
      rw [ed]
      have f3 : Fr [7008] w2 (setI w2 6 0 8 (nI (lsF D (v 9 q) 7 / 100))) := Fr_setI (Fr_refl _ _) rfl
      refine ok_bind (c_follow (RC_fr f3 hR2) hF (LDt_fr f3 hT2) hD (by omega) hN hP h5 hb) ?_
      rintro w4 ⟨f4, wl, e7⟩
      refine ok_bind (c_nameG (RC_fr f4 (RC_fr f3 hR2)) hF (LDt_fr f4 (LDt_fr f3 hT2)) hD (by omega) hN hP h5 hb wl e7) ?_
      rintro w5 ⟨f5, gn⟩
      refine ok_some ⟨Fr_trans fr2 (Fr_trans (Fr_mono f3 rfl) (Fr_trans (Fr_mono f4 rfl) (Fr_mono f5 rfl))), ?_⟩
      rw [if_pos hb]
      refine ⟨rfl, ((f5 6 0 7 rfl).1).trans e7, ?_, fun i hi => ⟨((f5 28 0 i rfl).1).trans (wl i hi).1, gn i hi⟩⟩
      show gI w5 6 0 8 = _
      rw [(f5 6 0 8 rfl).1, (f4 6 0 8 rfl).1, gg_I, if_pos ⟨rfl, rfl, rfl⟩]
    · have c1 : (nI (ph (lsF D (v 9 q) 7)) < (1048576 : Int32)) = False := eq_false (fun z => hb (ph_far.mp ((nI_ltI (b := 1048576) (by omega) (by omega)).mp z)))
      simp only [↓bnd l3, ↓bnd l4, ↓c1, ↓reduceIte]
      refine ok_some ⟨fr2, ?_⟩
      rw [if_neg hb]
      rfl
  have first : ∀ fuel c w1, c ≤ v 0 1 → v 0 1 - c < fuel → (Fr kLf w w1 ∧ ∀ g, g < c → gI w1 23 0 g = nI (knF v (v 11 q) 0 g)) → Ok (fX2_find_12 N (nI q) fuel (fX2_find_31 N (nI q)) (gR w 13 0 0) (nI c) w1) (fun r => Fr kLf w r.2 ∧ (if lsF D (v 9 q) 7 < 99999 then r.1 = nI 1 ∧ gI r.2 6 0 7 = nI (lsF D (v 9 q) 7 % 100) ∧ gI r.2 6 0 8 = nI (lsF D (v 9 q) 7 / 100) ∧ (∀ i, i < lsF D (v 9 q) 7 % 100 → gI r.2 28 0 i = nI (wyS v D (v 9 q) i).1 ∧ gI r.2 29 0 i = nI (gS v D (v 9 q) (lsF D (v 9 q) 7 % 100) i)) else r.1 = nI 0)) := by
    intro fuel
    induction fuel with
    | zero => intro c _ _ h; omega
    | succ n ih =>
      intro c w1 hc hf' hI
      obtain ⟨i1, i2⟩ := hI
      have hR1 := RC_fr i1 hR
      have hm1 : gR w1 13 0 0 = gR w 13 0 0 := (i1 13 0 0 rfl).2.2
      have T1 : TC w1 (gR w 13 0 0) v := hm1 ▸ hR1.1
      have e1 : nI c + (1 : Int32) = nI (c + 1) := nI_add c 1
      rcases Nat.lt_or_ge c (v 0 1) with h | h
      · have lt : (nI c < gI w1 10 (gR w 13 0 0) 0) = True := eq_true (by rw [TC_people T1]; exact (nI_ltI (by omega) (by omega)).mpr h)
        have l1 : ldI w1 35 (gR w 13 0 0) (nI q) 8 = some (nI (v 11 q)) := by rw [ldn (by omega) (by omega), TC_pnight T1 q hq]
        have gk := c_known (N := N) hR1 hF hN h (n := v 11 q) (by omega)
        have s3 : ∀ x, stI w1 23 0 (nI c) 6 x = some (setI w1 23 0 c x) := fun x => stn (by omega) (by omega)
        simp only [fX2_find_12, ↓lt, ↓bnd l1, ↓cbnd gk, ↓bnd (s3 _), ↓reduceIte, callW_eq, ↓e1]
        refine ih (c + 1) _ (by omega) (by omega) ⟨Fr_setI i1 rfl, fun g hg => ?_⟩
        rw [gg_I]
        by_cases y : g = c
        · subst y; rw [if_pos ⟨rfl, rfl, rfl⟩, knF, if_pos h]
        · rw [if_neg (fun z => y z.2.2)]; exact i2 g (by omega)
      · have : c = v 0 1 := by omega
        subst this
        have lt : (nI (v 0 1) < gI w1 10 (gR w 13 0 0) 0) = False := eq_false (by rw [TC_people T1]; exact fun z => by have := (nI_ltI (by omega) (by omega)).mp z; omega)
        simp only [fX2_find_12, ↓lt, ↓reduceIte]
        exact second w1 ⟨i1, i2⟩
  unfold pX2_find
  rw [callW_eq, li0]
  exact first N 0 _ (by omega) (by omega) ⟨Fr_setI (Fr_setI (Fr_refl _ _) rfl) rfl, fun g h => by omega⟩
end

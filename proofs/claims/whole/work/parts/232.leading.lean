/-! ===== the class leads ===== -/
def LDt (w : Wd) (D : Nat → Nat) : Prop := (∀ k g, k < 8 → g < 6 → gI w 25 k g = nI (lT D k g)) ∧ ∀ k, k < 8 → gI w 26 0 k = nI (ph (lsF D k 7))
theorem LDt_fr {l : List Nat} {w w' : Wd} {D : Nat → Nat} (f : Fr l w w') (h : LDt w D) (hl : dis l kM2 = true := by decide) : LDt w' D :=
  ⟨fun k g a b => by rw [(f 25 k g (dis_of hl (k := 25) (by decide))).1]; exact h.1 k g a b, fun k a => by rw [(f 26 0 k (dis_of hl (k := 26) (by decide))).1]; exact h.2 k a⟩
def tzX (a0 : Int32) : Int32 := (a0 ^^^ (-1 : Int32)) &&& (a0 - (1 : Int32))
theorem tz_all : ∀ x, x < 64 → x ≠ 0 → tzX (nI x) = nI (2 ^ (fnd (fun g => x.testBit g) 7 0) - 1) ∧ fnd (fun g => x.testBit g) 7 0 < 6 := by decide +kernel
theorem tz_ex : ∀ n, n < 6 → ∀ (N : Nat) (w : Wd), (if (0 : Int32) < nI (2 ^ n - 1) then fJ6_numberOfTrailingZeros_0f7a4_24 N (nI (2 ^ n - 1)) (1 : Int32) w else some (nI (2 ^ n - 1) &&& (32 : Int32), w)) = some (nI n, w) := by
  intro n hn N w
  have hn6 : n = 0 ∨ n = 1 ∨ n = 2 ∨ n = 3 ∨ n = 4 ∨ n = 5 := by omega
  rcases hn6 with rfl | rfl | rfl | rfl | rfl | rfl <;> simp (decide := true) only [fJ6_numberOfTrailingZeros_0f7a4_24, fJ6_numberOfTrailingZeros_0f7a4_32, fJ6_numberOfTrailingZeros_0f7a4_40, callW_eq, ↓reduceIte]
  all_goals rfl
theorem c_tz {N : Nat} {w : Wd} {x : Nat} (hx : x < 64) (h0 : x ≠ 0) : pJ6_numberOfTrailingZeros_0f7a4 N (nI x) w = some (nI (fnd (fun g => x.testBit g) 7 0), w) := by
  obtain ⟨h1, h2⟩ := tz_all x hx h0
  have e : (nI x ^^^ (-1 : Int32)) &&& (nI x - (1 : Int32)) = nI (2 ^ (fnd (fun g => x.testBit g) 7 0) - 1) := h1
  have hlt : 2 ^ (fnd (fun g => x.testBit g) 7 0) ≤ 2 ^ 6 := Nat.pow_le_pow_right (by omega) (by omega)
  have big : ((65536 : Int32) < nI (2 ^ (fnd (fun g => x.testBit g) 7 0) - 1)) = False := eq_false (fun z => by have := (nI_ltI (a := 65536) (by omega) (by omega)).mp z; omega)
  unfold pJ6_numberOfTrailingZeros_0f7a4
  simp only [e, big, if_false, callW_eq]
  exact tz_ex _ h2 N w
section
variable {N : Nat} {w : Wd} {v : Vw} {kn : Nat → Nat} {to : Nat} {D : Nat → Nat} {f : Nat}
theorem gP (hF : WF v) (hD : FD v kn to D) (hP : ∀ g, v 0 1 ≤ g → g < 7 → kn g = 0) {k g : Nat} (hk : k < 8) (hg : g < 7) (hf : D (7 * k + g) < 99999) : g < v 0 1 := by
  apply Classical.byContradiction
  intro y
  have := FD_kn hD hk hg hf
  rw [hP g (by omega) hg] at this
  simp at this
theorem c_isBest (hT : LDt w D) (hD : FD v kn to D) (ht : to < 8) {a g k h : Nat} (ha : a < 8) (hg : g < 6) (hk : k < 8) (hh : h < 6) : pX2_isBest N (nI a) (nI g) (nI k) (nI h) w = some (zB (isBst D a g k h), w) := by
  have c1 : (nI g < 0) = False := eq_false (nI_pos (by omega))
  have c2 : (nI g < (6 : Int32)) = True := eq_true ((nI_ltI (a := g) (b := 6) (by omega) (by omega)).mpr hg)
  have c3 : (nI h < 0) = False := eq_false (nI_pos (by omega))
  have c4 : (nI h < (6 : Int32)) = True := eq_true ((nI_ltI (a := h) (b := 6) (by omega) (by omega)).mpr hh)
  have l1 := l8 hk
  have l1' := l8 ha
  have l2 : ldI w 25 k (nI h) 6 = some (nI (lT D k h)) := by rw [ldn hh (by omega), hT.1 k h hk hh]
  have l4 : ldI w 25 a (nI g) 6 = some (nI (lT D a g)) := by rw [ldn hg (by omega), hT.1 a g ha hg]
  have b1 := ph_bd (D (7 * k + h))
  have b2 := ph_bd (D (7 * a + g))
  have main : ∀ hd, (hd = if g = h then 0 else 16) → fX2_isBest_18 N (nI a) (nI g) (nI k) (nI h) (nI hd) w = some (zB (isBst D a g k h), w) := by
    intro hd hhd
    have hd16 : hd ≤ 16 := by rw [hhd]; split <;> omega
    rcases Nat.lt_or_ge (D (7 * k + h)) 99999 with q | q
    · have q' : (nI (lT D k h) < (1048576 : Int32)) = True := eq_true ((nI_ltI (b := 1048576) (by unfold lT; omega) (by omega)).mpr (ph_far.mpr q))
      have hp := FD_hp hD ht hk (show h < 7 by omega) q
      have ec : cst g h = 0 ∨ cst g h = 100 := cst_or g h
      have hiff : (lT D a g = 1 + hd + lT D k h) ↔ isBst D a g k h = true := by
        rw [isBst_iff]
        rcases Nat.lt_or_ge (D (7 * a + g)) 99999 with y | y
        · have hp2 := FD_hp hD ht ha (show g < 7 by omega) y
          have := ph_eq hp2.1 hp2.2 hp.1 hp.2 ec
          have hd' : hd = if cst g h = 0 then 0 else 16 := by
            rw [hhd]
            unfold cst
            by_cases z : g = h
            · simp [z]
            · simp [z]
          rw [hd']
          unfold lT
          rw [this]
          exact ⟨fun z => ⟨q, z⟩, fun z => z.2⟩
        · have e1 : lT D a g = 1048576 := by unfold lT ph; rw [if_neg (by omega)]
          have e2 : lT D k h ≤ 200 := by unfold lT ph; rw [if_pos q]; omega
          have hbd := FD_bd hD ha (show g < 7 by omega)
          constructor
          · intro z; omega
          · rintro ⟨_, z⟩
            rcases ec with y2 | y2 <;> rw [y2] at z <;> omega
      have eN : (1 : Int32) + nI hd + nI (lT D k h) = nI (1 + hd + lT D k h) := by rw [li1, nI_add, nI_add]
      by_cases y : lT D a g = 1 + hd + lT D k h
      · have y' : (nI (lT D a g) = (1 : Int32) + nI hd + nI (lT D k h)) = True := eq_true (by rw [eN, y])
        simp only [fX2_isBest_18, ↓bnd l1, ↓bnd l2, ↓q', ↓bnd l1', ↓bnd l4, ↓y', ↓reduceIte]
        rw [hiff.mp y]; rfl
      · have y' : (nI (lT D a g) = (1 : Int32) + nI hd + nI (lT D k h)) = False := eq_false (by rw [eN]; exact fun z => y ((nI_eq (by unfold lT; omega) (by unfold lT; omega)).mp z))
        simp only [fX2_isBest_18, ↓bnd l1, ↓bnd l2, ↓q', ↓bnd l1', ↓bnd l4, ↓y', ↓reduceIte]
        have : isBst D a g k h = false := by
          cases z : isBst D a g k h with
          | false => rfl
          | true => exact absurd (hiff.mpr z) y
        rw [this]; rfl
    · have q' : (nI (lT D k h) < (1048576 : Int32)) = False := eq_false (fun z => by have := ph_far.mp ((nI_ltI (b := 1048576) (by omega) (by omega)).mp z); omega)
      simp only [fX2_isBest_18, ↓bnd l1, ↓bnd l2, ↓q', ↓reduceIte]
      have : isBst D a g k h = false := by
        unfold isBst
        have : decide (D (7 * k + h) < 99999) = false := by simp; omega
        rw [this]; rfl
      rw [this]; rfl
  by_cases q : g = h
  · have q' : (nI g = nI h) = True := eq_true (by rw [q])
    simp only [pX2_isBest, ↓c1, ↓c2, ↓c3, ↓c4, ↓q', ↓reduceIte, callW_eq, li0]
    exact main 0 (by rw [if_pos q])
  · have q' : (nI g = nI h) = False := eq_false (fun z => q ((nI_eq (by omega) (by omega)).mp z))
    simp only [pX2_isBest, ↓c1, ↓c2, ↓c3, ↓c4, ↓q', ↓reduceIte, callW_eq, li16]
    exact main 16 (by rw [if_neg q])
/-- the sets of guides within the people -/
theorem nxS_P (hF : WF v) (hD : FD v kn to D) (hP : ∀ g, v 0 1 ≤ g → g < 7 → kn g = 0) {a A k : Nat} (hk : k < 8) (hA : ∀ g, A.testBit g = true → g < v 0 1) : nxS D a A k = mkB (fun h => anyB (fun g => A.testBit g && isBst D a g k h) (v 0 1)) (v 0 1) := by
  have h1 := WF_people hF
  apply Nat.eq_of_testBit_eq
  intro h
  cases z : (nxS D a A k).testBit h with
  | true =>
    obtain ⟨c1, g, c2, c3, c4, c5⟩ := (nxS_bit D a A k h).mp z
    have hh := gP hF hD hP hk c1 c4
    rw [mkB_bit]
    have : anyB (fun g => A.testBit g && isBst D a g k h) (v 0 1) = true := anyB_true.mpr ⟨g, hA g c3, by rw [c3, (isBst_iff D a g k h).mpr ⟨c4, c5⟩]; rfl⟩
    rw [this]; simp [hh]
  | false =>
    rw [mkB_bit]
    by_cases hh : h < v 0 1
    · have : anyB (fun g => A.testBit g && isBst D a g k h) (v 0 1) = false := by
        apply anyB_false.mpr
        intro g hg
        cases y : (A.testBit g && isBst D a g k h) with
        | false => rfl
        | true =>
          rw [Bool.and_eq_true, isBst_iff] at y
          have := (nxS_bit D a A k h).mpr ⟨by omega, g, by omega, y.1, y.2.1, y.2.2⟩
          rw [z] at this; cases this
      rw [this]; simp
    · simp [hh]
theorem c_able (hR : RC w 0 v) (hF : WF v) (hT : LDt w D) (hD : FD v kn to D) (ht : to < 8) (hN : 100 ≤ N) (hP : ∀ g, v 0 1 ≤ g → g < 7 → kn g = 0) {a A k : Nat} (ha : a < 8) (hk : k < 8) (hA8 : A < 2 ^ 7) (hA : ∀ g, A.testBit g = true → g < v 0 1) :
    pX2_ableBehind N (nI a) (nI k) (nI A) w = some (nI (nxS D a A k), w) := by
  have h1 := WF_people hF
  rw [nxS_P hF hD hP hk hA]
  have inner : ∀ (d : Nat), d < v 0 1 → ∀ (B : Nat) {R : Option (Int32 × Wd)} (k41 : Int32 → Int32 → Wd → Option (Int32 × Wd)), k41 (nI (B ||| if anyB (fun g => A.testBit g && isBst D a g k d) (v 0 1) = true then 2 ^ d else 0)) (nI d) w = R →
      ∀ fuel c, c ≤ v 0 1 → v 0 1 - c < fuel → fX2_ableBehind_13 N (nI a) (nI k) (nI A) fuel k41 (nI (B ||| if anyB (fun g => A.testBit g && isBst D a g k d) c = true then 2 ^ d else 0)) (nI d) (nI c) w = R := by
    intro d hd B R k41 hk2 fuel
    induction fuel with
    | zero => intro c _ h; omega
    | succ f ih =>
      intro c hc hf
      have e1 : nI c + (1 : Int32) = nI (c + 1) := nI_add c 1
      rcases Nat.lt_or_ge c (v 0 1) with h | h
      · have lt : (nI c < gI w 10 (gR w 13 0 0) 0) = True := eq_true (by rw [TC_people hR.1]; exact (nI_ltI (by omega) (by omega)).mpr h)
        have eb : ((nI A >>> (nI c &&& (31 : Int32))) &&& (1 : Int32)) = zB (A.testBit c) := by
          rw [li31, li1, nz_and, nz_bit (by omega) (by omega)]; rfl
        have gb := c_isBest (N := N) hT hD ht ha (show c < 6 by omega) hk (show d < 6 by omega)
        have e := ih (c + 1) (by omega) (by omega)
        rw [anyB] at e
        cases z : A.testBit c with
        | false =>
          rw [z] at eb e
          have z0 : (zB false = 0) = True := eq_true rfl
          simp only [fX2_ableBehind_13, ↓lt, ↓eb, ↓z0, ↓reduceIte, callW_eq, ↓e1]
          simpa using e
        | true =>
          rw [z] at eb e
          have z0 : (zB true = 0) = False := eq_false (by decide)
          cases y : isBst D a c k d with
          | false =>
            rw [y] at gb e
            have y0 : (zB false = 0) = True := eq_true rfl
            simp only [fX2_ableBehind_13, ↓lt, ↓eb, ↓z0, ↓cbnd gb, ↓y0, ↓reduceIte, callW_eq, ↓e1]
            simpa using e
          | true =>
            rw [y] at gb e
            have ex : nI (B ||| if anyB (fun g => A.testBit g && isBst D a g k d) c = true then 2 ^ d else 0) ||| ((1 : Int32) <<< (nI d &&& (31 : Int32))) = nI (B ||| 2 ^ d) := by
              rw [li1, li31, nz_and, nz_shl (by omega), nz_or]
              congr 1
              split
              · rw [Nat.or_assoc, Nat.or_self]
              · rw [Nat.or_zero]
            simp only [fX2_ableBehind_13, ↓lt, ↓eb, ↓z0, ↓cbnd gb, ↓reduceIte, callW_eq, ↓e1, ↓ex]
            simpa using e
      · have : c = v 0 1 := by omega
        subst this
        have lt : (nI (v 0 1) < gI w 10 (gR w 13 0 0) 0) = False := eq_false (by rw [TC_people hR.1]; exact fun z => by have := (nI_ltI (by omega) (by omega)).mp z; omega)
        simp only [fX2_ableBehind_13, ↓lt, ↓reduceIte]
        exact hk2
  have outer : ∀ fuel d, d ≤ v 0 1 → v 0 1 - d < fuel → fX2_ableBehind_4 N (nI a) (nI k) (nI A) fuel (nI (mkB (fun h => anyB (fun g => A.testBit g && isBst D a g k h) (v 0 1)) d)) (nI d) w = some (nI (mkB (fun h => anyB (fun g => A.testBit g && isBst D a g k h) (v 0 1)) (v 0 1)), w) := by
    intro fuel
    induction fuel with
    | zero => intro c _ h; omega
    | succ f ih =>
      intro d hc hf
      have e1 : nI d + (1 : Int32) = nI (d + 1) := nI_add d 1
      rcases Nat.lt_or_ge d (v 0 1) with h | h
      · have lt : (nI d < gI w 10 (gR w 13 0 0) 0) = True := eq_true (by rw [TC_people hR.1]; exact (nI_ltI (by omega) (by omega)).mpr h)
        have e := ih (d + 1) (by omega) (by omega)
        rw [mkB] at e
        simp only [fX2_ableBehind_4, ↓lt, ↓reduceIte, callW_eq, li0]
        have := inner d h (mkB (fun h => anyB (fun g => A.testBit g && isBst D a g k h) (v 0 1)) d) (fX2_ableBehind_41 N (nI a) (nI k) (nI A) (fX2_ableBehind_4 N (nI a) (nI k) (nI A) f)) rfl N 0 (by omega) (by omega)
        simp only [anyB, Bool.false_eq_true, if_false, Nat.or_zero] at this
        rw [this]
        simp only [fX2_ableBehind_41, ↓e1]
        exact e
      · have : d = v 0 1 := by omega
        subst this
        have lt : (nI (v 0 1) < gI w 10 (gR w 13 0 0) 0) = False := eq_false (by rw [TC_people hR.1]; exact fun z => by have := (nI_ltI (by omega) (by omega)).mp z; omega)
        simp only [fX2_ableBehind_4, ↓lt, ↓reduceIte]
  unfold pX2_ableBehind
  rw [callW_eq, li0]
  exact outer N 0 (by omega) (by omega)
/-- the way laid so far -/
def wyL (w : Wd) (v : Vw) (D : Nat → Nat) (f c : Nat) : Prop := ∀ i, i < c → gI w 28 0 i = nI (wyS v D f i).1 ∧ gI w 27 0 i = nI (wyS v D f i).2
theorem c_chooseNext (hR : RC w 0 v) (hF : WF v) (hT : LDt w D) (hD : FD v kn to D) (ht : to < 8) (hN : 100 ≤ N) (hP : ∀ g, v 0 1 ≤ g → g < 7 → kn g = 0) (hf : f < v 0 0) (hb : lsF D f 7 < 99999) {i : Nat} (hi : i + 1 < lsF D f 7 % 100) (hL : wyL w v D f (i + 1)) :
    Ok (pX2_chooseNext N (nI (i + 1)) w) (fun w' => Fr [27, 28] w w' ∧ wyL w' v D f (i + 2)) := by
  have h1 := WF_people hF
  have h2 := WF_parts hF
  have hlen := (FD_best hD ht (show f < 8 by omega) hb).1
  obtain ⟨a1, a2, a3⟩ := way_facts hF hD ht hf hb i (by omega)
  obtain ⟨b1, b2, b3⟩ := way_facts hF hD ht hf hb (i + 1) hi
  obtain ⟨d1, d2, d3⟩ := way_adj hF hD ht hf hb hi
  have hA7 := wyS_lt v D f i
  have hAP : ∀ g, (wyS v D f i).2.testBit g = true → g < v 0 1 := fun g hg => by
    obtain ⟨x1, x2, x3⟩ := a3 g hg
    exact gP hF hD hP (by omega) x1 x2
  have hm : nI (i + 1) - (1 : Int32) = nI i := nI_pred i
  have key : ∀ fuel c w1, c ≤ (wyS v D f (i + 1)).1 → v 0 0 - c < fuel → (Fr [27, 28] w w1 ∧ wyL w1 v D f (i + 1) ∧ gI w1 27 0 (i + 1) = nI 0) → Ok (fX2_chooseNext_14 N (nI (i + 1)) fuel (nI (wyS v D f i).1) (nI c) w1) (fun w' => Fr [27, 28] w w' ∧ wyL w' v D f (i + 2)) := by
    intro fuel
    induction fuel with
    | zero => intro c _ _ h; omega
    | succ n ih =>
      intro c w1 hc hf hI
      obtain ⟨i1, i2, i3⟩ := hI
      have hR1 := RC_fr i1 hR
      have e1 : nI c + (1 : Int32) = nI (c + 1) := nI_add c 1
      have lt : (nI c < gI w1 8 (gR w1 13 0 0) 0) = True := eq_true (by rw [TC_parts hR1.1]; exact (nI_ltI (by omega) (by omega)).mpr (by omega))
      have l1 : ldI w1 27 0 (nI (i + 1)) 8 = some (nI 0) := by rw [ldn (by omega) (by omega), i3]
      have z00 : (nI 0 = (0 : Int32)) = True := eq_true rfl
      have l2 : ldI w1 32 (gR w1 13 0 0) (nI (wyS v D f i).1) 8 = some (nI (v 3 (wyS v D f i).1)) := by rw [ldn (by omega) (by omega), TC_beside hR1.1 _ a1]
      have hb8 := WF_beside8 hF (wyS v D f i).1
      have eb : ((nI (v 3 (wyS v D f i).1) >>> (nI c &&& (31 : Int32))) &&& (1 : Int32)) = zB ((v 3 (wyS v D f i).1).testBit c) := by
        rw [li31, li1, nz_and, nz_bit (by omega) (by omega)]; rfl
      have s3 : stI w1 28 0 (nI (i + 1)) 8 (nI c) = some (setI w1 28 0 (i + 1) (nI c)) := stn (by omega) (by omega)
      have l4 : ldI (setI w1 28 0 (i + 1) (nI c)) 27 0 (nI (i + 1) - (1 : Int32)) 8 = some (nI (wyS v D f i).2) := by
        rw [hm, ldn (by omega) (by omega), gg_I, if_neg (by omega), (i2 i (by omega)).2]
      have fw : Fr [28] w1 (setI w1 28 0 (i + 1) (nI c)) := Fr_setI (Fr_refl _ _) rfl
      have ga := c_able (N := N) (RC_fr fw hR1) hF (LDt_fr (Fr_trans i1 (Fr_mono fw (l' := [27, 28]) rfl)) hT) hD ht hN hP (a := (wyS v D f i).1) (A := (wyS v D f i).2) (k := c) (by omega) (by omega) hA7 hAP
      have s6 : ∀ x, stI (setI w1 28 0 (i + 1) (nI c)) 27 0 (nI (i + 1)) 8 x = some (setI (setI w1 28 0 (i + 1) (nI c)) 27 0 (i + 1) x) := fun x => stn (by omega) (by omega)
      have keepL : ∀ x, wyL (setI (setI w1 28 0 (i + 1) (nI c)) 27 0 (i + 1) x) v D f (i + 1) := by
        intro x j hj
        rw [gg_I, if_neg (by omega), gg_I, if_neg (by omega), gg_I, if_neg (by omega), gg_I, if_neg (by omega)]
        exact i2 j hj
      rcases Nat.lt_or_ge c (wyS v D f (i + 1)).1 with h | h
      · have hno := d3 c h
        cases z : (v 3 (wyS v D f i).1).testBit c with
        | false =>
          rw [z] at eb
          have z0 : (zB false = 0) = True := eq_true rfl
          simp only [fX2_chooseNext_14, ↓lt, ↓bnd l1, ↓z00, ↓bnd l2, ↓eb, ↓z0, ↓reduceIte, callW_eq, ↓e1]
          exact ih (c + 1) w1 (by omega) (by omega) ⟨i1, i2, i3⟩
        | true =>
          rw [z] at eb
          have z0 : (zB true = 0) = False := eq_false (by decide)
          rw [z, Bool.true_and] at hno
          have hz : nxS D (wyS v D f i).1 (wyS v D f i).2 c = 0 := by simpa using hno
          rw [hz] at ga
          simp only [fX2_chooseNext_14, ↓lt, ↓bnd l1, ↓z00, ↓bnd l2, ↓eb, ↓z0, ↓bnd s3, ↓bnd l4, ↓cbnd ga, ↓bnd (s6 _), ↓reduceIte, callW_eq, ↓e1]
          exact ih (c + 1) _ (by omega) (by omega) ⟨Fr_setI (Fr_setI i1 rfl) rfl, keepL _, by rw [gg_I, if_pos ⟨rfl, rfl, rfl⟩]⟩
      · have hcK : c = (wyS v D f (i + 1)).1 := by omega
        have z : (v 3 (wyS v D f i).1).testBit c = true := by rw [hcK]; exact d1
        rw [z] at eb
        have z0 : (zB true = 0) = False := eq_false (by decide)
        have hnx : nxS D (wyS v D f i).1 (wyS v D f i).2 c = (wyS v D f (i + 1)).2 := by rw [hcK]; exact d2.symm
        rw [hnx] at ga
        have h7 := wyS_lt v D f (i + 1)
        simp only [fX2_chooseNext_14, ↓lt, ↓bnd l1, ↓z00, ↓bnd l2, ↓eb, ↓z0, ↓bnd s3, ↓bnd l4, ↓cbnd ga, ↓bnd (s6 _), ↓reduceIte, callW_eq, ↓e1]
        have done : Fr [27, 28] w (setI (setI w1 28 0 (i + 1) (nI c)) 27 0 (i + 1) (nI (wyS v D f (i + 1)).2)) ∧ wyL (setI (setI w1 28 0 (i + 1) (nI c)) 27 0 (i + 1) (nI (wyS v D f (i + 1)).2)) v D f (i + 2) := by
          refine ⟨Fr_setI (Fr_setI i1 rfl) rfl, fun j hj => ?_⟩
          by_cases y : j = i + 1
          · subst y
            rw [gg_I, if_neg (by omega), gg_I, if_pos ⟨rfl, rfl, rfl⟩, gg_I, if_pos ⟨rfl, rfl, rfl⟩, hcK]
            exact ⟨rfl, rfl⟩
          · exact keepL _ j (by omega)
        cases n with
        | zero => omega
        | succ n =>
          have l9 : ldI (setI (setI w1 28 0 (i + 1) (nI c)) 27 0 (i + 1) (nI (wyS v D f (i + 1)).2)) 27 0 (nI (i + 1)) 8 = some (nI (wyS v D f (i + 1)).2) := by rw [ldn (by omega) (by omega), gg_I, if_pos ⟨rfl, rfl, rfl⟩]
          have y0 : (nI (wyS v D f (i + 1)).2 = (0 : Int32)) = False := eq_false (fun q => b2 ((nI_eq (by omega) (by omega)).mp (show _ = nI 0 from q)))
          have ep : gI (setI (setI w1 28 0 (i + 1) (nI c)) 27 0 (i + 1) (nI (wyS v D f (i + 1)).2)) 8 (gR (setI (setI w1 28 0 (i + 1) (nI c)) 27 0 (i + 1) (nI (wyS v D f (i + 1)).2)) 13 0 0) 0 = nI (v 0 0) := TC_parts (RC_fr done.1 hR).1
          by_cases yy : c + 1 < v 0 0
          · have lt2 : (nI (c + 1) < gI (setI (setI w1 28 0 (i + 1) (nI c)) 27 0 (i + 1) (nI (wyS v D f (i + 1)).2)) 8 (gR (setI (setI w1 28 0 (i + 1) (nI c)) 27 0 (i + 1) (nI (wyS v D f (i + 1)).2)) 13 0 0) 0) = True := eq_true (by rw [ep]; exact (nI_ltI (by omega) (by omega)).mpr yy)
            simp only [fX2_chooseNext_14, ↓lt2, ↓bnd l9, ↓y0, ↓reduceIte]
            exact ok_some done
          · have lt2 : (nI (c + 1) < gI (setI (setI w1 28 0 (i + 1) (nI c)) 27 0 (i + 1) (nI (wyS v D f (i + 1)).2)) 8 (gR (setI (setI w1 28 0 (i + 1) (nI c)) 27 0 (i + 1) (nI (wyS v D f (i + 1)).2)) 13 0 0) 0) = False := eq_false (by rw [ep]; exact fun q => yy ((nI_ltI (by omega) (by omega)).mp q))
            simp only [fX2_chooseNext_14, ↓lt2, ↓reduceIte]
            exact ok_some done
  have l1 : ldI w 28 0 (nI (i + 1) - (1 : Int32)) 8 = some (nI (wyS v D f i).1) := by rw [hm, ldn (by omega) (by omega), (hL i (by omega)).1]
  have s2 : stI w 27 0 (nI (i + 1)) 8 (0 : Int32) = some (setI w 27 0 (i + 1) (nI 0)) := stn (by omega) (by omega)
  simp only [pX2_chooseNext, ↓bnd l1, ↓bnd s2, callW_eq, li0]
  refine key N 0 _ (by omega) (by omega) ⟨Fr_setI (Fr_refl _ _) rfl, fun j hj => ?_, by rw [gg_I, if_pos ⟨rfl, rfl, rfl⟩]⟩
  rw [gg_I, if_neg (by omega), gg_I, if_neg (by omega)]
  exact hL j hj
end

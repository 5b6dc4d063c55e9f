/-! ===== the class cuts all, and goes on from token to token ===== -/
section
variable {N : Nat} {w w' : Wd} {b : Nat → Nat} {n : Nat}
/-- one cut at a place that is no blank -/
theorem c_cutT (hB : BC w b n) (hW : WD w) (hN : 1000 ≤ N) {i k : Nat} (hi : i < n) (hk : k ≤ 900) (h4 : gI w 14 0 4 = nI k) (hb : isBl (b i) = false) :
    Ok (pX10_cut N (nI i) w) (fun x => x.1 = nI (tkN b n i).2.2 ∧ adT w k (tkN b n i).1 (tkN b n i).2.1 i x.2) := by
  have hn := hB.2.2.1
  have hb8 := (hB.2.2.2 i hi).1
  have g1 := c_byteAt (N := N) hB (i := i) (by omega)
  rw [show bt b n i = b i from if_pos hi] at g1
  unfold isBl at hb
  rw [Bool.or_eq_false_iff] at hb
  have h10 : b i ≠ 10 := beq_eq_false_iff_ne.mp hb.1
  have h32 : b i ≠ 32 := beq_eq_false_iff_ne.mp hb.2
  have q1 : (nI (b i) = (32 : Int32)) = False := eq_false (fun z => h32 ((nI_eq (b := 32) (by omega) (by omega)).mp z))
  have q2 : (nI (b i) = (10 : Int32)) = False := eq_false (fun z => h10 ((nI_eq (b := 10) (by omega) (by omega)).mp z))
  have g2 := c_isLetter (N := N) (w := w) (x := b i) (by omega)
  have g3 := c_isDigit (N := N) (w := w) (x := b i) (by omega)
  have rb : ∀ {o : Option (Int32 × Wd)} {Q : Int32 × Wd → Prop}, Ok o Q → Ok (o.bind fun r => some (r.1, r.2)) Q := fun h => ok_bind h (fun r hr => ok_some hr)
  cases hl : isL (b i) with
  | true =>
    rw [hl] at g2
    simp only [pX10_cut, ↓cbnd g1, ↓q1, ↓q2, ↓cbnd g2, ↓z1, ↓reduceIte, callW_eq]
    exact rb (c_cutWord hB hW hN hi hk h4 hl)
  | false =>
    rw [hl] at g2
    cases hd : isD (b i) with
    | true =>
      rw [hd] at g3
      simp only [pX10_cut, ↓cbnd g1, ↓q1, ↓q2, ↓cbnd g2, ↓z2, ↓cbnd g3, ↓z1, ↓reduceIte, callW_eq]
      exact rb (c_cutNumber hB hN hi hk h4 hl hd)
    | false =>
      rw [hd] at g3
      simp only [pX10_cut, ↓cbnd g1, ↓q1, ↓q2, ↓cbnd g2, ↓z2, ↓cbnd g3, ↓reduceIte, callW_eq]
      exact rb (c_cutSign hB hN hi hk h4 hl hd h32)
theorem c_cutB (hB : BC w b n) {i : Nat} (hi : i < n) (hb : isBl (b i) = true) : pX10_cut N (nI i) w = some (nI (i + 1), w) := by
  have hn := hB.2.2.1
  have hb8 := (hB.2.2.2 i hi).1
  have g1 := c_byteAt (N := N) hB (i := i) (by omega)
  rw [show bt b n i = b i from if_pos hi] at g1
  have e1 : nI i + (1 : Int32) = nI (i + 1) := nI_add _ 1
  unfold isBl at hb
  by_cases y : b i = 32
  · have q1 : (nI (b i) = (32 : Int32)) = True := eq_true (by rw [y]; rfl)
    simp only [pX10_cut, ↓cbnd g1, ↓q1, ↓e1, ↓reduceIte]
  · have q1 : (nI (b i) = (32 : Int32)) = False := eq_false (fun z => y ((nI_eq (b := 32) (by omega) (by omega)).mp z))
    have y2 : b i = 10 := by
      rw [Bool.or_eq_true, beq_iff_eq, beq_iff_eq] at hb
      omega
    have q2 : (nI (b i) = (10 : Int32)) = True := eq_true (by rw [y2]; rfl)
    simp only [pX10_cut, ↓cbnd g1, ↓q1, ↓q2, ↓e1, ↓reduceIte]
/-- rows 0 .. k - 1 of the class's table are the tokens -/
def tbC (w : Wd) (b : Nat → Nat) (n k : Nat) : Prop := ∀ j, j < k → rwC w j (tK b n j) (tV b n j) (tP b n j)
theorem rwC_eq {k K V p : Nat} (h : gI w' 68 0 k = gI w 68 0 k ∧ gI w' 69 0 k = gI w 69 0 k ∧ gI w' 70 0 k = gI w 70 0 k) (hr : rwC w k K V p) : rwC w' k K V p := by
  obtain ⟨h1, h2, h3⟩ := h
  unfold rwC
  rw [h1, h2, h3]
  exact hr
/-- the token that is next: number k -/
def tkC (w : Wd) (b : Nat → Nat) (n k : Nat) : Prop := gI w 14 0 8 = kC (tK b n k) ∧ gI w 14 0 9 = nI (tP b n k) ∧ (tK b n k = 61 → ∃ x, gI w 14 0 10 = nI x ∧ smN x (tV b n k)) ∧ (tK b n k = 62 → gI w 14 0 10 = nI (tV b n k))
/-- all tokens: m is the end's number -/
def toC (w : Wd) (b : Nat → Nat) (n m : Nat) : Prop := m ≤ 900 ∧ tK b n m = 60 ∧ gI w 14 0 4 = nI (m + 1) ∧ tbC w b n (m + 1)
def kTo : List Nat := [68, 69, 70, 15004, 15005, 15006, 15007, 15008, 15009, 15010]
theorem toC_fr {l : List Nat} {m : Nat} (f : Fr l w w') (h : toC w b n m) (hl : dis l [68, 69, 70, 15004] = true := by decide) : toC w' b n m := by
  refine ⟨h.1, h.2.1, by rw [Fr_I f hl (by decide)]; exact h.2.2.1, fun j hj => rwC_eq ⟨?_, ?_, ?_⟩ (h.2.2.2 j hj)⟩
  · rw [Fr_I f hl (by rfl)]
  · rw [Fr_I f hl (by rfl)]
  · rw [Fr_I f hl (by rfl)]
theorem tkC_fr {l : List Nat} {k : Nat} (f : Fr l w w') (h : tkC w b n k) (hl : dis l [15008, 15009, 15010] = true := by decide) : tkC w' b n k := by
  unfold tkC
  rw [Fr_I f hl (k := 14) (j := 8) (by decide), Fr_I f hl (k := 14) (j := 9) (by decide), Fr_I f hl (k := 14) (j := 10) (by decide)]
  exact h
/-- on: token k + 1 (the end stays) -/
theorem c_advance {m k : Nat} (h : toC w b n m) (hk : k ≤ m) (h5 : gI w 14 0 5 = nI k) : Ok (pX10_advance N w) (fun w' => Fr [15008, 15009, 15010, 15005] w w' ∧ gI w' 14 0 5 = nI (k + 1) ∧ tkC w' b n k) := by
  obtain ⟨h1, h2, h3, h4⟩ := h
  obtain ⟨r1, r2, r3, r4⟩ := h4 k (by omega)
  have lt : (gI w 14 0 5 < gI w 14 0 4) = True := eq_true (by rw [h5, h3]; exact (nI_ltI (by omega) (by omega)).mpr (by omega))
  have l1 : ldI w 68 0 (gI w 14 0 5) 901 = some (gI w 68 0 k) := by rw [h5]; exact ldn (by omega) (by omega)
  have l2 : ldI (setI w 14 0 8 (gI w 68 0 k)) 69 0 (gI (setI w 14 0 8 (gI w 68 0 k)) 14 0 5) 901 = some (gI w 69 0 k) := by
    rw [show gI (setI w 14 0 8 (gI w 68 0 k)) 14 0 5 = nI k by rw [gg_I, if_neg (by omega)]; exact h5, ldn (by omega) (by omega), gg_I, if_neg (by omega)]
  have l3 : ldI (setI (setI w 14 0 8 (gI w 68 0 k)) 14 0 9 (gI w 69 0 k)) 70 0 (gI (setI (setI w 14 0 8 (gI w 68 0 k)) 14 0 9 (gI w 69 0 k)) 14 0 5) 901 = some (gI w 70 0 k) := by
    rw [show gI (setI (setI w 14 0 8 (gI w 68 0 k)) 14 0 9 (gI w 69 0 k)) 14 0 5 = nI k by rw [gg_I, if_neg (by omega), gg_I, if_neg (by omega)]; exact h5, ldn (by omega) (by omega), gg_I, if_neg (by omega), gg_I, if_neg (by omega)]
  have e4 : gI (setI (setI (setI w 14 0 8 (gI w 68 0 k)) 14 0 9 (gI w 69 0 k)) 14 0 10 (gI w 70 0 k)) 14 0 5 + (1 : Int32) = nI (k + 1) := by
    rw [gg_I, if_neg (by omega), gg_I, if_neg (by omega), gg_I, if_neg (by omega), h5]; exact nI_add _ 1
  simp only [pX10_advance, ↓lt, ↓bnd l1, ↓bnd l2, ↓bnd l3, ↓e4, ↓reduceIte]
  have a8 : gI (setI (setI (setI (setI w 14 0 8 (gI w 68 0 k)) 14 0 9 (gI w 69 0 k)) 14 0 10 (gI w 70 0 k)) 14 0 5 (nI (k + 1))) 14 0 8 = gI w 68 0 k := by rw [gg_I, if_neg (by omega), gg_I, if_neg (by omega), gg_I, if_neg (by omega), gg_I, if_pos ⟨rfl, rfl, rfl⟩]
  have a9 : gI (setI (setI (setI (setI w 14 0 8 (gI w 68 0 k)) 14 0 9 (gI w 69 0 k)) 14 0 10 (gI w 70 0 k)) 14 0 5 (nI (k + 1))) 14 0 9 = gI w 69 0 k := by rw [gg_I, if_neg (by omega), gg_I, if_neg (by omega), gg_I, if_pos ⟨rfl, rfl, rfl⟩]
  have a10 : gI (setI (setI (setI (setI w 14 0 8 (gI w 68 0 k)) 14 0 9 (gI w 69 0 k)) 14 0 10 (gI w 70 0 k)) 14 0 5 (nI (k + 1))) 14 0 10 = gI w 70 0 k := by rw [gg_I, if_neg (by omega), gg_I, if_pos ⟨rfl, rfl, rfl⟩]
  refine ok_some ⟨Fr_setI (Fr_setI (Fr_setI (Fr_setI (Fr_refl _ _) rfl) rfl) rfl) rfl, by rw [gg_I, if_pos ⟨rfl, rfl, rfl⟩], ?_⟩
  unfold tkC
  rw [a8, a9, a10]
  exact ⟨r1, r2, r3, r4⟩
/-- the loop over the text: at stands among the blanks before token k -/
theorem c_beg18 {w0 : Wd} (hB0 : BC w0 b n) (hW0 : WD w0) (hN : 1000 ≤ N) {Q : Wd → Prop} (K : Wd → Option Wd) (hK : ∀ w k, Fr [68, 69, 70, 15004] w0 w → k ≤ 900 → tK b n k = 60 → tP b n k = n → gI w 14 0 4 = nI k → tbC w b n k → Ok (K w) Q) :
    ∀ r at' c k fuel w, at' + r = n → r < fuel → c ≤ at' → k ≤ at' → Fr [68, 69, 70, 15004] w0 w → qs b n k ≤ at' → skB b n at' = tP b n k → gI w 14 0 4 = nI k → tbC w b n k → Ok (fX10_begin_18 N fuel K (nI at') (nI c) w) Q := by
  have hn := hB0.2.2.1
  intro r
  induction r using Nat.strongRecOn with
  | _ r ih =>
    intro at' c k fuel w hr hf hc hk f0 hq hs h4 ht
    obtain ⟨f, rfl⟩ : ∃ m, fuel = m + 1 := ⟨fuel - 1, by omega⟩
    have hB := BC_fr f0 hB0
    have hW := WD_fr f0 hW0
    have e1 : nI c + (1 : Int32) = nI (c + 1) := nI_add _ 1
    rcases Nat.lt_or_ge at' n with y | y
    · have lt1 : (nI c < gI w 14 0 7) = True := eq_true (by rw [hB.2.1]; exact (nI_ltI (by omega) (by omega)).mpr (by omega))
      have lt2 : (nI at' < gI w 14 0 7) = True := eq_true (by rw [hB.2.1]; exact (nI_ltI (by omega) (by omega)).mpr y)
      cases hb : isBl (b at') with
      | true =>
        have g := c_cutB (N := N) hB y hb
        simp only [fX10_begin_18, ↓lt1, ↓lt2, ↓cbnd g, ↓e1, ↓reduceIte, callW_eq]
        refine ih (r - 1) (by omega) (at' + 1) (c + 1) k f w (by omega) (by omega) (by omega) (by omega) f0 (by omega) ?_ h4 ht
        unfold skB at hs ⊢
        rw [← rn_go (P := fun j => isBl (b j)) y hb]
        exact hs
      | false =>
        have hp : tP b n k = at' := by
          rw [← hs]
          unfold skB
          exact rn_no (P := fun j => isBl (b j)) hb
        have hsk : skB b n (qs b n k) = at' := hp
        have tq : tkQ b n (qs b n k) = tkN b n at' := by
          unfold tkQ
          rw [hsk, if_pos y]
        have eK : tK b n k = (tkN b n at').1 := by unfold tK; rw [tq]
        have eV : tV b n k = (tkN b n at').2.1 := by unfold tV; rw [tq]
        have eQ : qs b n (k + 1) = (tkN b n at').2.2 := by
          show (tkQ b n (qs b n k)).2.2 = _
          rw [tq]
        have nx := tkN_next (b := b) y
        simp only [fX10_begin_18, ↓lt1, ↓lt2, ↓e1, ↓reduceIte, callW_eq]
        refine ok_bind (c_cutT hB hW hN y (by omega) h4 hb) ?_
        rintro ⟨x, w1⟩ ⟨x1, a1, a2, a3, a4⟩
        simp only at x1 a1 a2 a3 a4
        subst x1
        refine ih (n - (tkN b n at').2.2) (by omega) (tkN b n at').2.2 (c + 1) (k + 1) f w1 (by omega) (by omega) (by omega) (by omega) (Fr_trans f0 a1) (by rw [eQ]; exact Nat.le_refl _) ?_ a2 (fun j hj => ?_)
        · unfold tP
          rw [eQ]
        · rcases Nat.lt_or_ge j k with z | z
          · exact rwC_eq (a3 j z) (ht j z)
          · have : j = k := by omega
            subst this
            rw [eK, eV, hp]
            exact a4
    · have e2 : at' = n := by omega
      subst e2
      have hp : tP b at' k = at' := by
        rw [← hs]
        exact rn_end (Nat.le_refl _)
      have fin := hK w k f0 (by omega) (tK_end.mpr hp) hp h4 ht
      by_cases yc : c < at'
      · have lt1 : (nI c < gI w 14 0 7) = True := eq_true (by rw [hB.2.1]; exact (nI_ltI (by omega) (by omega)).mpr yc)
        have lt2 : (nI at' < gI w 14 0 7) = False := eq_false (fun z => by
          rw [hB.2.1] at z
          have := (nI_ltI (by omega) (by omega)).mp z
          omega)
        simp only [fX10_begin_18, ↓lt1, ↓lt2, ↓reduceIte]
        exact fin
      · have lt1 : (nI c < gI w 14 0 7) = False := eq_false (fun z => by
          rw [hB.2.1] at z
          exact yc ((nI_ltI (by omega) (by omega)).mp z))
        simp only [fX10_begin_18, ↓lt1, ↓reduceIte]
        exact fin
/-- the class's tokens are cut, and the first is next -/
theorem c_begin (hW : WD w) (hN : 1000 ≤ N) (hn : n ≤ 900) (hb : ∀ j, j < n → b j < 256 ∧ gI w 3 0 j &&& (255 : Int32) = nI (b j)) : Ok (pX10_begin N 0 (nI n) w) (fun w' => Fr kTo w w' ∧ ∃ m, toC w' b n m ∧ gI w' 14 0 5 = nI 1 ∧ tkC w' b n 0) := by
  have gm1 : pJ9_min_7cf53 N (nI n) (Int32.ofNat (ln 3 0)) (setR w 14 0 6 0) = some (nI n, setR w 14 0 6 0) := by
    have := c_min (N := N) (w := setR w 14 0 6 0) (a := n) (b := 900) (by omega) (by omega)
    rw [if_neg (by omega)] at this
    exact this
  have gm2 : pJ9_min_7cf53 N (nI n) (900 : Int32) (setR w 14 0 6 0) = some (nI n, setR w 14 0 6 0) := by
    have := c_min (N := N) (w := setR w 14 0 6 0) (a := n) (b := 900) (by omega) (by omega)
    rw [if_neg (by omega)] at this
    exact this
  simp only [pX10_begin, ↓cbnd gm1, ↓cbnd gm2]
  rw [callW_eq, li0]
  have f1 : Fr kTo w (setI (setI (setR w 14 0 6 0) 14 0 7 (nI n)) 14 0 4 (nI 0)) := Fr_setI (Fr_setI (Fr_setR (Fr_refl _ _) rfl) rfl) rfl
  have B1 : BC (setI (setI (setR w 14 0 6 0) 14 0 7 (nI n)) 14 0 4 (nI 0)) b n := by
    refine ⟨?_, ?_, hn, fun j hj => ?_⟩
    · rw [gg_RI, gg_RI, gg_R, if_pos ⟨rfl, rfl, rfl⟩]
    · rw [gg_I, if_neg (by omega), gg_I, if_pos ⟨rfl, rfl, rfl⟩]
    · rw [gg_I, if_neg (by omega), gg_I, if_neg (by omega), gg_IR]
      exact hb j hj
  have a4 : gI (setI (setI (setR w 14 0 6 0) 14 0 7 (nI n)) 14 0 4 (nI 0)) 14 0 4 = nI 0 := by rw [gg_I, if_pos ⟨rfl, rfl, rfl⟩]
  generalize setI (setI (setR w 14 0 6 0) 14 0 7 (nI n)) 14 0 4 (nI 0) = w1 at f1 B1 a4
  refine c_beg18 (N := N) (w0 := w1) B1 (WD_fr f1 hW) hN _ (fun w2 k f2 hk hK hP h4 ht => ?_) n 0 0 0 N w1 (by omega) (by omega) (by omega) (by omega) (Fr_refl _ _) (Nat.zero_le _) rfl a4 (fun j hj => absurd hj (Nat.not_lt_zero j))
  unfold fX10_begin_32
  have e7 : gI w2 14 0 7 = nI n := by rw [(f2 14 0 7 rfl).1]; exact B1.2.1
  rw [callW_eq, e7]
  refine ok_bind (c_addT (N := N) (a1 := (-1 : Int32)) (a2 := nI n) (a3 := (0 : Int32)) hk h4) ?_
  rintro w3 ⟨g1, g2, g3, g4, g5, g6⟩
  rw [callW_eq]
  have f4 : Fr [15005] w3 (setI w3 14 0 5 (0 : Int32)) := Fr_setI (Fr_refl _ _) rfl
  have T3 : toC w3 b n k := by
    refine ⟨hk, hK, g2, fun j hj => ?_⟩
    rcases Nat.lt_or_ge j k with z | z
    · exact rwC_eq (g3 j z) (ht j z)
    · have : j = k := by omega
      subst this
      refine ⟨by rw [g4, hK]; rfl, by rw [g5, hP], fun z => by rw [hK] at z; omega, fun z => by rw [hK] at z; omega⟩
  have T4 := toC_fr f4 T3
  have h5 : gI (setI w3 14 0 5 (0 : Int32)) 14 0 5 = nI 0 := by rw [gg_I, if_pos ⟨rfl, rfl, rfl⟩]; rfl
  refine ok_bind (c_advance (N := N) T4 (Nat.zero_le _) h5) ?_
  rintro w5 ⟨m1, m2, m3⟩
  exact ok_some ⟨Fr_trans f1 (Fr_trans (Fr_mono f2 rfl) (Fr_trans (Fr_mono g1 rfl) (Fr_trans (Fr_mono f4 rfl) (Fr_mono m1 rfl)))), k, toC_fr m1 T4, m2, m3⟩
end

/-! ===== laws: the states of both while an expression is read ===== -/
def kLc : List Nat := [15005, 15008, 15009, 15010, 6002, 21, 12005, 12006, 54, 9017]
def kLm : List Nat := [17007, 17008, 17009, 17010, 17027, 17055, 17056, 17057, 17058, 17059, 17060, 94, 95, 96, 97, 98]
section
variable {N : Nat} {w w' w0 w1 wc wm : Wd} {b : Nat → Nat} {n m d k i : Nat} {u u' : Vw} {a f j s C op h : Nat} {K X st : Nat → Nat} {wt : Bool}
def CF (w0 w : Wd) (d a j s C op : Nat) (K X st : Nat → Nat) : Prop :=
  FC d w0 w ∧ Fr kLc w0 w ∧ gI w 5 (2 * d + a) 2 = nI j ∧ (∀ i, i < j → gI w 21 (2 * d + a) i = enc (K i) (X i)) ∧ (∀ c, c < 2 → c ≠ a → gI w 5 (2 * d + c) 2 = gI w0 5 (2 * d + c) 2 ∧ ∀ i, gI w 21 (2 * d + c) i = gI w0 21 (2 * d + c) i) ∧ gI w 11 0 5 = nI s ∧ gI w 11 0 6 = nI op ∧ (∀ i, i < s → gI w 54 0 i = nI (tkS (st i))) ∧ gI w 8 d 17 = nI C
def MFh (w0 w : Wd) (f j s C op : Nat) (K X st : Nat → Nat) (h : Nat) : Prop :=
  FM w0 w ∧ Fr kLm w0 w ∧ LMa w 64 f j K X ∧ gI w 16 0 27 = nI (f + j) ∧ gI w 16 0 55 = nI s ∧ gI w 16 0 57 = nI op ∧ (∀ i, i < s → gI w 97 0 i = nI (st i)) ∧ gI w 16 0 58 = nI C ∧ gI w 16 0 56 = nI h ∧ (∀ i, i < h → gI w 98 0 i = nI (f + sp K j i)) ∧ (∀ kk i, 94 ≤ kk → kk ≤ 96 → i < f → gI w kk 0 (64 + i) = gI w0 kk 0 (64 + i))
theorem CF_ad (h : CF w0 w d a j s C op K X st) (f : Fr kAd w w') : CF w0 w' d a j s C op K X st := by
  obtain ⟨h1, h2, h3, h4, h5, h6, h7, h8, h9⟩ := h
  refine ⟨FC_trans h1 (FC_ad f), Fr_trans h2 (Fr_mono f rfl), ?_, fun i hi => ?_, fun c hc hca => ⟨?_, fun i => ?_⟩, ?_, ?_, fun i hi => ?_, ?_⟩
  · rw [(f 5 _ 2 rfl).1]; exact h3
  · rw [(f 21 _ i rfl).1]; exact h4 i hi
  · rw [(f 5 _ 2 rfl).1]; exact (h5 c hc hca).1
  · rw [(f 21 _ i rfl).1]; exact (h5 c hc hca).2 i
  · rw [(f 11 0 5 rfl).1]; exact h6
  · rw [(f 11 0 6 rfl).1]; exact h7
  · rw [(f 54 0 i rfl).1]; exact h8 i hi
  · rw [(f 8 d 17 rfl).1]; exact h9
def kTl : List Nat := [17007, 17008, 17009, 17010, 17059, 17060]
theorem MF_tk (h' : MFh w0 w f j s C op K X st h) (g : Fr kTl w w') : MFh w0 w' f j s C op K X st h := by
  obtain ⟨h1, h2, h3, h4, h5, h6, h7, h8, h9, h10, h11⟩ := h'
  refine ⟨FM_trans h1 (FM_of g rfl rfl), Fr_trans h2 (Fr_mono g rfl), LMa_fr g h3, ?_, ?_, ?_, fun i hi => ?_, ?_, ?_, fun i hi => ?_, fun kk i p1 p2 p3 => ?_⟩
  · rw [(g 16 0 27 rfl).1]; exact h4
  · rw [(g 16 0 55 rfl).1]; exact h5
  · rw [(g 16 0 57 rfl).1]; exact h6
  · rw [(g 97 0 i rfl).1]; exact h7 i hi
  · rw [(g 16 0 58 rfl).1]; exact h8
  · rw [(g 16 0 56 rfl).1]; exact h9
  · rw [(g 98 0 i rfl).1]; exact h10 i hi
  · have : kk = 94 ∨ kk = 95 ∨ kk = 96 := by omega
    rcases this with rfl | rfl | rfl
    · rw [(g 94 0 _ rfl).1]; exact h11 94 i p1 p2 p3
    · rw [(g 95 0 _ rfl).1]; exact h11 95 i p1 p2 p3
    · rw [(g 96 0 _ rfl).1]; exact h11 96 i p1 p2 p3
theorem iM5 (ha : a < 2) : iMo 5 (2 * d + a) = d := by unfold iMo; rw [if_pos (Or.inl rfl)]; omega
theorem iM21 (ha : a < 2) : iMo 21 (2 * d + a) = d := by unfold iMo; rw [if_pos (Or.inr rfl)]; omega
/-- the class: a knot more -/
theorem c_addL (h : CF w0 w d a j s C op K X st) (ha : a < 2) (hj : j < 64) (c x : Nat) : Ok (pX1_add N (2 * d + a) (enc c x) w) (fun y => y.1 = (1 : Int32) ∧ CF w0 y.2 d a (j + 1) s C op (up1 K j c) (up1 X j x) st ∧ Fr [6002, 21] w y.2) := by
  obtain ⟨h1, h2, h3, h4, h5, h6, h7, h8, h9⟩ := h
  have lt : (gI w 5 (2 * d + a) 2 < Int32.ofNat 64) = True := eq_true (by rw [h3]; exact (nI_ltI (b := 64) (by omega) (by omega)).mpr hj)
  have s1 : stI w 21 (2 * d + a) (gI w 5 (2 * d + a) 2) 64 (enc c x) = some (setI w 21 (2 * d + a) j (enc c x)) := by rw [h3]; exact stn hj (by omega)
  have e1 : gI (setI w 21 (2 * d + a) j (enc c x)) 5 (2 * d + a) 2 + (1 : Int32) = nI (j + 1) := by rw [gg_I, if_neg (by omega), h3]; exact nI_add _ 1
  simp only [pX1_add, ↓lt, ↓bnd s1, ↓e1, ↓reduceIte]
  have g : Fr [6002, 21] w (setI (setI w 21 (2 * d + a) j (enc c x)) 5 (2 * d + a) 2 (nI (j + 1))) := Fr_setI (Fr_setI (Fr_refl _ _) rfl) rfl
  refine ok_some ⟨rfl, ⟨FC_setI (FC_setI h1 rfl (Or.inr (iM21 ha))) rfl (Or.inr (iM5 ha)), Fr_setI (Fr_setI h2 rfl) rfl, by rw [gg_I, if_pos ⟨rfl, rfl, rfl⟩], fun i hi => ?_, fun c' hc hca => ⟨?_, fun i => ?_⟩, ?_, ?_, fun i hi => ?_, ?_⟩, g⟩
  · rw [gg_I, if_neg (by omega)]
    by_cases z : i = j
    · subst z
      rw [gg_I, if_pos ⟨rfl, rfl, rfl⟩, up1_e, up1_e]
    · rw [gg_I, if_neg (by omega), up1_n z, up1_n z]
      exact h4 i (by omega)
  · rw [gg_I, if_neg (by omega), gg_I, if_neg (by omega)]; exact (h5 c' hc hca).1
  · rw [gg_I, if_neg (by omega), gg_I, if_neg (by omega)]; exact (h5 c' hc hca).2 i
  · rw [(g 11 0 5 rfl).1]; exact h6
  · rw [(g 11 0 6 rfl).1]; exact h7
  · rw [(g 54 0 i rfl).1]; exact h8 i hi
  · rw [(g 8 d 17 rfl).1]; exact h9
theorem c_wait (h : CF w0 w d a j s C op K X st) (hs : s < 72) (o : Nat) : Ok (pX7_await N (nI (tkS o)) w) (fun y => y.1 = (1 : Int32) ∧ CF w0 y.2 d a j (s + 1) C op K X (up1 st s o) ∧ Fr [54, 12005] w y.2) := by
  obtain ⟨h1, h2, h3, h4, h5, h6, h7, h8, h9⟩ := h
  have lt : (gI w 11 0 5 < Int32.ofNat 72) = True := eq_true (by rw [h6]; exact (nI_ltI (b := 72) (by omega) (by omega)).mpr hs)
  have s1 : stI w 54 0 (gI w 11 0 5) 72 (nI (tkS o)) = some (setI w 54 0 s (nI (tkS o))) := by rw [h6]; exact stn hs (by omega)
  have e1 : gI (setI w 54 0 s (nI (tkS o))) 11 0 5 + (1 : Int32) = nI (s + 1) := by rw [gg_I, if_neg (by omega), h6]; exact nI_add _ 1
  simp only [pX7_await, ↓lt, ↓bnd s1, ↓e1, ↓reduceIte]
  have g : Fr [54, 12005] w (setI (setI w 54 0 s (nI (tkS o))) 11 0 5 (nI (s + 1))) := Fr_setI (Fr_setI (Fr_refl _ _) rfl) rfl
  refine ok_some ⟨rfl, ⟨FC_setI (FC_setI h1 rfl (Or.inl rfl)) rfl (Or.inl rfl), Fr_setI (Fr_setI h2 rfl) rfl, ?_, fun i hi => ?_, fun c' hc hca => ⟨?_, fun i => ?_⟩, by rw [gg_I, if_pos ⟨rfl, rfl, rfl⟩], ?_, fun i hi => ?_, ?_⟩, g⟩
  · rw [(g 5 _ 2 rfl).1]; exact h3
  · rw [(g 21 _ i rfl).1]; exact h4 i hi
  · rw [(g 5 _ 2 rfl).1]; exact (h5 c' hc hca).1
  · rw [(g 21 _ i rfl).1]; exact (h5 c' hc hca).2 i
  · rw [(g 11 0 6 rfl).1]; exact h7
  · rw [gg_I, if_neg (by omega)]
    by_cases z : i = s
    · subst z
      rw [gg_I, if_pos ⟨rfl, rfl, rfl⟩, up1_e]
    · rw [gg_I, if_neg (by omega), up1_n z]
      exact h8 i (by omega)
  · rw [(g 8 d 17 rfl).1]; exact h9
theorem c_cntK (h : CF w0 w d a j s C op K X st) (hj : JC w b n m d k) (hC : C < 64) : Ok (pX7_countKnot N w) (fun y => y.1 = (1 : Int32) ∧ CF w0 y.2 d a j s (C + 1) op K X st ∧ Fr [9017] w y.2) := by
  obtain ⟨h1, h2, h3, h4, h5, h6, h7, h8, h9⟩ := h
  have ed := hj.2.2.2.2
  have lt : (gI w 8 d 17 < (64 : Int32)) = True := eq_true (by rw [h9]; exact (nI_ltI (b := 64) (by omega) (by omega)).mpr hC)
  have e1 : gI w 8 d 17 + (1 : Int32) = nI (C + 1) := by rw [h9]; exact nI_add _ 1
  have g0 : pX4_countKnot N (gR w 11 0 1) w = some ((1 : Int32), setI w 8 d 17 (nI (C + 1))) := by
    rw [ed]
    simp only [pX4_countKnot, ↓lt, ↓e1, ↓reduceIte]
  simp only [pX7_countKnot, ↓cbnd g0, ↓n1_0, ↓reduceIte]
  have g : Fr [9017] w (setI w 8 d 17 (nI (C + 1))) := Fr_setI (Fr_refl _ _) rfl
  refine ok_some ⟨rfl, ⟨FC_setI h1 rfl (Or.inr rfl), Fr_setI h2 rfl, ?_, fun i hi => ?_, fun c' hc hca => ⟨?_, fun i => ?_⟩, ?_, ?_, fun i hi => ?_, by rw [gg_I, if_pos ⟨rfl, rfl, rfl⟩]⟩, g⟩
  · rw [(g 5 _ 2 rfl).1]; exact h3
  · rw [(g 21 _ i rfl).1]; exact h4 i hi
  · rw [(g 5 _ 2 rfl).1]; exact (h5 c' hc hca).1
  · rw [(g 21 _ i rfl).1]; exact (h5 c' hc hca).2 i
  · rw [(g 11 0 5 rfl).1]; exact h6
  · rw [(g 11 0 6 rfl).1]; exact h7
  · rw [(g 54 0 i rfl).1]; exact h8 i hi
theorem c_cntF (h : CF w0 w d a j s 64 op K X st) (hj : JC w b n m d k) : Ok (pX7_countKnot N w) (fun y => y.1 = (0 : Int32) ∧ flC w y.2 2 (tP b n k)) := by
  have h9 := h.2.2.2.2.2.2.2.2
  have ed := hj.2.2.2.2
  have lt : (gI w 8 d 17 < (64 : Int32)) = False := eq_false (by rw [h9]; decide)
  have g0 : pX4_countKnot N (gR w 11 0 1) w = some ((0 : Int32), w) := by
    rw [ed]
    simp only [pX4_countKnot, ↓lt, ↓reduceIte]
  simp only [pX7_countKnot, ↓cbnd g0, ↓n0_0, ↓reduceIte, callW_eq]
  refine ok_bind (c_fail hj 2) ?_
  rintro ⟨x, w1⟩ ⟨e, h2⟩
  simp only at e h2
  subst e
  simp only [↓n0_0, ↓reduceIte]
  exact ok_some ⟨rfl, h2⟩
/-- the last that waits -/
def tpS (st : Nat → Nat) (s : Nat) : Nat := if s = 0 then 0 else st (s - 1)
theorem c_last (h : CF w0 w d a j s C op K X st) (hs : s ≤ 72) : pX7_lastWaiting N w = some (nI (tkS (tpS st s)), w) := by
  obtain ⟨h1, h2, h3, h4, h5, h6, h7, h8, h9⟩ := h
  unfold tpS
  by_cases y : s = 0
  · have q : (0 < gI w 11 0 5) = False := eq_false (by rw [h6, y]; decide)
    simp only [pX7_lastWaiting, ↓q, ↓reduceIte]
    rw [if_pos y]
    rfl
  · have q : (0 < gI w 11 0 5) = True := eq_true (by rw [h6]; exact (nI_ltI (a := 0) (by omega) (by omega)).mpr (by omega))
    have e1 : gI w 11 0 5 - (1 : Int32) = nI (s - 1) := by rw [h6, show (1 : Int32) = nI 1 from rfl, nI_sb (by omega)]
    have l1 : ldI w 54 0 (gI w 11 0 5 - (1 : Int32)) 72 = some (nI (tkS (st (s - 1)))) := by rw [e1, ldn (by omega) (by omega), h8 (s - 1) (by omega)]
    simp only [pX7_lastWaiting, ↓q, ↓bnd l1, ↓reduceIte]
    rw [if_neg y]
theorem tp_ok (h : PF f j s C op K X st wt) : tpS st s < 15 ∧ tpS st s ≠ 1 := by
  unfold tpS
  split
  · omega
  · have := h.2.2.2.2.2.1 (s - 1) (by omega)
    omega
/-! the reference -/
theorem m_drop (g : MFh w0 w f j s C op K X st (h + 1)) (hb : h < 90) : pX12_dropHeld N w = some (nI (f + sp K j h), setI w 16 0 56 (nI h)) ∧ MFh w0 (setI w 16 0 56 (nI h)) f j s C op K X st h := by
  obtain ⟨h1, h2, h3, h4, h5, h6, h7, h8, h9, h10, h11⟩ := g
  have e1 : gI w 16 0 56 - (1 : Int32) = nI h := by rw [h9, show (1 : Int32) = nI 1 from rfl, nI_sb (by omega)]; congr 1
  have g : Fr [17056] w (setI w 16 0 56 (nI h)) := Fr_setI (Fr_refl _ _) rfl
  have e2 : gI (setI w 16 0 56 (nI h)) 16 0 56 = nI h := by rw [gg_I, if_pos ⟨rfl, rfl, rfl⟩]
  have l1 : ldI (setI w 16 0 56 (nI h)) 98 0 (gI (setI w 16 0 56 (nI h)) 16 0 56) 96 = some (nI (f + sp K j h)) := by rw [e2, ldn (by omega) (by omega), (g 98 0 _ rfl).1, h10 h (by omega)]
  refine ⟨by simp only [pX12_dropHeld, ↓e1, ↓bnd l1], FM_setI h1 rfl (by show 0 ≤ _; omega), Fr_setI h2 rfl, LMa_fr g h3, ?_, ?_, ?_, fun i hi => ?_, ?_, e2, fun i hi => ?_, fun kk i p1 p2 p3 => ?_⟩
  · rw [(g 16 0 27 rfl).1]; exact h4
  · rw [(g 16 0 55 rfl).1]; exact h5
  · rw [(g 16 0 57 rfl).1]; exact h6
  · rw [(g 97 0 i rfl).1]; exact h7 i hi
  · rw [(g 16 0 58 rfl).1]; exact h8
  · rw [(g 98 0 i rfl).1]; exact h10 i (by omega)
  · rw [gg_I, if_neg (by omega)]; exact h11 kk i p1 p2 p3
theorem m_grow (g : MFh w0 w f j s C op K X st h) (hg : f + j < 64) (hh : h < 90) {c x : Nat} {av bv : Int32} (hc : c ≤ 14) (hsd : sd (up1 K j c) (j + 1) = h + 1) (h0 : c ≤ 1 → av = nI x) (h1' : 2 ≤ c → av = nI (f + sp K j (sd K j - (if c = 2 then 1 else 2)))) (h2' : 3 ≤ c → bv = nI (f + sp K j (sd K j - 1))) :
    Ok (pX12_grown N (nI c) av bv w) (fun y => MFh w0 y f (j + 1) s C op (up1 K j c) (up1 X j x) st (h + 1) ∧ Fr [94, 95, 96, 98, 17056, 17027] w y) := by
  obtain ⟨h1, h2, h3, h4, h5, h6, h7, h8, h9, h10, h11⟩ := g
  have e64 : ∀ w', gI w' 16 0 27 = nI (f + j) → (64 : Int32) + gI w' 16 0 27 = nI (64 + (f + j)) := fun w' hw => by rw [hw, show (64 : Int32) = nI 64 from rfl, nI_add]
  have s1 : stI w 94 0 ((64 : Int32) + gI w 16 0 27) 128 (nI c) = some (setI w 94 0 (64 + (f + j)) (nI c)) := by rw [e64 w h4]; exact stn (by omega) (by omega)
  have g1 : gI (setI w 94 0 (64 + (f + j)) (nI c)) 16 0 27 = nI (f + j) := by rw [gg_I, if_neg (by omega)]; exact h4
  have s2 : stI (setI w 94 0 (64 + (f + j)) (nI c)) 95 0 ((64 : Int32) + gI (setI w 94 0 (64 + (f + j)) (nI c)) 16 0 27) 128 av = some (setI (setI w 94 0 (64 + (f + j)) (nI c)) 95 0 (64 + (f + j)) av) := by rw [e64 _ g1]; exact stn (by omega) (by omega)
  have g2 : gI (setI (setI w 94 0 (64 + (f + j)) (nI c)) 95 0 (64 + (f + j)) av) 16 0 27 = nI (f + j) := by rw [gg_I, if_neg (by omega)]; exact g1
  have s3 : stI (setI (setI w 94 0 (64 + (f + j)) (nI c)) 95 0 (64 + (f + j)) av) 96 0 ((64 : Int32) + gI (setI (setI w 94 0 (64 + (f + j)) (nI c)) 95 0 (64 + (f + j)) av) 16 0 27) 128 bv = some (setI (setI (setI w 94 0 (64 + (f + j)) (nI c)) 95 0 (64 + (f + j)) av) 96 0 (64 + (f + j)) bv) := by rw [e64 _ g2]; exact stn (by omega) (by omega)
  have F3 : Fr [94, 95, 96] w (setI (setI (setI w 94 0 (64 + (f + j)) (nI c)) 95 0 (64 + (f + j)) av) 96 0 (64 + (f + j)) bv) := Fr_setI (Fr_setI (Fr_setI (Fr_refl _ _) rfl) rfl) rfl
  have A3 : FM w0 (setI (setI (setI w 94 0 (64 + (f + j)) (nI c)) 95 0 (64 + (f + j)) av) 96 0 (64 + (f + j)) bv) := FM_setI (FM_setI (FM_setI h1 rfl (by show 64 ≤ _; omega)) rfl (by show 64 ≤ _; omega)) rfl (by show 64 ≤ _; omega)
  have c94 : ∀ i, gI (setI (setI (setI w 94 0 (64 + (f + j)) (nI c)) 95 0 (64 + (f + j)) av) 96 0 (64 + (f + j)) bv) 94 0 i = if i = 64 + (f + j) then nI c else gI w 94 0 i := fun i => by
    rw [gg_I, if_neg (by omega), gg_I, if_neg (by omega), gg_I]
    by_cases z : i = 64 + (f + j)
    · rw [if_pos ⟨rfl, rfl, z⟩, if_pos z]
    · rw [if_neg (fun y => z y.2.2), if_neg z]
  have c95 : ∀ i, gI (setI (setI (setI w 94 0 (64 + (f + j)) (nI c)) 95 0 (64 + (f + j)) av) 96 0 (64 + (f + j)) bv) 95 0 i = if i = 64 + (f + j) then av else gI w 95 0 i := fun i => by
    rw [gg_I, if_neg (by omega), gg_I]
    by_cases z : i = 64 + (f + j)
    · rw [if_pos ⟨rfl, rfl, z⟩, if_pos z]
    · rw [if_neg (fun y => z y.2.2), if_neg z, gg_I, if_neg (by omega)]
  have c96 : ∀ i, gI (setI (setI (setI w 94 0 (64 + (f + j)) (nI c)) 95 0 (64 + (f + j)) av) 96 0 (64 + (f + j)) bv) 96 0 i = if i = 64 + (f + j) then bv else gI w 96 0 i := fun i => by
    rw [gg_I]
    by_cases z : i = 64 + (f + j)
    · rw [if_pos ⟨rfl, rfl, z⟩, if_pos z]
    · rw [if_neg (fun y => z y.2.2), if_neg z, gg_I, if_neg (by omega), gg_I, if_neg (by omega)]
  generalize setI (setI (setI w 94 0 (64 + (f + j)) (nI c)) 95 0 (64 + (f + j)) av) 96 0 (64 + (f + j)) bv = w3 at s3 F3 A3 c94 c95 c96
  have g3 : gI w3 16 0 27 = nI (f + j) := by rw [(F3 16 0 27 rfl).1]; exact h4
  have g56 : gI w3 16 0 56 = nI h := by rw [(F3 16 0 56 rfl).1]; exact h9
  have s4 : stI w3 98 0 (gI w3 16 0 56) 96 (gI w3 16 0 27) = some (setI w3 98 0 h (nI (f + j))) := by rw [g56, g3]; exact stn (by omega) (by omega)
  have e5 : gI (setI w3 98 0 h (nI (f + j))) 16 0 56 + (1 : Int32) = nI (h + 1) := by rw [gg_I, if_neg (by omega), g56]; exact nI_add _ 1
  have e6 : gI (setI (setI w3 98 0 h (nI (f + j))) 16 0 56 (nI (h + 1))) 16 0 27 + (1 : Int32) = nI (f + (j + 1)) := by rw [gg_I, if_neg (by omega), gg_I, if_neg (by omega), g3]; exact nI_add _ 1
  simp only [pX12_grown, ↓bnd s1, ↓bnd s2, ↓bnd s3, ↓bnd s4, ↓e5, ↓e6]
  have F6 : Fr [98, 17056, 17027] w3 (setI (setI (setI w3 98 0 h (nI (f + j))) 16 0 56 (nI (h + 1))) 16 0 27 (nI (f + (j + 1)))) := Fr_setI (Fr_setI (Fr_setI (Fr_refl _ _) rfl) rfl) rfl
  have F : Fr [94, 95, 96, 98, 17056, 17027] w (setI (setI (setI w3 98 0 h (nI (f + j))) 16 0 56 (nI (h + 1))) 16 0 27 (nI (f + (j + 1)))) := Fr_trans (Fr_mono F3 rfl) (Fr_mono F6 rfl)
  have ex : ∀ i, i ≤ j → sd (up1 K j c) i = sd K i ∧ ∀ t, sp (up1 K j c) i t = sp K i t := fun i hi => ⟨sd_ext i (fun i' hi' => up1_n (by omega)), sp_ext i (fun i' hi' => up1_n (by omega))⟩
  refine ok_some ⟨⟨FM_setI (FM_setI (FM_setI A3 rfl (by show 0 ≤ _; omega)) rfl (by show 0 ≤ _; omega)) rfl (by show 0 ≤ _; omega), Fr_trans h2 (Fr_mono F rfl), fun i hi => ?_, by rw [gg_I, if_pos ⟨rfl, rfl, rfl⟩], ?_, ?_, fun i hi => ?_, ?_, ?_, fun i hi => ?_, fun kk i p1 p2 p3 => ?_⟩, F⟩
  · rw [(F6 94 0 _ rfl).1, (F6 95 0 _ rfl).1, (F6 96 0 _ rfl).1, c94, c95, c96, (ex i (by omega)).1, (ex i (by omega)).2, (ex i (by omega)).2]
    by_cases z : i = j
    · subst z
      rw [if_pos rfl, if_pos rfl, if_pos rfl, up1_e, up1_e]
      exact ⟨rfl, h0, h1', h2'⟩
    · have ne : ¬ 64 + (f + i) = 64 + (f + j) := by omega
      rw [if_neg ne, if_neg ne, if_neg ne, up1_n z, up1_n z]
      exact h3 i (by omega)
  · rw [(F 16 0 55 rfl).1]; exact h5
  · rw [(F 16 0 57 rfl).1]; exact h6
  · rw [(F 97 0 i rfl).1]; exact h7 i hi
  · rw [(F 16 0 58 rfl).1]; exact h8
  · rw [gg_I, if_neg (by omega), gg_I, if_pos ⟨rfl, rfl, rfl⟩]
  · rw [gg_I, if_neg (by omega), gg_I, if_neg (by omega), sp, hsd]
    by_cases z : i = h
    · subst z
      rw [if_pos rfl, gg_I, if_pos ⟨rfl, rfl, rfl⟩]
    · rw [if_neg (by omega), gg_I, if_neg (by omega), (F3 98 0 _ rfl).1, (ex j (Nat.le_refl _)).2]
      exact h10 i (by omega)
  · have : kk = 94 ∨ kk = 95 ∨ kk = 96 := by omega
    rcases this with rfl | rfl | rfl
    · rw [(F6 94 0 _ rfl).1, c94, if_neg (by omega)]; exact h11 94 i p1 p2 p3
    · rw [(F6 95 0 _ rfl).1, c95, if_neg (by omega)]; exact h11 95 i p1 p2 p3
    · rw [(F6 96 0 _ rfl).1, c96, if_neg (by omega)]; exact h11 96 i p1 p2 p3
theorem m_wait (g : MFh w0 w f j s C op K X st h) (hs : s < 90) (o : Nat) : Ok (pX12_waitsFor N (nI o) w) (fun y => MFh w0 y f j (s + 1) C op K X (up1 st s o) h ∧ Fr [97, 17055] w y) := by
  obtain ⟨h1, h2, h3, h4, h5, h6, h7, h8, h9, h10, h11⟩ := g
  have s1 : stI w 97 0 (gI w 16 0 55) 96 (nI o) = some (setI w 97 0 s (nI o)) := by rw [h5]; exact stn (by omega) (by omega)
  have e1 : gI (setI w 97 0 s (nI o)) 16 0 55 + (1 : Int32) = nI (s + 1) := by rw [gg_I, if_neg (by omega), h5]; exact nI_add _ 1
  simp only [pX12_waitsFor, ↓bnd s1, ↓e1]
  have g : Fr [97, 17055] w (setI (setI w 97 0 s (nI o)) 16 0 55 (nI (s + 1))) := Fr_setI (Fr_setI (Fr_refl _ _) rfl) rfl
  refine ok_some ⟨⟨FM_setI (FM_setI h1 rfl (by show 0 ≤ _; omega)) rfl (by show 0 ≤ _; omega), Fr_setI (Fr_setI h2 rfl) rfl, LMa_fr g h3, ?_, by rw [gg_I, if_pos ⟨rfl, rfl, rfl⟩], ?_, fun i hi => ?_, ?_, ?_, fun i hi => ?_, fun kk i p1 p2 p3 => ?_⟩, g⟩
  · rw [(g 16 0 27 rfl).1]; exact h4
  · rw [(g 16 0 57 rfl).1]; exact h6
  · rw [gg_I, if_neg (by omega)]
    by_cases z : i = s
    · subst z
      rw [gg_I, if_pos ⟨rfl, rfl, rfl⟩, up1_e]
    · rw [gg_I, if_neg (by omega), up1_n z]
      exact h7 i (by omega)
  · rw [(g 16 0 58 rfl).1]; exact h8
  · rw [(g 16 0 56 rfl).1]; exact h9
  · rw [(g 98 0 i rfl).1]; exact h10 i hi
  · rw [gg_I, if_neg (by omega), gg_I, if_neg (by omega)]; exact h11 kk i p1 p2 p3
theorem m_cnt (g : MFh w0 w f j s C op K X st h) (hC : C < 64) : Ok (pX12_isCounted N w) (fun y => y.1 = (1 : Int32) ∧ MFh w0 y.2 f j s (C + 1) op K X st h ∧ Fr [17058] w y.2) := by
  obtain ⟨h1, h2, h3, h4, h5, h6, h7, h8, h9, h10, h11⟩ := g
  have q : (gI w 16 0 58 = (64 : Int32)) = False := eq_false (fun z => by
    rw [h8] at z
    have := (nI_eq (b := 64) (by omega) (by omega)).mp z
    omega)
  have e1 : gI w 16 0 58 + (1 : Int32) = nI (C + 1) := by rw [h8]; exact nI_add _ 1
  simp only [pX12_isCounted, ↓q, ↓e1, ↓reduceIte]
  have g : Fr [17058] w (setI w 16 0 58 (nI (C + 1))) := Fr_setI (Fr_refl _ _) rfl
  refine ok_some ⟨rfl, ⟨FM_setI h1 rfl (by show 0 ≤ _; omega), Fr_setI h2 rfl, LMa_fr g h3, ?_, ?_, ?_, fun i hi => ?_, by rw [gg_I, if_pos ⟨rfl, rfl, rfl⟩], ?_, fun i hi => ?_, fun kk i p1 p2 p3 => ?_⟩, g⟩
  · rw [(g 16 0 27 rfl).1]; exact h4
  · rw [(g 16 0 55 rfl).1]; exact h5
  · rw [(g 16 0 57 rfl).1]; exact h6
  · rw [(g 97 0 i rfl).1]; exact h7 i hi
  · rw [(g 16 0 56 rfl).1]; exact h9
  · rw [(g 98 0 i rfl).1]; exact h10 i hi
  · rw [gg_I, if_neg (by omega)]; exact h11 kk i p1 p2 p3
theorem m_cntF (g : MFh w0 w f j s 64 op K X st h) (hj : JM w b n k) : Ok (pX12_isCounted N w) (fun y => y.1 = (0 : Int32) ∧ flM w y.2 2 (tP b n k)) := by
  have h8 := g.2.2.2.2.2.2.2.1
  have q : (gI w 16 0 58 = (64 : Int32)) = True := eq_true h8
  simp only [pX12_isCounted, ↓q, ↓reduceIte]
  exact m_wrongZ hj 2
end

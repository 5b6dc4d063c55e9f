/-! ===== what both keep over all calls ===== -/
/-- the words of the language: the class's (5 bits a letter), the reference's (letter by letter) -/
def wlL : List Nat := [525908, 72983685, 542723566, 12009203, 114292, 215533, 664972, 217652404, 16829081, 24865546418, 20325509, 463922, 627876, 12343, 16052, 533611, 498, 1476, 14836, 495763, 52942276, 21279923, 773279908, 14982420]
def wmL : List Nat := [112, 97, 114, 116, 32, 112, 101, 114, 115, 111, 110, 32, 112, 97, 114, 116, 121, 32, 119, 101, 97, 116, 104, 101, 114, 32, 115, 108, 105, 100, 101, 32, 110, 101, 97, 114, 32, 115, 101, 101, 100, 32, 108, 97, 119, 32, 98, 101, 115, 105, 100, 101, 32, 107, 110, 111, 119, 115, 32, 99, 111, 115, 116, 32, 102, 114, 111, 109, 32, 116, 105, 108, 108, 32, 102, 111, 114, 103, 101, 116, 32, 111, 117, 116, 32, 112, 105, 99, 107, 32, 97, 110, 100, 32, 111, 114, 32, 110, 111, 116, 32, 111, 100, 100, 115, 32, 97, 114, 111, 117, 110, 100, 32, 116, 105, 109, 101, 115, 32, 119, 97, 110, 116, 101, 100, 32, 110, 105, 103, 104, 116, 32]
section
variable {w w' : Wd} {v : Vw}
theorem Fr_I {l m : List Nat} (f : Fr l w w') (hl : dis l m = true) {k i j : Nat} (hk : m.contains (ky k j) = true) : gI w' k i j = gI w k i j := (f k i j (dis_of hl hk)).1
theorem Fr_L {l m : List Nat} (f : Fr l w w') (hl : dis l m = true) {k i j : Nat} (hk : m.contains (ky k j) = true) : gL w' k i j = gL w k i j := (f k i j (dis_of hl hk)).2.1
theorem Fr_R {l m : List Nat} (f : Fr l w w') (hl : dis l m = true) {k i j : Nat} (hk : m.contains (ky k j) = true) : gR w' k i j = gR w k i j := (f k i j (dis_of hl hk)).2.2
def WD (w : Wd) : Prop := (∀ j, j < 24 → gL w 67 0 j = lN (wlL.getD j 0)) ∧ (∀ j, j < 132 → gI w 74 0 j = nI (wmL.getD j 0))
def kWD : List Nat := [67, 74]
theorem WD_fr {l : List Nat} (f : Fr l w w') (h : WD w) (hl : dis l kWD = true := by decide) : WD w' :=
  ⟨fun j hj => by rw [Fr_L f hl rfl]; exact h.1 j hj, fun j hj => by rw [Fr_I f hl rfl]; exact h.2 j hj⟩
/-- the drawn number -/
def ZD (w : Wd) : Prop := gL w 13 0 2 = gL w 106 0 0
def kZD : List Nat := [14002, 106]
theorem ZD_fr {l : List Nat} (f : Fr l w w') (h : ZD w) (hl : dis l kZD = true := by decide) : ZD w' := by
  unfold ZD
  rw [Fr_L f hl (k := 13) rfl, Fr_L f hl (k := 106) rfl]
  exact h
/-- the moor, and the one to be read into -/
def MO (w : Wd) : Prop := gR w 15 0 2 ≤ 1 ∧ gR w 15 0 3 = 1 - gR w 15 0 2
def kMO : List Nat := [16002, 16003]
theorem MO_fr {l : List Nat} (f : Fr l w w') (h : MO w) (hl : dis l kMO = true := by decide) : MO w' := by
  unfold MO
  rw [Fr_R f hl (k := 15) (j := 2) rfl, Fr_R f hl (k := 15) (j := 3) rfl]
  exact h
def n3 (l : List Nat) : Bool := l.all (fun k => decide (k < 4000) || decide (4900 ≤ k))
theorem n3_of {l : List Nat} (h : n3 l = true) {j : Nat} (hj : j < 900) : l.contains (4000 + j) = false := by
  cases hc : l.contains (4000 + j) with
  | false => rfl
  | true =>
    have h1 := List.all_eq_true.mp h (4000 + j) (List.contains_iff_mem.mp hc)
    simp only [Bool.or_eq_true, decide_eq_true_eq] at h1
    omega
/-- the tape -/
def TP (w : Wd) : Prop := ∃ (tl : Nat) (b : Nat → Nat), tl ≤ 900 ∧ gI w 15 0 1 = nI tl ∧ gI w 16 0 1 = nI tl ∧ ∀ j, j < tl → b j < 256 ∧ gI w 3 0 j &&& (255 : Int32) = nI (b j) ∧ gI w 73 0 j = nI (b j)
def kTP : List Nat := [16001, 17001, 3003, 3, 73]
theorem TP_fr {l : List Nat} (f : Fr l w w') (h : TP w) (hl : dis l [16001, 17001, 73] = true := by decide) (h3 : n3 l = true := by decide) : TP w' := by
  obtain ⟨tl, b, h1, h2, h4, h5⟩ := h
  refine ⟨tl, b, h1, by rw [Fr_I f hl rfl]; exact h2, by rw [Fr_I f hl rfl]; exact h4, fun j hj => ?_⟩
  rw [Fr_I f hl (k := 73) rfl, (f 3 0 j (n3_of h3 (by omega))).1]
  exact h5 j hj
/-- the last fault -/
def FA (w : Wd) : Prop := gI w 11 0 8 = gI w 16 0 4 ∧ gI w 11 0 9 = gI w 16 0 5
def kFA : List Nat := [12008, 12009, 17004, 17005]
theorem FA_fr {l : List Nat} (f : Fr l w w') (h : FA w) (hl : dis l kFA = true := by decide) : FA w' := by
  unfold FA
  rw [Fr_I f hl (k := 11) (j := 8) rfl, Fr_I f hl (k := 11) (j := 9) rfl, Fr_I f hl (k := 16) (j := 4) rfl, Fr_I f hl (k := 16) (j := 5) rfl]
  exact h
/-- what can be undone: 0 a slide, q + 1 where person q was lost before -/
def UN (w : Wd) (v : Vw) : Prop := ∃ (u : Nat) (ep ex : Nat → Nat), u ≤ 20 ∧ gI w 15 0 8 = nI u ∧ gI w 16 0 74 = nI u ∧ cnt (fun j => ep j == 0) u ≤ v 0 6 ∧
  ∀ j, j < u → ep j ≤ v 0 1 ∧ ex j ≤ v 0 0 ∧ gI w 71 0 j = lst (ep j) ∧ gI w 109 0 (3 * j) = (if ep j = 0 then nI 1 else nI 0) ∧ (ep j ≠ 0 → gI w 109 0 (3 * j + 1) = lst (ep j) ∧ gI w 72 0 j = lst (ex j) ∧ gI w 109 0 (3 * j + 2) = lst (ex j))
def kUN : List Nat := [16008, 17074, 71, 72, 109]
theorem UN_fr {l : List Nat} (f : Fr l w w') (h : UN w v) (hl : dis l kUN = true := by decide) : UN w' v := by
  obtain ⟨u, ep, ex, h1, h2, h3, h4, h5⟩ := h
  refine ⟨u, ep, ex, h1, by rw [Fr_I f hl rfl]; exact h2, by rw [Fr_I f hl rfl]; exact h3, h4, fun j hj => ?_⟩
  rw [Fr_I f hl (k := 71) rfl, Fr_I f hl (k := 109) (j := 3 * j) rfl, Fr_I f hl (k := 109) (j := 3 * j + 1) rfl, Fr_I f hl (k := 109) (j := 3 * j + 2) rfl, Fr_I f hl (k := 72) rfl]
  exact h5 j hj
theorem UN_ext {v' : Vw} (e0 : v' 0 0 = v 0 0) (e1 : v' 0 1 = v 0 1) (e6 : v 0 6 ≤ v' 0 6) (h : UN w v) : UN w v' := by
  obtain ⟨u, ep, ex, h1, h2, h3, h4, h5⟩ := h
  refine ⟨u, ep, ex, h1, h2, h3, by omega, fun j hj => ?_⟩
  rw [e0, e1]
  exact h5 j hj
theorem UN_no {v' : Vw} (h : gI w 15 0 8 = nI 0) (h' : gI w 16 0 74 = nI 0) : UN w v' := ⟨0, fun _ => 0, fun _ => 0, by omega, h, h', Nat.zero_le _, fun j hj => absurd hj (Nat.not_lt_zero j)⟩
/-- the image: the reference's rows -/
def IR (w : Wd) (v : Vw) : Prop := gI w 16 0 98 = nI (v 0 5) ∧ gI w 16 0 99 = nI (v 0 6) ∧ (∀ j, j < v 0 6 → gI w 129 0 j = nI (v 14 j) ∧ gI w 130 0 j = nI (v 15 j)) ∧
  (∀ p k, p < v 0 1 → k < 8 → gI w 124 0 (8 * p + k) = lrm (v 16 (8 * p + k)) ∧ gI w 125 0 (8 * p + k) = zB (v 16 (8 * p + k) == 1)) ∧
  ∀ p, p < v 0 1 → gI w 126 0 p = nI (v 17 p) ∧ gI w 127 0 p = nI (v 18 p) ∧ gI w 128 0 p = lst (v 19 p)
def kIR : List Nat := [17098, 17099, 124, 125, 126, 127, 128, 129, 130]
theorem IR_fr {l : List Nat} (f : Fr l w w') (h : IR w v) (hl : dis l kIR = true := by decide) : IR w' v := by
  obtain ⟨h1, h2, h3, h4, h5⟩ := h
  refine ⟨by rw [Fr_I f hl rfl]; exact h1, by rw [Fr_I f hl rfl]; exact h2, fun j hj => ?_, fun p k hp hk => ?_, fun p hp => ?_⟩
  · rw [Fr_I f hl (k := 129) rfl, Fr_I f hl (k := 130) rfl]; exact h3 j hj
  · rw [Fr_I f hl (k := 124) rfl, Fr_I f hl (k := 125) rfl]; exact h4 p k hp hk
  · rw [Fr_I f hl (k := 126) rfl, Fr_I f hl (k := 127) rfl, Fr_I f hl (k := 128) rfl]; exact h5 p hp
/-- what a stand keeps -/
def WS (v : Vw) : Prop := WF v ∧ (∀ j, v 18 j ≤ v 0 5) ∧ v 0 5 ≤ 1000
def IM (w : Wd) (v : Vw) : Prop := ∃ h : Bool, gI w 15 0 7 = zB h ∧ gI w 16 0 97 = zB h ∧ (h = true → ∃ vi, SC w 1 vi ∧ gR w 13 1 0 = gR w 13 0 0 ∧ gL w 13 1 2 = gL w 16 0 100 ∧ IR w vi ∧ WS vi ∧ ∀ r j, mr r j → vi r j = v r j)
def kIM : List Nat := [16007, 17097, 14000, 14002, 17100] ++ kSC ++ kIR
theorem IM_fr {l : List Nat} (f : Fr l w w') (h : IM w v) (hl : dis l kIM = true := by decide) : IM w' v := by
  obtain ⟨h, h1, h2, h3⟩ := h
  refine ⟨h, by rw [Fr_I f hl (by decide)]; exact h1, by rw [Fr_I f hl (by decide)]; exact h2, fun e => ?_⟩
  obtain ⟨vi, a1, a2, a3, a4, a5, a6⟩ := h3 e
  refine ⟨vi, SC_fr f a1 (dis_sub hl (by decide)), ?_, ?_, IR_fr f a4 (dis_sub hl (by decide)), a5, a6⟩
  · rw [Fr_R f hl (k := 13) (i := 1) (by decide), Fr_R f hl (k := 13) (i := 0) (by decide)]; exact a2
  · rw [Fr_L f hl (k := 13) (by decide), Fr_L f hl (k := 16) (by decide)]; exact a3
/-- .. over a change of another stand -/
theorem IM_sfr {l : List Nat} {i : Nat} (f : Fr l w w') (s : SFr i w w') (hi : 1 ≠ i) (h13 : gR w' 13 0 0 = gR w 13 0 0) (h : IM w v) (hl : dis l ([16007, 17097, 17100] ++ kIR) = true := by decide) : IM w' v := by
  obtain ⟨h, h1, h2, h3⟩ := h
  refine ⟨h, by rw [Fr_I f hl (by decide)]; exact h1, by rw [Fr_I f hl (by decide)]; exact h2, fun e => ?_⟩
  obtain ⟨vi, a1, a2, a3, a4, a5, a6⟩ := h3 e
  refine ⟨vi, SC_sfr s hi a1 (WF_people a5.1), ?_, ?_, IR_fr f a4 (dis_sub hl (by decide)), a5, a6⟩
  · rw [h13, (s 13 1 0 (by rw [if_neg (by omega)]; exact hi) (Or.inl rfl)).2.2]; exact a2
  · rw [Fr_L f hl (k := 16) (by decide), (s 13 1 2 (by rw [if_neg (by omega)]; exact hi) (Or.inl rfl)).2.1]; exact a3
theorem IM_ext {v' : Vw} (e : ∀ r j, mr r j → v' r j = v r j) (h : IM w v) : IM w v' := by
  obtain ⟨h, h1, h2, h3⟩ := h
  refine ⟨h, h1, h2, fun q => ?_⟩
  obtain ⟨vi, a1, a2, a3, a4, a5, a6⟩ := h3 q
  exact ⟨vi, a1, a2, a3, a4, a5, fun r j hm => (a6 r j hm).trans (e r j hm).symm⟩
/-- the claims -/
def CL (w : Wd) (v : Vw) : Prop := ∃ e, CC w v e ∧ CM w e ∧ WC v e
def kCLc : List Nat := [5000, 17, 18, 19, 20, 17093, 121, 122, 123]
theorem CC_fr {l : List Nat} {e : Vw} (f : Fr l w w') (h : CC w v e) (hl : dis l kCLc = true := by decide) : CC w' v e :=
  ⟨by rw [Fr_I f hl (by decide)]; exact h.1, fun c hc => by
    rw [Fr_I f hl (k := 17) rfl, Fr_I f hl (k := 18) rfl, Fr_I f hl (k := 19) rfl, Fr_I f hl (k := 20) rfl]
    exact h.2 c hc⟩
theorem CM_fr {l : List Nat} {e : Vw} (f : Fr l w w') (h : CM w e) (hl : dis l [17093, 121, 122, 123] = true := by decide) : CM w' e :=
  ⟨by rw [Fr_I f hl (by decide)]; exact h.1, fun c hc => by
    rw [Fr_I f hl (k := 121) rfl, Fr_I f hl (k := 122) rfl, Fr_I f hl (k := 123) rfl]
    exact h.2 c hc⟩
theorem CL_fr {l : List Nat} (f : Fr l w w') (h : CL w v) (hl : dis l kCLc = true := by decide) : CL w' v := by
  obtain ⟨e, h1, h2, h3⟩ := h
  exact ⟨e, CC_fr f h1 hl, CM_fr f h2 (dis_sub hl (by decide)), h3⟩
/-- the order kept -/
def kOC : List Nat := [10001, 10002, 10010, 10012, 47]
theorem OC_fr {l : List Nat} (f : Fr l w w') (h : OC w v) (hl : dis l kOC = true := by decide) : OC w' v := by
  rcases h with h | ⟨p, S, h1, h2, h3, h4, h5, h6, h7, b, h8, h9, h10⟩
  · exact Or.inl (by rw [Fr_I f hl (by decide)]; exact h)
  · refine Or.inr ⟨p, S, h1, h2, h3, h4, by rw [Fr_I f hl (by decide)]; exact h5, by rw [Fr_I f hl (by decide)]; exact h6, by rw [Fr_I f hl (by decide)]; exact h7, b, h8, by rw [Fr_L f hl (by decide)]; exact h9, fun j hj => ?_⟩
    rw [Fr_I f hl (k := 47) rfl]; exact h10 j hj
theorem OC_drop {l : List Nat} (h : gI w 9 0 1 = (-1 : Int32)) : OC w v := Or.inl h
/-- all -/
def Iv (w : Wd) (v : Vw) : Prop := Cu w v ∧ ZD w ∧ MO w ∧ TP w ∧ FA w ∧ UN w v ∧ IM w v ∧ CL w v ∧ OC w v ∧ WD w
def kIv : List Nat := kCu ++ kZD ++ kMO ++ [16001, 17001, 73] ++ kFA ++ kUN ++ kIM ++ kCLc ++ kOC ++ kWD
theorem Iv_fr {l : List Nat} (f : Fr l w w') (h : Iv w v) (hl : dis l kIv = true := by decide) (h3 : n3 l = true := by decide) : Iv w' v := by
  obtain ⟨h1, h2, hm, ht, hf, hu, hi, hc, ho, hw⟩ := h
  exact ⟨Cu_fr f h1 (dis_sub hl (by decide)), ZD_fr f h2 (dis_sub hl (by decide)), MO_fr f hm (dis_sub hl (by decide)), TP_fr f ht (dis_sub hl (by decide)) h3, FA_fr f hf (dis_sub hl (by decide)), UN_fr f hu (dis_sub hl (by decide)), IM_fr f hi (dis_sub hl (by decide)), CL_fr f hc (dis_sub hl (by decide)), OC_fr f ho (dis_sub hl (by decide)), WD_fr f hw (dis_sub hl (by decide))⟩
/-- a call of both -/
def Sp {α : Type} (c m : Wd → Option (α × Wd)) (w : Wd) : Prop := ∃ r w1 w2, c w = some (r, w1) ∧ m w1 = some (r, w2) ∧ ∃ v, Iv w2 v
theorem Sp_both {α : Type} {c m : Wd → Option (α × Wd)} (h : Iv w v) (b : Both c m w) : Sp c m w := by
  obtain ⟨r, w1, w2, e1, f1, e2, f2⟩ := b
  exact ⟨r, w1, w2, e1, e2, v, Iv_fr (Fr_trans f1 f2) h⟩
theorem BFr0 {l : List Nat} (f : Fr l w w') (g : BFr 1 w w') (hF : WF v) (h : Cu w v) (hl : dis l (kRC ++ kTM ++ kTL ++ [107, 16002, 17064]) = true := by decide) : Cu w' v := by
  obtain ⟨h1, h2, h3, h4, h5, h6, h7, h8⟩ := h
  refine ⟨RC_fr f h1 (dis_sub hl (by decide)), ⟨TM_fr f h2.1 (dis_sub hl (by decide)), SM_bfr g (by omega) (WF_people hF) h2.2.1, TL_fr f h2.2.2.1 (dis_sub hl (by decide)), ST_fr f h2.2.2.2 (dis_of hl (by decide))⟩, h3, h4, ?_, h6, h7, ?_⟩
  · rw [Fr_R f hl (k := 15) (by decide), Fr_R f hl (k := 13) (by decide)]; exact h5
  · rw [Fr_I f hl (by decide)]; exact h8
theorem Sp_order {α : Type} {c m : Wd → Option (α × Wd)} (h : Iv w v) (b : BothO c m w v) : Sp c m w := by
  obtain ⟨r, w1, w2, e1, f1, o1, e2, f2, g2⟩ := b
  obtain ⟨h1, h2, hm, ht, hf, hu, hi, hc, ho, hw⟩ := h
  have C1 := Cu_fr f1 h1
  refine ⟨r, w1, w2, e1, e2, v, BFr0 f2 g2 h1.2.2.1 C1, ?_, MO_fr f2 (MO_fr f1 hm), TP_fr f2 (TP_fr f1 ht), FA_fr f2 (FA_fr f1 hf), UN_fr f2 (UN_fr f1 hu), IM_fr f2 (IM_fr f1 hi), CL_fr f2 (CL_fr f1 hc), OC_fr f2 o1, WD_fr f2 (WD_fr f1 hw)⟩
  have z1 := ZD_fr f1 h2
  unfold ZD at z1 ⊢
  rw [(f2 13 0 2 rfl).2.1, g2.2.2 0 (by omega)]
  exact z1
end

/-! ===== the class: find ===== -/
theorem arr_ex {S P : Nat} (hS : S < 2 ^ P) : ∃ r, arr S (cnt (fun k => S.testBit k) P) r := by
  have key : ∀ Q, ∃ r : Nat → Nat, (∀ i, i < cnt (fun k => S.testBit k) Q → r i < Q ∧ S.testBit (r i) = true) ∧ ∀ i j, i < j → j < cnt (fun k => S.testBit k) Q → r i ≠ r j := by
    intro Q
    induction Q with
    | zero => exact ⟨fun _ => 0, fun i hi => absurd hi (Nat.not_lt_zero i), fun i j _ hj => absurd hj (Nat.not_lt_zero j)⟩
    | succ Q ih =>
      obtain ⟨r, h1, h2⟩ := ih
      by_cases hb : S.testBit Q = true
      · refine ⟨fun i => if i = cnt (fun k => S.testBit k) Q then Q else r i, fun i hi => ?_, fun i j hij hj => ?_⟩
        · rw [cnt, if_pos hb] at hi
          by_cases y : i = cnt (fun k => S.testBit k) Q
          · simp only [if_pos y]; exact ⟨by omega, hb⟩
          · simp only [if_neg y]
            have := h1 i (by omega)
            exact ⟨by omega, this.2⟩
        · rw [cnt, if_pos hb] at hj
          have hi := h1 i (by omega)
          simp only [if_neg (show i ≠ cnt (fun k => S.testBit k) Q by omega)]
          by_cases y : j = cnt (fun k => S.testBit k) Q
          · simp only [if_pos y]; omega
          · simp only [if_neg y]; exact h2 i j hij (by omega)
      · have e : cnt (fun k => S.testBit k) (Q + 1) = cnt (fun k => S.testBit k) Q := by rw [cnt, if_neg hb]; rfl
        rw [e]
        exact ⟨r, fun i hi => ⟨by have := (h1 i hi).1; omega, (h1 i hi).2⟩, h2⟩
  obtain ⟨r, h1, h2⟩ := key P
  exact ⟨r, arr_of hS rfl (fun i hi => (h1 i hi).2) h2⟩
theorem pc_cnt {S P : Nat} (hP : P ≤ 12) (hS : S < 2 ^ P) : pc S = cnt (fun k => S.testBit k) P := by
  have := pc_mkB (fun k => S.testBit k) hP
  rw [mkB_self hS] at this
  exact this
section
variable {N : Nat} {w : Wd} {v : Vw}
/-- what is laid for a person and a set of parts -/
def laO (w : Wd) (v : Vw) (p S : Nat) : Prop := p < v 0 1 ∧ S < 2 ^ v 0 0 ∧ S ≠ 0 ∧ (∀ i, i < nO v S → sThere v p (v 0 5 + i) = true) ∧ gI w 9 0 1 = nI p ∧ gI w 9 0 2 = nI S ∧ gI w 9 0 11 = nI (nO v S) ∧ ∃ b, isO v p S (nO v S) b ∧ gL w 9 0 9 = lN (opP v p b (nO v S)) ∧ ∀ j, j < nO v S → gI w 47 0 j = nI (b j)
/-- nothing is laid, or what is laid is right -/
def OC (w : Wd) (v : Vw) : Prop := gI w 9 0 1 = (-1 : Int32) ∨ ∃ p S, laO w v p S
def kFi : List Nat := [66, 22, 40, 41, 43, 44, 45, 46, 47, 10001, 10002, 10009, 10011]
theorem c_find44 {w0 : Wd} (hR : RC w0 0 v) (hF : WF v) (hL : WL v) (h5 : v 0 5 ≤ 1000) (hT : ∀ j, v 18 j ≤ v 0 5) (hN : 100 ≤ N) {p S n : Nat} (hp : p < v 0 1) (hn : n ≤ 8) (hS : S < 2 ^ v 0 0) (h9 : gI w0 9 0 1 = nI p) (h92 : gI w0 9 0 2 = nI S)
    {Q : Wd → Prop} (K : Wd → Option Wd) (hK : ∀ w, Fr kPr w0 w → orT w v p S n n → Ok (K w) Q) :
    ∀ c d fuel w, c + d = n → c < fuel → Fr kPr w0 w → orT w v p S n d → Ok (fX5_find_44 N fuel K (dn c) w) Q := by
  intro c
  induction c with
  | zero =>
    intro d fuel w hcd hf f0 hO
    obtain ⟨f, rfl⟩ : ∃ m, fuel = m + 1 := ⟨fuel - 1, by omega⟩
    have lt : (dn 0 < (0 : Int32)) = True := eq_true ((dn_neg (by omega)).mpr rfl)
    simp only [fX5_find_44, ↓lt, ↓reduceIte]
    have : d = n := by omega
    subst this
    exact hK w f0 hO
  | succ c ih =>
    intro d fuel w hcd hf f0 hO
    obtain ⟨f, rfl⟩ : ∃ m, fuel = m + 1 := ⟨fuel - 1, by omega⟩
    have lt : (dn (c + 1) < (0 : Int32)) = False := eq_false (fun z => by
      have := (dn_neg (c := c + 1) (by omega)).mp z
      omega)
    have e0 : dn (c + 1) = nI (n - (d + 1)) := by
      unfold dn
      rw [if_neg (by omega)]
      congr 1
      omega
    have e1 : dn (c + 1) + (-1 : Int32) = dn c := by
      rw [show dn (c + 1) = nI c from if_neg (by omega)]
      exact dn_add c
    simp only [fX5_find_44, ↓lt, ↓e1, ↓reduceIte, callW_eq]
    rw [e0]
    refine ok_bind (c_prepare (N := N) (RC_fr f0 hR) hF hL h5 hT hN hp hn (by omega) hS (((f0 9 0 1 rfl).1).trans h9) (((f0 9 0 2 rfl).1).trans h92) hO) ?_
    rintro w1 ⟨f1, o1⟩
    exact ih (d + 1) f w1 (by omega) (by omega) (Fr_trans f0 f1) o1
theorem c_find23 {w0 : Wd} {Q : Wd → Prop} (K : Wd → Option Wd) (hK : ∀ w, Fr [44] w0 w → (∀ k, k < 8 → gI w 44 0 k = nI 0) → Ok (K w) Q) :
    ∀ fuel c w, c ≤ 8 → 8 - c < fuel → Fr [44] w0 w → (∀ k, k < c → gI w 44 0 k = nI 0) → Ok (fX5_find_23 N fuel K (nI c) w) Q := by
  intro fuel
  induction fuel with
  | zero => intro c _ _ h; omega
  | succ f ih =>
    intro c w hc hf f0 h0
    rcases Nat.lt_or_ge c 8 with y | y
    · have lt : (nI c < (8 : Int32)) = True := eq_true ((nI_ltI (by omega) (by omega) (b := 8)).mpr y)
      have s1 : stI w 44 0 (nI c) 8 (0 : Int32) = some (setI w 44 0 c (0 : Int32)) := stn (by omega) (by omega)
      have e1 : nI c + (1 : Int32) = nI (c + 1) := nI_add c 1
      simp only [fX5_find_23, ↓lt, ↓bnd s1, ↓e1, ↓reduceIte, callW_eq]
      refine ih (c + 1) _ (by omega) (by omega) (Fr_setI f0 rfl) (fun k hk => ?_)
      rw [gg_I]
      by_cases z : k = c
      · subst z; rw [if_pos ⟨rfl, rfl, rfl⟩]; rfl
      · rw [if_neg (fun u => z u.2.2)]; exact h0 k (by omega)
    · have : c = 8 := by omega
      subst this
      have lt : (nI 8 < (8 : Int32)) = False := eq_false (by decide)
      simp only [fX5_find_23, ↓lt, ↓reduceIte]
      exact hK w f0 h0
theorem c_findO (C : Cu w v) (hO : OC w v) (hN : 100 ≤ N) {p S : Nat} (hp : p < v 0 1) (hS : S < 2 ^ v 0 0) (hS0 : S ≠ 0) (hth : ∀ i, i < nO v S → sThere v p (v 0 5 + i) = true) : Ok (pX5_find N (nI p) (nI S) w) (fun w' => Fr kFi w w' ∧ laO w' v p S) := by
  have hF := C.2.2.1
  have hL := C.2.2.2.1
  have hT := C.2.2.2.2.2.1
  have h5 := C.2.2.2.2.2.2.1
  have h1 := WF_people hF
  have h2 := WF_parts hF
  have hS8 : S < 2 ^ 8 := Nat.lt_of_lt_of_le hS (Nat.pow_le_pow_right (by omega) h2)
  have hn8 : nO v S ≤ 8 := nO_le hF
  /- anew -/
  have anew : Ok (fX5_find_9 N (nI p) (nI S) w) (fun w' => Fr kFi w w' ∧ laO w' v p S) := by
    have f1 : Fr kFi w (setI (setI w 9 0 1 (nI p)) 9 0 2 (nI S)) := Fr_setI (Fr_setI (Fr_refl _ _) rfl) rfl
    have a1 : gI (setI (setI w 9 0 1 (nI p)) 9 0 2 (nI S)) 9 0 1 = nI p := by rw [gg_I, if_neg (by omega), gg_I, if_pos ⟨rfl, rfl, rfl⟩]
    have a2 : gI (setI (setI w 9 0 1 (nI p)) 9 0 2 (nI S)) 9 0 2 = nI S := by rw [gg_I, if_pos ⟨rfl, rfl, rfl⟩]
    generalize hw1 : setI (setI w 9 0 1 (nI p)) 9 0 2 (nI S) = w1 at f1 a1 a2
    have gb := c_bits (N := N) (w := w1) (x := S) (by omega)
    rw [pc_cnt (P := v 0 0) (by omega) hS] at gb
    have gm : pJ9_min_7cf53 N (nI (cnt (fun k => S.testBit k) (v 0 0))) (8 : Int32) w1 = some (nI (nO v S), w1) := by
      have := c_min (N := N) (w := w1) (a := nO v S) (b := 8) (by omega) (by omega)
      rw [if_neg (by omega)] at this
      exact this
    have z0 : (0 : Int32) = nI 0 := rfl
    simp only [fX5_find_9, ↓hw1, ↓cbnd gb, ↓cbnd gm]
    rw [callW_eq, z0]
    have f2 : Fr kFi w (setI w1 9 0 11 (nI (nO v S))) := Fr_setI f1 rfl
    have b1 : gI (setI w1 9 0 11 (nI (nO v S))) 9 0 1 = nI p := by rw [gg_I, if_neg (by omega)]; exact a1
    have b2 : gI (setI w1 9 0 11 (nI (nO v S))) 9 0 2 = nI S := by rw [gg_I, if_neg (by omega)]; exact a2
    have b3 : gI (setI w1 9 0 11 (nI (nO v S))) 9 0 11 = nI (nO v S) := by rw [gg_I, if_pos ⟨rfl, rfl, rfl⟩]
    generalize setI w1 9 0 11 (nI (nO v S)) = w2 at f2 b1 b2 b3
    refine c_find23 (N := N) (w0 := w2) _ (fun w3 f3 h44 => ?_) N 0 w2 (by omega) (by omega) (Fr_refl _ _) (fun k hk => by omega)
    have c11 : gI w3 9 0 11 = nI (nO v S) := ((f3 9 0 11 rfl).1).trans b3
    have s4 : stL w3 45 0 (gI w3 9 0 11) 9 (1 : Int64) = some (setL w3 45 0 (nO v S) (1 : Int64)) := by rw [c11]; exact stLn (by omega) (by omega)
    have f4 : Fr kFi w (setL w3 45 0 (nO v S) (1 : Int64)) := Fr_setL (Fr_trans f2 (Fr_mono f3 rfl)) rfl
    have d1 : gI (setL w3 45 0 (nO v S) (1 : Int64)) 9 0 1 = nI p := ((f3 9 0 1 rfl).1).trans b1
    have d2 : gI (setL w3 45 0 (nO v S) (1 : Int64)) 9 0 2 = nI S := ((f3 9 0 2 rfl).1).trans b2
    have d3 : gI (setL w3 45 0 (nO v S) (1 : Int64)) 9 0 11 = nI (nO v S) := c11
    have o0 : orT (setL w3 45 0 (nO v S) (1 : Int64)) v p S (nO v S) 0 := by
      refine ⟨fun i a b => by omega, fun i k a b => by omega, fun k hk => h44 k hk, fun e he => ?_⟩
      have : e = 0 := by omega
      subst this
      rw [gg_L, if_pos ⟨rfl, rfl, by omega⟩]
      rfl
    simp only [fX5_find_33, ↓bnd s4]
    generalize setL w3 45 0 (nO v S) (1 : Int64) = w4 at f4 d1 d2 d3 o0
    have e4 : gI w4 9 0 11 - (1 : Int32) = dn (nO v S) := by rw [d3]; exact dn_sub _
    rw [callW_eq, e4]
    have R4 := RC_fr f4 C.1
    refine c_find44 (N := N) (w0 := w4) R4 hF hL h5 hT hN hp hn8 hS d1 d2 _ (fun w5 f5 o5 => ?_) (nO v S) 0 N w4 (by omega) (by omega) (Fr_refl _ _) o0
    have f6 : Fr kFi w (setL w5 9 0 9 (-1 : Int64)) := Fr_setL (Fr_trans f4 (Fr_mono f5 rfl)) rfl
    have R6 := RC_fr f6 C.1
    have g6 : Fr [10009] w5 (setL w5 9 0 9 (-1 : Int64)) := Fr_setL (Fr_refl _ _) rfl
    have G6 : goT (setL w5 9 0 9 (-1 : Int64)) v p S (nO v S) := ⟨R6, ((f5 9 0 2 rfl).1).trans d2, ((f5 9 0 11 rfl).1).trans d3, orT_fr g6 o5⟩
    have a6 : gI (setL w5 9 0 9 (-1 : Int64)) 9 0 1 = nI p := ((f5 9 0 1 rfl).1).trans d1
    have l6 : gL (setL w5 9 0 9 (-1 : Int64)) 9 0 9 = (-1 : Int64) := by rw [gg_L, if_pos ⟨rfl, rfl, rfl⟩]
    unfold fX5_find_51
    rw [callW_eq]
    generalize setL w5 9 0 9 (-1 : Int64) = w6 at f6 G6 a6 l6
    have hpos := nO_pos hS hS0
    have go := c_goOn (N := N) (p := p) hF hT h5 hN hn8 hS hth rfl 10 0 (by omega) (by omega) (fun _ => 0) w6 ⟨fun i hi => by omega, fun i j _ hj => by omega⟩ G6 (fun j hj => by omega) (Or.inl ⟨l6, fun s _ => by
      rintro ⟨m, hm, _⟩
      omega⟩) (fun e => by omega)
    refine ok_bind go ?_
    rintro w7 ⟨g1, _, g3⟩
    have fin : ∃ b, isO v p S (nO v S) b ∧ gL w7 9 0 9 = lN (opP v p b (nO v S)) ∧ ∀ j, j < nO v S → gI w7 47 0 j = nI (b j) := by
      rcases g3 with ⟨_, hno⟩ | ⟨b, hAb, e9, h47, _, hbest⟩
      · obtain ⟨r, hr⟩ := arr_ex hS
        exact absurd (Or.inr (fun j hj => by omega)) (hno r hr)
      · exact ⟨b, ⟨hAb, fun s hs => hbest s hs (Or.inr (fun j hj => by omega))⟩, e9, h47⟩
    exact ok_some ⟨Fr_trans f6 (Fr_mono g1 rfl), hp, hS, hS0, hth, ((g1 9 0 1 rfl).1).trans a6, ((g1 9 0 2 rfl).1).trans G6.2.1, ((g1 9 0 11 rfl).1).trans G6.2.2.1, fin⟩
  rcases hO with e | ⟨p', S', l1, l2, l3, l4, l5, l6, l7, l8⟩
  · have q : (nI p = gI w 9 0 1) = False := eq_false (fun z => by
      rw [e] at z
      exact nz_ne1 (by omega) z)
    simp only [pX5_find, ↓q, ↓reduceIte, callW_eq]
    exact anew
  · by_cases y : p = p'
    · have q : (nI p = gI w 9 0 1) = True := eq_true (by rw [l5, y])
      by_cases y2 : S = S'
      · have q2 : (nI S = gI w 9 0 2) = True := eq_true (by rw [l6, y2])
        simp only [pX5_find, ↓q, ↓q2, ↓reduceIte]
        subst y; subst y2
        exact ok_some ⟨Fr_refl _ _, l1, l2, l3, l4, l5, l6, l7, l8⟩
      · have hS8' : S' < 2 ^ 8 := Nat.lt_of_lt_of_le l2 (Nat.pow_le_pow_right (by omega) h2)
        have q2 : (nI S = gI w 9 0 2) = False := eq_false (fun z => by
          rw [l6] at z
          exact y2 ((nI_eq (by omega) (by omega)).mp z))
        simp only [pX5_find, ↓q, ↓q2, ↓reduceIte, callW_eq]
        exact anew
    · have q : (nI p = gI w 9 0 1) = False := eq_false (fun z => by
        rw [l5] at z
        exact y ((nI_eq (by omega) (by omega)).mp z))
      simp only [pX5_find, ↓q, ↓reduceIte, callW_eq]
      exact anew
end

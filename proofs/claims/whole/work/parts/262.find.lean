/-! ===== the class: find ===== -/
theorem arr_ex {S P : Nat} (hS : S < 2 ^ P) : ∃ r, arr S (cnt (fun k => S.testBit k) P) r := by
  have key : ∀ Q, ∃ r : Nat → Nat, (∀ i, i < cnt (fun k => S.testBit k) Q → r i < Q ∧ S.testBit (r i) = true) ∧ ∀ i j, i < j → j < cnt (fun k => S.testBit k) Q → r i ≠ r j := by
    intro Q
    induction Q with
    | zero => exact ⟨fun _ => 0, fun i hi => absurd hi (Nat.not_lt_zero i), fun i j _ hj => absurd hj (Nat.not_lt_zero j)⟩
    | succ Q ih =>
      obtain ⟨r, h1, h2⟩ := ih
      by_cases hb : S.testBit Q = true
      · refine ⟨fun i => if i = cnt (fun k => S.testBit k) Q then Q else r i, fun i hi => ?_, fun i j hij hj => ?_⟩
        · rw [cnt, if_pos hb] at hi
          by_cases y : i = cnt (fun k => S.testBit k) Q
          · simp only [if_pos y]; exact ⟨by omega, hb⟩
          · simp only [if_neg y]
            have := h1 i (by omega)
            exact ⟨by omega, this.2⟩
        · rw [cnt, if_pos hb] at hj
          have hi := h1 i (by omega)
          simp only [if_neg (show i ≠ cnt (fun k => S.testBit k) Q by omega)]
          by_cases y : j = cnt (fun k => S.testBit k) Q
          · simp only [if_pos y]; omega
          · simp only [if_neg y]; exact h2 i j hij (by omega)
      · have e : cnt (fun k => S.testBit k) (Q + 1) = cnt (fun k => S.testBit k) Q := by rw [cnt, if_neg hb]; rfl
        rw [e]
        exact ⟨r, fun i hi => ⟨by have := (h1 i hi).1; omega, (h1 i hi).2⟩, h2⟩
  obtain ⟨r, h1, h2⟩ := key P
  exact ⟨r, arr_of hS rfl (fun i hi => (h1 i hi).2) h2⟩
theorem pc_cnt {S P : Nat} (hP : P ≤ 12) (hS : S < 2 ^ P) : pc S = cnt (fun k => S.testBit k) P := by
  have := pc_mkB (fun k => S.testBit k) hP
  rw [mkB_self hS] at this
  exact this
section
variable {N : Nat} {w : Wd} {v : Vw}
/-- what is laid for a person and a set of parts -/
def laO (w : Wd) (v : Vw) (p S : Nat) : Prop := p < v 0 1 ∧ S < 2 ^ v 0 0 ∧ S ≠ 0 ∧ (∀ i, i < nO v S → sThere v p (v 0 5 + i) = true) ∧ gI w 9 0 1 = nI p ∧ gI w 9 0 2 = nI S ∧ gI w 9 0 12 = nI (nO v S) ∧ ∃ b, isO v p S (nO v S) b ∧ gL w 9 0 10 = lN (opP v p b (nO v S)) ∧ ∀ j, j < nO v S → gI w 47 0 j = nI (b j)
/-- nothing is laid, or what is laid is right -/
def OC (w : Wd) (v : Vw) : Prop := gI w 9 0 1 = (-1 : Int32) ∨ ∃ p S, laO w v p S
def kFi : List Nat := [66, 22, 40, 41, 43, 44, 45, 46, 47, 10001, 10002, 10007, 10010, 10012]
theorem c_find26 {w0 : Wd} (hR : RC w0 0 v) (hF : WF v) (hL : WL v) (h5 : v 0 5 ≤ 1000) (hT : ∀ j, v 18 j ≤ v 0 5) (hN : 100 ≤ N) {p S n : Nat} (hp : p < v 0 1) (hn : n ≤ 8) (hS : S < 2 ^ v 0 0) (h9 : gI w0 9 0 1 = nI p) (h92 : gI w0 9 0 2 = nI S) (h12 : gI w0 9 0 12 = nI n)
    {Q : Wd → Prop} (K : Wd → Option Wd) (hK : ∀ w, Fr kPr w0 w → orT w v p S n n → Ok (K w) Q) :
    ∀ fuel c w, c ≤ n → n - c < fuel → Fr kPr w0 w → orT w v p S n c → Ok (fX5_find_26 N fuel K (nI c) w) Q := by
  intro fuel
  induction fuel with
  | zero => intro c _ _ h; omega
  | succ f ih =>
    intro c w hc hf f0 hO
    have f12 : gI w 9 0 12 = nI n := ((f0 9 0 12 rfl).1).trans h12
    rcases Nat.lt_or_ge c n with y | y
    · have lt : (nI c < gI w 9 0 12) = True := eq_true (by rw [f12]; exact (nI_ltI (by omega) (by omega)).mpr y)
      have e1 : nI c + (1 : Int32) = nI (c + 1) := nI_add c 1
      simp only [fX5_find_26, ↓lt, ↓e1, ↓reduceIte, callW_eq]
      refine ok_bind (c_prepare (N := N) (RC_fr f0 hR) hF hL h5 hT hN hp hn y hS (((f0 9 0 1 rfl).1).trans h9) (((f0 9 0 2 rfl).1).trans h92) f12 hO) ?_
      rintro w1 ⟨f1, o1⟩
      exact ih (c + 1) w1 (by omega) (by omega) (Fr_trans f0 f1) o1
    · have : c = n := by omega
      subst this
      have lt : (nI c < gI w 9 0 12) = False := eq_false (fun z => by
        rw [f12] at z
        have := (nI_ltI (by omega) (by omega)).mp z
        omega)
      simp only [fX5_find_26, ↓lt, ↓reduceIte]
      exact hK w f0 hO
theorem sub_iff {us S : Nat} (hu : us < 2 ^ 31) : nI us &&& (nI S ^^^ (-1 : Int32)) = 0 ↔ ∀ k, us.testBit k = true → S.testBit k = true := by
  have e1 : nI us &&& (nI S ^^^ (-1 : Int32)) = nI (us ^^^ (us &&& S)) := nz_not (by omega)
  have hlt : us ^^^ (us &&& S) < 2 ^ 31 := andnot_lt hu
  rw [e1, show (0 : Int32) = nI 0 from rfl, nI_eq (by omega) (by omega)]
  constructor
  · intro h k hk
    have h1 : (us ^^^ (us &&& S)).testBit k = false := by rw [h, Nat.zero_testBit]
    rw [bit_andnot, hk, Bool.true_and] at h1
    cases hq : S.testBit k with
    | true => rfl
    | false => rw [hq] at h1; cases h1
  · intro h
    apply Nat.eq_of_testBit_eq
    intro k
    rw [bit_andnot, Nat.zero_testBit]
    cases hq : us.testBit k with
    | true => rw [h k hq]; rfl
    | false => rfl
theorem c_find41 {w0 : Wd} (hR : RC w0 0 v) (hF : WF v) (h5 : v 0 5 ≤ 1000) (hT : ∀ j, v 18 j ≤ v 0 5) (hN : 100 ≤ N) {p S n : Nat} (hn : n ≤ 8) (hS : S < 2 ^ v 0 0) (hth : ∀ i, i < n → sThere v p (v 0 5 + i) = true) (h92 : gI w0 9 0 2 = nI S) (h12 : gI w0 9 0 12 = nI n) (hO : orT w0 v p S n n)
    {Q : Wd → Prop} (K : Wd → Option Wd) (hK : ∀ w, Fr [45] w0 w → btT w v p S n 0 → Ok (K w) Q) :
    ∀ c fuel w, c ≤ 256 → c < fuel → Fr [45] w0 w → btT w v p S n c → Ok (fX5_find_41 N fuel K (dn c) w) Q := by
  intro c
  induction c with
  | zero =>
    intro fuel w _ hf f0 hB
    obtain ⟨f, rfl⟩ : ∃ m, fuel = m + 1 := ⟨fuel - 1, by omega⟩
    have lt : (dn 0 < (0 : Int32)) = True := eq_true ((dn_neg (by omega)).mpr rfl)
    simp only [fX5_find_41, ↓lt, ↓reduceIte]
    exact hK w f0 hB
  | succ c ih =>
    intro fuel w hc hf f0 hB
    obtain ⟨f, rfl⟩ : ∃ m, fuel = m + 1 := ⟨fuel - 1, by omega⟩
    have ed : dn (c + 1) = nI c := if_neg (by omega)
    have lt : (nI c < (0 : Int32)) = False := eq_false (nz_ge0 (by omega))
    have e1 : nI c + (-1 : Int32) = dn c := dn_add c
    have f92 : gI w 9 0 2 = nI S := ((f0 9 0 2 rfl).1).trans h92
    rw [ed]
    by_cases y : ∀ k, c.testBit k = true → S.testBit k = true
    · have q : (nI c &&& (gI w 9 0 2 ^^^ (-1 : Int32)) = 0) = True := eq_true (by rw [f92]; exact (sub_iff (by omega)).mpr y)
      obtain ⟨m, gm, hm⟩ := c_ordMost (N := N) (w := w) (p := p) (RC_fr f0 hR) hF h5 hT hN hn hS hth f92 (((f0 9 0 12 rfl).1).trans h12) (orT_fr f0 hO) (us := c) (by omega) y hB
      have s2 : ∀ x, stL w 45 0 (nI c) 256 x = some (setL w 45 0 c x) := fun x => stLn (by omega) (by omega)
      simp only [fX5_find_41, ↓lt, ↓q, ↓cbnd gm, ↓bnd (s2 _), ↓e1, ↓reduceIte]
      rw [callW_eq]
      refine ih f _ (by omega) (by omega) (Fr_setL f0 rfl) (fun us a b d => ?_)
      by_cases z : us = c
      · subst z
        exact ⟨m, by rw [gg_L, if_pos ⟨rfl, rfl, rfl⟩], hm⟩
      · obtain ⟨m', h1, h2⟩ := hB us (by omega) b d
        exact ⟨m', by rw [gg_L, if_neg (fun u => z u.2.2)]; exact h1, h2⟩
    · have q : (nI c &&& (gI w 9 0 2 ^^^ (-1 : Int32)) = 0) = False := eq_false (fun z => by
        rw [f92] at z
        exact y ((sub_iff (by omega)).mp z))
      simp only [fX5_find_41, ↓lt, ↓q, ↓e1, ↓reduceIte]
      rw [callW_eq]
      refine ih f w (by omega) (by omega) f0 (fun us a b d => ?_)
      by_cases z : us = c
      · subst z; exact absurd d y
      · exact hB us (by omega) b d
theorem c_findO (C : Cu w v) (hO : OC w v) (hN : 300 ≤ N) {p S : Nat} (hp : p < v 0 1) (hS : S < 2 ^ v 0 0) (hS0 : S ≠ 0) (hth : ∀ i, i < nO v S → sThere v p (v 0 5 + i) = true) : Ok (pX5_find N (nI p) (nI S) w) (fun w' => Fr kFi w w' ∧ laO w' v p S) := by
  have hF := C.2.2.1
  have hL := C.2.2.2.1
  have hT := C.2.2.2.2.2.1
  have h5 := C.2.2.2.2.2.2.1
  have h1 := WF_people hF
  have h2 := WF_parts hF
  have hS8 : S < 2 ^ 8 := Nat.lt_of_lt_of_le hS (Nat.pow_le_pow_right (by omega) h2)
  have hn8 : nO v S ≤ 8 := nO_le hF
  /- anew -/
  have anew : Ok (fX5_find_9 N (nI p) (nI S) w) (fun w' => Fr kFi w w' ∧ laO w' v p S) := by
    have f1 : Fr kFi w (setI (setI w 9 0 1 (nI p)) 9 0 2 (nI S)) := Fr_setI (Fr_setI (Fr_refl _ _) rfl) rfl
    have a1 : gI (setI (setI w 9 0 1 (nI p)) 9 0 2 (nI S)) 9 0 1 = nI p := by rw [gg_I, if_neg (by omega), gg_I, if_pos ⟨rfl, rfl, rfl⟩]
    have a2 : gI (setI (setI w 9 0 1 (nI p)) 9 0 2 (nI S)) 9 0 2 = nI S := by rw [gg_I, if_pos ⟨rfl, rfl, rfl⟩]
    generalize hw1 : setI (setI w 9 0 1 (nI p)) 9 0 2 (nI S) = w1 at f1 a1 a2
    have gb := c_bits (N := N) (w := w1) (x := S) (by omega)
    rw [pc_cnt (P := v 0 0) (by omega) hS] at gb
    have gm : pJ9_min_7cf53 N (nI (cnt (fun k => S.testBit k) (v 0 0))) (8 : Int32) w1 = some (nI (nO v S), w1) := by
      have := c_min (N := N) (w := w1) (a := nO v S) (b := 8) (by omega) (by omega)
      rw [if_neg (by omega)] at this
      exact this
    have z0 : (0 : Int32) = nI 0 := rfl
    simp only [fX5_find_9, ↓hw1, ↓cbnd gb, ↓cbnd gm]
    rw [callW_eq, z0]
    have f2 : Fr kFi w (setI (setI w1 9 0 12 (nI (nO v S))) 9 0 7 (nI S)) := Fr_setI (Fr_setI f1 rfl) rfl
    have b1 : gI (setI (setI w1 9 0 12 (nI (nO v S))) 9 0 7 (nI S)) 9 0 1 = nI p := by rw [gg_I, if_neg (by omega), gg_I, if_neg (by omega)]; exact a1
    have b2 : gI (setI (setI w1 9 0 12 (nI (nO v S))) 9 0 7 (nI S)) 9 0 2 = nI S := by rw [gg_I, if_neg (by omega), gg_I, if_neg (by omega)]; exact a2
    have b3 : gI (setI (setI w1 9 0 12 (nI (nO v S))) 9 0 7 (nI S)) 9 0 12 = nI (nO v S) := by rw [gg_I, if_neg (by omega), gg_I, if_pos ⟨rfl, rfl, rfl⟩]
    have b7 : gI (setI (setI w1 9 0 12 (nI (nO v S))) 9 0 7 (nI S)) 9 0 7 = nI S := by rw [gg_I, if_pos ⟨rfl, rfl, rfl⟩]
    generalize setI (setI w1 9 0 12 (nI (nO v S))) 9 0 7 (nI S) = w2 at f2 b1 b2 b3 b7
    have R2 := RC_fr f2 C.1
    have o0 : orT w2 v p S (nO v S) 0 := ⟨fun i a => by omega, fun i k a => by omega, fun i a => by omega, S, hS8, b7, fun k hk => ⟨hk, fun i a => by omega⟩⟩
    refine c_find26 (N := N) (w0 := w2) R2 hF hL h5 hT (by omega) hp hn8 hS b1 b2 b3 _ (fun w3 f3 o3 => ?_) N 0 w2 (by omega) (by omega) (Fr_refl _ _) o0
    have R3 := RC_fr f3 R2
    have c1 : gI w3 9 0 1 = nI p := ((f3 9 0 1 rfl).1).trans b1
    have c2 : gI w3 9 0 2 = nI S := ((f3 9 0 2 rfl).1).trans b2
    have c3 : gI w3 9 0 12 = nI (nO v S) := ((f3 9 0 12 rfl).1).trans b3
    have e5 : Int32.ofNat 256 - (1 : Int32) = dn 256 := dn_sub 256
    unfold fX5_find_35
    rw [callW_eq, e5]
    refine c_find41 (N := N) (w0 := w3) R3 hF h5 hT (by omega) hn8 hS hth c2 c3 o3 _ (fun w5 f5 o5 => ?_) 256 N w3 (by omega) (by omega) (Fr_refl _ _) (fun us a b _ => by omega)
    have f6 : Fr kFi w (setL w5 9 0 10 (-1 : Int64)) := Fr_setL (Fr_trans f2 (Fr_trans (Fr_mono f3 rfl) (Fr_mono f5 rfl))) rfl
    have R6 := RC_fr f6 C.1
    have g6 : Fr [10010] w5 (setL w5 9 0 10 (-1 : Int64)) := Fr_setL (Fr_refl _ _) rfl
    have G6 : goT (setL w5 9 0 10 (-1 : Int64)) v p S (nO v S) := ⟨R6, ((f5 9 0 2 rfl).1).trans c2, ((f5 9 0 12 rfl).1).trans c3, orT_fr g6 (orT_fr f5 o3), btT_fr g6 o5⟩
    have a6 : gI (setL w5 9 0 10 (-1 : Int64)) 9 0 1 = nI p := ((f5 9 0 1 rfl).1).trans c1
    have l6 : gL (setL w5 9 0 10 (-1 : Int64)) 9 0 10 = (-1 : Int64) := by rw [gg_L, if_pos ⟨rfl, rfl, rfl⟩]
    unfold fX5_find_59
    rw [callW_eq]
    generalize setL w5 9 0 10 (-1 : Int64) = w6 at f6 G6 a6 l6
    have hpos := nO_pos hS hS0
    have go := c_goOn (N := N) (p := p) hF hT h5 (by omega) hn8 hS hth rfl 10 0 (by omega) (by omega) (fun _ => 0) w6 ⟨fun i hi => by omega, fun i j _ hj => by omega⟩ G6 (fun j hj => by omega) (Or.inl ⟨l6, fun s _ => by
      rintro ⟨m, hm, _⟩
      omega⟩) (fun e => by omega)
    refine ok_bind go ?_
    rintro w7 ⟨g1, _, g3⟩
    have fin : ∃ b, isO v p S (nO v S) b ∧ gL w7 9 0 10 = lN (opP v p b (nO v S)) ∧ ∀ j, j < nO v S → gI w7 47 0 j = nI (b j) := by
      rcases g3 with ⟨_, hno⟩ | ⟨b, hAb, e9, h47, _, hbest⟩
      · obtain ⟨r, hr⟩ := arr_ex hS
        exact absurd (Or.inr (fun j hj => by omega)) (hno r hr)
      · exact ⟨b, ⟨hAb, fun s hs => hbest s hs (Or.inr (fun j hj => by omega))⟩, e9, h47⟩
    exact ok_some ⟨Fr_trans f6 (Fr_mono g1 rfl), hp, hS, hS0, hth, ((g1 9 0 1 rfl).1).trans a6, ((g1 9 0 2 rfl).1).trans G6.2.1, ((g1 9 0 12 rfl).1).trans G6.2.2.1, fin⟩
  rcases hO with e | ⟨p', S', l1, l2, l3, l4, l5, l6, l7, l8⟩
  · have q : (nI p = gI w 9 0 1) = False := eq_false (fun z => by
      rw [e] at z
      exact nz_ne1 (by omega) z)
    simp only [pX5_find, ↓q, ↓reduceIte, callW_eq]
    exact anew
  · by_cases y : p = p'
    · have q : (nI p = gI w 9 0 1) = True := eq_true (by rw [l5, y])
      by_cases y2 : S = S'
      · have q2 : (nI S = gI w 9 0 2) = True := eq_true (by rw [l6, y2])
        simp only [pX5_find, ↓q, ↓q2, ↓reduceIte]
        subst y; subst y2
        exact ok_some ⟨Fr_refl _ _, l1, l2, l3, l4, l5, l6, l7, l8⟩
      · have hS8' : S' < 2 ^ 8 := Nat.lt_of_lt_of_le l2 (Nat.pow_le_pow_right (by omega) h2)
        have q2 : (nI S = gI w 9 0 2) = False := eq_false (fun z => by
          rw [l6] at z
          exact y2 ((nI_eq (by omega) (by omega)).mp z))
        simp only [pX5_find, ↓q, ↓q2, ↓reduceIte, callW_eq]
        exact anew
    · have q : (nI p = gI w 9 0 1) = False := eq_false (fun z => by
        rw [l5] at z
        exact y ((nI_eq (by omega) (by omega)).mp z))
      simp only [pX5_find, ↓q, ↓reduceIte, callW_eq]
      exact anew
end

/-! ===== changes of the state ===== -/
def up2 (v : Vw) (r j x : Nat) : Vw := fun r' j' => if r' = r ∧ j' = j then x else v r' j'
theorem up2_ne {v : Vw} {r j x r' j' : Nat} (h : r' ≠ r) : up2 v r j x r' j' = v r' j' := if_neg (fun q => h q.1)
theorem up2_nj {v : Vw} {r j x j' : Nat} (h : j' ≠ j) : up2 v r j x r j' = v r j' := if_neg (fun q => h q.2)
theorem up2_eq {v : Vw} {r j x : Nat} : up2 v r j x r j = x := if_pos ⟨rfl, rfl⟩
/-- the rows that a text tells -/
def mr (r j : Nat) : Prop := (r = 0 ∧ j ≠ 5 ∧ j ≠ 6) ∨ (1 ≤ r ∧ r ≤ 13) ∨ 20 ≤ r
theorem TC_ext {w : Wd} {m : Nat} {v v' : Vw} (h : ∀ r j, mr r j → v' r j = v r j) (T : TC w m v) : TC w m v' := by
  have e00 : v' 0 0 = v 0 0 := h 0 0 (by simp [mr])
  have e01 : v' 0 1 = v 0 1 := h 0 1 (by simp [mr])
  have e02 : v' 0 2 = v 0 2 := h 0 2 (by simp [mr])
  have e03 : v' 0 3 = v 0 3 := h 0 3 (by simp [mr])
  have e04 : v' 0 4 = v 0 4 := h 0 4 (by simp [mr])
  have e07 : v' 0 7 = v 0 7 := h 0 7 (by simp [mr])
  have e1 : ∀ j, v' 1 j = v 1 j := fun j => h 1 j (by simp [mr])
  have e2 : ∀ j, v' 2 j = v 2 j := fun j => h 2 j (by simp [mr])
  have e3 : ∀ j, v' 3 j = v 3 j := fun j => h 3 j (by simp [mr])
  have e4 : ∀ j, v' 4 j = v 4 j := fun j => h 4 j (by simp [mr])
  have e5 : ∀ j, v' 5 j = v 5 j := fun j => h 5 j (by simp [mr])
  have e6 : ∀ j, v' 6 j = v 6 j := fun j => h 6 j (by simp [mr])
  have e7 : ∀ j, v' 7 j = v 7 j := fun j => h 7 j (by simp [mr])
  have e8 : ∀ j, v' 8 j = v 8 j := fun j => h 8 j (by simp [mr])
  have e9 : ∀ j, v' 9 j = v 9 j := fun j => h 9 j (by simp [mr])
  have e10 : ∀ j, v' 10 j = v 10 j := fun j => h 10 j (by simp [mr])
  have e11 : ∀ j, v' 11 j = v 11 j := fun j => h 11 j (by simp [mr])
  have e12 : ∀ j, v' 12 j = v 12 j := fun j => h 12 j (by simp [mr])
  have e13 : ∀ j, v' 13 j = v 13 j := fun j => h 13 j (by simp [mr])
  have e20 : ∀ j, v' 20 j = v 20 j := fun j => h 20 j (by simp [mr])
  have e21 : ∀ a j, v' (21 + 2 * a) j = v (21 + 2 * a) j := fun a j => h _ j (by unfold mr; omega)
  have e22 : ∀ a j, v' (22 + 2 * a) j = v (22 + 2 * a) j := fun a j => h _ j (by unfold mr; omega)
  unfold TC at T ⊢
  simp only [e00, e01, e02, e03, e04, e07, e1, e2, e3, e4, e5, e6, e7, e8, e9, e10, e11, e12, e13, e20, e21, e22]
  exact T
theorem TM_ext {w : Wd} {v v' : Vw} (h : ∀ r j, mr r j → v' r j = v r j) (h06 : v' 0 6 = v 0 6) (h14 : ∀ j, v' 14 j = v 14 j) (h15 : ∀ j, v' 15 j = v 15 j) (T : TM w v) : TM w v' := by
  have e00 : v' 0 0 = v 0 0 := h 0 0 (by simp [mr])
  have e01 : v' 0 1 = v 0 1 := h 0 1 (by simp [mr])
  have e02 : v' 0 2 = v 0 2 := h 0 2 (by simp [mr])
  have e03 : v' 0 3 = v 0 3 := h 0 3 (by simp [mr])
  have e04 : v' 0 4 = v 0 4 := h 0 4 (by simp [mr])
  have e07 : v' 0 7 = v 0 7 := h 0 7 (by simp [mr])
  have e1 : ∀ j, v' 1 j = v 1 j := fun j => h 1 j (by simp [mr])
  have e2 : ∀ j, v' 2 j = v 2 j := fun j => h 2 j (by simp [mr])
  have e3 : ∀ j, v' 3 j = v 3 j := fun j => h 3 j (by simp [mr])
  have e4 : ∀ j, v' 4 j = v 4 j := fun j => h 4 j (by simp [mr])
  have e5 : ∀ j, v' 5 j = v 5 j := fun j => h 5 j (by simp [mr])
  have e6 : ∀ j, v' 6 j = v 6 j := fun j => h 6 j (by simp [mr])
  have e7 : ∀ j, v' 7 j = v 7 j := fun j => h 7 j (by simp [mr])
  have e8 : ∀ j, v' 8 j = v 8 j := fun j => h 8 j (by simp [mr])
  have e9 : ∀ j, v' 9 j = v 9 j := fun j => h 9 j (by simp [mr])
  have e10 : ∀ j, v' 10 j = v 10 j := fun j => h 10 j (by simp [mr])
  have e11 : ∀ j, v' 11 j = v 11 j := fun j => h 11 j (by simp [mr])
  have e12 : ∀ j, v' 12 j = v 12 j := fun j => h 12 j (by simp [mr])
  have e13 : ∀ j, v' 13 j = v 13 j := fun j => h 13 j (by simp [mr])
  have e20 : ∀ j, v' 20 j = v 20 j := fun j => h 20 j (by simp [mr])
  unfold TM at T ⊢
  simp only [e00, e01, e02, e03, e04, e07, e1, e2, e3, e4, e5, e6, e7, e8, e9, e10, e11, e12, e13, e20, h06, h14, h15]
  exact T
theorem lK_ext {v v' : Vw} (h : ∀ r j, mr r j → v' r j = v r j) (a : Nat) : lK v' a = lK v a := by
  funext j
  exact h _ j (by unfold mr; omega)
theorem lX_ext {v v' : Vw} (h : ∀ r j, mr r j → v' r j = v r j) (a : Nat) : lX v' a = lX v a := by
  funext j
  exact h _ j (by unfold mr; omega)
theorem TL_ext {w : Wd} {v v' : Vw} (h : ∀ r j, mr r j → v' r j = v r j) (L : TL w v) : TL w v' := by
  have e20 : ∀ j, v' 20 j = v 20 j := fun j => h 20 j (by simp [mr])
  unfold TL at L ⊢
  simp only [e20, lK_ext h, lX_ext h]
  exact L
theorem WL_ext {v v' : Vw} (h : ∀ r j, mr r j → v' r j = v r j) (L : WL v) : WL v' := by
  have e20 : ∀ j, v' 20 j = v 20 j := fun j => h 20 j (by simp [mr])
  unfold WL at L ⊢
  simp only [e20, lK_ext h]
  exact L
/-- WF by its changing rows -/
theorem WF_ext {v v' : Vw} (h : ∀ r j, mr r j → v' r j = v r j) (hF : WF v) (c5 : v' 0 5 ≤ 1050) (c6 : v' 0 6 ≤ 12) (c14 : ∀ s, s < v' 0 6 → v' 14 s < v 0 0) (d14 : ∀ s, v' 14 s < 2 ^ 30) (c15 : ∀ j, v' 15 j ≤ 1050) (c16 : ∀ j, v' 16 j ≤ 1052) (c17 : ∀ j, v' 17 j ≤ 1) (c18 : ∀ j, v' 18 j ≤ 1100) (c19 : ∀ j, v' 19 j ≤ v 0 0) : WF v' := by
  have e00 : v' 0 0 = v 0 0 := h 0 0 (by simp [mr])
  have e01 : v' 0 1 = v 0 1 := h 0 1 (by simp [mr])
  have e02 : v' 0 2 = v 0 2 := h 0 2 (by simp [mr])
  have e03 : v' 0 3 = v 0 3 := h 0 3 (by simp [mr])
  have e04 : v' 0 4 = v 0 4 := h 0 4 (by simp [mr])
  have e07 : v' 0 7 = v 0 7 := h 0 7 (by simp [mr])
  have e1 : ∀ j, v' 1 j = v 1 j := fun j => h 1 j (by simp [mr])
  have e2 : ∀ j, v' 2 j = v 2 j := fun j => h 2 j (by simp [mr])
  have e3 : ∀ j, v' 3 j = v 3 j := fun j => h 3 j (by simp [mr])
  have e4 : ∀ j, v' 4 j = v 4 j := fun j => h 4 j (by simp [mr])
  have e5 : ∀ j, v' 5 j = v 5 j := fun j => h 5 j (by simp [mr])
  have e6 : ∀ j, v' 6 j = v 6 j := fun j => h 6 j (by simp [mr])
  have e7 : ∀ j, v' 7 j = v 7 j := fun j => h 7 j (by simp [mr])
  have e8 : ∀ j, v' 8 j = v 8 j := fun j => h 8 j (by simp [mr])
  have e9 : ∀ j, v' 9 j = v 9 j := fun j => h 9 j (by simp [mr])
  have e10 : ∀ j, v' 10 j = v 10 j := fun j => h 10 j (by simp [mr])
  have e11 : ∀ j, v' 11 j = v 11 j := fun j => h 11 j (by simp [mr])
  have e12 : ∀ j, v' 12 j = v 12 j := fun j => h 12 j (by simp [mr])
  have e13 : ∀ j, v' 13 j = v 13 j := fun j => h 13 j (by simp [mr])
  have e20 : ∀ j, v' 20 j = v 20 j := fun j => h 20 j (by simp [mr])
  have e21 : ∀ a j, v' (21 + 2 * a) j = v (21 + 2 * a) j := fun a j => h _ j (by unfold mr; omega)
  have e22 : ∀ a j, v' (22 + 2 * a) j = v (22 + 2 * a) j := fun a j => h _ j (by unfold mr; omega)
  have hbd : ∀ r j, v' r j < 2 ^ 30 := by
    intro r j
    by_cases q : mr r j
    · rw [h r j q]; exact WF_bd hF r j
    · unfold mr at q
      have cases9 : (r = 0 ∧ j = 5) ∨ (r = 0 ∧ j = 6) ∨ r = 14 ∨ r = 15 ∨ r = 16 ∨ r = 17 ∨ r = 18 ∨ r = 19 := by omega
      rcases cases9 with ⟨rfl, rfl⟩ | ⟨rfl, rfl⟩ | rfl | rfl | rfl | rfl | rfl | rfl
      · omega
      · omega
      · exact d14 j
      · have := c15 j; omega
      · have := c16 j; omega
      · have := c17 j; omega
      · have := c18 j; omega
      · have := c19 j
        have := WF_parts hF
        omega
  unfold WF
  refine ⟨?_, ?_, ?_, ?_, ?_, c5, c6, ?_, hbd, ?_, ?_, ?_, ?_, ?_, ?_, ?_, ?_, ?_, ?_, ?_, ?_, ?_, c15, c16, c17, c18, ?_, ?_, ?_⟩
  · rw [e00]; exact WF_parts hF
  · rw [e01]; exact WF_people hF
  · rw [e02]; exact WF_parties hF
  · rw [e03]; exact WF_weathers hF
  · rw [e04]; exact WF_near hF
  · rw [e07]; exact WF_knots hF
  · intro j; rw [e2]; exact WF_odds hF j
  · intro j; rw [e3, e00]; exact WF_beside hF j
  · intro a b; rw [e3, e3]; exact WF_sym hF a b
  · intro j; rw [e5]; exact WF_cost hF j
  · intro j; rw [e6]; exact WF_from hF j
  · intro j; rw [e7]; exact WF_till hF j
  · intro j; rw [e8]; exact WF_forget hF j
  · intro j hj; rw [e9, e00]; rw [e02] at hj; exact WF_pfrom hF j hj
  · intro j hj; rw [e10, e00]; rw [e02] at hj; exact WF_pto hF j hj
  · intro j; rw [e11]; exact WF_pnight hF j
  · intro j; rw [e12]; exact WF_price hF j
  · intro j; rw [e13]; exact WF_weather hF j
  · intro s hs; rw [e00]; exact c14 s hs
  · intro p; rw [e00]; exact c19 p
  · intro a; rw [e20]; exact WF_lsize hF a
  · intro a j ha hj; rw [e21, e22]; rw [e20] at hj; exact WF_lcode hF a j ha hj
theorem mr_up {v : Vw} {r j x : Nat} (h14 : 14 ≤ r) (h19 : r ≤ 19) : ∀ r' j', mr r' j' → up2 v r j x r' j' = v r' j' := by
  intro r' j' h
  apply up2_ne
  unfold mr at h
  omega
/-! frames of stands -/
def SFr (i : Nat) (w w' : Wd) : Prop := ∀ k i' j, (if k = 62 then i' / 6 else i') ≠ i → (k = 13 ∨ (60 ≤ k ∧ k ≤ 65)) → gI w' k i' j = gI w k i' j ∧ gL w' k i' j = gL w k i' j ∧ gR w' k i' j = gR w k i' j
theorem SFr_refl (i : Nat) (w : Wd) : SFr i w w := fun _ _ _ _ _ => ⟨rfl, rfl, rfl⟩
theorem SFr_trans {i : Nat} {w w1 w2 : Wd} (h : SFr i w w1) (h2 : SFr i w1 w2) : SFr i w w2 := fun k i' j a b =>
  ⟨((h2 k i' j a b).1).trans ((h k i' j a b).1), ((h2 k i' j a b).2.1).trans ((h k i' j a b).2.1), ((h2 k i' j a b).2.2).trans ((h k i' j a b).2.2)⟩
theorem SFr_setI {i : Nat} {w w1 : Wd} {k i' j : Nat} {x : Int32} (h : SFr i w w1) (hk : (if k = 62 then i' / 6 else i') = i) : SFr i w (setI w1 k i' j x) := fun k2 i2 j2 a b =>
  ⟨by rw [gg_I, if_neg (fun q => a (by rw [q.1, q.2.1]; exact hk))]; exact (h k2 i2 j2 a b).1, (h k2 i2 j2 a b).2.1, (h k2 i2 j2 a b).2.2⟩
theorem SFr_setL {i : Nat} {w w1 : Wd} {k i' j : Nat} {x : Int64} (h : SFr i w w1) (hk : (if k = 62 then i' / 6 else i') = i) : SFr i w (setL w1 k i' j x) := fun k2 i2 j2 a b =>
  ⟨(h k2 i2 j2 a b).1, by rw [gg_L, if_neg (fun q => a (by rw [q.1, q.2.1]; exact hk))]; exact (h k2 i2 j2 a b).2.1, (h k2 i2 j2 a b).2.2⟩
theorem SFr_setR {i : Nat} {w w1 : Wd} {k i' j : Nat} {x : Nat} (h : SFr i w w1) (hk : (if k = 62 then i' / 6 else i') = i) : SFr i w (setR w1 k i' j x) := fun k2 i2 j2 a b =>
  ⟨(h k2 i2 j2 a b).1, (h k2 i2 j2 a b).2.1, by rw [gg_R, if_neg (fun q => a (by rw [q.1, q.2.1]; exact hk))]; exact (h k2 i2 j2 a b).2.2⟩
theorem SFr_row {i : Nat} {w w1 : Wd} {k i' : Nat} {g : Nat → Int32} (h : SFr i w w1) (hk : (if k = 62 then i' / 6 else i') = i) : SFr i w (setRowI w1 k i' g) := fun k2 i2 j2 a b =>
  ⟨by rw [gg_row, if_neg (fun q => a (by rw [q.1, q.2]; exact hk))]; exact (h k2 i2 j2 a b).1, (h k2 i2 j2 a b).2.1, (h k2 i2 j2 a b).2.2⟩
def kSt : List Nat := [60, 61, 62, 63, 64, 65]
theorem SFr_fr {i : Nat} {l : List Nat} {w w1 : Wd} (f : Fr l w w1) (hl : dis l kSt = true := by decide) (h13 : ∀ j, l.contains (14000 + j) = false := by intro j; simp; omega) : SFr i w w1 := fun k i' j _ b => by
  rcases b with rfl | ⟨b1, b2⟩
  · exact f 13 i' j (h13 j)
  · refine f k i' j ?_
    rw [ky, if_neg (by omega)]
    have : k = 60 ∨ k = 61 ∨ k = 62 ∨ k = 63 ∨ k = 64 ∨ k = 65 := by omega
    rcases this with rfl | rfl | rfl | rfl | rfl | rfl
    · exact dis_of hl (by decide)
    · exact dis_of hl (by decide)
    · exact dis_of hl (by decide)
    · exact dis_of hl (by decide)
    · exact dis_of hl (by decide)
    · exact dis_of hl (by decide)
theorem SC_sfr {i i' : Nat} {w w' : Wd} {v : Vw} (f : SFr i' w w') (hi : i ≠ i') (S : SC w i v) (hp : v 0 1 ≤ 6) : SC w' i v := by
  have e13 : ∀ j, gI w' 13 i j = gI w 13 i j := fun j => (f 13 i j (by simpa using hi) (Or.inl rfl)).1
  have e : ∀ k j, 60 ≤ k → k ≤ 65 → k ≠ 62 → gI w' k i j = gI w k i j := fun k j a b c => (f k i j (by rw [if_neg c]; exact hi) (Or.inr ⟨a, b⟩)).1
  have e62 : ∀ p j, p < 6 → gI w' 62 (p + 6 * i) j = gI w 62 (p + 6 * i) j := fun p j hp => (f 62 (p + 6 * i) j (by rw [if_pos rfl]; omega) (Or.inr ⟨by omega, by omega⟩)).1
  refine ⟨?_, ?_, ?_, ?_, ?_, ?_, ?_, ?_⟩
  · rw [e13]; exact SC_night S
  · rw [e13]; exact SC_slides S
  · intro j hj; rw [e 64 _ (by omega) (by omega) (by omega)]; exact SC_spart S j hj
  · intro j hj; rw [e 65 _ (by omega) (by omega) (by omega)]; exact SC_snight S j hj
  · intro p k h1 h2; rw [e62 p k (by omega)]; exact SC_learned S p k h1 h2
  · rw [e13]; exact SC_gone S
  · intro j hj; rw [e 60 _ (by omega) (by omega) (by omega)]; exact SC_times S j hj
  · intro j hj; rw [e 63 _ (by omega) (by omega) (by omega)]; exact SC_lost S j hj
/-! one cell -/
theorem SC_set18 {w : Wd} {i : Nat} {v : Vw} (S : SC w i v) (p x : Nat) : SC (setI w 60 i p (nI x)) i (up2 v 18 p x) := by
  refine ⟨(SC_night S :), (SC_slides S :), (SC_spart S :), (SC_snight S :), (SC_learned S :), (SC_gone S :), ?_, (SC_lost S :)⟩
  intro j hj
  rw [gg_I]
  by_cases q : j = p
  · subst q; rw [if_pos ⟨rfl, rfl, rfl⟩, up2_eq]
  · rw [if_neg (fun z => q z.2.2), up2_nj q]; exact SC_times S j hj
theorem SC_set16 {w : Wd} {i : Nat} {v : Vw} (S : SC w i v) {p k : Nat} (hp : p < 6) (hk : k < 8) (hP : v 0 1 ≤ 6) (n : Nat) : SC (setI w 62 (p + 6 * i) k (nI n)) i (up2 v 16 (8 * p + k) (n + 2)) := by
  refine ⟨(SC_night S :), (SC_slides S :), (SC_spart S :), (SC_snight S :), ?_, (SC_gone S :), (SC_times S :), (SC_lost S :)⟩
  intro p' k' hp' hk'
  have hp'' : p' < v 0 1 := hp'
  rw [gg_I]
  by_cases q : p' = p ∧ k' = k
  · obtain ⟨rfl, rfl⟩ := q
    rw [if_pos ⟨rfl, rfl, rfl⟩, up2_eq]; rfl
  · rw [if_neg (fun z => q ⟨by have := z.2.1; omega, z.2.2⟩), up2_nj (fun z => q (by omega))]
    exact SC_learned S p' k' hp'' hk'
theorem mkB_set {f : Nat → Bool} {n p : Nat} (hp : p < n) : mkB f n ||| 2 ^ p = mkB (fun k => f k || k == p) n := by
  apply Nat.eq_of_testBit_eq
  intro k
  rw [Nat.testBit_or, mkB_bit, mkB_bit, Nat.testBit_two_pow]
  by_cases q : k = p
  · subst q; simp [hp]
  · have : ¬ p = k := fun z => q z.symm
    have hb : (k == p) = false := by simp [q]
    simp [this, hb]
theorem SC_set17 {w : Wd} {i : Nat} {v : Vw} (S : SC w i v) {p : Nat} (hp : p < v 0 1) : SC (setI w 13 i 3 (nI (mkB (fun p => v 17 p == 1) (v 0 1) ||| 2 ^ p))) i (up2 v 17 p 1) := by
  refine ⟨by rw [gg_I, if_neg (by omega)]; exact (SC_night S :), by rw [gg_I, if_neg (by omega)]; exact (SC_slides S :), (SC_spart S :), (SC_snight S :), (SC_learned S :), ?_, (SC_times S :), (SC_lost S :)⟩
  rw [gg_I, if_pos ⟨rfl, rfl, rfl⟩, mkB_set hp]
  congr 1
  apply mkB_ext
  intro k hk
  by_cases q : k = p
  · subst q; rw [up2_eq]; simp
  · rw [up2_nj q]; simp [q]
theorem SM_set18 {w : Wd} {b : Nat} {v : Vw} (S : SM w b v) (p x : Nat) : SM (setI w 104 0 (6 * b + p) (nI x)) b (up2 v 18 p x) := by
  refine ⟨(SM_learned S :), (SM_fresh S :), (SM_gone S :), ?_, (SM_lost S :)⟩
  intro j hj
  rw [gg_I]
  by_cases q : j = p
  · subst q; rw [if_pos ⟨rfl, rfl, rfl⟩, up2_eq]
  · rw [if_neg (fun z => q (by have := z.2.2; omega)), up2_nj q]; exact SM_times S j hj
theorem SM_set17 {w : Wd} {b : Nat} {v : Vw} (S : SM w b v) (p x : Nat) : SM (setI w 103 0 (6 * b + p) (nI x)) b (up2 v 17 p x) := by
  refine ⟨(SM_learned S :), (SM_fresh S :), ?_, (SM_times S :), (SM_lost S :)⟩
  intro j hj
  rw [gg_I]
  by_cases q : j = p
  · subst q; rw [if_pos ⟨rfl, rfl, rfl⟩, up2_eq]
  · rw [if_neg (fun z => q (by have := z.2.2; omega)), up2_nj q]; exact SM_gone S j hj
theorem SM_set16 {w : Wd} {b : Nat} {v : Vw} (S : SM w b v) {p k : Nat} (hk : k < 8) (n : Nat) : SM (setI (setI w 101 0 (48 * b + 8 * p + k) (nI n)) 102 0 (48 * b + 8 * p + k) (nI 0)) b (up2 v 16 (8 * p + k) (n + 2)) := by
  refine ⟨?_, ?_, (SM_gone S :), (SM_times S :), (SM_lost S :)⟩
  · intro p' k' hp' hk'
    have hp'' : p' < v 0 1 := hp'
    rw [gg_I, if_neg (fun z => by have := z.1; omega), gg_I]
    by_cases q : p' = p ∧ k' = k
    · obtain ⟨rfl, rfl⟩ := q
      rw [if_pos ⟨rfl, rfl, rfl⟩, up2_eq]; rfl
    · rw [if_neg (fun z => q (by have := z.2.2; omega)), up2_nj (fun z => q (by omega))]
      exact SM_learned S p' k' hp'' hk'
  · intro p' k' hp' hk'
    have hp'' : p' < v 0 1 := hp'
    rw [gg_I]
    by_cases q : p' = p ∧ k' = k
    · obtain ⟨rfl, rfl⟩ := q
      rw [if_pos ⟨rfl, rfl, rfl⟩, up2_eq]; rfl
    · rw [if_neg (fun z => q (by have := z.2.2; omega)), up2_nj (fun z => q (by omega)), gg_I, if_neg (fun z => by have := z.1; omega)]
      exact SM_fresh S p' k' hp'' hk'

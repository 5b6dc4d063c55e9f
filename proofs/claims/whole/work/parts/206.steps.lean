/-! ===== steps: the class by sets, the reference by a table ===== -/
def dI (d : Nat) : Int32 := if d = 99 then -nI 2 else nI d
theorem adj_lt {v : Vw} (hF : WF v) {a b : Nat} (h : (v 3 a).testBit b = true) : a < v 0 0 ∧ b < v 0 0 := by
  have key : ∀ a b, (v 3 a).testBit b = true → b < v 0 0 := by
    intro a b h
    apply Classical.byContradiction
    intro q
    rw [bit_hi (WF_beside hF a) (by omega)] at h
    cases h
  refine ⟨key b a ?_, key a b h⟩
  rw [← WF_sym hF a b]
  exact h
theorem adj_hg {v : Vw} (hF : WF v) : ∀ c t, (v 3 c).testBit t = true → c < v 0 0 := fun _ _ h => (adj_lt hF h).1
theorem WF_beside8 {v : Vw} (hF : WF v) (j : Nat) : v 3 j < 2 ^ 8 := Nat.lt_of_lt_of_le (WF_beside hF j) (Nat.pow_le_pow_right (by omega) (WF_parts hF))
theorem rch_lt {g : Nat → Nat} {P al f : Nat} (hal : al < 2 ^ 8) (s : Nat) : rch g P al f s < 2 ^ 8 := by
  cases s with
  | zero => exact Nat.lt_of_le_of_lt Nat.and_le_right hal
  | succ s => exact Nat.lt_of_le_of_lt Nat.and_le_right hal
theorem rch_ext {g : Nat → Nat} {P al al' f : Nat} (hf : f < P) (hg : ∀ c, g c < 2 ^ P) (h : ∀ k, k < P → al.testBit k = al'.testBit k) : ∀ s, rch g P al f s = rch g P al' f s ∧ rch g P al f s < 2 ^ P := by
  have key : ∀ x, x < 2 ^ P → x &&& al = x &&& al' := by
    intro x hx
    apply Nat.eq_of_testBit_eq
    intro k
    rw [Nat.testBit_and, Nat.testBit_and]
    rcases Nat.lt_or_ge k P with q | q
    · rw [h k q]
    · rw [bit_hi hx q]; rfl
  intro s
  induction s with
  | zero =>
    have := Nat.pow_lt_pow_right (a := 2) (by omega) hf
    exact ⟨key _ this, Nat.lt_of_le_of_lt Nat.and_le_left this⟩
  | succ s ih =>
    have := orB_lt (f := fun p => (rch g P al f s).testBit p) ih.2 hg P
    refine ⟨?_, Nat.lt_of_le_of_lt Nat.and_le_left this⟩
    rw [rch, rch, ← ih.1, stp1, stp1]
    exact key _ this
theorem gD_ext {g : Nat → Nat} {P al al' f t : Nat} (hf : f < P) (hg : ∀ c, g c < 2 ^ P) (h : ∀ k, k < P → al.testBit k = al'.testBit k) : gD g P al f t = gD g P al' f t := by
  unfold gD
  congr 1
  funext s
  rw [(rch_ext hf hg h s).1]
section
variable {N : Nat} {w : Wd} {m : Nat} {v : Vw}
theorem c_d23 (T : TC w m v) (hF : WF v) {x : Nat} (hx : x < 2 ^ 8) (a2 a3 v5 : Int32) (k42 : Int32 → Int32 → Wd → Option (Int32 × Wd)) :
    ∀ fuel c, c ≤ v 0 0 → v 0 0 - c < fuel → fX4_distance_23 N m a2 a3 fuel k42 (nI x) v5 (nI (orB x (v 3) (fun p => x.testBit p) c)) (nI c) w = k42 v5 (nI (orB x (v 3) (fun p => x.testBit p) (v 0 0))) w := by
  have h2 := WF_parts hF
  intro fuel
  induction fuel with
  | zero => intro c _ h; omega
  | succ f ih =>
    intro c hc hf
    rcases Nat.lt_or_ge c (v 0 0) with h | h
    · have e := ih (c + 1) (by omega) (by omega)
      simp only [orB] at e
      simp (disch := first | assumption | exact WF_b31 (by assumption) _ _ | omega) only [fX4_distance_23, TC_parts T, TC_beside T, h, nz_bit, nz_b1, nz_b2, nz_shl, nz_not, nz_and, nz_or, ldn, ldLn, ldRn, stn, stLn, cpn, nI_ltI, nI_leI, nI_eq, callW_eq, Option.bind_some, li0, li1, li2, li3, li4, li5, li6, li7, li8, li9, li10, li11, li12, li13, li14, li15, li16, li17, li18, li19, li20, li21, li22, li23, li24, li25, li26, li27, li28, li29, li30, li31, li32, li33, li34, li35, li36, li37, li38, li39, li40, li41, li42, li43, li44, li45, li47, li48, li50, li56, li57, li59, li60, li61, li62, li63, li64, li90, li96, li97, li99, li100, li122, li200, li255, li256, li900, li999, li1000, li9999, li65536, li99999, li1000000, li1048576, gg_I, gg_LI, gg_RI, gg_L, gg_IL, gg_RL, gg_R, gg_IR, gg_LR, gg_row, gg_Lrow, gg_Rrow, nI_add, pk_mul, Nat.reduceEqDiff, Nat.reduceAdd, Nat.reduceSub, Nat.reduceMul, Nat.reducePow, Nat.reduceLT, Nat.reduceLeDiff, ↓reduceIte, reduceCtorEq, and_true, true_and, and_false, false_and, and_self, not_true_eq_false, not_false_eq_true, if_true, if_false]
      cases hb : x.testBit c <;> simpa [hb] using e
    · have : c = v 0 0 := by omega
      subst this
      simp (disch := first | assumption | exact WF_b31 (by assumption) _ _ | omega) only [fX4_distance_23, TC_parts T, nI_ltI, Nat.lt_irrefl, if_false]
theorem c_dist (T : TC w m v) (hF : WF v) (hN : 100 ≤ N) {f t al : Nat} (hf : f < 8) (ht : t < 8) (hal : al < 2 ^ 8) : pX4_distance N m (nI f) (nI t) (nI al) w = some (dI (gD (v 3) (v 0 0) al f t), w) := by
  have h2 := WF_parts hF
  have key : ∀ fuel s, s ≤ 8 → 8 - s < fuel → fX4_distance_8 N m (nI t) (nI al) fuel (nI (rch (v 3) (v 0 0) al f s)) (nI s) w = some (dI (fnd (fun s => (rch (v 3) (v 0 0) al f s).testBit t) (8 - s) s), w) := by
    intro fuel
    induction fuel with
    | zero => intro c _ h; omega
    | succ n ih =>
      intro s hs hf
      have hr := rch_lt (g := v 3) (P := v 0 0) (f := f) hal s
      rcases Nat.lt_or_ge s 8 with h | h
      · have e := ih (s + 1) (by omega) (by omega)
        have e8 : 8 - s = (8 - (s + 1)) + 1 := by omega
        have g := c_d23 (N := N) T hF hr (nI t) (nI al) (nI s) (fX4_distance_42 N m (nI t) (nI al) (fX4_distance_8 N m (nI t) (nI al) n)) N 0 (by omega) (by omega)
        rw [e8, fnd]
        simp only [orB] at g
        simp (disch := first | assumption | exact WF_b31 (by assumption) _ _ | omega) only [fX4_distance_8, g, h, nz_bit, nz_b1, nz_b2, nz_shl, nz_not, nz_and, nz_or, ldn, ldLn, ldRn, stn, stLn, cpn, nI_ltI, nI_leI, nI_eq, callW_eq, Option.bind_some, li0, li1, li2, li3, li4, li5, li6, li7, li8, li9, li10, li11, li12, li13, li14, li15, li16, li17, li18, li19, li20, li21, li22, li23, li24, li25, li26, li27, li28, li29, li30, li31, li32, li33, li34, li35, li36, li37, li38, li39, li40, li41, li42, li43, li44, li45, li47, li48, li50, li56, li57, li59, li60, li61, li62, li63, li64, li90, li96, li97, li99, li100, li122, li200, li255, li256, li900, li999, li1000, li9999, li65536, li99999, li1000000, li1048576, gg_I, gg_LI, gg_RI, gg_L, gg_IL, gg_RL, gg_R, gg_IR, gg_LR, gg_row, gg_Lrow, gg_Rrow, nI_add, pk_mul, Nat.reduceEqDiff, Nat.reduceAdd, Nat.reduceSub, Nat.reduceMul, Nat.reducePow, Nat.reduceLT, Nat.reduceLeDiff, ↓reduceIte, reduceCtorEq, and_true, true_and, and_false, false_and, and_self, not_true_eq_false, not_false_eq_true, if_true, if_false]
        cases hb : (rch (v 3) (v 0 0) al f s).testBit t
        · simp only [if_true, fX4_distance_42, nz_and, nI_add, li1, Bool.false_eq_true, if_false]
          rw [rch, stp1] at e
          exact e
        · have : dI s = nI s := if_neg (by omega)
          simp [this]
      · have : s = 8 := by omega
        subst this
        simp (disch := first | assumption | exact WF_b31 (by assumption) _ _ | omega) only [fX4_distance_8, nI_ltI, Nat.lt_irrefl, if_false, li8, li2]
        rfl
  unfold pX4_distance
  rw [callW_eq]
  simp (disch := first | assumption | exact WF_b31 (by assumption) _ _ | omega) only [nz_bit, nz_b1, nz_b2, nz_shl, nz_not, nz_and, nz_or, ldn, ldLn, ldRn, stn, stLn, cpn, nI_ltI, nI_leI, nI_eq, callW_eq, Option.bind_some, li0, li1, li2, li3, li4, li5, li6, li7, li8, li9, li10, li11, li12, li13, li14, li15, li16, li17, li18, li19, li20, li21, li22, li23, li24, li25, li26, li27, li28, li29, li30, li31, li32, li33, li34, li35, li36, li37, li38, li39, li40, li41, li42, li43, li44, li45, li47, li48, li50, li56, li57, li59, li60, li61, li62, li63, li64, li90, li96, li97, li99, li100, li122, li200, li255, li256, li900, li999, li1000, li9999, li65536, li99999, li1000000, li1048576, gg_I, gg_LI, gg_RI, gg_L, gg_IL, gg_RL, gg_R, gg_IR, gg_LR, gg_row, gg_Lrow, gg_Rrow, nI_add, pk_mul, Nat.reduceEqDiff, Nat.reduceAdd, Nat.reduceSub, Nat.reduceMul, Nat.reducePow, Nat.reduceLT, Nat.reduceLeDiff, ↓reduceIte, reduceCtorEq, and_true, true_and, and_false, false_and, and_self, not_true_eq_false, not_false_eq_true, if_true, if_false]
  exact key N 0 (by omega) (by omega)
theorem c_allParts (T : TC w m v) (hF : WF v) : pX4_allParts N m w = some (nI (2 ^ v 0 0 - 1), w) := by
  have h2 := WF_parts hF
  have := Nat.two_pow_pos (v 0 0)
  simp (disch := first | assumption | exact WF_b31 (by assumption) _ _ | omega) only [pX4_allParts, TC_parts T, nz_bit, nz_b1, nz_b2, nz_shl, nz_not, nz_and, nz_or, ldn, ldLn, ldRn, stn, stLn, cpn, nI_ltI, nI_leI, nI_eq, callW_eq, Option.bind_some, li0, li1, li2, li3, li4, li5, li6, li7, li8, li9, li10, li11, li12, li13, li14, li15, li16, li17, li18, li19, li20, li21, li22, li23, li24, li25, li26, li27, li28, li29, li30, li31, li32, li33, li34, li35, li36, li37, li38, li39, li40, li41, li42, li43, li44, li45, li47, li48, li50, li56, li57, li59, li60, li61, li62, li63, li64, li90, li96, li97, li99, li100, li122, li200, li255, li256, li900, li999, li1000, li9999, li65536, li99999, li1000000, li1048576, gg_I, gg_LI, gg_RI, gg_L, gg_IL, gg_RL, gg_R, gg_IR, gg_LR, gg_row, gg_Lrow, gg_Rrow, nI_add, pk_mul, Nat.reduceEqDiff, Nat.reduceAdd, Nat.reduceSub, Nat.reduceMul, Nat.reducePow, Nat.reduceLT, Nat.reduceLeDiff, ↓reduceIte, reduceCtorEq, and_true, true_and, and_false, false_and, and_self, not_true_eq_false, not_false_eq_true, if_true, if_false]
  rw [pk_sub (by omega)]
theorem al_lt {v : Vw} (hF : WF v) : 2 ^ v 0 0 - 1 < 2 ^ 8 := by
  have := Nat.pow_le_pow_right (n := 2) (by omega) (WF_parts hF)
  have := Nat.two_pow_pos (v 0 0)
  omega
theorem c_isNear (T : TC w m v) (hF : WF v) (hN : 100 ≤ N) {f t : Nat} (hf : f < 8) (ht : t < 8) : pX4_isNear N m (nI f) (nI t) w = some (zB (decide (gD (v 3) (v 0 0) (2 ^ v 0 0 - 1) f t ≤ v 0 4)), w) := by
  have e := c_dist (N := N) T hF hN hf ht (al_lt hF)
  have e2 := c_allParts (N := N) T hF
  have h4 := WF_near hF
  simp (disch := first | assumption | exact WF_b31 (by assumption) _ _ | omega) only [pX4_isNear, e, e2, TC_near T, callW_eq, Option.bind_some, li0, li1, li2, li3, li4, li5, li6, li7, li8, li9, li10, li11, li12, li13, li14, li15, li16, li17, li18, li19, li20, li21, li22, li23, li24, li25, li26, li27, li28, li29, li30, li31, li32, li33, li34, li35, li36, li37, li38, li39, li40, li41, li42, li43, li44, li45, li47, li48, li50, li56, li57, li59, li60, li61, li62, li63, li64, li90, li96, li97, li99, li100, li122, li200, li255, li256, li900, li999, li1000, li9999, li65536, li99999, li1000000, li1048576, gg_I, gg_LI, gg_RI, gg_L, gg_IL, gg_RL, gg_R, gg_IR, gg_LR, gg_row, gg_Lrow, gg_Rrow, nI_add, pk_mul, Nat.reduceEqDiff, Nat.reduceAdd, Nat.reduceSub, Nat.reduceMul, Nat.reducePow, Nat.reduceLT, Nat.reduceLeDiff, ↓reduceIte, reduceCtorEq, and_true, true_and, and_false, false_and, and_self, not_true_eq_false, not_false_eq_true, if_true, if_false]
  rcases gD_lt (v 3) (v 0 0) (2 ^ v 0 0 - 1) f t with h | h
  · have : dI (gD (v 3) (v 0 0) (2 ^ v 0 0 - 1) f t) = nI (gD (v 3) (v 0 0) (2 ^ v 0 0 - 1) f t) := if_neg (by omega)
    rw [this]
    simp (disch := first | assumption | exact WF_b31 (by assumption) _ _ | omega) only [nz_bit, nz_b1, nz_b2, nz_shl, nz_not, nz_and, nz_or, ldn, ldLn, ldRn, stn, stLn, cpn, nI_ltI, nI_leI, nI_eq]
    by_cases c : gD (v 3) (v 0 0) (2 ^ v 0 0 - 1) f t ≤ v 0 4
    · have : ¬ v 0 4 < gD (v 3) (v 0 0) (2 ^ v 0 0 - 1) f t := by omega
      simp [c, this, zB]
    · have : v 0 4 < gD (v 3) (v 0 0) (2 ^ v 0 0 - 1) f t := by omega
      simp [c, this, zB]
  · have : ¬ (99 ≤ v 0 4) := by omega
    simp [h, dI, nz_neg2, this, zB]
def gL8 (v : Vw) (al q : Nat) : Bool := gD (v 3) (v 0 0) al (v 9 q) (v 10 q) != 99
theorem c_isLed (T : TC w m v) (hF : WF v) (hN : 100 ≤ N) {q al : Nat} (hq : q < v 0 2) (hal : al < 2 ^ 8) : pX4_isLed N m (nI q) (nI al) w = some (zB (gL8 v al q), w) := by
  have h2 := WF_parts hF
  have h3 := WF_parties hF
  have h5 := WF_pfrom hF q hq
  have h6 := WF_pto hF q hq
  have e := c_dist (N := N) T hF hN (f := v 9 q) (t := v 10 q) (by omega) (by omega) hal
  simp (disch := first | assumption | exact WF_b31 (by assumption) _ _ | omega) only [pX4_isLed, TC_pfrom T, TC_pto T, e, nz_bit, nz_b1, nz_b2, nz_shl, nz_not, nz_and, nz_or, ldn, ldLn, ldRn, stn, stLn, cpn, nI_ltI, nI_leI, nI_eq, callW_eq, Option.bind_some, li0, li1, li2, li3, li4, li5, li6, li7, li8, li9, li10, li11, li12, li13, li14, li15, li16, li17, li18, li19, li20, li21, li22, li23, li24, li25, li26, li27, li28, li29, li30, li31, li32, li33, li34, li35, li36, li37, li38, li39, li40, li41, li42, li43, li44, li45, li47, li48, li50, li56, li57, li59, li60, li61, li62, li63, li64, li90, li96, li97, li99, li100, li122, li200, li255, li256, li900, li999, li1000, li9999, li65536, li99999, li1000000, li1048576, gg_I, gg_LI, gg_RI, gg_L, gg_IL, gg_RL, gg_R, gg_IR, gg_LR, gg_row, gg_Lrow, gg_Rrow, nI_add, pk_mul, Nat.reduceEqDiff, Nat.reduceAdd, Nat.reduceSub, Nat.reduceMul, Nat.reducePow, Nat.reduceLT, Nat.reduceLeDiff, ↓reduceIte, reduceCtorEq, and_true, true_and, and_false, false_and, and_self, not_true_eq_false, not_false_eq_true, if_true, if_false]
  unfold gL8
  rcases gD_lt (v 3) (v 0 0) al (v 9 q) (v 10 q) with h | h
  · have : dI (gD (v 3) (v 0 0) al (v 9 q) (v 10 q)) = nI (gD (v 3) (v 0 0) al (v 9 q) (v 10 q)) := if_neg (by omega)
    have h9 : (gD (v 3) (v 0 0) al (v 9 q) (v 10 q) != 99) = true := by simp; omega
    rw [this, h9]
    simp (disch := first | assumption | exact WF_b31 (by assumption) _ _ | omega) only [nz_bit, nz_b1, nz_b2, nz_shl, nz_not, nz_and, nz_or, ldn, ldLn, ldRn, stn, stLn, cpn, nI_ltI, nI_leI, nI_eq]
    simp [zB]
  · simp [h, dI, nz_neg2, zB]
end
/-! the reference's table -/
def r0 (v : Vw) (wo a b : Nat) : Nat := if a = wo then 99 else if b = wo then 99 else if a = b then 0 else if (v 3 a).testBit b then 1 else 99
section
variable {N : Nat} {w0 : Wd} {kk wo : Nat} {v : Vw} {a2 : Int32}
theorem m_lw7 (T : TM w0 v) (hF : WF v) (hln : ln kk 0 = 64) (hdis : dis [kk] kTM = true) (hkk : ∀ j, [kk].contains (ky kk j) = true) (hwo : ∀ a, a < 8 → (nI a = a2 ↔ a = wo)) {a : Nat} (ha : a < 8) {Q : Wd → Prop} (k46 : Int32 → Wd → Option Wd)
    (hk : ∀ w, (Fr [kk] w0 w ∧ ∀ x, x < 8 * a + 8 → gI w kk 0 x = nI (r0 v wo (x / 8) (x % 8))) → Ok (k46 (nI a) w) Q) :
    ∀ fuel c w, c ≤ 8 → 8 - c < fuel → (Fr [kk] w0 w ∧ ∀ x, x < 8 * a + c → gI w kk 0 x = nI (r0 v wo (x / 8) (x % 8))) → Ok (fX12_layWays_7 N kk 0 a2 fuel k46 (nI a) (nI c) w) Q := by
  have h2 := WF_parts hF
  intro fuel
  induction fuel with
  | zero => intro c _ _ h; omega
  | succ f ih =>
    intro c w hc hf hI
    have T' := TM_fr hI.1 T hdis
    rcases Nat.lt_or_ge c 8 with h | h
    · have e := ih (c + 1) (setI w kk 0 (8 * a + c) (nI (r0 v wo a c))) (by omega) (by omega) ⟨Fr_setI hI.1 (hkk _), by
        intro x hx
        rw [gg_I]
        by_cases q : x = 8 * a + c
        · have e1 : x / 8 = a := by omega
          have e2 : x % 8 = c := by omega
          rw [if_pos ⟨rfl, rfl, q⟩, e1, e2]
        · rw [if_neg (fun z => q z.2.2)]
          exact hI.2 x (by omega)⟩
      have p1 := hwo a ha
      have p2 := hwo c h
      simp (disch := first | assumption | exact WF_b31 (by assumption) _ _ | omega) only [fX12_layWays_7, pX12_isOf, TM_parts T', hln, p1, p2, h, nz_bit, nz_b1, nz_b2, nz_shl, nz_not, nz_and, nz_or, ldn, ldLn, ldRn, stn, stLn, cpn, nI_ltI, nI_leI, nI_eq, callW_eq, Option.bind_some, li0, li1, li2, li3, li4, li5, li6, li7, li8, li9, li10, li11, li12, li13, li14, li15, li16, li17, li18, li19, li20, li21, li22, li23, li24, li25, li26, li27, li28, li29, li30, li31, li32, li33, li34, li35, li36, li37, li38, li39, li40, li41, li42, li43, li44, li45, li47, li48, li50, li56, li57, li59, li60, li61, li62, li63, li64, li90, li96, li97, li99, li100, li122, li200, li255, li256, li900, li999, li1000, li9999, li65536, li99999, li1000000, li1048576, gg_I, gg_LI, gg_RI, gg_L, gg_IL, gg_RL, gg_R, gg_IR, gg_LR, gg_row, gg_Lrow, gg_Rrow, nI_add, pk_mul, Nat.reduceEqDiff, Nat.reduceAdd, Nat.reduceSub, Nat.reduceMul, Nat.reducePow, Nat.reduceLT, Nat.reduceLeDiff, ↓reduceIte, reduceCtorEq, and_true, true_and, and_false, false_and, and_self, not_true_eq_false, not_false_eq_true, if_true, if_false]
      by_cases q1 : a = wo
      · simpa [q1, r0] using e
      · by_cases q2 : c = wo
        · simpa [q1, q2, r0] using e
        · by_cases q3 : a = c
          · simpa [q1, q2, q3, r0] using e
          · by_cases q4 : a < v 0 0
            · simp (disch := first | assumption | exact WF_b31 (by assumption) _ _ | omega) only [q1, q2, q3, q4, TM_beside T', nz_bit, nz_b1, nz_b2, nz_shl, nz_not, nz_and, nz_or, ldn, ldLn, ldRn, stn, stLn, cpn, nI_ltI, nI_leI, nI_eq, callW_eq, Option.bind_some, li0, li1, li2, li3, li4, li5, li6, li7, li8, li9, li10, li11, li12, li13, li14, li15, li16, li17, li18, li19, li20, li21, li22, li23, li24, li25, li26, li27, li28, li29, li30, li31, li32, li33, li34, li35, li36, li37, li38, li39, li40, li41, li42, li43, li44, li45, li47, li48, li50, li56, li57, li59, li60, li61, li62, li63, li64, li90, li96, li97, li99, li100, li122, li200, li255, li256, li900, li999, li1000, li9999, li65536, li99999, li1000000, li1048576, gg_I, gg_LI, gg_RI, gg_L, gg_IL, gg_RL, gg_R, gg_IR, gg_LR, gg_row, gg_Lrow, gg_Rrow, nI_add, pk_mul, Nat.reduceEqDiff, Nat.reduceAdd, Nat.reduceSub, Nat.reduceMul, Nat.reducePow, Nat.reduceLT, Nat.reduceLeDiff, ↓reduceIte, reduceCtorEq, and_true, true_and, and_false, false_and, and_self, not_true_eq_false, not_false_eq_true, if_true, if_false]
              cases q5 : (v 3 a).testBit c
              · simpa [q1, q2, q3, q5, r0, nz_bit, nz_b1, nz_b2, nz_shl, nz_not, nz_and, nz_or, ldn, ldLn, ldRn, stn, stLn, cpn, nI_ltI, nI_leI, nI_eq] using e
              · simpa [q1, q2, q3, q5, r0, nz_bit, nz_b1, nz_b2, nz_shl, nz_not, nz_and, nz_or, ldn, ldLn, ldRn, stn, stLn, cpn, nI_ltI, nI_leI, nI_eq] using e
            · have q5 : (v 3 a).testBit c = false := by
                cases z : (v 3 a).testBit c with
                | false => rfl
                | true => exact absurd (adj_lt hF z).1 q4
              simpa [q1, q2, q3, q4, q5, r0] using e
    · have : c = 8 := by omega
      subst this
      simp (disch := first | assumption | exact WF_b31 (by assumption) _ _ | omega) only [fX12_layWays_7, li8, nI_ltI, Nat.lt_irrefl, if_false]
      exact hk w hI
theorem m_lw2 (T : TM w0 v) (hF : WF v) (hN : 100 ≤ N) (hln : ln kk 0 = 64) (hdis : dis [kk] kTM = true) (hkk : ∀ j, [kk].contains (ky kk j) = true) (hwo : ∀ a, a < 8 → (nI a = a2 ↔ a = wo)) {Q : Wd → Prop} (k48 : Wd → Option Wd)
    (hk : ∀ w, (Fr [kk] w0 w ∧ ∀ x, x < 64 → gI w kk 0 x = nI (r0 v wo (x / 8) (x % 8))) → Ok (k48 w) Q) :
    ∀ fuel c w, c ≤ 8 → 8 - c < fuel → (Fr [kk] w0 w ∧ ∀ x, x < 8 * c → gI w kk 0 x = nI (r0 v wo (x / 8) (x % 8))) → Ok (fX12_layWays_2 N kk 0 a2 fuel k48 (nI c) w) Q := by
  intro fuel
  induction fuel with
  | zero => intro c _ _ h; omega
  | succ f ih =>
    intro c w hc hf hI
    rcases Nat.lt_or_ge c 8 with h | h
    · simp (disch := first | assumption | omega) only [fX12_layWays_2, h, nz_bit, nz_b1, nz_b2, nz_shl, nz_not, nz_and, nz_or, ldn, ldLn, ldRn, stn, stLn, cpn, nI_ltI, nI_leI, nI_eq, callW_eq, Option.bind_some, li0, li1, li2, li3, li4, li5, li6, li7, li8, li9, li10, li11, li12, li13, li14, li15, li16, li17, li18, li19, li20, li21, li22, li23, li24, li25, li26, li27, li28, li29, li30, li31, li32, li33, li34, li35, li36, li37, li38, li39, li40, li41, li42, li43, li44, li45, li47, li48, li50, li56, li57, li59, li60, li61, li62, li63, li64, li90, li96, li97, li99, li100, li122, li200, li255, li256, li900, li999, li1000, li9999, li65536, li99999, li1000000, li1048576, gg_I, gg_LI, gg_RI, gg_L, gg_IL, gg_RL, gg_R, gg_IR, gg_LR, gg_row, gg_Lrow, gg_Rrow, nI_add, pk_mul, Nat.reduceEqDiff, Nat.reduceAdd, Nat.reduceSub, Nat.reduceMul, Nat.reducePow, Nat.reduceLT, Nat.reduceLeDiff, ↓reduceIte, reduceCtorEq, and_true, true_and, and_false, false_and, and_self, not_true_eq_false, not_false_eq_true, if_true, if_false]
      refine m_lw7 T hF hln hdis hkk hwo h _ ?_ N 0 w (by omega) (by omega) hI
      intro w' hI'
      simp only [fX12_layWays_46, li1, nI_add]
      exact ih (c + 1) w' (by omega) (by omega) ⟨hI'.1, fun x hx => hI'.2 x (by omega)⟩
    · have : c = 8 := by omega
      subst this
      simp (disch := first | assumption | omega) only [fX12_layWays_2, li8, nI_ltI, Nat.lt_irrefl, if_false]
      exact hk w hI
/-- a table's stage -/
def lwJ (w0 : Wd) (kk : Nat) (A : Nat → Bool) (E : Nat → Nat → Bool) (m : Nat) (rs : Nat → Nat → Nat) (a c : Nat) (w : Wd) : Prop :=
  Fr [kk] w0 w ∧ ∃ r : Nat → Nat → Nat, (∀ a b, a < 8 → b < 8 → gI w kk 0 (8 * a + b) = nI (r a b)) ∧ Sn A E r ∧ (∀ a b, a < 8 → b < 8 → r a b ≤ rs a b) ∧
    (∀ a' b', a' < 8 → b' < 8 → (a' < a ∨ (a' = a ∧ b' < c)) → r a' b' ≤ rs a' m + rs m b')
theorem lwJ_step (hkk : ∀ j, [kk].contains (ky kk j) = true) {A : Nat → Bool} {E : Nat → Nat → Bool} {m a c : Nat} {rs : Nat → Nat → Nat} {w : Wd} (hm : m < 8) (ha : a < 8) (hc : c < 8) {r : Nat → Nat → Nat} (hfr : Fr [kk] w0 w) (h1 : ∀ a b, a < 8 → b < 8 → gI w kk 0 (8 * a + b) = nI (r a b)) (h2 : Sn A E r) (h3 : ∀ a b, a < 8 → b < 8 → r a b ≤ rs a b)
    (h4 : ∀ a' b', a' < 8 → b' < 8 → (a' < a ∨ (a' = a ∧ b' < c)) → r a' b' ≤ rs a' m + rs m b') :
    lwJ w0 kk A E m rs a (c + 1) (setI w kk 0 (8 * a + c) (nI (if r a m + r m c < r a c then r a m + r m c else r a c))) := by
  have g1 := h3 a m ha hm
  have g2 := h3 m c hm hc
  have g3 := h3 a c ha hc
  refine ⟨Fr_setI hfr (hkk _), fun a' b' => if a' = a ∧ b' = c then (if r a m + r m c < r a c then r a m + r m c else r a c) else r a' b', ?_, ?_, ?_, ?_⟩
  · intro a' b' ha' hb'
    rw [gg_I]
    show _ = nI (if a' = a ∧ b' = c then (if r a m + r m c < r a c then r a m + r m c else r a c) else r a' b')
    by_cases q : a' = a ∧ b' = c
    · rw [if_pos q, if_pos ⟨rfl, rfl, by omega⟩]
    · rw [if_neg q, if_neg (fun z => q (by have := z.2.2; omega))]
      exact h1 a' b' ha' hb'
  · intro a' b' ha' hb'
    by_cases q : a' = a ∧ b' = c
    · simp only [if_pos q]
      obtain ⟨rfl, rfl⟩ := q
      have s1 := h2 a' m ha hm
      have s2 := h2 m b' hm hc
      have s3 := h2 a' b' ha hc
      by_cases z : r a' m + r m b' < r a' b'
      · simp only [if_pos z]
        exact ⟨by omega, fun y => wk_cat (s1.2 (by omega)) (s2.2 (by omega))⟩
      · simp only [if_neg z]
        exact s3
    · simp only [if_neg q]
      exact h2 a' b' ha' hb'
  · intro a' b' ha' hb'
    by_cases q : a' = a ∧ b' = c
    · simp only [if_pos q]
      obtain ⟨rfl, rfl⟩ := q
      split <;> omega
    · simp only [if_neg q]
      exact h3 a' b' ha' hb'
  · intro a' b' ha' hb' hp
    by_cases q : a' = a ∧ b' = c
    · simp only [if_pos q]
      obtain ⟨rfl, rfl⟩ := q
      split <;> omega
    · simp only [if_neg q]
      exact h4 a' b' ha' hb' (by omega)
theorem m_lw60 (hkk : ∀ j, [kk].contains (ky kk j) = true) {A : Nat → Bool} {E : Nat → Nat → Bool} {m a : Nat} {rs : Nat → Nat → Nat} (hln : ln kk 0 = 64) (hm : m < 8) (ha : a < 8) {Q : Wd → Prop} (k106 : Int32 → Int32 → Wd → Option Wd)
    (hk : ∀ w, lwJ w0 kk A E m rs a 8 w → Ok (k106 (nI m) (nI a) w) Q) :
    ∀ fuel c w, c ≤ 8 → 8 - c < fuel → lwJ w0 kk A E m rs a c w → Ok (fX12_layWays_60 N kk 0 fuel k106 (nI m) (nI a) (nI c) w) Q := by
  intro fuel
  induction fuel with
  | zero => intro c _ _ h; omega
  | succ f ih =>
    intro c w hc hf hI
    rcases Nat.lt_or_ge c 8 with h | h
    · obtain ⟨hfr, r, h1, h2, h3, h4⟩ := hI
      have e := ih (c + 1) _ (by omega) (by omega) (lwJ_step hkk hm ha h hfr h1 h2 h3 h4)
      have s1 := (h2 a m ha hm).1
      have s2 := (h2 m c hm h).1
      have s3 := (h2 a c ha h).1
      simp (disch := first | assumption | omega) only [fX12_layWays_60, hln, h1, h, nz_bit, nz_b1, nz_b2, nz_shl, nz_not, nz_and, nz_or, ldn, ldLn, ldRn, stn, stLn, cpn, nI_ltI, nI_leI, nI_eq, callW_eq, Option.bind_some, li0, li1, li2, li3, li4, li5, li6, li7, li8, li9, li10, li11, li12, li13, li14, li15, li16, li17, li18, li19, li20, li21, li22, li23, li24, li25, li26, li27, li28, li29, li30, li31, li32, li33, li34, li35, li36, li37, li38, li39, li40, li41, li42, li43, li44, li45, li47, li48, li50, li56, li57, li59, li60, li61, li62, li63, li64, li90, li96, li97, li99, li100, li122, li200, li255, li256, li900, li999, li1000, li9999, li65536, li99999, li1000000, li1048576, gg_I, gg_LI, gg_RI, gg_L, gg_IL, gg_RL, gg_R, gg_IR, gg_LR, gg_row, gg_Lrow, gg_Rrow, nI_add, pk_mul, Nat.reduceEqDiff, Nat.reduceAdd, Nat.reduceSub, Nat.reduceMul, Nat.reducePow, Nat.reduceLT, Nat.reduceLeDiff, ↓reduceIte, reduceCtorEq, and_true, true_and, and_false, false_and, and_self, not_true_eq_false, not_false_eq_true, if_true, if_false]
      by_cases z : r a m + r m c < r a c
      · simpa only [if_pos z] using e
      · simpa only [if_neg z] using e
    · have : c = 8 := by omega
      subst this
      simp (disch := first | assumption | omega) only [fX12_layWays_60, li8, nI_ltI, Nat.lt_irrefl, if_false]
      exact hk w hI
theorem m_lw55 (hkk : ∀ j, [kk].contains (ky kk j) = true) {A : Nat → Bool} {E : Nat → Nat → Bool} {m : Nat} {rs : Nat → Nat → Nat} (hN : 100 ≤ N) (hln : ln kk 0 = 64) (hm : m < 8) {Q : Wd → Prop} (k108 : Int32 → Wd → Option Wd)
    (hk : ∀ w, lwJ w0 kk A E m rs 8 0 w → Ok (k108 (nI m) w) Q) :
    ∀ fuel a w, a ≤ 8 → 8 - a < fuel → lwJ w0 kk A E m rs a 0 w → Ok (fX12_layWays_55 N kk 0 fuel k108 (nI m) (nI a) w) Q := by
  intro fuel
  induction fuel with
  | zero => intro c _ _ h; omega
  | succ f ih =>
    intro a w hc hf hI
    rcases Nat.lt_or_ge a 8 with h | h
    · simp (disch := first | assumption | omega) only [fX12_layWays_55, h, nz_bit, nz_b1, nz_b2, nz_shl, nz_not, nz_and, nz_or, ldn, ldLn, ldRn, stn, stLn, cpn, nI_ltI, nI_leI, nI_eq, callW_eq, Option.bind_some, li0, li1, li2, li3, li4, li5, li6, li7, li8, li9, li10, li11, li12, li13, li14, li15, li16, li17, li18, li19, li20, li21, li22, li23, li24, li25, li26, li27, li28, li29, li30, li31, li32, li33, li34, li35, li36, li37, li38, li39, li40, li41, li42, li43, li44, li45, li47, li48, li50, li56, li57, li59, li60, li61, li62, li63, li64, li90, li96, li97, li99, li100, li122, li200, li255, li256, li900, li999, li1000, li9999, li65536, li99999, li1000000, li1048576, gg_I, gg_LI, gg_RI, gg_L, gg_IL, gg_RL, gg_R, gg_IR, gg_LR, gg_row, gg_Lrow, gg_Rrow, nI_add, pk_mul, Nat.reduceEqDiff, Nat.reduceAdd, Nat.reduceSub, Nat.reduceMul, Nat.reducePow, Nat.reduceLT, Nat.reduceLeDiff, ↓reduceIte, reduceCtorEq, and_true, true_and, and_false, false_and, and_self, not_true_eq_false, not_false_eq_true, if_true, if_false]
      refine m_lw60 hkk hln hm h _ ?_ N 0 w (by omega) (by omega) hI
      intro w' hI'
      simp only [fX12_layWays_106, li1, nI_add]
      refine ih (a + 1) w' (by omega) (by omega) ?_
      obtain ⟨hfr, r, h1, h2, h3, h4⟩ := hI'
      exact ⟨hfr, r, h1, h2, h3, fun a' b' q1 q2 q3 => h4 a' b' q1 q2 (by omega)⟩
    · have : a = 8 := by omega
      subst this
      simp (disch := first | assumption | omega) only [fX12_layWays_55, li8, nI_ltI, Nat.lt_irrefl, if_false]
      exact hk w hI
theorem m_lw50 (hkk : ∀ j, [kk].contains (ky kk j) = true) {A : Nat → Bool} {E : Nat → Nat → Bool} (hN : 100 ≤ N) (hln : ln kk 0 = 64) {Q : Wd → Prop}
    (hk : ∀ w, (Fr [kk] w0 w ∧ ∃ r : Nat → Nat → Nat, (∀ a b, a < 8 → b < 8 → gI w kk 0 (8 * a + b) = nI (r a b)) ∧ Sn A E r ∧ Cm A E 8 r) → Q w) :
    ∀ fuel m w, m ≤ 8 → 8 - m < fuel → (Fr [kk] w0 w ∧ ∃ r : Nat → Nat → Nat, (∀ a b, a < 8 → b < 8 → gI w kk 0 (8 * a + b) = nI (r a b)) ∧ Sn A E r ∧ Cm A E m r) → Ok (fX12_layWays_50 N kk 0 fuel (nI m) w) Q := by
  intro fuel
  induction fuel with
  | zero => intro c _ _ h; omega
  | succ f ih =>
    intro m w hc hf hI
    rcases Nat.lt_or_ge m 8 with h | h
    · obtain ⟨hfr, rs, h1, h2, h3⟩ := hI
      simp (disch := first | assumption | omega) only [fX12_layWays_50, h, nz_bit, nz_b1, nz_b2, nz_shl, nz_not, nz_and, nz_or, ldn, ldLn, ldRn, stn, stLn, cpn, nI_ltI, nI_leI, nI_eq, callW_eq, Option.bind_some, li0, li1, li2, li3, li4, li5, li6, li7, li8, li9, li10, li11, li12, li13, li14, li15, li16, li17, li18, li19, li20, li21, li22, li23, li24, li25, li26, li27, li28, li29, li30, li31, li32, li33, li34, li35, li36, li37, li38, li39, li40, li41, li42, li43, li44, li45, li47, li48, li50, li56, li57, li59, li60, li61, li62, li63, li64, li90, li96, li97, li99, li100, li122, li200, li255, li256, li900, li999, li1000, li9999, li65536, li99999, li1000000, li1048576, gg_I, gg_LI, gg_RI, gg_L, gg_IL, gg_RL, gg_R, gg_IR, gg_LR, gg_row, gg_Lrow, gg_Rrow, nI_add, pk_mul, Nat.reduceEqDiff, Nat.reduceAdd, Nat.reduceSub, Nat.reduceMul, Nat.reducePow, Nat.reduceLT, Nat.reduceLeDiff, ↓reduceIte, reduceCtorEq, and_true, true_and, and_false, false_and, and_self, not_true_eq_false, not_false_eq_true, if_true, if_false]
      refine m_lw55 (A := A) (E := E) (rs := rs) (w0 := w0) hkk hN hln h _ ?_ N 0 w (by omega) (by omega) ⟨hfr, rs, h1, h2, fun a b _ _ => Nat.le_refl _, fun a' b' _ _ q => by omega⟩
      intro w' hI'
      simp only [fX12_layWays_108, li1, nI_add]
      obtain ⟨hfr', r, g1, g2, g3, g4⟩ := hI'
      exact ih (m + 1) w' (by omega) (by omega) ⟨hfr', r, g1, g2, cm_step h h3 g3 (fun a b ha hb => g4 a b ha hb (by omega))⟩
    · have : m = 8 := by omega
      subst this
      simp (disch := first | assumption | omega) only [fX12_layWays_50, li8, nI_ltI, Nat.lt_irrefl, if_false]
      exact ok_some (hk w hI)
/-- all but one of 8 -/
def alW (wo : Nat) : Nat := mkB (fun k => k != wo) 8
theorem m_layWays (T : TM w0 v) (hF : WF v) (hN : 100 ≤ N) (hln : ln kk 0 = 64) (hdis : dis [kk] kTM = true) (hkk : ∀ j, [kk].contains (ky kk j) = true) (hwo : ∀ a, a < 8 → (nI a = a2 ↔ a = wo)) :
    Ok (pX12_layWays N kk 0 a2 w0) (fun w => Fr [kk] w0 w ∧ ∀ a b, a < 8 → b < 8 → gI w kk 0 (8 * a + b) = nI (gD (v 3) (v 0 0) (alW wo) a b)) := by
  have h2 := WF_parts hF
  have hal : alW wo < 2 ^ 8 := mkB_lt _ _
  have hA : ∀ k, k < 8 → (alW wo).testBit k = (k != wo) := by
    intro k hk
    rw [alW, mkB_bit]
    simp [hk]
  unfold pX12_layWays
  rw [callW_eq, li0]
  refine m_lw2 T hF hN hln hdis hkk hwo _ ?_ N 0 w0 (by omega) (by omega) ⟨Fr_refl _ _, fun x h => by omega⟩
  intro w hI
  unfold fX12_layWays_48
  rw [callW_eq, li0]
  refine m_lw50 (A := fun k => (alW wo).testBit k) (E := fun c b => (v 3 c).testBit b) (w0 := w0) hkk hN hln ?_ N 0 w (by omega) (by omega) ⟨hI.1, r0 v wo, ?_, ?_, ?_⟩
  · rintro w' ⟨hfr, r, g1, g2, g3⟩
    refine ⟨hfr, fun a b ha hb => ?_⟩
    rw [g1 a b ha hb, gD_tab h2 hal (adj_hg hF) ha hb g2 g3]
  · intro a b ha hb
    have := hI.2 (8 * a + b) (by omega)
    rw [show (8 * a + b) / 8 = a by omega, show (8 * a + b) % 8 = b by omega] at this
    exact this
  · intro a b ha hb
    unfold r0
    by_cases q1 : a = wo
    · simp [q1]
    · by_cases q2 : b = wo
      · simp [q2]
      · by_cases q3 : a = b
        · subst q3
          simp [q1, wk, hA a ha]
        · cases q5 : (v 3 a).testBit b
          · simp [q1, q2, q3]
          · simp only [q1, q2, q3, if_false, if_true]
            exact ⟨by omega, fun _ => ⟨by simp [hA b hb, q2], a, ⟨rfl, by simp [hA a ha, q1]⟩, q5⟩⟩
  · intro n a b ha hb h
    match n with
    | 0 =>
      obtain ⟨e, h⟩ := h
      subst e
      simp only [hA a ha, bne_iff_ne, ne_eq] at h
      simp [r0, h]
    | 1 =>
      obtain ⟨h, c, ⟨e, h'⟩, _, q5⟩ := h
      subst e
      simp only [hA a ha, bne_iff_ne, ne_eq] at h'
      simp only [hA b hb, bne_iff_ne, ne_eq] at h
      simp only [r0, h, h', if_false]
      split
      · omega
      · simp [q5]
    | n + 2 =>
      obtain ⟨_, c, _, q, _⟩ := h
      omega
end

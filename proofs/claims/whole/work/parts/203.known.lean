/-! ===== the class: what is known ===== -/
theorem nz_ltsub {a n f : Nat} (ha : a < 2 ^ 30) (hn : n < 2 ^ 30) (hf : f < 2 ^ 30) : nI a < nI n - nI f ↔ a + f < n := by
  rw [Int32.lt_iff_toInt_lt, pk_sub_toInt hn hf, nI_toInt (by omega)]
  omega
theorem nz_ltsub' {a n f : Nat} (ha : a < 2 ^ 30) (hn : n < 2 ^ 30) (hf : f < 2 ^ 30) : nI f < nI n - nI a ↔ a + f < n := by
  rw [Int32.lt_iff_toInt_lt, pk_sub_toInt hn ha, nI_toInt (by omega)]
  omega
theorem lrn_m1 {L : Nat} (h : L < 2 ^ 30) : lrn L = -nI 1 ↔ L = 1 := by
  match L with
  | 0 => decide +kernel
  | 1 => simp [lrn]
  | n + 2 => simp only [lrn]; exact ⟨fun e => absurd e (nz_ne1 (by omega)), fun e => by omega⟩
theorem nz_mlt {n a : Nat} (hn : 0 < n) (hn' : n < 2 ^ 31) (ha : a < 2 ^ 31) : -nI n < nI a := by
  rw [Int32.lt_iff_toInt_lt, nI_toInt ha]
  have : -nI n = nI 0 - nI n := by rw [nI_0]; simp
  have h2 : (-nI n).toInt = -(n : Int) := by
    rw [Int32.toInt_neg, nI_toInt hn']
    have : -(n : Int) = Int.bmod (-(n : Int)) (2 ^ 32) := by
      rw [Int.bmod_eq_of_le] <;> omega
    exact this.symm
  omega
theorem lrn_lt {L s : Nat} (h : L < 2 ^ 30) (hs : s < 2 ^ 30) : lrn L < nI s ↔ (L ≤ 1 ∨ L - 2 < s) := by
  match L with
  | 0 => simp only [lrn]; exact ⟨fun _ => Or.inl (by omega), fun _ => nz_mlt (by omega) (by omega) (by omega)⟩
  | 1 => simp only [lrn]; exact ⟨fun _ => Or.inl (by omega), fun _ => nz_mlt (by omega) (by omega) (by omega)⟩
  | n + 2 => simp only [lrn]; rw [nI_ltI (by omega) (by omega)]; omega
theorem lrn_2 {L : Nat} (h : 2 ≤ L) : lrn L = nI (L - 2) := by
  match L with
  | n + 2 => rfl
theorem bit_andnot (s y k : Nat) : (s ^^^ (s &&& y)).testBit k = (s.testBit k && !y.testBit k) := by
  rw [Nat.testBit_xor, Nat.testBit_and]
  cases s.testBit k <;> cases y.testBit k <;> rfl
theorem andnot_lt {s y n : Nat} (h : s < 2 ^ n) : s ^^^ (s &&& y) < 2 ^ n := by
  apply Nat.xor_lt_two_pow h
  exact Nat.lt_of_le_of_lt Nat.and_le_left h
section
variable {N : Nat} {w : Wd} {i : Nat} {v : Vw}
theorem c_known59 (T : TC w (gR w 13 i 0) v) (S : SC w i v) (hF : WF v) {p n : Nat} (hp : p < v 0 1) (hn : n < 2 ^ 30) (ht : sThere v p n = true) :
    ∀ fuel c s, c ≤ v 0 6 → v 0 6 - c < fuel → (s < 2 ^ v 0 0 ∧ ∀ k, s.testBit k = (decide (k < v 0 0) && (sLrn v p k n && !anyB (sKill v (v 16 (8 * p + k)) k n) c))) →
    fX9_knownBits_59 N i (nI n) fuel (p + 6 * i) (nI s) (nI c) w = some (nI (sBits v p n), w) := by
  have h3 := WF_slides hF
  have h1 := WF_parts hF
  have h4 := WF_people hF
  refine lupI (fun fuel s c => fX9_knownBits_59 N i (nI n) fuel (p + 6 * i) (nI s) (nI c) w) (fun c s => s < 2 ^ v 0 0 ∧ ∀ k, s.testBit k = (decide (k < v 0 0) && (sLrn v p k n && !anyB (sKill v (v 16 (8 * p + k)) k n) c))) (v 0 6) (fun o => o = some (nI (sBits v p n), w)) ?_ ?_
  · intro f c s hc hs hk'
    have b1 := WF_snight hF c
    have b2 := WF_spart hF c hc
    have b3 := WF_learned hF (8 * p + v 14 c)
    have hP : 2 ^ v 0 0 ≤ 2 ^ 8 := Nat.pow_le_pow_right (by omega) h1
    have hs1 := hs.1
    have key : ∀ s', (s' < 2 ^ v 0 0 ∧ ∀ k, s'.testBit k = (s.testBit k && !(sLrn v p k n && sKill v (v 16 (8 * p + k)) k n c))) → fX9_knownBits_59 N i (nI n) f (p + 6 * i) (nI s') (nI (c + 1)) w = some (nI (sBits v p n), w) := by
      intro s' h'
      refine hk' s' ⟨h'.1, fun k => ?_⟩
      rw [h'.2 k, hs.2 k, anyB]
      cases decide (k < v 0 0) <;> cases sLrn v p k n <;> cases anyB (sKill v (v 16 (8 * p + k)) k n) c <;> cases sKill v (v 16 (8 * p + k)) k n c <;> rfl
    simp (disch := first | assumption | omega) only [fX9_knownBits_59, SC_slides S, SC_snight S, SC_spart S, SC_learned S, nz_bit, nz_b1, nz_b2, nz_shl, nz_not, nz_and, nz_or, ldn, ldLn, ldRn, stn, stLn, cpn, nI_ltI, nI_leI, nI_eq, lrn_lt, hc, callW_eq, Option.bind_some, li0, li1, li2, li3, li4, li5, li6, li7, li8, li9, li10, li11, li12, li13, li14, li15, li16, li17, li18, li19, li20, li21, li22, li23, li24, li25, li26, li27, li28, li29, li30, li31, li32, li33, li34, li35, li36, li37, li38, li39, li40, li41, li42, li43, li44, li45, li47, li48, li50, li56, li57, li59, li60, li61, li62, li63, li64, li90, li96, li97, li99, li100, li122, li200, li255, li256, li900, li999, li1000, li9999, li65536, li99999, li1000000, li1048576, gg_I, gg_LI, gg_RI, gg_L, gg_IL, gg_RL, gg_R, gg_IR, gg_LR, gg_row, gg_Lrow, gg_Rrow, nI_add, pk_mul, Nat.reduceEqDiff, Nat.reduceAdd, Nat.reduceSub, Nat.reduceMul, Nat.reducePow, Nat.reduceLT, Nat.reduceLeDiff, ↓reduceIte, reduceCtorEq, and_true, true_and, and_false, false_and, and_self, not_true_eq_false, not_false_eq_true, if_true, if_false]
    by_cases c1 : n < v 15 c
    · simp only [c1, if_true]
      refine key s ⟨hs1, fun k => ?_⟩
      have : sKill v (v 16 (8 * p + k)) k n c = false := by simp [sKill]; intros; omega
      simp [this]
    · simp only [c1, if_false]
      by_cases c2 : v 16 (8 * p + v 14 c) ≤ 1 ∨ v 16 (8 * p + v 14 c) - 2 < v 15 c
      · simp only [c2, if_true]
        refine key _ ⟨andnot_lt hs1, fun k => ?_⟩
        rw [bit_andnot, Nat.testBit_two_pow]
        by_cases c3 : v 14 c = k
        · subst c3
          cases hb : s.testBit (v 14 c) with
          | false => simp
          | true =>
            have hl := hs.2 (v 14 c)
            rw [hb] at hl
            have hL : sLrn v p (v 14 c) n = true := by
              cases q : sLrn v p (v 14 c) n with
              | true => rfl
              | false => rw [q] at hl; simp at hl
            have hL1 : 1 ≤ v 16 (8 * p + v 14 c) := by
              have := hL
              simp only [sLrn, Bool.and_eq_true, decide_eq_true_eq] at this
              exact this.1
            have hkill : sKill v (v 16 (8 * p + v 14 c)) (v 14 c) n c = true := by
              simp only [sKill, beq_self_eq_true, Bool.true_and, Bool.and_eq_true, Bool.or_eq_true, beq_iff_eq, decide_eq_true_eq]
              omega
            simp [hL, hkill]
        · simp [sKill, c3]
      · simp only [c2, if_false]
        refine key s ⟨hs1, fun k => ?_⟩
        by_cases c3 : v 14 c = k
        · subst c3
          have : sKill v (v 16 (8 * p + v 14 c)) (v 14 c) n c = false := by simp only [sKill]; grind
          simp [this]
        · have : sKill v (v 16 (8 * p + k)) k n c = false := by simp [sKill, c3]
          simp [this]
  · intro f s hs
    simp (disch := first | assumption | omega) only [fX9_knownBits_59, SC_slides S, nI_ltI, Nat.lt_irrefl, if_false]
    congr 3
    apply Nat.eq_of_testBit_eq
    intro k
    rw [hs.2 k, sBits, mkB_bit, sKnow, ht, Bool.true_and]
theorem c_known25 (T : TC w (gR w 13 i 0) v) (S : SC w i v) (hF : WF v) (hN : 100 ≤ N) {p n : Nat} (hp : p < v 0 1) (hn : n < 2 ^ 30) (ht : sThere v p n = true) :
    ∀ fuel c s, c ≤ v 0 0 → v 0 0 - c < fuel → s = mkB (fun k => sLrn v p k n) c →
    fX9_knownBits_25 N i (nI n) fuel (fX9_knownBits_57 N i (nI n)) (p + 6 * i) (nI n - nI (v 8 p)) (nI s) (nI c) w = some (nI (sBits v p n), w) := by
  have h3 := WF_slides hF
  have h1 := WF_parts hF
  have h4 := WF_people hF
  have h5 := WF_forget hF p
  refine lupI (fun fuel s c => fX9_knownBits_25 N i (nI n) fuel (fX9_knownBits_57 N i (nI n)) (p + 6 * i) (nI n - nI (v 8 p)) (nI s) (nI c) w) (fun c s => s = mkB (fun k => sLrn v p k n) c) (v 0 0) (fun o => o = some (nI (sBits v p n), w)) ?_ ?_
  · intro f c s hc hs hk'
    have b3 := WF_learned hF (8 * p + c)
    have e := hk' _ rfl
    simp only [mkB, ← hs] at e
    simp (disch := first | assumption | omega) only [fX9_knownBits_25, fX9_knownBits_40, TC_parts T, SC_learned S, nz_bit, nz_b1, nz_b2, nz_shl, nz_not, nz_and, nz_or, ldn, ldLn, ldRn, stn, stLn, cpn, nI_ltI, nI_leI, nI_eq, lrn_m1, hc, callW_eq, Option.bind_some, li0, li1, li2, li3, li4, li5, li6, li7, li8, li9, li10, li11, li12, li13, li14, li15, li16, li17, li18, li19, li20, li21, li22, li23, li24, li25, li26, li27, li28, li29, li30, li31, li32, li33, li34, li35, li36, li37, li38, li39, li40, li41, li42, li43, li44, li45, li47, li48, li50, li56, li57, li59, li60, li61, li62, li63, li64, li90, li96, li97, li99, li100, li122, li200, li255, li256, li900, li999, li1000, li9999, li65536, li99999, li1000000, li1048576, gg_I, gg_LI, gg_RI, gg_L, gg_IL, gg_RL, gg_R, gg_IR, gg_LR, gg_row, gg_Lrow, gg_Rrow, nI_add, pk_mul, Nat.reduceEqDiff, Nat.reduceAdd, Nat.reduceSub, Nat.reduceMul, Nat.reducePow, Nat.reduceLT, Nat.reduceLeDiff, ↓reduceIte, reduceCtorEq, and_true, true_and, and_false, false_and, and_self, not_true_eq_false, not_false_eq_true, if_true, if_false]
    by_cases c1 : v 16 (8 * p + c) = 1
    · simp only [c1, sLrn] at e ⊢
      have z : n - (1 - 2) = n := by omega
      simp (disch := first | assumption | omega) only [nz_ltsub, nz_bit, nz_b1, nz_b2, nz_shl, nz_not, nz_and, nz_or, ldn, ldLn, ldRn, stn, stLn, cpn, nI_ltI, nI_leI, nI_eq, callW_eq, Option.bind_some, li0, li1, li2, li3, li4, li5, li6, li7, li8, li9, li10, li11, li12, li13, li14, li15, li16, li17, li18, li19, li20, li21, li22, li23, li24, li25, li26, li27, li28, li29, li30, li31, li32, li33, li34, li35, li36, li37, li38, li39, li40, li41, li42, li43, li44, li45, li47, li48, li50, li56, li57, li59, li60, li61, li62, li63, li64, li90, li96, li97, li99, li100, li122, li200, li255, li256, li900, li999, li1000, li9999, li65536, li99999, li1000000, li1048576, gg_I, gg_LI, gg_RI, gg_L, gg_IL, gg_RL, gg_R, gg_IR, gg_LR, gg_row, gg_Lrow, gg_Rrow, nI_add, pk_mul, Nat.reduceEqDiff, Nat.reduceAdd, Nat.reduceSub, Nat.reduceMul, Nat.reducePow, Nat.reduceLT, Nat.reduceLeDiff, ↓reduceIte, reduceCtorEq, and_true, true_and, and_false, false_and, and_self, not_true_eq_false, not_false_eq_true, if_true, if_false]
      grind
    · simp only [c1, if_false]
      by_cases c2 : v 16 (8 * p + c) = 0
      · simp only [c2, sLrn, lrn] at e ⊢
        simp only [nz_neg2, if_true]
        simpa using e
      · rw [lrn_2 (by omega)]
        simp (disch := first | assumption | omega) only [nz_ltsub, nz_bit, nz_b1, nz_b2, nz_shl, nz_not, nz_and, nz_or, ldn, ldLn, ldRn, stn, stLn, cpn, nI_ltI, nI_leI, nI_eq, callW_eq, Option.bind_some, li0, li1, li2, li3, li4, li5, li6, li7, li8, li9, li10, li11, li12, li13, li14, li15, li16, li17, li18, li19, li20, li21, li22, li23, li24, li25, li26, li27, li28, li29, li30, li31, li32, li33, li34, li35, li36, li37, li38, li39, li40, li41, li42, li43, li44, li45, li47, li48, li50, li56, li57, li59, li60, li61, li62, li63, li64, li90, li96, li97, li99, li100, li122, li200, li255, li256, li900, li999, li1000, li9999, li65536, li99999, li1000000, li1048576, gg_I, gg_LI, gg_RI, gg_L, gg_IL, gg_RL, gg_R, gg_IR, gg_LR, gg_row, gg_Lrow, gg_Rrow, nI_add, pk_mul, Nat.reduceEqDiff, Nat.reduceAdd, Nat.reduceSub, Nat.reduceMul, Nat.reducePow, Nat.reduceLT, Nat.reduceLeDiff, ↓reduceIte, reduceCtorEq, and_true, true_and, and_false, false_and, and_self, not_true_eq_false, not_false_eq_true, if_true, if_false]
        simp only [sLrn] at e
        grind
  · intro f s hs
    have hb := WF_bd hF 0 0
    simp (disch := first | assumption | omega) only [fX9_knownBits_25, TC_parts T, nI_ltI, Nat.lt_irrefl, if_false, fX9_knownBits_57, callW_eq, li0]
    refine c_known59 T S hF hp hn ht N 0 s (by omega) (by omega) ⟨?_, fun k => ?_⟩
    · rw [hs]; exact mkB_lt _ _
    · rw [hs, mkB_bit]; simp [anyB]
theorem c_known (hR : RC w i v) (hF : WF v) (hN : 100 ≤ N) {p n : Nat} (hp : p < v 0 1) (hn : n < 2 ^ 30) : pX9_knownBits N i (nI p) (nI n) w = some (nI (sBits v p n), w) := by
  have h1 := WF_parts hF
  have h4 := WF_people hF
  have h := c_isThere (N := N) hR hF hp hn
  obtain ⟨T, S⟩ := hR
  simp only [pX9_knownBits, callW_eq, h, Option.bind_some]
  cases ht : sThere v p n with
  | false =>
    simp only [zB, li0, nz_b1, if_true]
    congr 3
    apply Nat.eq_of_testBit_eq
    intro k
    simp [sBits, mkB_bit, sKnow, ht]
  | true =>
    simp (disch := first | assumption | omega) only [zB, nz_b1, TC_forget T, nz_bit, nz_b1, nz_b2, nz_shl, nz_not, nz_and, nz_or, ldn, ldLn, ldRn, stn, stLn, cpn, nI_ltI, nI_leI, nI_eq, callW_eq, Option.bind_some, li0, li1, li2, li3, li4, li5, li6, li7, li8, li9, li10, li11, li12, li13, li14, li15, li16, li17, li18, li19, li20, li21, li22, li23, li24, li25, li26, li27, li28, li29, li30, li31, li32, li33, li34, li35, li36, li37, li38, li39, li40, li41, li42, li43, li44, li45, li47, li48, li50, li56, li57, li59, li60, li61, li62, li63, li64, li90, li96, li97, li99, li100, li122, li200, li255, li256, li900, li999, li1000, li9999, li65536, li99999, li1000000, li1048576, gg_I, gg_LI, gg_RI, gg_L, gg_IL, gg_RL, gg_R, gg_IR, gg_LR, gg_row, gg_Lrow, gg_Rrow, nI_add, pk_mul, Nat.reduceEqDiff, Nat.reduceAdd, Nat.reduceSub, Nat.reduceMul, Nat.reducePow, Nat.reduceLT, Nat.reduceLeDiff, ↓reduceIte, reduceCtorEq, and_true, true_and, and_false, false_and, and_self, not_true_eq_false, not_false_eq_true, if_true, if_false]
    exact c_known25 T S hF hN hp hn ht N 0 0 (by omega) (by omega) rfl
end

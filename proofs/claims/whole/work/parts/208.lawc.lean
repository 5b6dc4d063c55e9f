/-! ===== the law's value: the class by a stack, the reference by its knots ===== -/
theorem nz_pred {d : Nat} (h : 1 ≤ d) : nI d + -nI 1 = nI (d - 1) := by
  obtain ⟨n, rfl⟩ : ∃ n, d = n + 1 := ⟨d - 1, by omega⟩
  have := pk_m1 n
  rw [li1] at this
  simpa using this
theorem nz_xx (a : Nat) : (nI a ^^^ -nI 1) ^^^ -nI 1 = nI a := by
  rw [Int32.xor_assoc, Int32.xor_self, Int32.xor_zero]
theorem nz_xneg {a : Nat} (h : a < 2 ^ 31) : nI a ^^^ -nI 1 < nI 0 := by
  have e : nI a ^^^ -nI 1 = ~~~(nI a) := Int32.xor_neg_one
  rw [e, Int32.lt_iff_toInt_lt, Int32.toInt_not, nI_toInt h, nI_toInt (by omega), Int.bmod_eq_of_le (by omega) (by omega)]
  omega
theorem liO64 : Int32.ofNat 64 = nI 64 := rfl
theorem liO24 : Int32.ofNat 24 = nI 24 := rfl
theorem tkn_name {x : Nat} (h : x ≤ 6) {N : Nat} {w : Wd} : pX10_isName N (nI (tkn x)) w = some (nI 1, w) ∧ tkn x < 24 := by
  have : x = 0 ∨ x = 1 ∨ x = 2 ∨ x = 3 ∨ x = 4 ∨ x = 5 ∨ x = 6 := by omega
  rcases this with rfl | rfl | rfl | rfl | rfl | rfl | rfl <;> (constructor <;> simp (disch := first | assumption | omega) only [pX10_isName, tkn, nI_eq, nI_ltI, callW_eq, Option.bind_some, li0, li1, li2, li3, li4, li5, li6, li7, li8, li9, li10, li11, li12, li13, li14, li15, li16, li17, li18, li19, li20, li21, li22, li23, li24, li25, li26, li27, li28, li29, li30, li31, li32, li33, li34, li35, li36, li37, li38, li39, li40, li41, li42, li43, li44, li45, li47, li48, li50, li56, li57, li59, li60, li61, li62, li63, li64, li90, li96, li97, li99, li100, li122, li200, li255, li256, li900, li999, li1000, li9999, li65536, li99999, li1000000, li1048576, gg_I, gg_LI, gg_RI, gg_L, gg_IL, gg_RL, gg_R, gg_IR, gg_LR, gg_row, gg_Lrow, gg_Rrow, nI_add, pk_mul, Nat.reduceEqDiff, Nat.reduceAdd, Nat.reduceSub, Nat.reduceMul, Nat.reducePow, Nat.reduceLT, Nat.reduceLeDiff, ↓reduceIte, reduceCtorEq, and_true, true_and, and_false, false_and, and_self, not_true_eq_false, not_false_eq_true, if_true, if_false])
def LawC (w : Wd) (li si : Nat) (K X : Nat → Nat) (n : Nat) (nm : Nat → Int64) : Prop :=
  gI w 5 li 2 = nI n ∧ n ≤ 64 ∧ (∀ j, j < n → gI w 21 li j = enc (K j) (X j)) ∧ (∀ x, x ≤ 6 → gL w 66 si (tkn x) = nm x) ∧ (∀ j, j < n → K j ≤ 14 ∧ X j ≤ 9999 ∧ (K j = 1 → X j ≤ 6)) ∧
  (∀ j, j < n → (K j = 2 → 1 ≤ sd K j) ∧ (3 ≤ K j → 2 ≤ sd K j)) ∧ (0 < n → sd K n = 1) ∧ (∀ x, bd12 (nm x))
section
variable {N : Nat} {li si : Nat}
theorem c_wo76 (k4 : Int32 → Int32 → Wd → Option (Int64 × Wd)) (x : Int64) {d j : Nat} (w : Wd) (hd : 1 ≤ d) (hd' : d ≤ 64) :
    fX1_workOut_76 N li si k4 (nI d) (nI j) x w = match chk x with
      | none => some ((-9223372036854775808 : Int64), w)
      | some y => k4 (nI d) (nI (j + 1)) (setL w 22 li (d - 1) y) := by
  have e : nI d - nI 1 = nI (d - 1) := pk_sub hd
  unfold chk
  by_cases q : (1000000000000 : Int64) < x
  · simp only [fX1_workOut_76, lg_lt, lg_gt, lg_eq, lgn_lt, lgn_gt, lgn_eq, q, if_true]
  · by_cases q2 : x < (-1000000000000 : Int64)
    · simp only [fX1_workOut_76, lg_lt, lg_gt, lg_eq, lgn_lt, lgn_gt, lgn_eq, q, q2, if_true, if_false]
    · have q3 : ¬ 64 < d := by omega
      simp (disch := first | assumption | omega) only [fX1_workOut_76, lg_lt, lg_gt, lg_eq, lgn_lt, lgn_gt, lgn_eq, q, q2, q3, liO64, nI_ltI, stLn, e, li1, nI_add, Option.bind_some, if_true, if_false]
theorem c_workOut {n : Nat} {K X : Nat → Nat} {nm : Nat → Int64} {w0 : Wd} (hC : LawC w0 li si K X n nm) :
    ∀ fuel j w, j ≤ n → n - j < fuel → Fr [22] w0 w → (∃ t, tb nm K X j = some t ∧ (∀ i, i < j → bd12 (t i)) ∧ (∀ i, i < sd K j → gL w 22 li i = t (sp K j i))) →
    Ok (fX1_workOut_4 N li si fuel (fX1_workOut_100 N li) (nI (sd K j)) (nI j) w) (fun r => Fr [22] w0 r.2 ∧ r.1 = (evl nm K X n).getD (-9223372036854775808 : Int64)) := by
  obtain ⟨c1, c2, c3, c4, c5, c6, c7, c8⟩ := hC
  intro fuel
  induction fuel with
  | zero => intro j _ _ h; omega
  | succ f ih =>
    intro j w hj hf hfr hS
    obtain ⟨t, ht, hb, hv⟩ := hS
    have g1 : gI w 5 li 2 = nI n := ((hfr 5 li 2 rfl).1).trans c1
    have hsd := sd_le K j
    rcases Nat.lt_or_ge j n with h | h
    · have g2 : gI w 21 li j = enc (K j) (X j) := ((hfr 21 li j rfl).1).trans (c3 j h)
      have g3 : ∀ x, x ≤ 6 → gL w 66 si (tkn x) = nm x := fun x hx => ((hfr 66 si _ rfl).2.1).trans (c4 x hx)
      obtain ⟨k1, k2, k3⟩ := c5 j h
      obtain ⟨k4, k5⟩ := c6 j h
      have hup := sd_up K j
      have hlt := sp_lt K j
      /- what is left once the knot's value stands -/
      have fin : ∀ x d, d = sd K (j + 1) → 1 ≤ d → chk x = vo nm K X t j → Ok (fX1_workOut_76 N li si (fX1_workOut_4 N li si f (fX1_workOut_100 N li)) (nI d) (nI j) x w) (fun r => Fr [22] w0 r.2 ∧ r.1 = (evl nm K X n).getD (-9223372036854775808 : Int64)) := by
        intro x d hd h1 hx
        rw [c_wo76 _ _ _ h1 (by omega), hx]
        cases hy : vo nm K X t j with
        | none =>
          refine ok_some ⟨hfr, ?_⟩
          have z : tb nm K X (j + 1) = none := by rw [tb, ht, Option.bind_some, hy]; rfl
          have z2 := tb_none z (n - (j + 1))
          rw [show j + 1 + (n - (j + 1)) = n by omega] at z2
          rw [evl, if_neg (by omega), z2]
          rfl
        | some y =>
          have hby : bd12 y := by
            have := chk_some (hx.trans hy)
            rw [this.1]; exact this.2
          subst hd
          refine ih (j + 1) _ (by omega) (by omega) (Fr_setL hfr rfl) ⟨fun i => if i = j then y else t i, ?_, ?_, ?_⟩
          · rw [tb, ht, Option.bind_some, hy]; rfl
          · intro i hi
            by_cases q : i = j
            · simp only [q, if_true]; exact hby
            · simp only [q, if_false]; exact hb i (by omega)
          · intro i hi
            rw [gg_L, sp]
            by_cases q : i + 1 = sd K (j + 1)
            · have : i = sd K (j + 1) - 1 := by omega
              rw [if_pos ⟨rfl, rfl, this⟩, if_pos q]
              exact (if_pos rfl).symm
            · have q2 : sp K j i < j := hlt i (by omega)
              rw [if_neg (fun z => q (by have := z.2.2; omega)), if_neg q]
              show _ = if sp K j i = j then y else t (sp K j i)
              rw [if_neg (by omega)]
              exact hv i (by omega)
      by_cases q0 : K j = 0
      · have e := fin (lN (X j)) (sd K j + 1) (by rw [sd, if_pos (by omega)]) (by omega) (by rw [chk_of (bd_N (by omega)), vo, if_pos q0])
        have : enc (K j) (X j) = nI (X j) := if_pos q0
        simp (disch := first | assumption | omega) only [fX1_workOut_4, g1, g2, this, h, nz_ge0, nI_l, nz_bit, nz_b1, nz_b2, nz_shl, nz_not, nz_and, nz_or, ldn, ldLn, ldRn, stn, stLn, cpn, nI_ltI, nI_leI, nI_eq, callW_eq, Option.bind_some, li0, li1, li2, li3, li4, li5, li6, li7, li8, li9, li10, li11, li12, li13, li14, li15, li16, li17, li18, li19, li20, li21, li22, li23, li24, li25, li26, li27, li28, li29, li30, li31, li32, li33, li34, li35, li36, li37, li38, li39, li40, li41, li42, li43, li44, li45, li47, li48, li50, li56, li57, li59, li60, li61, li62, li63, li64, li90, li96, li97, li99, li100, li122, li200, li255, li256, li900, li999, li1000, li9999, li65536, li99999, li1000000, li1048576, gg_I, gg_LI, gg_RI, gg_L, gg_IL, gg_RL, gg_R, gg_IR, gg_LR, gg_row, gg_Lrow, gg_Rrow, nI_add, pk_mul, Nat.reduceEqDiff, Nat.reduceAdd, Nat.reduceSub, Nat.reduceMul, Nat.reducePow, Nat.reduceLT, Nat.reduceLeDiff, ↓reduceIte, reduceCtorEq, and_true, true_and, and_false, false_and, and_self, not_true_eq_false, not_false_eq_true, if_true, if_false]
        exact e
      · by_cases q1 : K j = 1
        · have e := fin (nm (X j)) (sd K j + 1) (by rw [sd, if_pos (by omega)]) (by omega) (by rw [chk_of (c8 _), vo, if_neg q0, if_pos q1])
          obtain ⟨p1, p2⟩ := tkn_name (k3 q1) (N := N) (w := w)
          have : enc (K j) (X j) = nI (tkn (X j)) ^^^ -nI 1 := by rw [enc, if_neg q0, if_pos q1]
          simp (disch := first | assumption | omega) only [fX1_workOut_4, g1, g2, this, h, nz_xneg, nz_xx, p1, liO24, p2, g3 (X j) (k3 q1), nz_bit, nz_b1, nz_b2, nz_shl, nz_not, nz_and, nz_or, ldn, ldLn, ldRn, stn, stLn, cpn, nI_ltI, nI_leI, nI_eq, callW_eq, Option.bind_some, li0, li1, li2, li3, li4, li5, li6, li7, li8, li9, li10, li11, li12, li13, li14, li15, li16, li17, li18, li19, li20, li21, li22, li23, li24, li25, li26, li27, li28, li29, li30, li31, li32, li33, li34, li35, li36, li37, li38, li39, li40, li41, li42, li43, li44, li45, li47, li48, li50, li56, li57, li59, li60, li61, li62, li63, li64, li90, li96, li97, li99, li100, li122, li200, li255, li256, li900, li999, li1000, li9999, li65536, li99999, li1000000, li1048576, gg_I, gg_LI, gg_RI, gg_L, gg_IL, gg_RL, gg_R, gg_IR, gg_LR, gg_row, gg_Lrow, gg_Rrow, nI_add, pk_mul, Nat.reduceEqDiff, Nat.reduceAdd, Nat.reduceSub, Nat.reduceMul, Nat.reducePow, Nat.reduceLT, Nat.reduceLeDiff, ↓reduceIte, reduceCtorEq, and_true, true_and, and_false, false_and, and_self, not_true_eq_false, not_false_eq_true, if_true, if_false]
          exact e
        · have henc : enc (K j) (X j) = nI (tko (K j)) ^^^ -nI 1 := by rw [enc, if_neg q0, if_neg q1]
          have step : ∀ (W : Option (Int64 × Wd)), fX1_workOut_37 N li si (fX1_workOut_4 N li si f (fX1_workOut_100 N li)) (nI (sd K j)) (nI j) (nI (tko (K j))) w = W → fX1_workOut_4 N li si (f + 1) (fX1_workOut_100 N li) (nI (sd K j)) (nI j) w = W := by
            intro W hW
            subst hW
            have hK : K j = 2 ∨ K j = 3 ∨ K j = 4 ∨ (5 ≤ K j ∧ K j ≤ 10) ∨ (11 ≤ K j ∧ K j ≤ 14) := by omega
            have ht31 : tko (K j) < 100 ∧ (tko (K j) = 18 ∨ tko (K j) = 17 ∨ tko (K j) = 16 ∨ 24 ≤ tko (K j)) := by
              rcases hK with q | q | q | q | q
              · rw [q]; decide
              · rw [q]; decide
              · rw [q]; decide
              · unfold tko
                split <;> first | omega | (split <;> omega)
              · unfold tko
                split <;> first | omega | (split <;> omega)
            simp (disch := first | assumption | omega) only [fX1_workOut_4, g1, g2, henc, h, nz_xneg, nz_xx, liO24, nz_bit, nz_b1, nz_b2, nz_shl, nz_not, nz_and, nz_or, ldn, ldLn, ldRn, stn, stLn, cpn, nI_ltI, nI_leI, nI_eq, callW_eq, Option.bind_some, li0, li1, li2, li3, li4, li5, li6, li7, li8, li9, li10, li11, li12, li13, li14, li15, li16, li17, li18, li19, li20, li21, li22, li23, li24, li25, li26, li27, li28, li29, li30, li31, li32, li33, li34, li35, li36, li37, li38, li39, li40, li41, li42, li43, li44, li45, li47, li48, li50, li56, li57, li59, li60, li61, li62, li63, li64, li90, li96, li97, li99, li100, li122, li200, li255, li256, li900, li999, li1000, li9999, li65536, li99999, li1000000, li1048576, gg_I, gg_LI, gg_RI, gg_L, gg_IL, gg_RL, gg_R, gg_IR, gg_LR, gg_row, gg_Lrow, gg_Rrow, nI_add, pk_mul, Nat.reduceEqDiff, Nat.reduceAdd, Nat.reduceSub, Nat.reduceMul, Nat.reducePow, Nat.reduceLT, Nat.reduceLeDiff, ↓reduceIte, reduceCtorEq, and_true, true_and, and_false, false_and, and_self, not_true_eq_false, not_false_eq_true, if_true, if_false]
            generalize tko (K j) = T at *
            rcases ht31.2 with q | q | q | q
            · subst q; simp (disch := first | assumption | omega) only [pX10_isName, nz_bit, nz_b1, nz_b2, nz_shl, nz_not, nz_and, nz_or, ldn, ldLn, ldRn, stn, stLn, cpn, nI_ltI, nI_leI, nI_eq, callW_eq, Option.bind_some, li0, li1, li2, li3, li4, li5, li6, li7, li8, li9, li10, li11, li12, li13, li14, li15, li16, li17, li18, li19, li20, li21, li22, li23, li24, li25, li26, li27, li28, li29, li30, li31, li32, li33, li34, li35, li36, li37, li38, li39, li40, li41, li42, li43, li44, li45, li47, li48, li50, li56, li57, li59, li60, li61, li62, li63, li64, li90, li96, li97, li99, li100, li122, li200, li255, li256, li900, li999, li1000, li9999, li65536, li99999, li1000000, li1048576, gg_I, gg_LI, gg_RI, gg_L, gg_IL, gg_RL, gg_R, gg_IR, gg_LR, gg_row, gg_Lrow, gg_Rrow, nI_add, pk_mul, Nat.reduceEqDiff, Nat.reduceAdd, Nat.reduceSub, Nat.reduceMul, Nat.reducePow, Nat.reduceLT, Nat.reduceLeDiff, ↓reduceIte, reduceCtorEq, and_true, true_and, and_false, false_and, and_self, not_true_eq_false, not_false_eq_true, if_true, if_false]
            · subst q; simp (disch := first | assumption | omega) only [pX10_isName, nz_bit, nz_b1, nz_b2, nz_shl, nz_not, nz_and, nz_or, ldn, ldLn, ldRn, stn, stLn, cpn, nI_ltI, nI_leI, nI_eq, callW_eq, Option.bind_some, li0, li1, li2, li3, li4, li5, li6, li7, li8, li9, li10, li11, li12, li13, li14, li15, li16, li17, li18, li19, li20, li21, li22, li23, li24, li25, li26, li27, li28, li29, li30, li31, li32, li33, li34, li35, li36, li37, li38, li39, li40, li41, li42, li43, li44, li45, li47, li48, li50, li56, li57, li59, li60, li61, li62, li63, li64, li90, li96, li97, li99, li100, li122, li200, li255, li256, li900, li999, li1000, li9999, li65536, li99999, li1000000, li1048576, gg_I, gg_LI, gg_RI, gg_L, gg_IL, gg_RL, gg_R, gg_IR, gg_LR, gg_row, gg_Lrow, gg_Rrow, nI_add, pk_mul, Nat.reduceEqDiff, Nat.reduceAdd, Nat.reduceSub, Nat.reduceMul, Nat.reducePow, Nat.reduceLT, Nat.reduceLeDiff, ↓reduceIte, reduceCtorEq, and_true, true_and, and_false, false_and, and_self, not_true_eq_false, not_false_eq_true, if_true, if_false]
            · subst q; simp (disch := first | assumption | omega) only [pX10_isName, nz_bit, nz_b1, nz_b2, nz_shl, nz_not, nz_and, nz_or, ldn, ldLn, ldRn, stn, stLn, cpn, nI_ltI, nI_leI, nI_eq, callW_eq, Option.bind_some, li0, li1, li2, li3, li4, li5, li6, li7, li8, li9, li10, li11, li12, li13, li14, li15, li16, li17, li18, li19, li20, li21, li22, li23, li24, li25, li26, li27, li28, li29, li30, li31, li32, li33, li34, li35, li36, li37, li38, li39, li40, li41, li42, li43, li44, li45, li47, li48, li50, li56, li57, li59, li60, li61, li62, li63, li64, li90, li96, li97, li99, li100, li122, li200, li255, li256, li900, li999, li1000, li9999, li65536, li99999, li1000000, li1048576, gg_I, gg_LI, gg_RI, gg_L, gg_IL, gg_RL, gg_R, gg_IR, gg_LR, gg_row, gg_Lrow, gg_Rrow, nI_add, pk_mul, Nat.reduceEqDiff, Nat.reduceAdd, Nat.reduceSub, Nat.reduceMul, Nat.reducePow, Nat.reduceLT, Nat.reduceLeDiff, ↓reduceIte, reduceCtorEq, and_true, true_and, and_false, false_and, and_self, not_true_eq_false, not_false_eq_true, if_true, if_false]
            · have : ¬ T < 24 := by omega
              simp only [this, if_false]
          by_cases q2 : K j = 2
          · have hd1 := k4 q2
            have hvt := hv (sd K j - 1) (by omega)
            have e1 : nI (sd K j) - nI 1 = nI (sd K j - 1) := pk_sub hd1
            have hvo : vo nm K X t j = some (if t (sp K j (sd K j - 1)) = 0 then 1 else 0) := by rw [vo, if_neg q0, if_neg q1, if_pos q2]
            have hsd1 : sd K j = sd K (j + 1) := by rw [sd, if_neg (by omega), if_pos q2]
            have ek : tko (K j) = 18 := by rw [q2]; rfl
            refine step _ rfl |> fun z => z ▸ ?_
            simp (disch := first | assumption | omega) only [fX1_workOut_37, fX1_workOut_54, ek, e1, hvt, hd1, lg_lt, lg_gt, lg_eq, lgn_lt, lgn_gt, lgn_eq, nz_bit, nz_b1, nz_b2, nz_shl, nz_not, nz_and, nz_or, ldn, ldLn, ldRn, stn, stLn, cpn, nI_ltI, nI_leI, nI_eq, callW_eq, Option.bind_some, li0, li1, li2, li3, li4, li5, li6, li7, li8, li9, li10, li11, li12, li13, li14, li15, li16, li17, li18, li19, li20, li21, li22, li23, li24, li25, li26, li27, li28, li29, li30, li31, li32, li33, li34, li35, li36, li37, li38, li39, li40, li41, li42, li43, li44, li45, li47, li48, li50, li56, li57, li59, li60, li61, li62, li63, li64, li90, li96, li97, li99, li100, li122, li200, li255, li256, li900, li999, li1000, li9999, li65536, li99999, li1000000, li1048576, gg_I, gg_LI, gg_RI, gg_L, gg_IL, gg_RL, gg_R, gg_IR, gg_LR, gg_row, gg_Lrow, gg_Rrow, nI_add, pk_mul, Nat.reduceEqDiff, Nat.reduceAdd, Nat.reduceSub, Nat.reduceMul, Nat.reducePow, Nat.reduceLT, Nat.reduceLeDiff, ↓reduceIte, reduceCtorEq, and_true, true_and, and_false, false_and, and_self, not_true_eq_false, not_false_eq_true, if_true, if_false]
            rw [if_pos (by omega)]
            by_cases qz : t (sp K j (sd K j - 1)) = 0
            · simp only [qz, if_true]
              exact fin 1 _ hsd1 hd1 (by rw [chk_of bd_1, hvo, if_pos qz])
            · simp only [qz, if_false]
              exact fin 0 _ hsd1 hd1 (by rw [chk_of bd_0, hvo, if_neg qz])
          · have hd2 := k5 (by omega)
            have hv1 := hv (sd K j - 1) (by omega)
            have hv2 := hv (sd K j - 2) (by omega)
            have e1 : nI (sd K j - 1) - nI 1 = nI (sd K j - 2) := by rw [pk_sub (by omega)]; rfl
            have hvo : vo nm K X t j = jn (K j) (t (sp K j (sd K j - 2))) (t (sp K j (sd K j - 1))) := by rw [vo, if_neg q0, if_neg q1, if_neg q2]
            have hsd1 : sd K j - 1 = sd K (j + 1) := by rw [sd, if_neg (by omega), if_neg q2]
            have ek : tko (K j) ≠ 18 ∧ tko (K j) < 100 := by
              have hK : K j = 3 ∨ K j = 4 ∨ (5 ≤ K j ∧ K j ≤ 10) ∨ (11 ≤ K j ∧ K j ≤ 14) := by omega
              rcases hK with q | q | q | q
              · rw [q]; decide
              · rw [q]; decide
              · unfold tko
                split <;> first | omega | (split <;> omega)
              · unfold tko
                split <;> first | omega | (split <;> omega)
            have ek1 := ek.1
            have ek2 := ek.2
            refine step _ rfl |> fun z => z ▸ ?_
            simp (disch := first | assumption | omega) only [fX1_workOut_37, fX1_workOut_56, ek1, e1, nz_pred, hv1, hv2, nz_bit, nz_b1, nz_b2, nz_shl, nz_not, nz_and, nz_or, ldn, ldLn, ldRn, stn, stLn, cpn, nI_ltI, nI_leI, nI_eq, callW_eq, Option.bind_some, li0, li1, li2, li3, li4, li5, li6, li7, li8, li9, li10, li11, li12, li13, li14, li15, li16, li17, li18, li19, li20, li21, li22, li23, li24, li25, li26, li27, li28, li29, li30, li31, li32, li33, li34, li35, li36, li37, li38, li39, li40, li41, li42, li43, li44, li45, li47, li48, li50, li56, li57, li59, li60, li61, li62, li63, li64, li90, li96, li97, li99, li100, li122, li200, li255, li256, li900, li999, li1000, li9999, li65536, li99999, li1000000, li1048576, gg_I, gg_LI, gg_RI, gg_L, gg_IL, gg_RL, gg_R, gg_IR, gg_LR, gg_row, gg_Lrow, gg_Rrow, nI_add, pk_mul, Nat.reduceEqDiff, Nat.reduceAdd, Nat.reduceSub, Nat.reduceMul, Nat.reducePow, Nat.reduceLT, Nat.reduceLeDiff, ↓reduceIte, reduceCtorEq, and_true, true_and, and_false, false_and, and_self, not_true_eq_false, not_false_eq_true, if_true, if_false]
            rw [if_pos (by omega)]
            have hjn := c_join (N := N) (w := w) (show 3 ≤ K j by omega) k1 (hb _ (hlt (sd K j - 2) (by omega))) (hb _ (hlt (sd K j - 1) (by omega)))
            refine ok_bind hjn ?_
            rintro ⟨x, w1⟩ ⟨hw1, hx⟩
            simp only at hw1
            subst hw1
            exact fin x _ hsd1 (by omega) (by rw [hx, hvo])
    · have : j = n := by omega
      subst this
      simp (disch := first | assumption | omega) only [fX1_workOut_4, g1, nI_ltI, Nat.lt_irrefl, if_false, fX1_workOut_100, nI_eq, li1]
      rcases Nat.eq_zero_or_pos j with q | q
      · subst q
        rw [if_neg (by rw [sd]; omega)]
        exact ok_some ⟨hfr, rfl⟩
      · have hs := c7 q
        rw [if_pos hs, li0, ldLn (by omega) (by omega), Option.bind_some]
        refine ok_some ⟨hfr, ?_⟩
        show gL w 22 li 0 = _
        have e := hv 0 (by omega)
        rw [e, evl, if_neg (by omega), ht]
        obtain ⟨m, rfl⟩ : ∃ m, j = m + 1 := ⟨j - 1, by omega⟩
        have : sp K (m + 1) 0 = m := by rw [sp, if_pos (by omega)]
        rw [this]
        rfl
end

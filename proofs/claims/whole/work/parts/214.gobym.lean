/-! ===== a night: the reference ===== -/
def ST (w : Wd) (v : Vw) : Prop := ∀ a b, a < v 0 0 → b < v 0 0 → gI w 107 0 (8 * a + b) = nI (gD (v 3) (v 0 0) (2 ^ v 0 0 - 1) a b)
theorem ST_fr {l : List Nat} {w w' : Wd} {v : Vw} (f : Fr l w w') (T : ST w v) (hl : l.contains 107 = false := by decide) : ST w' v := fun a b ha hb => by
  rw [(f 107 0 _ hl).1]; exact T a b ha hb
theorem ST_mr {w : Wd} {v v' : Vw} (h : ∀ r j, mr r j → v' r j = v r j) (T : ST w v) : ST w v' := by
  have e3 : v' 3 = v 3 := by funext j; exact h 3 j (by simp [mr])
  have e0 : v' 0 0 = v 0 0 := h 0 0 (by simp [mr])
  unfold ST at T ⊢
  rw [e0, e3]
  exact T
/-- the reference: all but the night -/
def RM (w : Wd) (b : Nat) (v : Vw) : Prop := TM w v ∧ SM w b v ∧ TL w v ∧ ST w v
def kRM : List Nat := kTM ++ kSM ++ kTL ++ [107]
theorem RM_fr {l : List Nat} {w w' : Wd} {b : Nat} {v : Vw} (f : Fr l w w') (T : RM w b v) (hl : dis l kRM = true := by decide) : RM w' b v :=
  ⟨TM_fr f T.1 (dis_sub hl (by decide)), SM_fr f T.2.1 (dis_sub hl (by decide)), TL_fr f T.2.2.1 (dis_sub hl (by decide)), ST_fr f T.2.2.2 (dis_of hl (by decide))⟩
/-- the reference's other half of the people's rows -/
def BFr (b : Nat) (w w' : Wd) : Prop := (∀ k j, k = 101 ∨ k = 102 → j / 48 ≠ b → gI w' k 0 j = gI w k 0 j) ∧ (∀ k j, k = 103 ∨ k = 104 ∨ k = 105 → j / 6 ≠ b → gI w' k 0 j = gI w k 0 j) ∧ (∀ j, j ≠ b → gL w' 106 0 j = gL w 106 0 j)
theorem BFr_refl (b : Nat) (w : Wd) : BFr b w w := ⟨fun _ _ _ _ => rfl, fun _ _ _ _ => rfl, fun _ _ => rfl⟩
theorem BFr_trans {b : Nat} {w w1 w2 : Wd} (h : BFr b w w1) (h2 : BFr b w1 w2) : BFr b w w2 :=
  ⟨fun k j a c => (h2.1 k j a c).trans (h.1 k j a c), fun k j a c => (h2.2.1 k j a c).trans (h.2.1 k j a c), fun j a => (h2.2.2 j a).trans (h.2.2 j a)⟩
def kBf : List Nat := [101, 102, 103, 104, 105, 106]
theorem BFr_fr {b : Nat} {l : List Nat} {w w1 : Wd} (f : Fr l w w1) (hl : dis l kBf = true := by decide) : BFr b w w1 := by
  refine ⟨fun k j a _ => ?_, fun k j a _ => ?_, fun j _ => (f 106 0 j (dis_of hl (k := 106) (by decide))).2.1⟩
  · rcases a with rfl | rfl
    · exact (f 101 0 j (dis_of hl (k := 101) (by decide))).1
    · exact (f 102 0 j (dis_of hl (k := 102) (by decide))).1
  · rcases a with rfl | rfl | rfl
    · exact (f 103 0 j (dis_of hl (k := 103) (by decide))).1
    · exact (f 104 0 j (dis_of hl (k := 104) (by decide))).1
    · exact (f 105 0 j (dis_of hl (k := 105) (by decide))).1
theorem BFr_set {b : Nat} {w w1 : Wd} {k j : Nat} {x : Int32} (h : BFr b w w1) (hk : (k = 101 ∨ k = 102) ∧ j / 48 = b ∨ (k = 103 ∨ k = 104 ∨ k = 105) ∧ j / 6 = b) : BFr b w (setI w1 k 0 j x) := by
  refine ⟨fun k' j' a c => ?_, fun k' j' a c => ?_, h.2.2⟩
  · rw [gg_I, if_neg (fun z => by obtain ⟨rfl, _, rfl⟩ := z; omega)]; exact h.1 k' j' a c
  · rw [gg_I, if_neg (fun z => by obtain ⟨rfl, _, rfl⟩ := z; omega)]; exact h.2.1 k' j' a c
theorem BFr_setL {b : Nat} {w w1 : Wd} {x : Int64} (h : BFr b w w1) : BFr b w (setL w1 106 0 b x) := by
  refine ⟨h.1, h.2.1, fun j a => ?_⟩
  rw [gg_L, if_neg (fun z => a z.2.2)]; exact h.2.2 j a
theorem SM_bfr {b b' : Nat} {w w' : Wd} {v : Vw} (f : BFr b' w w') (hb : b ≠ b') (hp : v 0 1 ≤ 6) (S : SM w b v) : SM w' b v := by
  refine ⟨?_, ?_, ?_, ?_, ?_⟩
  · intro p k h1 h2; rw [f.1 101 _ (by omega) (by omega)]; exact SM_learned S p k h1 h2
  · intro p k h1 h2; rw [f.1 102 _ (by omega) (by omega)]; exact SM_fresh S p k h1 h2
  · intro p h1; rw [f.2.1 103 _ (by omega) (by omega)]; exact SM_gone S p h1
  · intro p h1; rw [f.2.1 104 _ (by omega) (by omega)]; exact SM_times S p h1
  · intro p h1; rw [f.2.1 105 _ (by omega) (by omega)]; exact SM_lost S p h1
section
variable {N : Nat} {w : Wd} {b : Nat} {v : Vw}
theorem m_isSpoilt (hR : RM w b v) (hF : WF v) (hb : b ≤ 1) (hN : 100 ≤ N) {p : Nat} (hp : p < v 0 1) (h19 : v 19 p ≠ 0) : pX12_isSpoilt N (nI b) (nI p) w = some (zB (sSpo v p), w) := by
  have h1 := WF_people hF
  have h2 := WF_parts hF
  have h4 := WF_near hF
  obtain ⟨T, S, L, D⟩ := hR
  have key : ∀ fuel c, c ≤ v 0 1 → v 0 1 - c < fuel → anyB (fun q => q != p && (v 19 q != 0 && sNear v (v 19 p - 1) (v 19 q - 1))) c = false →
      fX12_isSpoilt_2 N (nI b) (nI p) fuel (nI c) w = some (zB (sSpo v p), w) := by
    intro fuel
    induction fuel with
    | zero => intro c _ h; omega
    | succ f ih =>
      intro c hc hf hno
      rcases Nat.lt_or_ge c (v 0 1) with h | h
      · have bc := WF_lost hF c
        have bp := WF_lost hF p
        have hl : gI w 105 0 (6 * b + c) = lst (v 19 c) := SM_lost S c h
        have hlp : gI w 105 0 (6 * b + p) = nI (v 19 p - 1) := by rw [SM_lost S p hp, lst_pos h19]
        by_cases q1 : c = p
        · have e := ih (c + 1) (by omega) (by omega) (by rw [anyB, hno, q1]; simp)
          simp (disch := first | assumption | omega) only [fX12_isSpoilt_2, TM_people T, h, q1, nz_bit, nz_b1, nz_b2, nz_shl, nz_not, nz_and, nz_or, ldn, ldLn, ldRn, stn, stLn, cpn, nI_ltI, nI_leI, nI_eq, callW_eq, Option.bind_some, li0, li1, li2, li3, li4, li5, li6, li7, li8, li9, li10, li11, li12, li13, li14, li15, li16, li17, li18, li19, li20, li21, li22, li23, li24, li25, li26, li27, li28, li29, li30, li31, li32, li33, li34, li35, li36, li37, li38, li39, li40, li41, li42, li43, li44, li45, li47, li48, li50, li56, li57, li59, li60, li61, li62, li63, li64, li90, li96, li97, li99, li100, li122, li200, li255, li256, li900, li999, li1000, li9999, li65536, li99999, li1000000, li1048576, gg_I, gg_LI, gg_RI, gg_L, gg_IL, gg_RL, gg_R, gg_IR, gg_LR, gg_row, gg_Lrow, gg_Rrow, nI_add, pk_mul, Nat.reduceEqDiff, Nat.reduceAdd, Nat.reduceSub, Nat.reduceMul, Nat.reducePow, Nat.reduceLT, Nat.reduceLeDiff, ↓reduceIte, reduceCtorEq, and_true, true_and, and_false, false_and, and_self, not_true_eq_false, not_false_eq_true, if_true, if_false]
          rw [q1] at e h
          simpa [h] using e
        · by_cases q2 : v 19 c = 0
          · have e := ih (c + 1) (by omega) (by omega) (by rw [anyB, hno, q2]; simp)
            have e1 : lst (v 19 c) = -nI 1 := by rw [q2]; rfl
            simp (disch := first | assumption | omega) only [fX12_isSpoilt_2, TM_people T, hl, e1, nz_neg1, h, q1, nz_bit, nz_b1, nz_b2, nz_shl, nz_not, nz_and, nz_or, ldn, ldLn, ldRn, stn, stLn, cpn, nI_ltI, nI_leI, nI_eq, callW_eq, Option.bind_some, li0, li1, li2, li3, li4, li5, li6, li7, li8, li9, li10, li11, li12, li13, li14, li15, li16, li17, li18, li19, li20, li21, li22, li23, li24, li25, li26, li27, li28, li29, li30, li31, li32, li33, li34, li35, li36, li37, li38, li39, li40, li41, li42, li43, li44, li45, li47, li48, li50, li56, li57, li59, li60, li61, li62, li63, li64, li90, li96, li97, li99, li100, li122, li200, li255, li256, li900, li999, li1000, li9999, li65536, li99999, li1000000, li1048576, gg_I, gg_LI, gg_RI, gg_L, gg_IL, gg_RL, gg_R, gg_IR, gg_LR, gg_row, gg_Lrow, gg_Rrow, nI_add, pk_mul, Nat.reduceEqDiff, Nat.reduceAdd, Nat.reduceSub, Nat.reduceMul, Nat.reducePow, Nat.reduceLT, Nat.reduceLeDiff, ↓reduceIte, reduceCtorEq, and_true, true_and, and_false, false_and, and_self, not_true_eq_false, not_false_eq_true, if_true, if_false]
            exact e
          · have e1 := lst_pos q2
            have e2 : ¬ nI (v 19 c - 1) < nI 0 := nz_ge0 (by omega)
            have hd := D (v 19 p - 1) (v 19 c - 1) (by omega) (by omega)
            have hlt : gD (v 3) (v 0 0) (2 ^ v 0 0 - 1) (v 19 p - 1) (v 19 c - 1) < 2 ^ 31 := by
              rcases gD_lt (v 3) (v 0 0) (2 ^ v 0 0 - 1) (v 19 p - 1) (v 19 c - 1) with z | z <;> omega
            simp (disch := first | assumption | omega) only [fX12_isSpoilt_2, TM_people T, TM_near T, hl, hlp, hd, e1, e2, q1, h, nz_bit, nz_b1, nz_b2, nz_shl, nz_not, nz_and, nz_or, ldn, ldLn, ldRn, stn, stLn, cpn, nI_ltI, nI_leI, nI_eq, callW_eq, Option.bind_some, li0, li1, li2, li3, li4, li5, li6, li7, li8, li9, li10, li11, li12, li13, li14, li15, li16, li17, li18, li19, li20, li21, li22, li23, li24, li25, li26, li27, li28, li29, li30, li31, li32, li33, li34, li35, li36, li37, li38, li39, li40, li41, li42, li43, li44, li45, li47, li48, li50, li56, li57, li59, li60, li61, li62, li63, li64, li90, li96, li97, li99, li100, li122, li200, li255, li256, li900, li999, li1000, li9999, li65536, li99999, li1000000, li1048576, gg_I, gg_LI, gg_RI, gg_L, gg_IL, gg_RL, gg_R, gg_IR, gg_LR, gg_row, gg_Lrow, gg_Rrow, nI_add, pk_mul, Nat.reduceEqDiff, Nat.reduceAdd, Nat.reduceSub, Nat.reduceMul, Nat.reducePow, Nat.reduceLT, Nat.reduceLeDiff, ↓reduceIte, reduceCtorEq, and_true, true_and, and_false, false_and, and_self, not_true_eq_false, not_false_eq_true, if_true, if_false]
            by_cases q3 : gD (v 3) (v 0 0) (2 ^ v 0 0 - 1) (v 19 p - 1) (v 19 c - 1) ≤ v 0 4
            · have hq : (c != p && (v 19 c != 0 && sNear v (v 19 p - 1) (v 19 c - 1))) = true := by simp [q1, q2, sNear, q3]
              have hany : sSpo v p = true := anyB_true.mpr ⟨c, h, hq⟩
              rw [hany, if_neg (by omega), zB_t]
            · have hq : (c != p && (v 19 c != 0 && sNear v (v 19 p - 1) (v 19 c - 1))) = false := by simp [q1, q2, sNear, q3]
              have e := ih (c + 1) (by omega) (by omega) (by rw [anyB, hno, hq]; rfl)
              rw [if_pos (by omega)]
              exact e
      · have : c = v 0 1 := by omega
        subst this
        have hno' : sSpo v p = false := hno
        simp (disch := first | assumption | exact WF_b31 (by assumption) _ _ | omega) only [fX12_isSpoilt_2, TM_people T, nI_ltI, Nat.lt_irrefl, if_false, hno', zB_f, li0]
  unfold pX12_isSpoilt
  rw [callW_eq, li0]
  exact key N 0 (by omega) (by omega) rfl
def kNm : List Nat := [17063, 99, 100, 101, 102, 103, 104, 105, 106, 110]
def chI (v : Vw) (n p : Nat) : Int32 := if v 19 p = 0 then -nI 1 else nI (sCh v p (v 19 p - 1) n (sAr v p (v 19 p - 1) n) (v 18 p))
theorem ldb {w : Wd} {k i j n : Nat} {β : Type} (f : Int32 → Option β) (h : j < n) (hn : n < 2 ^ 31) : (ldI w k i (nI j) n).bind f = f (gI w k i j) := by rw [ldn h hn]; rfl
theorem ldLb {w : Wd} {k i j n : Nat} {β : Type} (f : Int64 → Option β) (h : j < n) (hn : n < 2 ^ 31) : (ldL w k i (nI j) n).bind f = f (gL w k i j) := by rw [ldLn h hn]; rfl
theorem ldRb {i j n : Nat} {β : Type} (f : Nat → Option β) (h : j < n) (hn : n < 2 ^ 31) : (ldR (nI j) n i).bind f = f (j + n * i) := by rw [ldRn h hn]; rfl
theorem stb {w : Wd} {k i j n : Nat} {x : Int32} {β : Type} (f : Wd → Option β) (h : j < n) (hn : n < 2 ^ 31) : (stI w k i (nI j) n x).bind f = f (setI w k i j x) := by rw [stn h hn]; rfl
theorem stLb {w : Wd} {k i j n : Nat} {x : Int64} {β : Type} (f : Wd → Option β) (h : j < n) (hn : n < 2 ^ 31) : (stL w k i (nI j) n x).bind f = f (setL w k i j x) := by rw [stLn h hn]; rfl
theorem m_go2 (hR : RM w b v) (hF : WF v) (hL : WL v) (hb : b ≤ 1) (hN : 100 ≤ N) {n : Nat} (hn : n < 2 ^ 30) {Q : Wd → Prop} (k36 : Wd → Option Wd)
    (hk : ∀ w1, (Fr [17063, 99, 100, 110] w w1 ∧ ∀ p, p < v 0 1 → gI w1 110 0 p = chI v n p) → Ok (k36 w1) Q) :
    ∀ fuel c w1, c ≤ v 0 1 → v 0 1 - c < fuel → (Fr [17063, 99, 100, 110] w w1 ∧ ∀ p, p < c → gI w1 110 0 p = chI v n p) → Ok (fX12_goesBy_2 N (nI b) (nI n) fuel k36 (nI c) w1) Q := by
  have h1 := WF_people hF
  have h2 := WF_parts hF
  intro fuel
  induction fuel with
  | zero => intro c _ _ h; omega
  | succ f ih =>
    intro c w1 hc hf hI
    obtain ⟨T, S, L, D⟩ := RM_fr hI.1 hR
    rcases Nat.lt_or_ge c (v 0 1) with h | h
    · have bc := WF_lost hF c
      have hl : gI w1 105 0 (6 * b + c) = lst (v 19 c) := SM_lost S c h
      by_cases q : v 19 c = 0
      · have e1 : lst (v 19 c) = -nI 1 := by rw [q]; rfl
        simp (disch := first | assumption | omega) only [fX12_goesBy_2, TM_people T, hl, e1, nz_neg1, h, nz_bit, nz_b1, nz_b2, nz_shl, nz_not, nz_and, nz_or, ldn, ldLn, ldRn, stn, stLn, cpn, nI_ltI, nI_leI, nI_eq, callW_eq, Option.bind_some, li0, li1, li2, li3, li4, li5, li6, li7, li8, li9, li10, li11, li12, li13, li14, li15, li16, li17, li18, li19, li20, li21, li22, li23, li24, li25, li26, li27, li28, li29, li30, li31, li32, li33, li34, li35, li36, li37, li38, li39, li40, li41, li42, li43, li44, li45, li47, li48, li50, li56, li57, li59, li60, li61, li62, li63, li64, li90, li96, li97, li99, li100, li122, li200, li255, li256, li900, li999, li1000, li9999, li65536, li99999, li1000000, li1048576, gg_I, gg_LI, gg_RI, gg_L, gg_IL, gg_RL, gg_R, gg_IR, gg_LR, gg_row, gg_Lrow, gg_Rrow, nI_add, pk_mul, Nat.reduceEqDiff, Nat.reduceAdd, Nat.reduceSub, Nat.reduceMul, Nat.reducePow, Nat.reduceLT, Nat.reduceLeDiff, ↓reduceIte, reduceCtorEq, and_true, true_and, and_false, false_and, and_self, not_true_eq_false, not_false_eq_true, if_true, if_false]
        refine ih (c + 1) _ (by omega) (by omega) ⟨Fr_setI hI.1 rfl, fun p hp => ?_⟩
        rw [gg_I]
        by_cases q3 : p = c
        · rw [if_pos ⟨rfl, rfl, q3⟩, q3, chI, if_pos q]
        · rw [if_neg (fun z => q3 z.2.2)]; exact hI.2 p (by omega)
      · have e1 := lst_pos q
        have e2 : ¬ nI (v 19 c - 1) < nI 0 := nz_ge0 (by omega)
        simp (disch := first | assumption | omega) only [fX12_goesBy_2, TM_people T, hl, e1, e2, h, nz_bit, nz_b1, nz_b2, nz_shl, nz_not, nz_and, nz_or, ldn, ldLn, ldRn, stn, stLn, cpn, nI_ltI, nI_leI, nI_eq, callW_eq, Option.bind_some, li0, li1, li2, li3, li4, li5, li6, li7, li8, li9, li10, li11, li12, li13, li14, li15, li16, li17, li18, li19, li20, li21, li22, li23, li24, li25, li26, li27, li28, li29, li30, li31, li32, li33, li34, li35, li36, li37, li38, li39, li40, li41, li42, li43, li44, li45, li47, li48, li50, li56, li57, li59, li60, li61, li62, li63, li64, li90, li96, li97, li99, li100, li122, li200, li255, li256, li900, li999, li1000, li9999, li65536, li99999, li1000000, li1048576, gg_I, gg_LI, gg_RI, gg_L, gg_IL, gg_RL, gg_R, gg_IR, gg_LR, gg_row, gg_Lrow, gg_Rrow, nI_add, pk_mul, Nat.reduceEqDiff, Nat.reduceAdd, Nat.reduceSub, Nat.reduceMul, Nat.reducePow, Nat.reduceLT, Nat.reduceLeDiff, ↓reduceIte, reduceCtorEq, and_true, true_and, and_false, false_and, and_self, not_true_eq_false, not_false_eq_true, if_true, if_false]
        refine ok_bind (m_chance T S L hF hL hb hN h (k := v 19 c - 1) (by omega) hn) ?_
        rintro ⟨x, w2⟩ ⟨j1, j2⟩
        simp only at j1 j2
        subst j2
        simp (disch := first | assumption | omega) only [nz_bit, nz_b1, nz_b2, nz_shl, nz_not, nz_and, nz_or, ldn, ldLn, ldRn, stn, stLn, cpn, nI_ltI, nI_leI, nI_eq, callW_eq, Option.bind_some, li0, li1, li2, li3, li4, li5, li6, li7, li8, li9, li10, li11, li12, li13, li14, li15, li16, li17, li18, li19, li20, li21, li22, li23, li24, li25, li26, li27, li28, li29, li30, li31, li32, li33, li34, li35, li36, li37, li38, li39, li40, li41, li42, li43, li44, li45, li47, li48, li50, li56, li57, li59, li60, li61, li62, li63, li64, li90, li96, li97, li99, li100, li122, li200, li255, li256, li900, li999, li1000, li9999, li65536, li99999, li1000000, li1048576, gg_I, gg_LI, gg_RI, gg_L, gg_IL, gg_RL, gg_R, gg_IR, gg_LR, gg_row, gg_Lrow, gg_Rrow, nI_add, pk_mul, Nat.reduceEqDiff, Nat.reduceAdd, Nat.reduceSub, Nat.reduceMul, Nat.reducePow, Nat.reduceLT, Nat.reduceLeDiff, ↓reduceIte, reduceCtorEq, and_true, true_and, and_false, false_and, and_self, not_true_eq_false, not_false_eq_true, if_true, if_false]
        refine ih (c + 1) _ (by omega) (by omega) ⟨Fr_setI (Fr_trans hI.1 (Fr_mono j1 rfl)) rfl, fun p hp => ?_⟩
        rw [gg_I]
        by_cases q3 : p = c
        · rw [if_pos ⟨rfl, rfl, q3⟩, q3, chI, if_neg q]
        · rw [if_neg (fun z => q3 z.2.2), (j1 110 0 p rfl).1]; exact hI.2 p (by omega)
    · have : c = v 0 1 := by omega
      subst this
      simp (disch := first | assumption | exact WF_b31 (by assumption) _ _ | omega) only [fX12_goesBy_2, TM_people T, nI_ltI, Nat.lt_irrefl, if_false]
      exact hk w1 hI
theorem RM_ext {w : Wd} {v v' : Vw} {b : Nat} (h : ∀ r j, mr r j → v' r j = v r j) (h06 : v' 0 6 = v 0 6) (h14 : ∀ j, v' 14 j = v 14 j) (h15 : ∀ j, v' 15 j = v 15 j) (T : TM w v) (L : TL w v) (D : ST w v) (S : SM w b v') : RM w b v' :=
  ⟨TM_ext h h06 h14 h15 T, S, TL_ext h L, ST_mr h D⟩
theorem m_go38 {z : Int64} (hF : WF v) (hT : ∀ j, v 18 j ≤ v 0 5) (hb : b ≤ 1) (hN : 100 ≤ N) {Q : Wd → Prop} (k134 : Wd → Option Wd)
    (hk : ∀ w1, (Fr kNm w w1 ∧ BFr b w w1 ∧ RM w1 b (npN v (v 0 5) z (v 0 1)).1 ∧ gL w1 106 0 b = (npN v (v 0 5) z (v 0 1)).2) → Ok (k134 w1) Q) :
    ∀ fuel c w1, c ≤ v 0 1 → v 0 1 - c < fuel → (Fr kNm w w1 ∧ BFr b w w1 ∧ RM w1 b (npN v (v 0 5) z c).1 ∧ gL w1 106 0 b = (npN v (v 0 5) z c).2 ∧ ∀ p, p < v 0 1 → gI w1 110 0 p = chI v (v 0 5) p) →
    Ok (fX12_goesBy_38 N (nI b) (nI (v 0 5)) fuel k134 (nI c) w1) Q := by
  have h1 := WF_people hF
  have h2 := WF_parts hF
  have hn := WF_night hF
  have h8 : ∀ p, v 19 p ≤ 8 := fun p => Nat.le_trans (WF_lost hF p) (WF_parts hF)
  intro fuel
  induction fuel with
  | zero => intro c _ _ h; omega
  | succ f ih =>
    intro c w1 hc hf hI
    obtain ⟨i1, i2, i3, i4, i5⟩ := hI
    obtain ⟨g1, g2, g3, g4⟩ := np_keep h8 (v 0 5) z c
    have hmr := np_mr h8 (v 0 5) z c
    obtain ⟨hF', hT'⟩ := np_WF hF hT hn z c
    have e00 := g1 0 0 (by omega) (by omega) (by omega)
    have e01 := g1 0 1 (by omega) (by omega) (by omega)
    have e19 : ∀ j, (npN v (v 0 5) z c).1 19 j = v 19 j := fun j => g1 19 j (by omega) (by omega) (by omega)
    obtain ⟨T, S, L, D⟩ := i3
    have hpp : gI w1 16 0 13 = nI (v 0 1) := by rw [TM_people T, e01]
    rcases Nat.lt_or_ge c (v 0 1) with h | h
    · have hch := i5 c h
      by_cases q : v 19 c = 0
      · have e1 : chI v (v 0 5) c = -nI 1 := by rw [chI, if_pos q]
        have enp : npN v (v 0 5) z (c + 1) = npN v (v 0 5) z c := by
          show npP v (v 0 5) c (npN v (v 0 5) z c) = _
          rw [npP, if_pos q]
        have l1 : ldI w1 110 0 (nI c) 6 = some (-nI 1) := by rw [ldn (by omega) (by omega), hch, e1]
        have lt : (nI c < nI (v 0 1)) = True := eq_true ((nI_ltI (by omega) (by omega)).mpr h)
        have ge : (-nI 1 < 0) = True := eq_true nz_neg1
        simp only [fX12_goesBy_38, hpp, lt, ge, ↓bnd l1, ↓reduceIte, callW_eq, li1, nI_add]
        exact ih (c + 1) w1 (by omega) (by omega) (by rw [enp]; exact ⟨i1, i2, ⟨T, S, L, D⟩, i4, i5⟩)
      · have e1 : chI v (v 0 5) c = nI (sCh v c (v 19 c - 1) (v 0 5) (sAr v c (v 19 c - 1) (v 0 5)) (v 18 c)) := by rw [chI, if_neg q]
        have hle := sCh_le hF c (v 19 c - 1) (v 0 5) (sAr v c (v 19 c - 1) (v 0 5)) (v 18 c)
        have e2 : ¬ nI (sCh v c (v 19 c - 1) (v 0 5) (sAr v c (v 19 c - 1) (v 0 5)) (v 18 c)) < nI 0 := nz_ge0 (by omega)
        have bc := WF_lost hF c
        have erd : (gL w1 106 0 b * (1103515245 : Int64) + (12345 : Int64)) &&& (2147483647 : Int64) = rnd (npN v (v 0 5) z c).2 := by rw [i4]; rfl
        have el : (nI (sCh v c (v 19 c - 1) (v 0 5) (sAr v c (v 19 c - 1) (v 0 5)) (v 18 c))).toInt64 = lN (sCh v c (v 19 c - 1) (v 0 5) (sAr v c (v 19 c - 1) (v 0 5)) (v 18 c)) := nI_l (by omega)
        have ed : (rnd (npN v (v 0 5) z c).2 / (65536 : Int64) - rnd (npN v (v 0 5) z c).2 / (65536 : Int64) / (100 : Int64) * (100 : Int64)) = dice (rnd (npN v (v 0 5) z c).2) := rfl
        have gt : gI w1 104 0 (6 * b + c) = nI (v 18 c) := by
          rw [SM_times S c (by rw [e01]; exact h), g4 c (Nat.le_refl _)]
        have f1 : Fr kNm w (setL w1 106 0 b (rnd (npN v (v 0 5) z c).2)) := Fr_setL i1 rfl
        have b1 : BFr b w (setL w1 106 0 b (rnd (npN v (v 0 5) z c).2)) := BFr_setL i2
        have enp : npN v (v 0 5) z (c + 1) = npP v (v 0 5) c (npN v (v 0 5) z c) := rfl
        rw [npP, if_neg q] at enp
        have l1 : ldI w1 110 0 (nI c) 6 = some (nI (sCh v c (v 19 c - 1) (v 0 5) (sAr v c (v 19 c - 1) (v 0 5)) (v 18 c))) := by rw [ldn (by omega) (by omega), hch, e1]
        have l2 : ldL w1 106 0 (nI b) 2 = some (gL w1 106 0 b) := ldLn (by omega) (by omega)
        have l3 : stL w1 106 0 (nI b) 2 (rnd (npN v (v 0 5) z c).2) = some (setL w1 106 0 b (rnd (npN v (v 0 5) z c).2)) := stLn (by omega) (by omega)
        have l4 : ldL (setL w1 106 0 b (rnd (npN v (v 0 5) z c).2)) 106 0 (nI b) 2 = some (rnd (npN v (v 0 5) z c).2) := by rw [ldLn (by omega) (by omega), gg_L, if_pos ⟨rfl, rfl, rfl⟩]
        have l5 : ldI (setL w1 106 0 b (rnd (npN v (v 0 5) z c).2)) 110 0 (nI c) 6 = some (nI (sCh v c (v 19 c - 1) (v 0 5) (sAr v c (v 19 c - 1) (v 0 5)) (v 18 c))) := by rw [ldn (by omega) (by omega), gg_IL, hch, e1]
        have ix : (6 : Int32) * nI b + nI c = nI (6 * b + c) := by rw [li6, pk_mul, nI_add]
        have l6 : ldI (setL w1 106 0 b (rnd (npN v (v 0 5) z c).2)) 104 0 (nI (6 * b + c)) 12 = some (nI (v 18 c)) := by rw [ldn (by omega) (by omega), gg_IL, gt]
        have lt : (nI c < nI (v 0 1)) = True := eq_true ((nI_ltI (by omega) (by omega)).mpr h)
        have ge : (nI (sCh v c (v 19 c - 1) (v 0 5) (sAr v c (v 19 c - 1) (v 0 5)) (v 18 c)) < 0) = False := eq_false e2
        simp only [fX12_goesBy_38, hpp, lt, ge, ix, erd, el, ed, lg_lt, ↓bnd l1, ↓bnd l2, ↓bnd l3, ↓bnd l4, ↓bnd l5, ↓bnd l6, ↓reduceIte]
        by_cases hd : dice (rnd (npN v (v 0 5) z c).2) < lN (sCh v c (v 19 c - 1) (v 0 5) (sAr v c (v 19 c - 1) (v 0 5)) (v 18 c))
        · rw [if_pos hd] at enp
          have hT0c := hT c
          have hF3 : WF (up2 (npN v (v 0 5) z c).1 18 c (v 18 c + 1)) := by
            refine WF_ext (mr_up (by omega) (by omega)) hF' (WF_night hF' :) (WF_slides hF' :) (WF_spart hF' :) (fun s => WF_bd hF' 14 s) (WF_snight hF' :) (WF_learned hF' :) (WF_gone hF' :) ?_ (WF_lost hF' :)
            intro j
            unfold up2
            split
            · omega
            · exact WF_times hF' j
          have f2 : Fr kNm w (setI (setL w1 106 0 b (rnd (npN v (v 0 5) z c).2)) 104 0 (6 * b + c) (nI (v 18 c + 1))) := Fr_setI f1 rfl
          have b2 : BFr b w (setI (setL w1 106 0 b (rnd (npN v (v 0 5) z c).2)) 104 0 (6 * b + c) (nI (v 18 c + 1))) := BFr_set b1 (Or.inr ⟨by omega, by omega⟩)
          have fw : Fr [106, 104] w1 (setI (setL w1 106 0 b (rnd (npN v (v 0 5) z c).2)) 104 0 (6 * b + c) (nI (v 18 c + 1))) := Fr_setI (Fr_setL (Fr_refl _ _) rfl) rfl
          have hR3 : RM (setI (setL w1 106 0 b (rnd (npN v (v 0 5) z c).2)) 104 0 (6 * b + c) (nI (v 18 c + 1))) b (up2 (npN v (v 0 5) z c).1 18 c (v 18 c + 1)) :=
            RM_ext (mr_up (by omega) (by omega)) (up2_ne (by omega)) (fun _ => up2_ne (by omega)) (fun _ => up2_ne (by omega)) (TM_fr fw T) (TL_fr fw L) (ST_fr fw D) (SM_set18 (SM_fr (Fr_setL (Fr_refl [106] w1) rfl) S) c _)
          have gs := m_isSpoilt (N := N) hR3 hF3 hb hN (p := c) (by rw [up2_ne (by omega), e01]; exact h) (by rw [up2_ne (by omega), e19]; exact q)
          have espo : sSpo (up2 (npN v (v 0 5) z c).1 18 c (v 18 c + 1)) c = sSpo v c := by
            have u19 : ∀ q, up2 (npN v (v 0 5) z c).1 18 c (v 18 c + 1) 19 q = v 19 q := fun q => by rw [up2_ne (by omega), e19]
            have u01 : up2 (npN v (v 0 5) z c).1 18 c (v 18 c + 1) 0 1 = v 0 1 := by rw [up2_ne (by omega), e01]
            rw [sSpo, sSpo, u01]
            apply anyB_ext
            intro q _
            rw [u19, u19, sNear_mr (mr_up (by omega) (by omega)), sNear_mr hmr]
          rw [espo] at gs
          have glost : gI w1 105 0 (6 * b + c) = nI (v 19 c - 1) := by
            rw [SM_lost S c (by rw [e01]; exact h), e19, lst_pos q]
          have i5' : ∀ p, p < v 0 1 → gI (setI (setL w1 106 0 b (rnd (npN v (v 0 5) z c).2)) 104 0 (6 * b + c) (nI (v 18 c + 1))) 110 0 p = chI v (v 0 5) p := fun p hp => by
            rw [gg_I, if_neg (by omega), gg_IL]; exact i5 p hp
          cases hs : sSpo v c with
          | true =>
            rw [hs] at gs enp
            rw [if_pos rfl] at enp
            have p1 := congrArg Prod.fst enp
            have p2 := congrArg Prod.snd enp
            simp only at p1 p2
            have l7 : stI (setL w1 106 0 b (rnd (npN v (v 0 5) z c).2)) 104 0 (nI (6 * b + c)) 12 (nI (v 18 c) + 1) = some (setI (setL w1 106 0 b (rnd (npN v (v 0 5) z c).2)) 104 0 (6 * b + c) (nI (v 18 c + 1))) := by rw [li1, nI_add]; exact stn (by omega) (by omega)
            have n10 : (zB true = 0) = False := eq_false (by decide)
            have hdT := eq_true hd
            simp only [hdT, n10, ↓bnd l7, ↓cbnd gs, ↓reduceIte, callW_eq, li1, nI_add]
            refine ih (c + 1) _ (by omega) (by omega) ⟨f2, b2, ?_, ?_, i5'⟩
            · rw [p1]; exact hR3
            · rw [p2, gg_LI, gg_L, if_pos ⟨rfl, rfl, rfl⟩]
          | false =>
            rw [hs] at gs enp
            rw [if_neg (by decide)] at enp
            have p1 := congrArg Prod.fst enp
            have p2 := congrArg Prod.snd enp
            simp only at p1 p2
            have l7 : stI (setL w1 106 0 b (rnd (npN v (v 0 5) z c).2)) 104 0 (nI (6 * b + c)) 12 (nI (v 18 c) + 1) = some (setI (setL w1 106 0 b (rnd (npN v (v 0 5) z c).2)) 104 0 (6 * b + c) (nI (v 18 c + 1))) := by rw [li1, nI_add]; exact stn (by omega) (by omega)
            have l8 : ldI (setI (setL w1 106 0 b (rnd (npN v (v 0 5) z c).2)) 104 0 (6 * b + c) (nI (v 18 c + 1))) 105 0 (nI (6 * b + c)) 12 = some (nI (v 19 c - 1)) := by rw [ldn (by omega) (by omega), gg_I, if_neg (by omega), gg_IL, glost]
            have iy : (48 : Int32) * nI b + (8 : Int32) * nI c + nI (v 19 c - 1) = nI (48 * b + 8 * c + (v 19 c - 1)) := by rw [li48, li8, pk_mul, pk_mul, nI_add, nI_add]
            have l9 : ∀ (W : Wd) x, stI W 101 0 (nI (48 * b + 8 * c + (v 19 c - 1))) 96 x = some (setI W 101 0 (48 * b + 8 * c + (v 19 c - 1)) x) := fun W x => stn (by omega) (by omega)
            have l10 : ∀ (W : Wd) x, stI W 102 0 (nI (48 * b + 8 * c + (v 19 c - 1))) 96 x = some (setI W 102 0 (48 * b + 8 * c + (v 19 c - 1)) x) := fun W x => stn (by omega) (by omega)
            have n0 : ((0 : Int32) &&& 1) = nI 0 := by decide
            have n10 : (zB false = 0) = True := eq_true (by decide)
            have hdT := eq_true hd
            simp only [hdT, n0, n10, iy, ↓bnd l7, ↓cbnd gs, ↓bnd l8, ↓bnd (l9 _ _), ↓bnd (l10 _ _), ↓reduceIte, callW_eq, li1, nI_add]
            refine ih (c + 1) _ (by omega) (by omega) ⟨Fr_setI (Fr_setI f2 rfl) rfl, BFr_set (BFr_set b2 (Or.inl ⟨by omega, by omega⟩)) (Or.inl ⟨by omega, by omega⟩), ?_, ?_, fun p hp => by
              rw [gg_I, if_neg (by omega), gg_I, if_neg (by omega)]; exact i5' p hp⟩
            · rw [p1]
              have fw2 : Fr [101, 102] _ (setI (setI (setI (setL w1 106 0 b (rnd (npN v (v 0 5) z c).2)) 104 0 (6 * b + c) (nI (v 18 c + 1))) 101 0 (48 * b + 8 * c + (v 19 c - 1)) (nI (v 0 5))) 102 0 (48 * b + 8 * c + (v 19 c - 1)) (nI 0)) := Fr_setI (Fr_setI (Fr_refl _ _) rfl) rfl
              exact RM_ext (mr_up (by omega) (by omega)) (up2_ne (by omega)) (fun _ => up2_ne (by omega)) (fun _ => up2_ne (by omega)) (TM_fr fw2 hR3.1) (TL_fr fw2 hR3.2.2.1) (ST_fr fw2 hR3.2.2.2) (SM_set16 hR3.2.1 (by omega) _)
            · rw [p2, gg_LI, gg_LI, gg_LI, gg_L, if_pos ⟨rfl, rfl, rfl⟩]
        · rw [if_neg hd] at enp
          have p1 := congrArg Prod.fst enp
          have p2 := congrArg Prod.snd enp
          simp only at p1 p2
          have n1 : ((1 : Int32) &&& 1) = nI 1 := by decide
          have l7 : ∀ x, stI (setL w1 106 0 b (rnd (npN v (v 0 5) z c).2)) 103 0 (nI (6 * b + c)) 12 x = some (setI (setL w1 106 0 b (rnd (npN v (v 0 5) z c).2)) 103 0 (6 * b + c) x) := fun x => stn (by omega) (by omega)
          have hdT := eq_false hd
          simp only [hdT, n1, ↓bnd (l7 _), ↓reduceIte, callW_eq, li1, nI_add]
          refine ih (c + 1) _ (by omega) (by omega) ⟨Fr_setI f1 rfl, BFr_set b1 (Or.inr ⟨by omega, by omega⟩), ?_, ?_, fun p hp => by
            rw [gg_I, if_neg (by omega), gg_IL]; exact i5 p hp⟩
          · rw [p1]
            have fw : Fr [106, 103] w1 (setI (setL w1 106 0 b (rnd (npN v (v 0 5) z c).2)) 103 0 (6 * b + c) (nI 1)) := Fr_setI (Fr_setL (Fr_refl _ _) rfl) rfl
            exact RM_ext (mr_up (by omega) (by omega)) (up2_ne (by omega)) (fun _ => up2_ne (by omega)) (fun _ => up2_ne (by omega)) (TM_fr fw T) (TL_fr fw L) (ST_fr fw D) (SM_set17 (SM_fr (Fr_setL (Fr_refl [106] w1) rfl) S) c _)
          · rw [p2, gg_LI, gg_L, if_pos ⟨rfl, rfl, rfl⟩]
    · have : c = v 0 1 := by omega
      subst this
      simp (disch := first | assumption | exact WF_b31 (by assumption) _ _ | omega) only [fX12_goesBy_38, hpp, nI_ltI, Nat.lt_irrefl, if_false]
      exact hk w1 ⟨i1, i2, ⟨T, S, L, D⟩, i4⟩
theorem m_goesBy {z : Int64} (hR : RM w b v) (hF : WF v) (hL : WL v) (hT : ∀ j, v 18 j ≤ v 0 5) (hb : b ≤ 1) (hN : 100 ≤ N) (hz : gL w 106 0 b = z) :
    Ok (pX12_goesBy N (nI b) (nI (v 0 5)) w) (fun w' => Fr kNm w w' ∧ BFr b w w' ∧ RM w' b (sNgt v z) ∧ gL w' 106 0 b = sNgz v z) := by
  have h1 := WF_people hF
  have h2 := WF_parts hF
  have hn := WF_night hF
  have h8 : ∀ p, v 19 p ≤ 8 := fun p => Nat.le_trans (WF_lost hF p) (WF_parts hF)
  unfold pX12_goesBy
  rw [callW_eq, li0]
  refine m_go2 hR hF hL hb hN (by omega) _ ?_ N 0 w (by omega) (by omega) ⟨Fr_refl _ _, fun p h => by omega⟩
  rintro w1 ⟨f1, c1⟩
  unfold fX12_goesBy_36
  rw [callW_eq, li0]
  refine m_go38 (w := w) (z := z) hF hT hb hN _ ?_ N 0 w1 (by omega) (by omega) ⟨Fr_mono f1 rfl, BFr_fr f1, RM_fr f1 hR, ((f1 106 0 b rfl).2.1).trans hz, c1⟩
  rintro w2 ⟨f2, b2, hR2, hz2⟩
  unfold fX12_goesBy_134
  rw [callW_eq, li0]
  obtain ⟨g1, g2, g3, g4⟩ := np_keep h8 (v 0 5) z (v 0 1)
  have e01 := g1 0 1 (by omega) (by omega) (by omega)
  have key : ∀ fuel c w3, c ≤ v 0 1 → v 0 1 - c < fuel → (Fr [105] w2 w3 ∧ BFr b w2 w3 ∧ ∀ p, p < c → gI w3 105 0 (6 * b + p) = -nI 1) → Ok (fX12_goesBy_136 N (nI b) fuel (nI c) w3) (fun w' => Fr kNm w w' ∧ BFr b w w' ∧ RM w' b (sNgt v z) ∧ gL w' 106 0 b = sNgz v z) := by
    intro fuel
    induction fuel with
    | zero => intro c _ _ h; omega
    | succ f ih =>
      intro c w3 hc hf hI
      obtain ⟨i1, i2, i3⟩ := hI
      have hpp : gI w3 16 0 13 = nI (v 0 1) := by rw [(i1 16 0 13 rfl).1, TM_people hR2.1, e01]
      rcases Nat.lt_or_ge c (v 0 1) with h | h
      · simp (disch := first | assumption | omega) only [fX12_goesBy_136, hpp, h, nz_bit, nz_b1, nz_b2, nz_shl, nz_not, nz_and, nz_or, ldn, ldLn, ldRn, stn, stLn, cpn, nI_ltI, nI_leI, nI_eq, callW_eq, Option.bind_some, li0, li1, li2, li3, li4, li5, li6, li7, li8, li9, li10, li11, li12, li13, li14, li15, li16, li17, li18, li19, li20, li21, li22, li23, li24, li25, li26, li27, li28, li29, li30, li31, li32, li33, li34, li35, li36, li37, li38, li39, li40, li41, li42, li43, li44, li45, li47, li48, li50, li56, li57, li59, li60, li61, li62, li63, li64, li90, li96, li97, li99, li100, li122, li200, li255, li256, li900, li999, li1000, li9999, li65536, li99999, li1000000, li1048576, gg_I, gg_LI, gg_RI, gg_L, gg_IL, gg_RL, gg_R, gg_IR, gg_LR, gg_row, gg_Lrow, gg_Rrow, nI_add, pk_mul, Nat.reduceEqDiff, Nat.reduceAdd, Nat.reduceSub, Nat.reduceMul, Nat.reducePow, Nat.reduceLT, Nat.reduceLeDiff, ↓reduceIte, reduceCtorEq, and_true, true_and, and_false, false_and, and_self, not_true_eq_false, not_false_eq_true, if_true, if_false]
        refine ih (c + 1) _ (by omega) (by omega) ⟨Fr_setI i1 rfl, BFr_set i2 (Or.inr ⟨by omega, by omega⟩), fun p hp => ?_⟩
        rw [gg_I]
        by_cases q : p = c
        · rw [if_pos ⟨rfl, rfl, by omega⟩]
        · rw [if_neg (fun z => q (by have := z.2.2; omega))]; exact i3 p (by omega)
      · have : c = v 0 1 := by omega
        subst this
        simp (disch := first | assumption | exact WF_b31 (by assumption) _ _ | omega) only [fX12_goesBy_136, hpp, nI_ltI, Nat.lt_irrefl, if_false]
        refine ok_some ⟨Fr_trans f2 (Fr_mono i1 rfl), BFr_trans b2 i2, ?_, ?_⟩
        · obtain ⟨T, S, L, D⟩ := hR2
          have em : ∀ r j, mr r j → sNgt v z r j = (npN v (v 0 5) z (v 0 1)).1 r j := fun r j h => (sNgt_mr h8 z r j h).trans (np_mr h8 _ z _ r j h).symm
          have en : ∀ r j, (r ≠ 0 ∨ j ≠ 5) → r ≠ 19 → sNgt v z r j = (npN v (v 0 5) z (v 0 1)).1 r j := by
            intro r j h h2
            unfold sNgt
            rw [up2, if_neg (by omega), noLost, if_neg h2]
          refine RM_ext em (en 0 6 (by omega) (by omega)) (fun j => en 14 j (by omega) (by omega)) (fun j => en 15 j (by omega) (by omega)) (TM_fr i1 T) (TL_fr i1 L) (ST_fr i1 D) ⟨?_, ?_, ?_, ?_, ?_⟩
          · intro p k h3 h4
            rw [en 0 1 (by omega) (by omega)] at h3
            rw [(i1 101 0 _ rfl).1, en 16 _ (by omega) (by omega)]; exact SM_learned S p k h3 h4
          · intro p k h3 h4
            rw [en 0 1 (by omega) (by omega)] at h3
            rw [(i1 102 0 _ rfl).1, en 16 _ (by omega) (by omega)]; exact SM_fresh S p k h3 h4
          · intro p h3
            rw [en 0 1 (by omega) (by omega)] at h3
            rw [(i1 103 0 _ rfl).1, en 17 _ (by omega) (by omega)]; exact SM_gone S p h3
          · intro p h3
            rw [en 0 1 (by omega) (by omega)] at h3
            rw [(i1 104 0 _ rfl).1, en 18 _ (by omega) (by omega)]; exact SM_times S p h3
          · intro p h3
            rw [en 0 1 (by omega) (by omega), e01] at h3
            rw [i3 p h3]
            have : sNgt v z 19 p = 0 := by
              unfold sNgt
              rw [up2_ne (by omega), noLost, if_pos rfl]
            rw [this]; rfl
        · rw [(i1 106 0 b rfl).2.1]; exact hz2
  exact key N 0 w2 (by omega) (by omega) ⟨Fr_refl _ _, BFr_refl _ _, fun p h => by omega⟩
end

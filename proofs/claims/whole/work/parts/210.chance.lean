/-! ===== laws and chances ===== -/
def sWea (v : Vw) (n : Nat) : Nat := if v 0 3 = 0 then 0 else v 13 (n % v 0 3)
def sNm (v : Vw) (p k n ar ti : Nat) : Nat → Int64
  | 0 => lN (v 2 k)
  | 1 => lN ar
  | 2 => lN (sWea v n)
  | 3 => lN ti
  | 4 => lN (sWant v k n)
  | 5 => lN (v 5 p)
  | _ => lN n
def sLaw (v : Vw) (a p k n ar ti : Nat) : Option Int64 := evl (sNm v p k n ar ti) (lK v a) (lX v a) (v 20 a)
def sCut (d : Nat) : Option Int64 → Nat
  | none => d
  | some x => if x.toInt < 0 then 0 else if 100 < x.toInt then 100 else x.toInt.toNat
def sCh (v : Vw) (p k n ar ti : Nat) : Nat := if v 20 0 = 0 then v 2 k else sCut (v 2 k) (sLaw v 0 p k n ar ti)
def sAr (v : Vw) (p k n : Nat) : Nat := pc (sBits v p n &&& v 3 k)
theorem sCut_le {d : Nat} (h : d ≤ 100) (o : Option Int64) : sCut d o ≤ 100 := by
  unfold sCut
  split
  · exact h
  · split
    · omega
    · split <;> omega
theorem sCh_le {v : Vw} (hF : WF v) (p k n ar ti : Nat) : sCh v p k n ar ti ≤ 100 := by
  unfold sCh
  split
  · exact WF_odds hF k
  · exact sCut_le (WF_odds hF k) _
theorem sWea_lt {v : Vw} (hF : WF v) (n : Nat) : sWea v n < 2 ^ 31 := by
  unfold sWea
  split
  · omega
  · exact WF_b31 hF _ _
theorem sWant_le (v : Vw) (k n : Nat) : sWant v k n ≤ v 0 2 := cnt_le _ _
theorem sNm_bd {v : Vw} (hF : WF v) {p k n ar ti : Nat} (hn : n < 2 ^ 31) (har : ar < 2 ^ 31) (hti : ti < 2 ^ 31) (x : Nat) : bd12 (sNm v p k n ar ti x) := by
  have h2 := sWant_le v k n
  have h3 := WF_parties hF
  unfold sNm
  split
  · exact bd_N (WF_b31 hF _ _)
  · exact bd_N har
  · exact bd_N (sWea_lt hF n)
  · exact bd_N hti
  · exact bd_N (by omega)
  · exact bd_N (WF_b31 hF _ _)
  · exact bd_N hn
theorem pc_le (x : Nat) : pc x ≤ 12 := cnt_le _ _
theorem sBits_lt {v : Vw} (hF : WF v) (p n : Nat) : sBits v p n < 2 ^ 8 := Nat.lt_of_lt_of_le (mkB_lt _ _) (Nat.pow_le_pow_right (by omega) (WF_parts hF))
theorem and_lt8 {x y : Nat} (h : x < 2 ^ 8) : x &&& y < 2 ^ 8 := Nat.lt_of_le_of_lt Nat.and_le_left h
theorem evl_bd {nm : Nat → Int64} {K X : Nat → Nat} {n : Nat} (hnm : ∀ x, bd12 (nm x)) (hX : ∀ j, j < n → X j ≤ 9999) (hs : ∀ j, j < n → (K j = 2 → 1 ≤ sd K j) ∧ (3 ≤ K j → 2 ≤ sd K j)) {x : Int64} (h : evl nm K X n = some x) : bd12 x := by
  have key : ∀ j, j ≤ n → ∀ t, tb nm K X j = some t → ∀ i, i < j → bd12 (t i) := by
    intro j
    induction j with
    | zero => intro _ t _ i hi; omega
    | succ j ih =>
      intro hj t ht i hi
      rw [tb] at ht
      cases ht1 : tb nm K X j with
      | none => rw [ht1] at ht; cases ht
      | some t1 =>
        rw [ht1, Option.bind_some] at ht
        cases hy : vo nm K X t1 j with
        | none => rw [hy] at ht; cases ht
        | some y =>
          rw [hy, Option.bind_some] at ht
          have e := Option.some.inj ht
          subst e
          have ih1 := ih (by omega) t1 ht1
          simp only
          split
          · have hlt := sp_lt K j
            have hX1 := hX j (by omega)
            obtain ⟨s1, s2⟩ := hs j (by omega)
            unfold vo at hy
            split at hy
            · rw [← Option.some.inj hy]; exact bd_N (by omega)
            · split at hy
              · rw [← Option.some.inj hy]; exact hnm _
              · split at hy
                · rw [← Option.some.inj hy]; exact bd_ite bd_1 bd_0
                · have := s2 (by omega)
                  exact jn_bd (ih1 _ (hlt _ (by omega))) (ih1 _ (hlt _ (by omega))) hy
          · exact ih1 i (by omega)
  unfold evl at h
  split at h
  · cases h
  · cases ht : tb nm K X n with
    | none => rw [ht] at h; cases h
    | some t =>
      rw [ht, Option.bind_some] at h
      rw [← Option.some.inj h]
      exact key n (Nat.le_refl _) t ht _ (by omega)
section
variable {N : Nat} {w : Wd} {b : Nat} {v : Vw}
theorem WF_lK {v : Vw} (hF : WF v) {a j : Nat} (ha : a < 2) (hj : j < v 20 a) : lK v a j ≤ 14 ∧ lX v a j ≤ 9999 ∧ (lK v a j = 1 → lX v a j ≤ 6) := WF_lcode hF a j ha hj
theorem sLaw_bd (hF : WF v) (hL : WL v) {a p k n ar ti : Nat} (ha : a < 2) (hn : n < 2 ^ 31) (har : ar < 2 ^ 31) (hti : ti < 2 ^ 31) {x : Int64} (h : sLaw v a p k n ar ti = some x) : bd12 x :=
  evl_bd (sNm_bd hF hn har hti) (fun j hj => (WF_lK hF ha hj).2.1) ((hL a ha).1) h
/-- the reference's loop over the knots -/
theorem m_law87 {w0 : Wd} (L : TL w0 v) (hF : WF v) (hL : WL v) {a : Nat} (ha : a < 2) (h0 : 0 < v 20 a) {nm : Nat → Int64} (hbd : ∀ x, bd12 (nm x)) (hnm : ∀ x, x ≤ 6 → gL w0 99 0 x = nm x) {f : Nat} (hf0 : f + v 20 a ≤ 64) (e2 : gI w0 93 0 a = nI (f + v 20 a))
    (e3 : ∀ j, j < v 20 a → gI w0 94 0 (f + j) = nI (lK v a j) ∧ (lK v a j ≤ 1 → gI w0 95 0 (f + j) = nI (lX v a j)) ∧ (2 ≤ lK v a j → gI w0 95 0 (f + j) = nI (f + sp (lK v a) j (sd (lK v a) j - (if lK v a j = 2 then 1 else 2)))) ∧ (3 ≤ lK v a j → gI w0 96 0 (f + j) = nI (f + sp (lK v a) j (sd (lK v a) j - 1)))) :
    ∀ fuel j w, j ≤ v 20 a → v 20 a - j < fuel → Fr [17063, 100] w0 w →
    ((∃ t, tb nm (lK v a) (lX v a) j = some t ∧ gI w 16 0 63 = nI 0 ∧ ∀ i, i < j → bd12 (t i) ∧ gL w 100 0 (f + i) = t i) ∨ (tb nm (lK v a) (lX v a) j = none ∧ gI w 16 0 63 = nI 1)) →
    Ok (fX12_lawOf_87 N (nI a) fuel (fX12_lawOf_102 N (nI a)) (nI (f + j)) w) (fun r => Fr [17063, 100] w0 r.2 ∧ (∀ x, evl nm (lK v a) (lX v a) (v 20 a) = some x → r.1 = x ∧ gI r.2 16 0 63 = nI 0) ∧ (evl nm (lK v a) (lX v a) (v 20 a) = none → gI r.2 16 0 63 = nI 1)) := by
  have n10 : ¬ nI 1 = nI 0 := by decide
  intro fuel
  induction fuel with
  | zero => intro j _ _ h; omega
  | succ n ih =>
    intro j w hj hf hfr hS
    have e2' : gI w 93 0 a = nI (f + v 20 a) := ((hfr 93 0 a rfl).1).trans e2
    rcases Nat.lt_or_ge j (v 20 a) with h | h
    · obtain ⟨q1, q2, q3, q4⟩ := e3 j h
      have z := m_val (N := N) (w := w) (nm := nm) (t := fun i => gL w 100 0 (f + i)) hf0 h (WF_lK hF ha h) ((hL a ha).1 j h) (((hfr 94 0 (f + j) rfl).1).trans q1) (fun y => ((hfr 95 0 (f + j) rfl).1).trans (q2 y)) (fun y => ((hfr 95 0 (f + j) rfl).1).trans (q3 y)) (fun y => ((hfr 96 0 (f + j) rfl).1).trans (q4 y)) (fun x hx => ((hfr 99 0 x rfl).2.1).trans (hnm x hx))
      have cond : f + j < f + v 20 a := by omega
      simp (disch := first | assumption | omega) only [fX12_lawOf_87, e2', ldn, nI_ltI, cond, callW_eq, Option.bind_some, if_true]
      rcases hS with ⟨t, ht, hfl, hv⟩ | ⟨ht, hfl⟩
      · have z' := m_val (N := N) (w := w) (nm := nm) (t := t) hf0 h (WF_lK hF ha h) ((hL a ha).1 j h) (((hfr 94 0 (f + j) rfl).1).trans q1) (fun y => ((hfr 95 0 (f + j) rfl).1).trans (q2 y)) (fun y => ((hfr 95 0 (f + j) rfl).1).trans (q3 y)) (fun y => ((hfr 96 0 (f + j) rfl).1).trans (q4 y)) (fun x hx => ((hfr 99 0 x rfl).2.1).trans (hnm x hx))
        refine ok_bind (z'.1 hfl hv) ?_
        rintro ⟨x, w1⟩ ⟨g1, g2, g3⟩
        simp only at g1 g2 g3
        have hfr1 := Fr_trans hfr (Fr_mono g1 (l' := [17063, 100]) rfl)
        simp (disch := first | assumption | omega) only [stLn, Option.bind_some, li1, nI_add]
        rw [show f + j + 1 = f + (j + 1) by omega]
        refine ih (j + 1) _ (by omega) (by omega) (Fr_setL hfr1 rfl) ?_
        rw [gg_IL]
        cases hy : vo nm (lK v a) (lX v a) t j with
        | none =>
          right
          refine ⟨?_, g3 hy⟩
          rw [tb, ht, Option.bind_some, hy]; rfl
        | some y =>
          left
          obtain ⟨p1, p2⟩ := g2 y hy
          have hby : bd12 y := by
            have hlt := sp_lt (lK v a) j
            have hX1 := WF_lK hF ha h
            obtain ⟨s1, s2⟩ := (hL a ha).1 j h
            have hy' := hy
            unfold vo at hy'
            split at hy'
            · rw [← Option.some.inj hy']; exact bd_N (by omega)
            · split at hy'
              · rw [← Option.some.inj hy']; exact hbd _
              · split at hy'
                · rw [← Option.some.inj hy']; exact bd_ite bd_1 bd_0
                · have := s2 (by omega)
                  exact jn_bd (hv _ (hlt _ (by omega))).1 (hv _ (hlt _ (by omega))).1 hy'
          refine ⟨fun i => if i = j then y else t i, ?_, p2, ?_⟩
          · rw [tb, ht, Option.bind_some, hy]; rfl
          · intro i hi
            rw [gg_L]
            by_cases q : i = j
            · subst q
              simp only [if_true, and_self, true_and]
              exact ⟨hby, p1⟩
            · simp only [q, if_false]
              rw [if_neg (fun z => q (by have := z.2.2; omega))]
              refine ⟨(hv i (by omega)).1, ?_⟩
              rw [(g1 100 0 (f + i) rfl).2.1]
              exact (hv i (by omega)).2
      · refine ok_bind (z.2 hfl) ?_
        rintro ⟨x, w1⟩ ⟨g1, g2, g3⟩
        simp only at g1 g2 g3
        have hfr1 := Fr_trans hfr (Fr_mono g1 (l' := [17063, 100]) rfl)
        simp (disch := first | assumption | omega) only [stLn, Option.bind_some, li1, nI_add]
        rw [show f + j + 1 = f + (j + 1) by omega]
        refine ih (j + 1) _ (by omega) (by omega) (Fr_setL hfr1 rfl) (Or.inr ⟨?_, ?_⟩)
        · rw [tb, ht]; rfl
        · rw [gg_IL]; exact g3 trivial
    · have : j = v 20 a := by omega
      subst this
      simp (disch := first | assumption | omega) only [fX12_lawOf_87, fX12_lawOf_102, e2', ldn, nI_ltI, Nat.lt_irrefl, Option.bind_some, if_false]
      rcases hS with ⟨t, ht, hfl, hv⟩ | ⟨ht, hfl⟩
      · have e1 : nI (f + v 20 a) - nI 1 = nI (f + (v 20 a - 1)) := by rw [pk_sub (by omega)]; congr 1; omega
        simp (disch := first | assumption | omega) only [hfl, li0, li1, e1, ldLn, Option.bind_some, if_true]
        have ev : evl nm (lK v a) (lX v a) (v 20 a) = some (t (v 20 a - 1)) := by rw [evl, if_neg (by omega), ht]; rfl
        refine ok_some ⟨hfr, fun x hx => ?_, fun hx => ?_⟩
        · rw [ev] at hx
          rw [← Option.some.inj hx]
          exact ⟨(hv _ (by omega)).2, hfl⟩
        · rw [ev] at hx; cases hx
      · simp only [hfl, li0, n10, if_false]
        have ev : evl nm (lK v a) (lX v a) (v 20 a) = none := by rw [evl, if_neg (by omega), ht]; rfl
        refine ok_some ⟨hfr, fun x hx => ?_, fun _ => hfl⟩
        rw [ev] at hx; cases hx
theorem m_lawOf (T : TM w v) (S : SM w b v) (L : TL w v) (hF : WF v) (hL : WL v) (hb : b ≤ 1) (hN : 100 ≤ N) {a p k n : Nat} (ha : a < 2) (h0 : 0 < v 20 a) (hp : p < v 0 1) (hk : k < v 0 0) (hn : n < 2 ^ 30) :
    Ok (pX12_lawOf N (nI a) (nI b) (nI p) (nI k) (nI n) w) (fun r => Fr [17063, 99, 100] w r.2 ∧ (∀ x, sLaw v a p k n (sAr v p k n) (v 18 p) = some x → r.1 = x ∧ gI r.2 16 0 63 = nI 0) ∧ (sLaw v a p k n (sAr v p k n) (v 18 p) = none → gI r.2 16 0 63 = nI 1)) := by
  have h1 := WF_people hF
  have h2 := WF_parts hF
  have h3 := WF_weathers hF
  have h20 := WF_lsize hF a
  have hs := sBits_lt hF p n
  have hpc := pc_le (sBits v p n &&& v 3 k)
  have f2 : Fr [99] w (setL w 99 0 0 (lN (v 2 k))) := Fr_setL (Fr_refl _ _) rfl
  have g2 := m_knownBy (N := N) (TM_fr f2 T) (SM_fr f2 S) hF hb hN hp hn
  have g3 := m_many (N := N) (w := setL w 99 0 0 (lN (v 2 k))) hN (x := sBits v p n &&& v 3 k) (Nat.lt_trans (and_lt8 hs) (by decide))
  obtain ⟨f, hf0, e1, e2, e3⟩ := L a ha h0
  have hs18 : gI w 104 0 (6 * b + p) = nI (v 18 p) := SM_times S p hp
  have tail : ∀ W, Fr [99] w W → gL W 99 0 0 = lN (v 2 k) → gL W 99 0 1 = lN (sAr v p k n) → Ok (fX12_lawOf_41 N (nI a) (nI b) (nI p) (nI k) (nI n) (lN (sWea v n)) (nI 2) 0 W) (fun r => Fr [17063, 99, 100] w r.2 ∧ (∀ x, sLaw v a p k n (sAr v p k n) (v 18 p) = some x → r.1 = x ∧ gI r.2 16 0 63 = nI 0) ∧ (sLaw v a p k n (sAr v p k n) (v 18 p) = none → gI r.2 16 0 63 = nI 1)) := by
    intro W fW w0 w1
    have q1 : gI W 104 0 (6 * b + p) = nI (v 18 p) := ((fW 104 0 _ rfl).1).trans hs18
    have q2 : gI W 80 0 p = nI (v 5 p) := ((fW 80 0 _ rfl).1).trans (TM_cost T p hp)
    have q3 : gI W 92 0 a = nI f := ((fW 92 0 _ rfl).1).trans e1
    have f3 : Fr [99] w (setL (setL W 99 0 2 (lN (sWea v n))) 99 0 3 (lN (v 18 p))) := Fr_setL (Fr_setL fW rfl) rfl
    have g4 := m_wanted (N := N) (TM_fr f3 T) hF hN (k := k) (by omega) hn
    have hw2 := sWant_le v k n
    have h8 := WF_parties hF
    simp (disch := first | assumption | exact WF_b31 (by assumption) _ _ | omega) only [fX12_lawOf_41, q1, q2, q3, g4, nI_l, nz_bit, nz_b1, nz_b2, nz_shl, nz_not, nz_and, nz_or, ldn, ldLn, ldRn, stn, stLn, cpn, nI_ltI, nI_leI, nI_eq, callW_eq, Option.bind_some, li0, li1, li2, li3, li4, li5, li6, li7, li8, li9, li10, li11, li12, li13, li14, li15, li16, li17, li18, li19, li20, li21, li22, li23, li24, li25, li26, li27, li28, li29, li30, li31, li32, li33, li34, li35, li36, li37, li38, li39, li40, li41, li42, li43, li44, li45, li47, li48, li50, li56, li57, li59, li60, li61, li62, li63, li64, li90, li96, li97, li99, li100, li122, li200, li255, li256, li900, li999, li1000, li9999, li65536, li99999, li1000000, li1048576, gg_I, gg_LI, gg_RI, gg_L, gg_IL, gg_RL, gg_R, gg_IR, gg_LR, gg_row, gg_Lrow, gg_Rrow, nI_add, pk_mul, Nat.reduceEqDiff, Nat.reduceAdd, Nat.reduceSub, Nat.reduceMul, Nat.reducePow, Nat.reduceLT, Nat.reduceLeDiff, ↓reduceIte, reduceCtorEq, and_true, true_and, and_false, false_and, and_self, not_true_eq_false, not_false_eq_true, if_true, if_false]
    have f4 : Fr [17063, 99] w (setI (setL (setL (setL (setL (setL W 99 0 2 (lN (sWea v n))) 99 0 3 (lN (v 18 p))) 99 0 4 (lN (sWant v k n))) 99 0 5 (lN (v 5 p))) 99 0 6 (lN n)) 16 0 63 (nI 0)) :=
      Fr_setI (Fr_setL (Fr_setL (Fr_setL (Fr_mono f3 (l' := [17063, 99]) rfl) rfl) rfl) rfl) rfl
    have key := m_law87 (N := N) (w0 := setI (setL (setL (setL (setL (setL W 99 0 2 (lN (sWea v n))) 99 0 3 (lN (v 18 p))) 99 0 4 (lN (sWant v k n))) 99 0 5 (lN (v 5 p))) 99 0 6 (lN n)) 16 0 63 (nI 0)) (TL_fr f4 L) hF hL ha h0 (nm := sNm v p k n (sAr v p k n) (v 18 p)) (sNm_bd hF (by omega) (by unfold sAr; omega) (WF_b31 hF _ _)) (by
        intro x hx
        have : x = 0 ∨ x = 1 ∨ x = 2 ∨ x = 3 ∨ x = 4 ∨ x = 5 ∨ x = 6 := by omega
        rcases this with rfl | rfl | rfl | rfl | rfl | rfl | rfl <;> simp [gg_L, gg_LI, sNm, w0, w1]) hf0 (((f4 93 0 _ rfl).1).trans e2) (by
        intro j hj
        have := e3 j hj
        rw [(f4 94 0 _ rfl).1, (f4 95 0 _ rfl).1, (f4 96 0 _ rfl).1]
        exact this) N 0 _ (by omega) (by omega) (Fr_refl _ _) (Or.inl ⟨_, rfl, by rw [gg_I]; exact if_pos ⟨rfl, rfl, rfl⟩, fun i hi => by omega⟩)
    refine ok_mono key ?_
    rintro ⟨x, w'⟩ ⟨r1, r2⟩
    exact ⟨Fr_trans (Fr_mono f4 rfl) (Fr_mono r1 rfl), r2⟩
  have e4 : pc (sBits v p n &&& v 3 k) = sAr v p k n := rfl
  simp (disch := first | assumption | exact WF_b31 (by assumption) _ _ | omega) only [pX12_lawOf, TM_odds T, TM_beside T, TM_weathers T, g2, g3, e4, nI_l, nz_bit, nz_b1, nz_b2, nz_shl, nz_not, nz_and, nz_or, ldn, ldLn, ldRn, stn, stLn, cpn, nI_ltI, nI_leI, nI_eq, callW_eq, Option.bind_some, li0, li1, li2, li3, li4, li5, li6, li7, li8, li9, li10, li11, li12, li13, li14, li15, li16, li17, li18, li19, li20, li21, li22, li23, li24, li25, li26, li27, li28, li29, li30, li31, li32, li33, li34, li35, li36, li37, li38, li39, li40, li41, li42, li43, li44, li45, li47, li48, li50, li56, li57, li59, li60, li61, li62, li63, li64, li90, li96, li97, li99, li100, li122, li200, li255, li256, li900, li999, li1000, li9999, li65536, li99999, li1000000, li1048576, gg_I, gg_LI, gg_RI, gg_L, gg_IL, gg_RL, gg_R, gg_IR, gg_LR, gg_row, gg_Lrow, gg_Rrow, nI_add, pk_mul, Nat.reduceEqDiff, Nat.reduceAdd, Nat.reduceSub, Nat.reduceMul, Nat.reducePow, Nat.reduceLT, Nat.reduceLeDiff, ↓reduceIte, reduceCtorEq, and_true, true_and, and_false, false_and, and_self, not_true_eq_false, not_false_eq_true, if_true, if_false]
  by_cases hw : v 0 3 = 0
  · have ew : sWea v n = 0 := by rw [sWea, if_pos hw]
    have et := tail (setL (setL w 99 0 0 (lN (v 2 k))) 99 0 1 (lN (sAr v p k n))) (Fr_setL f2 rfl) (by simp [gg_L]) (by simp [gg_L])
    rw [ew] at et
    simp only [hw, if_true]
    exact et
  · have hm : n % v 0 3 < v 0 3 := Nat.mod_lt _ (by omega)
    have ew : sWea v n = v 13 (n % v 0 3) := by rw [sWea, if_neg hw]
    have et := tail (setL (setL w 99 0 0 (lN (v 2 k))) 99 0 1 (lN (sAr v p k n))) (Fr_setL f2 rfl) (by simp [gg_L]) (by simp [gg_L])
    rw [ew] at et
    simp only [hw, if_false]
    rw [pk_rem (by omega) (by omega) (by omega), ldn (by omega) (by omega), Option.bind_some, gg_IL, gg_IL, TM_weather T _ hm, nI_l (WF_b31 hF _ _)]
    exact et
theorem m_chance (T : TM w v) (S : SM w b v) (L : TL w v) (hF : WF v) (hL : WL v) (hb : b ≤ 1) (hN : 100 ≤ N) {p k n : Nat} (hp : p < v 0 1) (hk : k < v 0 0) (hn : n < 2 ^ 30) :
    Ok (pX12_chanceOf N (nI b) (nI p) (nI k) (nI n) w) (fun r => Fr [17063, 99, 100] w r.2 ∧ r.1 = nI (sCh v p k n (sAr v p k n) (v 18 p))) := by
  have h1 := WF_people hF
  have h2 := WF_parts hF
  have n10 : ¬ nI 1 = nI 0 := by decide
  have ht : gI w 91 0 0 = zB (decide (0 < v 20 0)) := TM_told T 0 (by omega)
  have hpc := pc_le (sBits v p n &&& v 3 k)
  unfold sCh
  by_cases h0 : v 20 0 = 0
  · simp (disch := first | assumption | omega) only [pX12_chanceOf, ht, h0, TM_odds T, ldn, zB_0, decide_false, Nat.lt_irrefl, callW_eq, Option.bind_some, li0, li1, li2, li3, li4, li5, li6, li7, li8, li9, li10, li11, li12, li13, li14, li15, li16, li17, li18, li19, li20, li21, li22, li23, li24, li25, li26, li27, li28, li29, li30, li31, li32, li33, li34, li35, li36, li37, li38, li39, li40, li41, li42, li43, li44, li45, li47, li48, li50, li56, li57, li59, li60, li61, li62, li63, li64, li90, li96, li97, li99, li100, li122, li200, li255, li256, li900, li999, li1000, li9999, li65536, li99999, li1000000, li1048576, gg_I, gg_LI, gg_RI, gg_L, gg_IL, gg_RL, gg_R, gg_IR, gg_LR, gg_row, gg_Lrow, gg_Rrow, nI_add, pk_mul, Nat.reduceEqDiff, Nat.reduceAdd, Nat.reduceSub, Nat.reduceMul, Nat.reducePow, Nat.reduceLT, Nat.reduceLeDiff, ↓reduceIte, reduceCtorEq, and_true, true_and, and_false, false_and, and_self, not_true_eq_false, not_false_eq_true, if_true, if_false]
    exact ok_some ⟨Fr_refl _ _, rfl⟩
  · have hd : decide (0 < v 20 0) = true := by simp; omega
    simp (disch := first | assumption | omega) only [pX12_chanceOf, ht, hd, zB_t, n10, h0, ldn, callW_eq, Option.bind_some, li0, li1, li2, li3, li4, li5, li6, li7, li8, li9, li10, li11, li12, li13, li14, li15, li16, li17, li18, li19, li20, li21, li22, li23, li24, li25, li26, li27, li28, li29, li30, li31, li32, li33, li34, li35, li36, li37, li38, li39, li40, li41, li42, li43, li44, li45, li47, li48, li50, li56, li57, li59, li60, li61, li62, li63, li64, li90, li96, li97, li99, li100, li122, li200, li255, li256, li900, li999, li1000, li9999, li65536, li99999, li1000000, li1048576, gg_I, gg_LI, gg_RI, gg_L, gg_IL, gg_RL, gg_R, gg_IR, gg_LR, gg_row, gg_Lrow, gg_Rrow, nI_add, pk_mul, Nat.reduceEqDiff, Nat.reduceAdd, Nat.reduceSub, Nat.reduceMul, Nat.reducePow, Nat.reduceLT, Nat.reduceLeDiff, ↓reduceIte, reduceCtorEq, and_true, true_and, and_false, false_and, and_self, not_true_eq_false, not_false_eq_true, if_true, if_false]
    refine ok_bind (m_lawOf T S L hF hL hb hN (a := 0) (by omega) (by omega) hp hk hn) ?_
    rintro ⟨x, w1⟩ ⟨g1, g2, g3⟩
    simp only at g1 g2 g3
    cases hs : sLaw v 0 p k n (sAr v p k n) (v 18 p) with
    | none =>
      have := g3 hs
      simp (disch := first | assumption | omega) only [this, n10, TM_odds (TM_fr g1 T), ldn, Option.bind_some, if_false, sCut]
      exact ok_some ⟨g1, rfl⟩
    | some y =>
      obtain ⟨p1, p2⟩ := g2 y hs
      subst p1
      have hbd := sLaw_bd hF hL (by omega) (by omega) (by unfold sAr; omega) (WF_b31 hF _ _) hs
      simp only [p2, if_true, lg_lt, lg_gt, lg_eq, lgn_lt, lgn_gt, lgn_eq, sCut]
      simp only [Int64.lt_iff_toInt_lt, t00, t100]
      by_cases q1 : x.toInt < 0
      · simp only [q1, if_true]; exact ok_some ⟨g1, rfl⟩
      · by_cases q2 : 100 < x.toInt
        · simp only [q1, q2, if_true, if_false]; exact ok_some ⟨g1, li100⟩
        · simp only [q1, q2, if_false]
          refine ok_some ⟨g1, ?_⟩
          have : x = lN x.toInt.toNat := Int64.toInt_inj.mp (by rw [lN_toInt (by omega)]; omega)
          show x.toInt32 = _
          rw [this, lN_i, lN_toInt (by omega)]
          simp
end
/-! the class -/
section
variable {N : Nat} {w : Wd} {i : Nat} {v : Vw}
theorem c_weather (T : TC w i v) (hF : WF v) {n : Nat} (hn : n < 2 ^ 30) : pX4_weatherOn N i (nI n) w = some (nI (sWea v n), w) := by
  have h3 := WF_weathers hF
  unfold sWea
  by_cases hw : v 0 3 = 0
  · simp (disch := first | assumption | omega) only [pX4_weatherOn, TC_weathers T, hw, nI_ltI, Nat.lt_irrefl, if_true, if_false, li0]
  · have hm : n % v 0 3 < v 0 3 := Nat.mod_lt _ (by omega)
    have hx : ¬ (nI n ^^^ nI (v 0 3)) < nI 0 := by
      rw [nz_xor]
      exact nz_ge0 (Nat.lt_trans (Nat.xor_lt_two_pow (n := 30) hn (WF_bd hF 0 3)) (by decide))
    have hpos : 0 < v 0 3 := by omega
    simp (disch := first | assumption | omega) only [pX4_weatherOn, pJ9_floorMod_7cf53, TC_weathers T, hw, hpos, hx, pk_rem, TC_weather T, nI_ltI, nI_eq, ldn, callW_eq, Option.bind_some, li0, li1, li2, li3, li4, li5, li6, li7, li8, li9, li10, li11, li12, li13, li14, li15, li16, li17, li18, li19, li20, li21, li22, li23, li24, li25, li26, li27, li28, li29, li30, li31, li32, li33, li34, li35, li36, li37, li38, li39, li40, li41, li42, li43, li44, li45, li47, li48, li50, li56, li57, li59, li60, li61, li62, li63, li64, li90, li96, li97, li99, li100, li122, li200, li255, li256, li900, li999, li1000, li9999, li65536, li99999, li1000000, li1048576, gg_I, gg_LI, gg_RI, gg_L, gg_IL, gg_RL, gg_R, gg_IR, gg_LR, gg_row, gg_Lrow, gg_Rrow, nI_add, pk_mul, Nat.reduceEqDiff, Nat.reduceAdd, Nat.reduceSub, Nat.reduceMul, Nat.reducePow, Nat.reduceLT, Nat.reduceLeDiff, ↓reduceIte, reduceCtorEq, and_true, true_and, and_false, false_and, and_self, not_true_eq_false, not_false_eq_true, if_true, if_false]
theorem c_tell (hR : RC w i v) (hF : WF v) (hN : 100 ≤ N) {p k n ar ti : Nat} (hp : p < v 0 1) (hk : k < v 0 0) (hn : n < 2 ^ 30) (har : ar < 2 ^ 31) (hti : ti < 2 ^ 31) :
    Ok (pX9_tellNames N i (nI p) (nI k) (nI n) (nI ar) (nI ti) w) (fun w' => Fr [66] w w' ∧ ∀ x, x ≤ 6 → gL w' 66 i (tkn x) = sNm v p k n ar ti x) := by
  have h1 := WF_people hF
  have h2 := WF_parts hF
  have h8 := WF_parties hF
  have hw2 := sWant_le v k n
  have hwe := sWea_lt hF n
  have T := hR.1
  have f1 : Fr [66] w (setL (setL w 66 i 19 (lN (v 2 k))) 66 i 20 (lN ar)) := Fr_setL (Fr_setL (Fr_refl _ _) rfl) rfl
  have g1 := c_weather (N := N) (TC_fr f1 T) hF hn
  have f2 : Fr [66] w (setL (setL (setL (setL w 66 i 19 (lN (v 2 k))) 66 i 20 (lN ar)) 66 i 9 (lN (sWea v n))) 66 i 21 (lN ti)) := Fr_setL (Fr_setL f1 rfl) rfl
  have g2 := c_wanted (N := N) (TC_fr f2 T) hF hN (k := k) (by omega) hn
  simp (disch := first | assumption | exact WF_b31 (by assumption) _ _ | omega) only [pX9_tellNames, TC_odds T, TC_cost T, g1, g2, nI_l, nz_bit, nz_b1, nz_b2, nz_shl, nz_not, nz_and, nz_or, ldn, ldLn, ldRn, stn, stLn, cpn, nI_ltI, nI_leI, nI_eq, callW_eq, Option.bind_some, li0, li1, li2, li3, li4, li5, li6, li7, li8, li9, li10, li11, li12, li13, li14, li15, li16, li17, li18, li19, li20, li21, li22, li23, li24, li25, li26, li27, li28, li29, li30, li31, li32, li33, li34, li35, li36, li37, li38, li39, li40, li41, li42, li43, li44, li45, li47, li48, li50, li56, li57, li59, li60, li61, li62, li63, li64, li90, li96, li97, li99, li100, li122, li200, li255, li256, li900, li999, li1000, li9999, li65536, li99999, li1000000, li1048576, gg_I, gg_LI, gg_RI, gg_L, gg_IL, gg_RL, gg_R, gg_IR, gg_LR, gg_row, gg_Lrow, gg_Rrow, nI_add, pk_mul, Nat.reduceEqDiff, Nat.reduceAdd, Nat.reduceSub, Nat.reduceMul, Nat.reducePow, Nat.reduceLT, Nat.reduceLeDiff, ↓reduceIte, reduceCtorEq, and_true, true_and, and_false, false_and, and_self, not_true_eq_false, not_false_eq_true, if_true, if_false]
  refine ok_some ⟨Fr_setL (Fr_setL (Fr_setL f2 rfl) rfl) rfl, ?_⟩
  intro x hx
  have : x = 0 ∨ x = 1 ∨ x = 2 ∨ x = 3 ∨ x = 4 ∨ x = 5 ∨ x = 6 := by omega
  rcases this with rfl | rfl | rfl | rfl | rfl | rfl | rfl <;> simp [gg_L, sNm, tkn]
theorem c_LawC {w : Wd} (hR : RC w i v) (hF : WF v) (hL : WL v) {a p k n ar ti : Nat} (ha : a < 2) (hn : n < 2 ^ 31) (har : ar < 2 ^ 31) (hti : ti < 2 ^ 31) (h : ∀ x, x ≤ 6 → gL w 66 i (tkn x) = sNm v p k n ar ti x) :
    LawC w (2 * gR w 13 i 0 + a) i (lK v a) (lX v a) (v 20 a) (sNm v p k n ar ti) :=
  ⟨TC_lsize hR.1 a ha, WF_lsize hF a, fun j hj => TC_lcode hR.1 a j ha hj, h, fun j hj => WF_lK hF ha hj, (hL a ha).1, (hL a ha).2, sNm_bd hF hn har hti⟩
theorem c_lawV (hR : RC w i v) (hF : WF v) (hL : WL v) (hN : 100 ≤ N) {a p k n ar ti : Nat} (ha : a < 2) (hp : p < v 0 1) (hk : k < v 0 0) (hn : n < 2 ^ 30) (har : ar < 2 ^ 31) (hti : ti < 2 ^ 31) {β : Type} {Q : β → Prop} {F : Int64 × Wd → Option β}
    (hF2 : ∀ w', Fr [66, 22] w w' → Ok (F ((sLaw v a p k n ar ti).getD (-9223372036854775808 : Int64), w')) Q) :
    Ok ((pX9_tellNames N i (nI p) (nI k) (nI n) (nI ar) (nI ti) w).bind fun w2 => (pX1_workOut N (2 * gR w 13 i 0 + a) i w2).bind F) Q := by
  have h20 := WF_lsize hF a
  refine ok_bind (c_tell hR hF hN hp hk hn har hti) ?_
  rintro w2 ⟨g1, g2⟩
  have hR2 := RC_fr g1 hR
  have e13 : gR w2 13 i 0 = gR w 13 i 0 := (g1 13 i 0 rfl).2.2
  have hC := c_LawC hR2 hF hL ha (by omega) har hti g2
  rw [e13] at hC
  have key := c_workOut (N := N) hC N 0 w2 (by omega) (by omega) (Fr_refl _ _) ⟨_, rfl, fun i hi => by omega, fun i hi => by rw [sd] at hi; omega⟩
  have e0 : pX1_workOut N (2 * gR w 13 i 0 + a) i w2 = fX1_workOut_4 N (2 * gR w 13 i 0 + a) i N (fX1_workOut_100 N (2 * gR w 13 i 0 + a)) (nI (sd (lK v a) 0)) (nI 0) w2 := by
    rw [pX1_workOut, callW_eq]; rfl
  rw [e0]
  refine ok_bind key ?_
  rintro ⟨x, w3⟩ ⟨r1, r2⟩
  simp only at r1 r2
  subst r2
  exact hF2 w3 (Fr_trans (Fr_mono g1 rfl) (Fr_mono r1 rfl))
theorem c_chanceOn (hR : RC w i v) (hF : WF v) (hL : WL v) (hN : 100 ≤ N) {p k n ar ti : Nat} (hp : p < v 0 1) (hk : k < v 0 0) (hn : n < 2 ^ 30) (har : ar < 2 ^ 31) (hti : ti < 2 ^ 31) :
    Ok (pX9_chanceOn N i (nI p) (nI k) (nI n) (nI ar) (nI ti) w) (fun r => Fr [66, 22] w r.2 ∧ r.1 = nI (sCh v p k n ar ti)) := by
  have h2 := WF_parts hF
  have T := hR.1
  have hs : gI w 5 (2 * gR w 13 i 0 + 0) 2 = nI (v 20 0) := TC_lsize T 0 (by omega)
  unfold sCh
  by_cases h0 : v 20 0 = 0
  · simp (disch := first | assumption | omega) only [pX9_chanceOn, hs, h0, TC_odds T, ldn, callW_eq, Option.bind_some, li0, li1, li2, li3, li4, li5, li6, li7, li8, li9, li10, li11, li12, li13, li14, li15, li16, li17, li18, li19, li20, li21, li22, li23, li24, li25, li26, li27, li28, li29, li30, li31, li32, li33, li34, li35, li36, li37, li38, li39, li40, li41, li42, li43, li44, li45, li47, li48, li50, li56, li57, li59, li60, li61, li62, li63, li64, li90, li96, li97, li99, li100, li122, li200, li255, li256, li900, li999, li1000, li9999, li65536, li99999, li1000000, li1048576, gg_I, gg_LI, gg_RI, gg_L, gg_IL, gg_RL, gg_R, gg_IR, gg_LR, gg_row, gg_Lrow, gg_Rrow, nI_add, pk_mul, Nat.reduceEqDiff, Nat.reduceAdd, Nat.reduceSub, Nat.reduceMul, Nat.reducePow, Nat.reduceLT, Nat.reduceLeDiff, ↓reduceIte, reduceCtorEq, and_true, true_and, and_false, false_and, and_self, not_true_eq_false, not_false_eq_true, if_true, if_false]
    exact ok_some ⟨Fr_refl _ _, rfl⟩
  · have e0 : pX9_chanceOn N i (nI p) (nI k) (nI n) (nI ar) (nI ti) w = (pX9_tellNames N i (nI p) (nI k) (nI n) (nI ar) (nI ti) w).bind fun w2 => (pX1_workOut N (2 * (gR w2 13 i 0) + 0) i w2).bind fun r3 =>
        if (lg_cmp r3.1 (-9223372036854775808 : Int64)) = 0 then (ldI r3.2 31 (gR r3.2 13 i 0) (nI k) 8).bind fun x4 => some (x4, r3.2)
        else if 0 < (lg_cmp r3.1 (100 : Int64)) then some ((100 : Int32), r3.2) else if (lg_cmp r3.1 (0 : Int64)) < 0 then some ((0 : Int32), r3.2) else some (r3.1.toInt32, r3.2) := by
      simp (disch := first | assumption | exact WF_b31 (by assumption) _ _ | omega) only [pX9_chanceOn, hs, nI_eq, li0, h0, callW_eq, if_false]
    rw [e0, if_neg h0]
    refine ok_bind (c_tell hR hF hN hp hk hn har hti) ?_
    rintro w2 ⟨g1, g2⟩
    have hR2 := RC_fr g1 hR
    have hC := c_LawC hR2 hF hL (a := 0) (by omega) (by omega) har hti g2
    have h20 := WF_lsize hF 0
    have key := c_workOut (N := N) hC N 0 w2 (by omega) (by omega) (Fr_refl _ _) ⟨_, rfl, fun i hi => by omega, fun i hi => by rw [sd] at hi; omega⟩
    have e1 : pX1_workOut N (2 * gR w2 13 i 0 + 0) i w2 = fX1_workOut_4 N (2 * gR w2 13 i 0 + 0) i N (fX1_workOut_100 N (2 * gR w2 13 i 0 + 0)) (nI (sd (lK v 0) 0)) (nI 0) w2 := by
      rw [pX1_workOut, callW_eq]; rfl
    rw [e1]
    refine ok_bind key ?_
    rintro ⟨x, w3⟩ ⟨r1, r2⟩
    simp only at r1 r2
    have f3 : Fr [66, 22] w w3 := Fr_trans (Fr_mono g1 rfl) (Fr_mono r1 rfl)
    have hR3 := RC_fr f3 hR
    have T3 := hR3.1
    show Ok _ _
    have er : (evl (sNm v p k n ar ti) (lK v 0) (lX v 0) (v 20 0)) = sLaw v 0 p k n ar ti := rfl
    rw [er] at r2
    cases hs2 : sLaw v 0 p k n ar ti with
    | none =>
      rw [hs2] at r2
      subst r2
      simp (disch := first | assumption | omega) only [lg_lt, lg_gt, lg_eq, lgn_lt, lgn_gt, lgn_eq, TC_odds T3, ldn, Option.getD_none, Option.bind_some, if_true, sCut]
      exact ok_some ⟨f3, rfl⟩
    | some y =>
      rw [hs2] at r2
      have r2' : x = y := r2
      subst r2'
      have hbd := sLaw_bd hF hL (by omega) (by omega) har hti hs2
      have nm : ¬ x = (-9223372036854775808 : Int64) := by
        intro q
        have := hbd.1
        rw [q, tmin] at this
        omega
      simp only [lg_lt, lg_gt, lg_eq, lgn_lt, lgn_gt, lgn_eq, nm, if_false, lg_lt, lg_gt, lg_eq, lgn_lt, lgn_gt, lgn_eq, sCut]
      simp only [Int64.lt_iff_toInt_lt, t00, t100]
      by_cases q1 : x.toInt < 0
      · have q2 : ¬ 100 < x.toInt := by omega
        simp only [q1, q2, if_true, if_false]; exact ok_some ⟨f3, rfl⟩
      · by_cases q2 : 100 < x.toInt
        · simp only [q1, q2, if_true, if_false]; exact ok_some ⟨f3, li100⟩
        · simp only [q1, q2, if_false]
          refine ok_some ⟨f3, ?_⟩
          have : x = lN x.toInt.toNat := Int64.toInt_inj.mp (by rw [lN_toInt (by omega)]; omega)
          show x.toInt32 = _
          rw [this, lN_i, lN_toInt (by omega)]
          simp
theorem c_around (hR : RC w i v) (hF : WF v) (hN : 100 ≤ N) {p k : Nat} (hp : p < v 0 1) (hk : k < v 0 0) : pX9_aroundTonight N i (nI p) (nI k) w = some (nI (sAr v p k (v 0 5)), w) := by
  have h2 := WF_parts hF
  have hn := WF_night hF
  have hs := sBits_lt hF p (v 0 5)
  have g := c_known (N := N) hR hF hN hp (n := v 0 5) (by omega)
  have g2 := c_bits (N := N) (w := w) (x := v 3 k &&& sBits v p (v 0 5)) (by rw [Nat.and_comm]; have := and_lt8 (y := v 3 k) hs; omega)
  have T := hR.1
  have S := hR.2
  simp (disch := first | assumption | exact WF_b31 (by assumption) _ _ | omega) only [pX9_aroundTonight, TC_beside T, SC_night S, g, g2, nz_bit, nz_b1, nz_b2, nz_shl, nz_not, nz_and, nz_or, ldn, ldLn, ldRn, stn, stLn, cpn, nI_ltI, nI_leI, nI_eq, callW_eq, Option.bind_some, li0, li1, li2, li3, li4, li5, li6, li7, li8, li9, li10, li11, li12, li13, li14, li15, li16, li17, li18, li19, li20, li21, li22, li23, li24, li25, li26, li27, li28, li29, li30, li31, li32, li33, li34, li35, li36, li37, li38, li39, li40, li41, li42, li43, li44, li45, li47, li48, li50, li56, li57, li59, li60, li61, li62, li63, li64, li90, li96, li97, li99, li100, li122, li200, li255, li256, li900, li999, li1000, li9999, li65536, li99999, li1000000, li1048576, gg_I, gg_LI, gg_RI, gg_L, gg_IL, gg_RL, gg_R, gg_IR, gg_LR, gg_row, gg_Lrow, gg_Rrow, nI_add, pk_mul, Nat.reduceEqDiff, Nat.reduceAdd, Nat.reduceSub, Nat.reduceMul, Nat.reducePow, Nat.reduceLT, Nat.reduceLeDiff, ↓reduceIte, reduceCtorEq, and_true, true_and, and_false, false_and, and_self, not_true_eq_false, not_false_eq_true, if_true, if_false]
  rw [Nat.and_comm]
  rfl
theorem c_chance (hR : RC w i v) (hF : WF v) (hL : WL v) (hN : 100 ≤ N) {p k : Nat} (hp : p < v 0 1) (hk : k < v 0 0) :
    Ok (pX9_chanceTonight N i (nI p) (nI k) w) (fun r => Fr [66, 22] w r.2 ∧ r.1 = nI (sCh v p k (v 0 5) (sAr v p k (v 0 5)) (v 18 p))) := by
  have h1 := WF_people hF
  have hn := WF_night hF
  have hpc := pc_le (sBits v p (v 0 5) &&& v 3 k)
  have g := c_around (N := N) hR hF hN hp hk
  have S := hR.2
  simp (disch := first | assumption | exact WF_b31 (by assumption) _ _ | omega) only [pX9_chanceTonight, g, SC_night S, SC_times S, nz_bit, nz_b1, nz_b2, nz_shl, nz_not, nz_and, nz_or, ldn, ldLn, ldRn, stn, stLn, cpn, nI_ltI, nI_leI, nI_eq, callW_eq, Option.bind_some, li0, li1, li2, li3, li4, li5, li6, li7, li8, li9, li10, li11, li12, li13, li14, li15, li16, li17, li18, li19, li20, li21, li22, li23, li24, li25, li26, li27, li28, li29, li30, li31, li32, li33, li34, li35, li36, li37, li38, li39, li40, li41, li42, li43, li44, li45, li47, li48, li50, li56, li57, li59, li60, li61, li62, li63, li64, li90, li96, li97, li99, li100, li122, li200, li255, li256, li900, li999, li1000, li9999, li65536, li99999, li1000000, li1048576, gg_I, gg_LI, gg_RI, gg_L, gg_IL, gg_RL, gg_R, gg_IR, gg_LR, gg_row, gg_Lrow, gg_Rrow, nI_add, pk_mul, Nat.reduceEqDiff, Nat.reduceAdd, Nat.reduceSub, Nat.reduceMul, Nat.reducePow, Nat.reduceLT, Nat.reduceLeDiff, ↓reduceIte, reduceCtorEq, and_true, true_and, and_false, false_and, and_self, not_true_eq_false, not_false_eq_true, if_true, if_false]
  refine ok_bind (c_chanceOn hR hF hL hN hp hk (by omega) (by unfold sAr; omega) (WF_b31 hF _ _)) ?_
  rintro r hr
  exact ok_some hr
end

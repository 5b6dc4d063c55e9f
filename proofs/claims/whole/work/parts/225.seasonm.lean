/-! ===== seasons: the reference ===== -/
def sSea (v : Vw) (ms wh n : Nat) (sd : Int32) : Int32 :=
  if wh = 0 then (snN ms (noLost v, sd.toInt64, nI 0, 0) n).2.2.1
  else if wh = 1 then nI (cnt (fun p => (snN ms (noLost v, sd.toInt64, nI 0, 0) n).1 17 p == 1 && !(v 17 p == 1)) (v 0 1))
  else nI (snN ms (noLost v, sd.toInt64, nI 0, 0) n).2.2.2
def kSe : List Nat := [101, 102, 103, 104, 105, 106, 111, 112, 17063, 99, 100, 110, 17091, 17092]
section
variable {N : Nat} {w : Wd} {v : Vw}
theorem m_se48 {w0 : Wd} (T0 : TM w0 v) (hF : WF v) (hN : 2 ^ 23 ≤ N) {a1 a3 a4 : Int32} {n : Nat} (hn : n < 2 ^ 30) (hkn : ∀ g, g < 7 → gI w0 111 0 g = nI (knF v n 0 g)) {x : Int32} {l : Nat} {Q : Int32 × Wd → Prop} (k73 : Int32 → Int32 → Int32 → Wd → Option (Int32 × Wd))
    (hk : ∀ w, Fr [112] w0 w → Ok (k73 (prQ v n (sAny v n) (x, l) (v 0 2)).1 (nI (prQ v n (sAny v n) (x, l) (v 0 2)).2) (nI n) w) Q) :
    ∀ fuel c w, c ≤ v 0 2 → v 0 2 - c < fuel → Fr [112] w0 w → Ok (fX12_season_48 N a1 a3 a4 fuel k73 (prQ v n (sAny v n) (x, l) c).1 (nI (prQ v n (sAny v n) (x, l) c).2) (nI n) (nI c) w) Q := by
  have h3 := WF_parties hF
  intro fuel
  induction fuel with
  | zero => intro c _ _ h; omega
  | succ f ih =>
    intro c w hc hf hI
    have T := TM_fr hI T0
    have e1 : nI c + (1 : Int32) = nI (c + 1) := nI_add c 1
    rcases Nat.lt_or_ge c (v 0 2) with h | h
    · have lt : (nI c < gI w 16 0 14) = True := eq_true (by rw [TM_parties T]; exact (nI_ltI (by omega) (by omega)).mpr h)
      have l1 : ldI w 86 0 (nI c) 16 = some (nI (v 11 c)) := by rw [ldn (by omega) (by omega), TM_pnight T c h]
      have hpn := WF_pnight hF c
      by_cases q : v 11 c = n
      · have q' : (nI (v 11 c) = nI n) = True := eq_true (by rw [q])
        simp only [fX12_season_48, ↓lt, ↓bnd l1, ↓q', ↓reduceIte, callW_eq, ↓e1]
        refine ok_bind (m_isLed T hF hN (kn := knF v n 0) (fun g hg => ((hI 111 0 g rfl).1).trans (hkn g hg)) (fun g => knF_lt hF (by omega) g) h) ?_
        rintro ⟨r, w1⟩ ⟨j1, j2⟩
        simp only at j1 j2
        rw [unG_kn hF, Nat.or_zero] at j2
        subst j2
        have hfr := Fr_trans hI j1
        cases z : gL8 v (sAny v n) c with
        | false =>
          have z0 : (zB false = 0) = True := eq_true rfl
          simp only [↓z0, ↓reduceIte]
          have he : prQ v n (sAny v n) (x, l) (c + 1) = prQ v n (sAny v n) (x, l) c := by rw [prQ, z, if_neg (by simp)]
          have := ih (c + 1) w1 (by omega) (by omega) hfr
          rw [he] at this
          exact this
        | true =>
          have z0 : (zB true = 0) = False := eq_false (by decide)
          have l3 : ldI w1 87 0 (nI c) 16 = some (nI (v 12 c)) := by rw [ldn (by omega) (by omega), TM_price (TM_fr j1 T) c h]
          simp only [↓z0, ↓bnd l3, ↓reduceIte]
          have he : prQ v n (sAny v n) (x, l) (c + 1) = ((prQ v n (sAny v n) (x, l) c).1 + nI (v 12 c), (prQ v n (sAny v n) (x, l) c).2 + 1) := by
            rw [prQ, if_pos]
            rw [z, q]; simp
          have := ih (c + 1) w1 (by omega) (by omega) hfr
          rw [he] at this
          have e2 : nI (prQ v n (sAny v n) (x, l) c).2 + (1 : Int32) = nI ((prQ v n (sAny v n) (x, l) c).2 + 1) := nI_add _ 1
          rw [e2]
          exact this
      · have q' : (nI (v 11 c) = nI n) = False := eq_false (fun z => q ((nI_eq (by omega) (by omega)).mp z))
        simp only [fX12_season_48, ↓lt, ↓bnd l1, ↓q', ↓reduceIte, callW_eq, ↓e1]
        have he : prQ v n (sAny v n) (x, l) (c + 1) = prQ v n (sAny v n) (x, l) c := by
          rw [prQ, if_neg]
          have : (v 11 c == n) = false := by simp [q]
          rw [this]; simp
        have := ih (c + 1) w (by omega) (by omega) hI
        rw [he] at this
        exact this
    · have : c = v 0 2 := by omega
      subst this
      have lt : (nI (v 0 2) < gI w 16 0 14) = False := eq_false (by rw [TM_parties T]; exact fun z => by have := (nI_ltI (by omega) (by omega)).mp z; omega)
      simp only [fX12_season_48, ↓lt, ↓reduceIte]
      exact hk w hI
theorem BFr_frb {l : List Nat} {w w1 : Wd} {b : Nat} (f : Fr l w w1) (hl : dis l kBf = true) : BFr b w w1 := BFr_fr f hl
theorem m_season (hR : RM w 0 v) (hF : WF v) (hL : WL v) (hT : ∀ j, v 18 j ≤ v 0 5) (h1000 : v 0 5 ≤ 1000) (hnt : gI w 16 0 64 = nI (v 0 5)) (hN : 2 ^ 23 ≤ N) {ms n wh : Nat} (hms : ms < 4) (hn : n ≤ 50) (hwh : wh < 3) {sd : Int32} :
    Ok ((pX12_layTried N w).bind fun w4 => (stL w4 106 0 (1 : Int32) 2 sd.toInt64).bind fun w5 => fX12_season_35 N (nI ms) (nI n) (nI wh) N (fX12_season_104 N (nI wh)) (0 : Int32) (0 : Int32) (gI w5 16 0 64) w5) (fun r => Fr kSe w r.2 ∧ BFr 1 w r.2 ∧ r.1 = sSea v ms wh n sd) := by
  have h1 := WF_people hF
  obtain ⟨T, S, L, D⟩ := hR
  have facts := snN_facts (WF_noLost hF) (WL_ext (noLost_mr v) hL) (v := noLost v) (fun j => hT j) ms sd.toInt64 (nI 0) 0
  have h05 : noLost v 0 5 = v 0 5 := rfl
  rw [h05] at facts
  have last : ∀ w1, (Fr kSe w w1 ∧ BFr 1 w w1 ∧ RM w1 1 (snN ms (noLost v, sd.toInt64, nI 0, 0) n).1) →
      Ok (fX12_season_104 N (nI wh) (snN ms (noLost v, sd.toInt64, nI 0, 0) n).2.2.1 (nI (snN ms (noLost v, sd.toInt64, nI 0, 0) n).2.2.2) w1) (fun r => Fr kSe w r.2 ∧ BFr 1 w r.2 ∧ r.1 = sSea v ms wh n sd) := by
    rintro w1 ⟨i1, i2, i3⟩
    obtain ⟨b1, b2, b3, b4, b5⟩ := facts n (by omega)
    have e01 : (snN ms (noLost v, sd.toInt64, nI 0, 0) n).1 0 1 = v 0 1 := b4.1 0 1 (by simp [mr])
    have hS0 : SM w1 0 v := SM_bfr i2 (by omega) h1 S
    generalize hs : snN ms (noLost v, sd.toInt64, nI 0, 0) n = s at *
    have key : ∀ fuel c, c ≤ v 0 1 → v 0 1 - c < fuel → fX12_season_108 N (nI wh) fuel (fX12_season_132 N (nI wh)) s.2.2.1 (nI s.2.2.2) (nI (cnt (fun p => s.1 17 p == 1 && !(v 17 p == 1)) c)) (nI c) w1 = some (sSea v ms wh n sd, w1) := by
      intro fuel
      induction fuel with
      | zero => intro c _ h; omega
      | succ f ih =>
        intro c hc hf
        have e1 : nI c + (1 : Int32) = nI (c + 1) := nI_add c 1
        rcases Nat.lt_or_ge c (v 0 1) with h | h
        · have lt : (nI c < gI w1 16 0 13) = True := eq_true (by rw [TM_people i3.1, e01]; exact (nI_ltI (by omega) (by omega)).mpr h)
          have l1 : ldI w1 103 0 ((6 : Int32) + nI c) 12 = some (nI (s.1 17 c)) := by
            have : (6 : Int32) + nI c = nI (6 * 1 + c) := nI_add 6 c
            rw [this, ldn (by omega) (by omega), SM_gone i3.2.1 c (by rw [e01]; exact h)]
          have l2 : ldI w1 103 0 (nI c) 12 = some (nI (v 17 c)) := by
            have := SM_gone hS0 c h
            rw [show 6 * 0 + c = c by omega] at this
            rw [ldn (by omega) (by omega), this]
          have g1 := WF_gone b1 c
          have g2 := WF_gone hF c
          have e := ih (c + 1) (by omega) (by omega)
          rw [cnt] at e
          rcases (show s.1 17 c = 0 ∨ s.1 17 c = 1 by omega) with q | q
          · have q' : (nI (s.1 17 c) = 0) = True := eq_true (by rw [q]; rfl)
            simp only [fX12_season_108, ↓lt, ↓bnd l1, ↓q', ↓reduceIte, callW_eq, ↓e1, li0, nI_add, Nat.add_zero]
            rw [q] at e
            simpa using e
          · have q' : (nI (s.1 17 c) = 0) = False := eq_false (by rw [q]; decide)
            rcases (show v 17 c = 0 ∨ v 17 c = 1 by omega) with y | y
            · have y' : (nI (v 17 c) = 0) = True := eq_true (by rw [y]; rfl)
              simp only [fX12_season_108, ↓lt, ↓bnd l1, ↓q', ↓bnd l2, ↓y', ↓reduceIte, callW_eq, ↓e1, li1, nI_add]
              rw [q, y] at e
              simpa using e
            · have y' : (nI (v 17 c) = 0) = False := eq_false (by rw [y]; decide)
              simp only [fX12_season_108, ↓lt, ↓bnd l1, ↓q', ↓bnd l2, ↓y', ↓reduceIte, callW_eq, ↓e1, li0, nI_add, Nat.add_zero]
              rw [q, y] at e
              simpa using e
        · have : c = v 0 1 := by omega
          subst this
          have lt : (nI (v 0 1) < gI w1 16 0 13) = False := eq_false (by rw [TM_people i3.1, e01]; exact fun z => by have := (nI_ltI (by omega) (by omega)).mp z; omega)
          simp only [fX12_season_108, fX12_season_132, ↓lt, ↓reduceIte]
          unfold sSea
          rw [hs]
          rcases (show wh = 0 ∨ wh = 1 ∨ wh = 2 by omega) with rfl | rfl | rfl
          · have q0 : (nI 0 = (0 : Int32)) = True := eq_true rfl
            simp only [↓q0, ↓reduceIte]
          · have q0 : (nI 1 = (0 : Int32)) = False := eq_false (by decide)
            have q1 : (nI 1 = (1 : Int32)) = True := eq_true rfl
            simp only [↓q0, ↓q1, ↓reduceIte]
            rfl
          · have q0 : (nI 2 = (0 : Int32)) = False := eq_false (by decide)
            have q1 : (nI 2 = (1 : Int32)) = False := eq_false (by decide)
            simp only [↓q0, ↓q1, ↓reduceIte]
            rfl
    unfold fX12_season_104
    rw [callW_eq]
    exact ok_of (key N 0 (by omega) (by omega)) ⟨i1, i2, rfl⟩
  have loop : ∀ fuel c w1, c ≤ n → n - c < fuel → (Fr kSe w w1 ∧ BFr 1 w w1 ∧ RM w1 1 (snN ms (noLost v, sd.toInt64, nI 0, 0) c).1 ∧ gL w1 106 0 1 = (snN ms (noLost v, sd.toInt64, nI 0, 0) c).2.1) →
      Ok (fX12_season_35 N (nI ms) (nI n) (nI wh) fuel (fX12_season_104 N (nI wh)) (snN ms (noLost v, sd.toInt64, nI 0, 0) c).2.2.1 (nI (snN ms (noLost v, sd.toInt64, nI 0, 0) c).2.2.2) (nI (v 0 5 + c)) w1) (fun r => Fr kSe w r.2 ∧ BFr 1 w r.2 ∧ r.1 = sSea v ms wh n sd) := by
    intro fuel
    induction fuel with
    | zero => intro c _ _ h; omega
    | succ f ih =>
      intro c w1 hc hf hI
      obtain ⟨i1, i2, i3, i4⟩ := hI
      have hnt1 : gI w1 16 0 64 = nI (v 0 5) := ((i1 16 0 64 rfl).1).trans hnt
      rcases Nat.lt_or_ge c n with h | h
      · have lt : (nI (v 0 5 + c) < gI w1 16 0 64 + nI n) = True := eq_true (by rw [hnt1, nI_add]; exact (nI_ltI (by omega) (by omega)).mpr (by omega))
        obtain ⟨b1, b2, b3, b4, b5⟩ := facts c (by omega)
        have es : snN ms (noLost v, sd.toInt64, nI 0, 0) (c + 1) = sn1 ms (snN ms (noLost v, sd.toInt64, nI 0, 0) c) := rfl
        have ih' := fun w1 => ih (c + 1) w1 (by omega) (by omega)
        rw [es] at ih'
        generalize hs : snN ms (noLost v, sd.toInt64, nI 0, 0) c = s at *
        have hp6 := WF_people b1
        have hq8 := WF_parties b1
        have h5 : s.1 0 5 ≤ 1050 := by rw [b5]; omega
        rw [← b5] at lt ⊢
        simp only [fX12_season_35, ↓lt, ↓reduceIte, callW_eq, li0, li1]
        refine ok_bind (m_layKnown (N := N) (n := s.1 0 5) (more := 0) i3.1 i3.2.1 b1 (by omega) (by omega) (by omega)) ?_
        rintro w2 ⟨f2, k2⟩
        have i3' := RM_fr f2 i3
        have es2 : s = (s.1, s.2.1, s.2.2.1, s.2.2.2) := rfl
        refine m_se48 (x := s.2.2.1) (l := s.2.2.2) i3'.1 b1 hN (by omega) k2 _ ?_ N 0 w2 (by omega) (by omega) (Fr_refl _ _)
        intro w3 f3
        have hR3 := RM_fr f3 i3'
        have hW := pkP_W s.1 ms (s.1 0 5) (s.1 0 1)
        obtain ⟨v1, v2, v3, v4, v5⟩ := snv_facts b1 b2 b3 hW
        simp only [fX12_season_73, callW_eq, li1]
        refine ok_bind (m_pickOf hR3 b1 b2 (by omega) (by omega) hms (by omega)) ?_
        rintro w4 ⟨f4, p1, p2⟩
        have hR4 := RM_fr f4 hR3
        have fr4 : Fr kSe w w4 := Fr_trans i1 (Fr_trans (Fr_mono f2 rfl) (Fr_trans (Fr_mono f3 rfl) (Fr_mono f4 rfl)))
        have bf4 : BFr 1 w w4 := BFr_trans i2 (BFr_trans (BFr_fr f2) (BFr_trans (BFr_fr f3) (BFr_fr f4)))
        have z4 : gL w4 106 0 1 = s.2.1 := by rw [(f4 106 0 1 rfl).2.1, (f3 106 0 1 rfl).2.1, (f2 106 0 1 rfl).2.1]; exact i4
        have goOn : ∀ w5 y, Fr kSe w w5 → BFr 1 w w5 → RM w5 1 (snv s.1 (pkP s.1 ms (s.1 0 5) (s.1 0 1))) → gL w5 106 0 1 = s.2.1 → y = snx s.1 (pkP s.1 ms (s.1 0 5) (s.1 0 1)) (prQ s.1 (s.1 0 5) (sAny s.1 (s.1 0 5)) (s.2.2.1, s.2.2.2) (s.1 0 2)).1 →
            Ok (fX12_season_98 N (nI ms) (nI n) (nI wh) (fX12_season_35 N (nI ms) (nI n) (nI wh) f (fX12_season_104 N (nI wh))) y (nI (prQ s.1 (s.1 0 5) (sAny s.1 (s.1 0 5)) (s.2.2.1, s.2.2.2) (s.1 0 2)).2) (nI (s.1 0 5)) w5) (fun r => Fr kSe w r.2 ∧ BFr 1 w r.2 ∧ r.1 = sSea v ms wh n sd) := by
          intro w5 y q1 q2 q3 q4 q5
          subst q5
          have gb := m_goesBy (N := N) q3 v1 v2 v3 (by omega) (by omega) q4
          rw [v5] at gb
          simp only [fX12_season_98, callW_eq, li1, nI_add]
          refine ok_bind gb ?_
          rintro w6 ⟨r1, r2, r3, r4⟩
          have := ih' w6 ⟨Fr_trans q1 (Fr_mono r1 rfl), BFr_trans q2 r2, r3, r4⟩
          have e5 : v 0 5 + (c + 1) = s.1 0 5 + 1 := by rw [b5]; omega
          rw [e5] at this
          exact this
        have hneg := lst_neg (L := (pkP s.1 ms (s.1 0 5) (s.1 0 1)).1) (by have := hW.2.1; omega)
        by_cases q0 : (pkP s.1 ms (s.1 0 5) (s.1 0 1)).1 = 0
        · have q0' : (gI w4 16 0 91 < 0) = True := eq_true (by rw [p1]; exact hneg.mpr q0)
          simp only [↓q0', ↓reduceIte]
          refine goOn w4 _ fr4 bf4 ?_ z4 ?_
          · rw [snv, if_pos q0]; exact hR4
          · rw [snx, if_pos q0]
        · have q0' : (gI w4 16 0 91 < 0) = False := eq_false (by rw [p1]; exact fun y => q0 (hneg.mp y))
          have hle := hW.2.1
          have hlt := hW.2.2 q0
          generalize hk : pkP s.1 ms (s.1 0 5) (s.1 0 1) = k at *
          have p1' : gI w4 16 0 91 = nI (k.1 - 1) := by rw [p1, lst_pos q0]
          have p2' : gI w4 16 0 92 = nI k.2.1 := by rw [p2, pkI, if_neg q0]
          have l4 : ldI w4 80 0 (gI w4 16 0 91) 12 = some (nI (s.1 5 (k.1 - 1))) := by
            rw [p1', ldn (by omega) (by omega), TM_cost hR4.1 _ (by omega)]
          have s5 : stI w4 105 0 ((6 : Int32) + gI w4 16 0 91) 12 (gI w4 16 0 92) = some (setI w4 105 0 (6 * 1 + (k.1 - 1)) (nI k.2.1)) := by
            have : (6 : Int32) + nI (k.1 - 1) = nI (6 * 1 + (k.1 - 1)) := nI_add 6 _
            rw [p1', p2', this]; exact stn (by omega) (by omega)
          simp only [↓q0', ↓bnd l4, ↓bnd s5, ↓reduceIte]
          refine goOn _ _ (Fr_setI fr4 rfl) (BFr_set bf4 (Or.inr ⟨by omega, by omega⟩)) ?_ ?_ ?_
          · rw [snv, if_neg q0]
            have fw : Fr [105] w4 (setI w4 105 0 (6 * 1 + (k.1 - 1)) (nI k.2.1)) := Fr_setI (Fr_refl _ _) rfl
            exact RM_ext (mr_up (by omega) (by omega)) (up2_ne (by omega)) (fun _ => up2_ne (by omega)) (fun _ => up2_ne (by omega)) (TM_fr fw hR4.1) (TL_fr fw hR4.2.2.1) (ST_fr fw hR4.2.2.2) (SM_set19 hR4.2.1 _ _)
          · rw [gg_LI]; exact z4
          · rw [snx, if_neg q0]
      · have : c = n := by omega
        subst this
        have lt : (nI (v 0 5 + c) < gI w1 16 0 64 + nI c) = False := eq_false (by rw [hnt1, nI_add]; exact fun z => by have := (nI_ltI (by omega) (by omega)).mp z; omega)
        simp only [fX12_season_35, ↓lt, ↓reduceIte]
        exact last w1 ⟨i1, i2, i3⟩
  refine ok_bind (m_layTried S hF (by omega)) ?_
  rintro w4 ⟨f4, b4, S4⟩
  have s5 : stL w4 106 0 (1 : Int32) 2 sd.toInt64 = some (setL w4 106 0 1 sd.toInt64) := stLn (j := 1) (by omega) (by omega)
  rw [s5, Option.bind_some, gg_IL, (f4 16 0 64 rfl).1, hnt, li0]
  have fw : Fr [106] w4 (setL w4 106 0 1 sd.toInt64) := Fr_setL (Fr_refl _ _) rfl
  have := loop N 0 (setL w4 106 0 1 sd.toInt64) (by omega) (by omega) ⟨Fr_setL (Fr_mono f4 rfl) rfl, BFr_setL b4, ?_, by rw [gg_L, if_pos ⟨rfl, rfl, rfl⟩]; rfl⟩
  · exact this
  · have fall : Fr [101, 102, 103, 104, 105, 106] w (setL w4 106 0 1 sd.toInt64) := Fr_setL (Fr_mono f4 rfl) rfl
    exact RM_ext (noLost_mr v) rfl (fun _ => rfl) (fun _ => rfl) (TM_fr fall T) (TL_fr fall L) (ST_fr fall D) (SM_fr fw S4)
end

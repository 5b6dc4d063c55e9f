/-! ===== laws: both read a value, a bracket or a not ===== -/
section
variable {N : Nat} {w w' w0 w1 wc wm wc' wm' : Wd} {b : Nat → Nat} {n m d k i : Nat} {u u' : Vw} {a f j s C op h : Nat} {K X st : Nat → Nat} {wt : Bool}
theorem CF_op {op' : Nat} (hc : CF w0 w d a j s C op K X st) : CF w0 (setI w 11 0 6 (nI op')) d a j s C op' K X st := by
  obtain ⟨h1, h2, h3, h4, h5, h6, h7, h8, h9⟩ := hc
  have g : Fr [12006] w (setI w 11 0 6 (nI op')) := Fr_setI (Fr_refl _ _) rfl
  refine ⟨FC_setI h1 rfl (Or.inl rfl), Fr_setI h2 rfl, ?_, fun i hi => ?_, fun c' hc hca => ⟨?_, fun i => ?_⟩, ?_, by rw [gg_I, if_pos ⟨rfl, rfl, rfl⟩], fun i hi => ?_, ?_⟩
  · rw [(g 5 _ 2 rfl).1]; exact h3
  · rw [(g 21 _ i rfl).1]; exact h4 i hi
  · rw [(g 5 _ 2 rfl).1]; exact (h5 c' hc hca).1
  · rw [(g 21 _ i rfl).1]; exact (h5 c' hc hca).2 i
  · rw [(g 11 0 5 rfl).1]; exact h6
  · rw [(g 54 0 i rfl).1]; exact h8 i hi
  · rw [(g 8 d 17 rfl).1]; exact h9
theorem MF_op {op' : Nat} (hc : MFh w0 w f j s C op K X st h) : MFh w0 (setI w 16 0 57 (nI op')) f j s C op' K X st h := by
  obtain ⟨h1, h2, h3, h4, h5, h6, h7, h8, h9, h10, h11⟩ := hc
  have g : Fr [17057] w (setI w 16 0 57 (nI op')) := Fr_setI (Fr_refl _ _) rfl
  refine ⟨FM_setI h1 rfl (by show 0 ≤ _; omega), Fr_setI h2 rfl, LMa_fr g h3, ?_, ?_, by rw [gg_I, if_pos ⟨rfl, rfl, rfl⟩], fun i hi => ?_, ?_, ?_, fun i hi => ?_, fun kk i p1 p2 p3 => ?_⟩
  · rw [(g 16 0 27 rfl).1]; exact h4
  · rw [(g 16 0 55 rfl).1]; exact h5
  · rw [(g 97 0 i rfl).1]; exact h7 i hi
  · rw [(g 16 0 58 rfl).1]; exact h8
  · rw [(g 16 0 56 rfl).1]; exact h9
  · rw [(g 98 0 i rfl).1]; exact h10 i hi
  · rw [gg_I, if_neg (by omega)]; exact h11 kk i p1 p2 p3
def FS (d a f : Nat) (wc wm wc' wm' : Wd) (j s C op : Nat) (K X st : Nat → Nat) (wt : Bool) : Prop :=
  CF wc wc' d a j s C op K X st ∧ MFh wm wm' f j s C op K X st (sd K j) ∧ PF f j s C op K X st wt ∧ gI wm' 16 0 59 = zB wt ∧ (wt = true → gI wm' 16 0 60 = zB (decide (rnk (tpS st s) ≤ 3)))
/-- a step of both: a fault at token k, or both on; wt' says what is wanted then -/
def StB (b : Nat → Nat) (n d k : Nat) (wc wm : Wd) (c m' : Option (Int32 × Wd)) : Prop := ∃ f', Ok c (fun x => x.1 = (0 : Int32) ∧ FC d wc x.2 ∧ gI x.2 11 0 8 = nI f' ∧ gI x.2 11 0 9 = nI (tP b n k)) ∧ Ok m' (fun x => x.1 = (0 : Int32) ∧ FM wm x.2 ∧ gI x.2 16 0 4 = nI f' ∧ gI x.2 16 0 5 = nI (tP b n k))
def StG (b : Nat → Nat) (n m d a f k : Nat) (wc wm : Wd) (c m' : Option (Int32 × Wd)) (wt' : Bool) : Prop := ∃ j s C op K X st w1 w2, c = some ((1 : Int32), w1) ∧ m' = some ((1 : Int32), w2) ∧ JC w1 b n m d k ∧ JM w2 b n (k + 1) ∧ FS d a f wc wm w1 w2 j s C op K X st wt' ∧ tK b n k ≠ 60
theorem tp_up {o : Nat} : tpS (up1 st s o) (s + 1) = o := by
  unfold tpS
  rw [if_neg (by omega), show s + 1 - 1 = s by omega, up1_e]
theorem c_bad (hj : JC wc' b n m d k) (hf : FC d wc wc') (f' : Nat) : Ok ((callW (pX7_fail N (nI f')) wc').bind fun r => retZ r.1 r.2) (fun x => x.1 = (0 : Int32) ∧ FC d wc x.2 ∧ gI x.2 11 0 8 = nI f' ∧ gI x.2 11 0 9 = nI (tP b n k)) :=
  ok_mono (c_failZ hj f') (fun x hx => ⟨hx.1, flC_B hf hx.2⟩)
theorem m_bad (hj : JM wm' b n k) (hf : FM wm wm') (f' : Nat) : Ok ((callW (pX12_wrong N (nI f')) wm').bind fun r => retZ r.1 r.2) (fun x => x.1 = (0 : Int32) ∧ FM wm x.2 ∧ gI x.2 16 0 4 = nI f' ∧ gI x.2 16 0 5 = nI (tP b n k)) :=
  ok_mono (m_wrongZ hj f') (fun x hx => ⟨hx.1, flM_B hf hx.2⟩)
theorem c_badE (hj : JC wc' b n m d k) (hf : FC d wc wc') (f' : Nat) : Ok ((pX7_fail N (nI f') wc').bind fun r => retZ r.1 r.2) (fun x => x.1 = (0 : Int32) ∧ FC d wc x.2 ∧ gI x.2 11 0 8 = nI f' ∧ gI x.2 11 0 9 = nI (tP b n k)) := by
  have := c_bad (N := N) hj hf f'
  rw [callW_eq] at this
  exact this
theorem m_badE (hj : JM wm' b n k) (hf : FM wm wm') (f' : Nat) : Ok ((pX12_wrong N (nI f') wm').bind fun r => retZ r.1 r.2) (fun x => x.1 = (0 : Int32) ∧ FM wm x.2 ∧ gI x.2 16 0 4 = nI f' ∧ gI x.2 16 0 5 = nI (tP b n k)) := by
  have := m_bad (N := N) hj hf f'
  rw [callW_eq] at this
  exact this
/-- ( -/
theorem j_open (hN : 1000 ≤ N) (hc : JC wc' b n m d k) (hm : JM wm' b n k) (S : FS d a f wc wm wc' wm' j s C op K X st true) (hK : tK b n k = 33) : StB b n d k wc wm (pX7_readBeginning N (2 * d + a) wc') (pX12_leafRead N wm') ∨ StG b n m d a f k wc wm (pX7_readBeginning N (2 * d + a) wc') (pX12_leafRead N wm') true := by
  obtain ⟨S1, S2, S3, S4, S5⟩ := S
  have h8 := S3.2.2.1
  have h1 := S3.1
  have h2 := S3.2.1
  have h5 := S3.2.2.2.2.1
  have q : (gI wc' 14 0 8 = (33 : Int32)) = True := (JC_is hc (c := 33) (by omega)).trans (eq_true hK)
  have e8 : gI wc' 14 0 8 = nI (tkS 0) := by rw [hc.2.2.1.1, hK]; rfl
  have e6 : gI wc' 11 0 6 + (1 : Int32) = nI (op + 1) := by rw [S1.2.2.2.2.2.2.1]; exact nI_add _ 1
  have fA : Fr [12006] wc' (setI wc' 11 0 6 (nI (op + 1))) := Fr_setI (Fr_refl _ _) rfl
  have cA := CF_op (op' := op + 1) S1
  have jA := JC_fr fA hc
  have gA : gI (setI wc' 11 0 6 (nI (op + 1))) 11 0 6 = nI (op + 1) := by rw [gg_I, if_pos ⟨rfl, rfl, rfl⟩]
  have gs := m_isSign (N := N) hm (c := 33) (by omega) (by omega)
  rw [decide_eq_true hK] at gs
  have gs' : pX12_isSign N (40 : Int32) wm' = some (zB true, wm') := gs
  by_cases y : op = 8
  · have q2 : ((8 : Int32) < gI (setI wc' 11 0 6 (nI (op + 1))) 11 0 6) = True := eq_true (by rw [gA, y]; decide)
    have q3 : (gI wm' 16 0 57 = (8 : Int32)) = True := eq_true (by rw [S2.2.2.2.2.2.1, y]; rfl)
    refine Or.inl ⟨2, ?_, ?_⟩
    · simp only [pX7_readBeginning, ↓q, ↓e6, ↓q2, ↓reduceIte]
      exact c_bad jA cA.1 2
    · simp only [pX12_leafRead, ↓cbnd gs', ↓z1, ↓q3, ↓reduceIte]
      exact m_bad hm S2.1 2
  · have q2 : ((8 : Int32) < gI (setI wc' 11 0 6 (nI (op + 1))) 11 0 6) = False := eq_false (fun z => by
      rw [gA] at z
      have := (nI_ltI (a := 8) (by omega) (by omega)).mp z
      omega)
    have q3 : (gI wm' 16 0 57 = (8 : Int32)) = False := eq_false (fun z => by
      rw [S2.2.2.2.2.2.1] at z
      exact y ((nI_eq (b := 8) (by omega) (by omega)).mp z))
    obtain ⟨⟨x, w1⟩, e1, ex, c1, f1⟩ := c_wait (N := N) cA (by omega) 0
    simp only at ex c1 f1
    subst ex
    rw [← e8] at e1
    have e57 : gI wm' 16 0 57 + (1 : Int32) = nI (op + 1) := by rw [S2.2.2.2.2.2.1]; exact nI_add _ 1
    have mA := MF_op (op' := op + 1) S2
    obtain ⟨w2, e2, m2, f2⟩ := m_wait (N := N) mA (by omega) 0
    have e2' : pX12_waitsFor N (0 : Int32) (setI wm' 16 0 57 (nI (op + 1))) = some w2 := e2
    have f3 : Fr [17060] w2 (setI w2 16 0 60 (1 : Int32)) := Fr_setI (Fr_refl _ _) rfl
    have j3 : JM (setI w2 16 0 60 (1 : Int32)) b n k := JM_fr f3 (JM_fr f2 (JM_fr (l := [17057]) (Fr_setI (Fr_refl _ _) rfl) hm))
    obtain ⟨w4, e4, f4, j4⟩ := m_adv (N := N) j3 hN
    have f34 : Fr kTl w2 w4 := Fr_trans (Fr_mono f3 rfl) (Fr_mono f4 rfl)
    refine Or.inr ⟨j, s + 1, C, op + 1, K, X, up1 st s 0, w1, w4, ?_, ?_, JC_fr f1 jA, j4, ⟨c1, MF_tk m2 f34, PF_open S3 (by omega), ?_, fun _ => ?_⟩, by omega⟩
    · simp only [pX7_readBeginning, ↓q, ↓e6, ↓q2, ↓cbnd e1, ↓reduceIte]
      exact retZ_b true w1
    · simp only [pX12_leafRead, ↓cbnd gs', ↓z1, ↓q3, ↓e57, ↓cbnd e2', ↓cbnd e4, ↓reduceIte]
    · rw [(f4 16 0 59 rfl).1, (f3 16 0 59 rfl).1, (f2 16 0 59 rfl).1, gg_I, if_neg (by omega)]; exact S4
    · rw [(f4 16 0 60 rfl).1, gg_I, if_pos ⟨rfl, rfl, rfl⟩, tp_up]
      rfl
/-- not -/
theorem j_not (hN : 1000 ≤ N) (hc : JC wc' b n m d k) (hm : JM wm' b n k) (S : FS d a f wc wm wc' wm' j s C op K X st true) (hK : tK b n k = 18) : StB b n d k wc wm (pX7_readBeginning N (2 * d + a) wc') (pX12_leafRead N wm') ∨ StG b n m d a f k wc wm (pX7_readBeginning N (2 * d + a) wc') (pX12_leafRead N wm') true := by
  obtain ⟨S1, S2, S3, S4, S5⟩ := S
  have h8 := S3.2.2.1
  have hC := S3.2.1
  have h1 := S3.1
  have h5 := S3.2.2.2.2.1
  have e8 : gI wc' 14 0 8 = kC 18 := by rw [hc.2.2.1.1, hK]
  have q1 : (gI wc' 14 0 8 = (33 : Int32)) = False := (JC_is hc (c := 33) (by omega)).trans (eq_false (by omega))
  have q2 : (gI wc' 14 0 8 = (18 : Int32)) = True := (JC_is hc (c := 18) (by omega)).trans (eq_true hK)
  have tp := tp_ok S3
  have g1 := c_last (N := N) S1 (by omega)
  have g2 := c_levS (N := N) (w := wc') tp.1 tp.2
  have r6 := (rnk_f (tpS st s) tp.1).1
  have gs := m_isSign (N := N) hm (c := 33) (by omega) (by omega)
  rw [decide_eq_false (by omega)] at gs
  have gs' : pX12_isSign N (40 : Int32) wm' = some (zB false, wm') := gs
  have gk := m_isKey (N := N) hm (c := 18) (by omega)
  rw [decide_eq_true hK] at gk
  have gk' : pX12_isKey N (18 : Int32) wm' = some (zB true, wm') := gk
  have e60 := S5 rfl
  by_cases y : rnk (tpS st s) ≤ 3
  · have q3 : ((3 : Int32) < nI (rnk (tpS st s))) = False := eq_false (fun z => by
      have := (nI_ltI (a := 3) (by omega) (by omega)).mp z
      omega)
    have q4 : (gI wm' 16 0 60 = 0) = False := eq_false (by rw [e60, decide_eq_true y]; decide)
    by_cases yC : C = 64
    · subst yC
      refine Or.inl ⟨2, ?_, ?_⟩
      · simp only [pX7_readBeginning, ↓q1, ↓q2, ↓cbnd g1, ↓cbnd g2, ↓q3, ↓reduceIte, callW_eq]
        refine ok_bind (c_cntF (N := N) S1 hc) ?_
        rintro ⟨x, w1⟩ ⟨e, h2⟩
        simp only at e h2
        subst e
        simp only [↓n0_0, ↓reduceIte]
        exact ok_some ⟨rfl, flC_B S1.1 h2⟩
      · simp only [pX12_leafRead, ↓cbnd gs', ↓z2, ↓cbnd gk', ↓z1, ↓q4, ↓reduceIte, callW_eq]
        refine ok_bind (m_cntF (N := N) S2 hm) ?_
        rintro ⟨x, w1⟩ ⟨e, h2⟩
        simp only at e h2
        subst e
        simp only [↓n0_0, ↓reduceIte]
        exact ok_some ⟨rfl, flM_B S2.1 h2⟩
    · obtain ⟨⟨x, w1⟩, e1, ex, c1, f1⟩ := c_cntK (N := N) S1 hc (by omega)
      simp only at ex c1 f1
      subst ex
      obtain ⟨⟨x, w2⟩, e2, ex, c2, f2⟩ := c_wait (N := N) c1 (by omega) 2
      simp only at ex c2 f2
      subst ex
      have e2' : pX7_await N (gI wc' 14 0 8) w1 = some ((1 : Int32), w2) := by rw [e8]; exact e2
      obtain ⟨⟨x, w3⟩, e3, ex, m3, f3⟩ := m_cnt (N := N) S2 (by omega)
      simp only at ex m3 f3
      subst ex
      obtain ⟨w4, e4, m4, f4⟩ := m_wait (N := N) m3 (by omega) 2
      have e4' : pX12_waitsFor N (2 : Int32) w3 = some w4 := e4
      obtain ⟨w5, e5, f5, j5⟩ := m_adv (N := N) (JM_fr f4 (JM_fr f3 hm)) hN
      refine Or.inr ⟨j, s + 1, C + 1, op, K, X, up1 st s 2, w2, w5, ?_, ?_, JC_fr f2 (JC_fr f1 hc), j5, ⟨c2, MF_tk m4 (Fr_mono f5 rfl), PF_push S3 (by omega) (by omega) (by omega) (Or.inl ⟨rfl, rfl⟩), ?_, fun _ => ?_⟩, by omega⟩
      · simp only [pX7_readBeginning, ↓q1, ↓q2, ↓cbnd g1, ↓cbnd g2, ↓q3, ↓cbnd e1, ↓n1_0, ↓cbnd e2', ↓reduceIte]
      · simp only [pX12_leafRead, ↓cbnd gs', ↓z2, ↓cbnd gk', ↓z1, ↓q4, ↓cbnd e3, ↓n1_0, ↓cbnd e4', ↓cbnd e5, ↓reduceIte]
      · rw [(f5 16 0 59 rfl).1, (f4 16 0 59 rfl).1, (f3 16 0 59 rfl).1]; exact S4
      · rw [(f5 16 0 60 rfl).1, (f4 16 0 60 rfl).1, (f3 16 0 60 rfl).1, e60, decide_eq_true y, tp_up]
        rfl
  · have q3 : ((3 : Int32) < nI (rnk (tpS st s))) = True := eq_true ((nI_ltI (a := 3) (by omega) (by omega)).mpr (by omega))
    have q4 : (gI wm' 16 0 60 = 0) = True := eq_true (by rw [e60, decide_eq_false y]; rfl)
    have gv := c_isVal (N := N) (w := wc') (K := 18) (by omega)
    rw [← e8, show isV 18 = false from rfl] at gv
    have gn := m_nameMet (N := N) hm
    rw [hK, if_neg (by decide)] at gn
    have qn : (gI wm' 16 0 8 = (3 : Int32)) = False := eq_false (fun z => by have := (JM_8 hm).2.2.2.1.mp z; omega)
    refine Or.inl ⟨1, ?_, ?_⟩
    · simp only [pX7_readBeginning, ↓q1, ↓q2, ↓cbnd g1, ↓cbnd g2, ↓q3, fX7_readBeginning_44, ↓cbnd gv, ↓z2, ↓reduceIte, callW_eq]
      exact c_badE hc S1.1 1
    · simp only [pX12_leafRead, ↓cbnd gs', ↓z2, ↓cbnd gk', ↓z1, ↓q4, fX12_leafRead_47, ↓cbnd gn, ↓m1_l0, ↓qn, ↓reduceIte, callW_eq]
      exact m_badE hm S2.1 1
/-- a value -/
theorem j_val (hN : 1000 ≤ N) (ha : a < 2) (hc : JC wc' b n m d k) (hm : JM wm' b n k) (S : FS d a f wc wm wc' wm' j s C op K X st true) (h33 : tK b n k ≠ 33) (h18 : tK b n k ≠ 18) (hV : isV (tK b n k) = true) : StB b n d k wc wm (pX7_readBeginning N (2 * d + a) wc') (pX12_leafRead N wm') ∨ StG b n m d a f k wc wm (pX7_readBeginning N (2 * d + a) wc') (pX12_leafRead N wm') false := by
  obtain ⟨S1, S2, S3, S4, S5⟩ := S
  have h8 := S3.2.2.1
  have hC := S3.2.1
  have h1 := S3.1
  have h5 := S3.2.2.2.2.1
  have hsj := sd_le K j
  have e8 : gI wc' 14 0 8 = kC (tK b n k) := hc.2.2.1.1
  have q1 : (gI wc' 14 0 8 = (33 : Int32)) = False := (JC_is hc (c := 33) (by omega)).trans (eq_false h33)
  have q2 : (gI wc' 14 0 8 = (18 : Int32)) = False := (JC_is hc (c := 18) (by omega)).trans (eq_false h18)
  have gv := c_isVal (N := N) (w := wc') (K := tK b n k) (tK_lt b n k)
  rw [← e8, hV] at gv
  have gs := m_isSign (N := N) hm (c := 33) (by omega) (by omega)
  rw [decide_eq_false h33] at gs
  have gs' : pX12_isSign N (40 : Int32) wm' = some (zB false, wm') := gs
  have gk := m_isKey (N := N) hm (c := 18) (by omega)
  rw [decide_eq_false h18] at gk
  have gk' : pX12_isKey N (18 : Int32) wm' = some (zB false, wm') := gk
  have gn := m_nameMet (N := N) hm
  have nx := nmX_f (tK b n k) (tK_lt b n k)
  have nk : tK b n k ≠ 60 := fun z => by rw [z] at hV; exact absurd hV (by decide)
  by_cases y : tK b n k = 61
  · have q3 : (gI wc' 14 0 8 = (-3 : Int32)) = True := (JC_is hc (c := 61) (by omega)).trans (eq_true y)
    rw [if_neg (by rw [y]; decide)] at gn
    have p3 : (gI wm' 16 0 8 = (3 : Int32)) = True := eq_true ((JM_8 hm).2.2.2.1.mpr y)
    have e9 := ((JM_kd hm).2.2.1 y).2
    have hV30 := tV_num hm y
    obtain ⟨_, x2, x3⟩ := c_numX hc (lo := 0) (hi := 9999) (by omega) (by omega) y
    by_cases yb : 9999 < tV b n k
    · have q4 : ((9999 : Int32) < gI wc' 14 0 10) = True := eq_true (x2.mpr yb)
      have p4 : ((9999 : Int32) < gI wm' 16 0 9) = True := eq_true (by rw [e9]; exact (nI_ltI (a := 9999) (by omega) (by omega)).mpr yb)
      refine Or.inl ⟨2, ?_, ?_⟩
      · simp only [pX7_readBeginning, ↓q1, ↓q2, fX7_readBeginning_44, ↓cbnd gv, ↓z1, ↓q3, ↓q4, ↓reduceIte, callW_eq]
        exact c_badE hc S1.1 2
      · simp only [pX12_leafRead, ↓cbnd gs', ↓z2, ↓cbnd gk', fX12_leafRead_47, ↓cbnd gn, ↓m1_l0, ↓p3, fX12_leafRead_60, ↓p4, ↓reduceIte, callW_eq]
        exact m_badE hm S2.1 2
    · have q4 : ((9999 : Int32) < gI wc' 14 0 10) = False := eq_false (fun z => yb (x2.mp z))
      have p4 : ((9999 : Int32) < gI wm' 16 0 9) = False := eq_false (fun z => by rw [e9] at z; exact yb ((nI_ltI (a := 9999) (by omega) (by omega)).mp z))
      by_cases yC : C = 64
      · subst yC
        refine Or.inl ⟨2, ?_, ?_⟩
        · simp only [pX7_readBeginning, ↓q1, ↓q2, fX7_readBeginning_44, ↓cbnd gv, ↓z1, ↓q3, ↓q4, ↓reduceIte, callW_eq]
          refine ok_bind (c_cntF (N := N) S1 hc) ?_
          rintro ⟨x, w1⟩ ⟨e, h2⟩
          simp only at e h2
          subst e
          simp only [↓n0_0, ↓reduceIte]
          exact ok_some ⟨rfl, flC_B S1.1 h2⟩
        · simp only [pX12_leafRead, ↓cbnd gs', ↓z2, ↓cbnd gk', fX12_leafRead_47, ↓cbnd gn, ↓m1_l0, ↓p3, fX12_leafRead_60, ↓p4, fX12_leafRead_70, ↓reduceIte, callW_eq]
          refine ok_bind (m_cntF (N := N) S2 hm) ?_
          rintro ⟨x, w1⟩ ⟨e, h2⟩
          simp only at e h2
          subst e
          simp only [↓n0_0, ↓reduceIte]
          exact ok_some ⟨rfl, flM_B S2.1 h2⟩
      · obtain ⟨⟨x, w1⟩, e1, ex, c1, f1⟩ := c_cntK (N := N) S1 hc (by omega)
        simp only at ex c1 f1
        subst ex
        obtain ⟨⟨x, w2⟩, e2, ex, c2, f2⟩ := c_addL (N := N) c1 ha (by omega) 0 (tV b n k)
        simp only at ex c2 f2
        subst ex
        have e10 : gI w1 14 0 10 = enc 0 (tV b n k) := by rw [(f1 14 0 10 rfl).1, x3 (by omega)]; rfl
        have e2' : pX1_add N (2 * d + a) (gI w1 14 0 10) w1 = some ((1 : Int32), w2) := by rw [e10]; exact e2
        obtain ⟨⟨x, w3⟩, e3, ex, m3, f3⟩ := m_cnt (N := N) S2 (by omega)
        simp only at ex m3 f3
        subst ex
        have e9' : gI w3 16 0 9 = nI (tV b n k) := by rw [(f3 16 0 9 rfl).1]; exact e9
        have hsd : sd (up1 K j 0) (j + 1) = sd K j + 1 := by rw [sd, up1_e, if_pos (by omega), sd_ext j (fun i hi => up1_n (by omega))]
        obtain ⟨w4, e4, m4, f4⟩ := m_grow (N := N) (c := 0) (x := tV b n k) (av := gI w3 16 0 9) (bv := (0 : Int32)) m3 (by omega) (by omega) (by omega) hsd (fun _ => e9') (fun z => by omega) (fun z => by omega)
        have e4' : pX12_grown N (0 : Int32) (gI w3 16 0 9) (0 : Int32) w3 = some w4 := e4
        have f5 : Fr [17059] w4 (setI w4 16 0 59 (0 : Int32)) := Fr_setI (Fr_refl _ _) rfl
        obtain ⟨w6, e6, f6, j6⟩ := m_adv (N := N) (JM_fr f5 (JM_fr f4 (JM_fr f3 hm))) hN
        have f56 : Fr kTl w4 w6 := Fr_trans (Fr_mono f5 rfl) (Fr_mono f6 rfl)
        refine Or.inr ⟨j + 1, s, C + 1, op, up1 K j 0, up1 X j (tV b n k), st, w2, w6, ?_, ?_, JC_fr f2 (JC_fr f1 hc), j6, ⟨c2, ?_, PF_leaf S3 (by omega) (by omega) (by omega) (by omega), ?_, fun z => by cases z⟩, nk⟩
        · simp only [pX7_readBeginning, ↓q1, ↓q2, fX7_readBeginning_44, ↓cbnd gv, ↓z1, ↓q3, ↓q4, ↓cbnd e1, ↓n1_0, ↓cbnd e2', ↓reduceIte, callW_eq]
        · simp only [pX12_leafRead, ↓cbnd gs', ↓z2, ↓cbnd gk', fX12_leafRead_47, ↓cbnd gn, ↓m1_l0, ↓p3, fX12_leafRead_60, ↓p4, fX12_leafRead_70, ↓cbnd e3, ↓n1_0, fX12_leafRead_81, fX12_leafRead_87, ↓cbnd e4', ↓cbnd e6, ↓reduceIte, callW_eq]
        · rw [hsd]; exact MF_tk m4 f56
        · rw [(f6 16 0 59 rfl).1, gg_I, if_pos ⟨rfl, rfl, rfl⟩]; rfl
  · have hx : nmX (tK b n k) < 7 := nx.1.mpr ⟨hV, y⟩
    have htk := nx.2.2 hx
    have q3 : (gI wc' 14 0 8 = (-3 : Int32)) = False := (JC_is hc (c := 61) (by omega)).trans (eq_false y)
    rw [if_pos hx] at gn
    have pn : (nI (nmX (tK b n k)) < 0) = False := eq_false (nz_ge0 (by omega))
    by_cases yC : C = 64
    · subst yC
      refine Or.inl ⟨2, ?_, ?_⟩
      · simp only [pX7_readBeginning, ↓q1, ↓q2, fX7_readBeginning_44, ↓cbnd gv, ↓z1, ↓q3, ↓reduceIte, callW_eq]
        refine ok_bind (c_cntF (N := N) S1 hc) ?_
        rintro ⟨x, w1⟩ ⟨e, h2⟩
        simp only at e h2
        subst e
        simp only [↓n0_0, ↓reduceIte]
        exact ok_some ⟨rfl, flC_B S1.1 h2⟩
      · simp only [pX12_leafRead, ↓cbnd gs', ↓z2, ↓cbnd gk', fX12_leafRead_47, ↓cbnd gn, ↓pn, fX12_leafRead_60, fX12_leafRead_70, ↓reduceIte, callW_eq]
        refine ok_bind (m_cntF (N := N) S2 hm) ?_
        rintro ⟨x, w1⟩ ⟨e, h2⟩
        simp only at e h2
        subst e
        simp only [↓n0_0, ↓reduceIte]
        exact ok_some ⟨rfl, flM_B S2.1 h2⟩
    · obtain ⟨⟨x, w1⟩, e1, ex, c1, f1⟩ := c_cntK (N := N) S1 hc (by omega)
      simp only at ex c1 f1
      subst ex
      obtain ⟨⟨x, w2⟩, e2, ex, c2, f2⟩ := c_addL (N := N) c1 ha (by omega) 1 (nmX (tK b n k))
      simp only at ex c2 f2
      subst ex
      have kn : tK b n k < 24 := by
        rcases tK_kind b n k with z | z | z | z | z | z
        · exact z
        all_goals
          exfalso
          unfold isV at hV
          simp only [Bool.or_eq_true, Bool.and_eq_true, beq_iff_eq, decide_eq_true_eq] at hV
          omega
      have e10 : gI wc' 14 0 8 ^^^ (-1 : Int32) = enc 1 (nmX (tK b n k)) := by
        unfold enc
        rw [if_neg (by omega), if_pos rfl, htk, e8]
        unfold kC
        rw [if_neg (by omega), if_neg (by omega), if_neg (by omega), if_neg (by omega)]
        rfl
      have e2' : pX1_add N (2 * d + a) (gI wc' 14 0 8 ^^^ (-1 : Int32)) w1 = some ((1 : Int32), w2) := by rw [e10]; exact e2
      obtain ⟨⟨x, w3⟩, e3, ex, m3, f3⟩ := m_cnt (N := N) S2 (by omega)
      simp only at ex m3 f3
      subst ex
      have hsd : sd (up1 K j 1) (j + 1) = sd K j + 1 := by rw [sd, up1_e, if_pos (by omega), sd_ext j (fun i hi => up1_n (by omega))]
      obtain ⟨w4, e4, m4, f4⟩ := m_grow (N := N) (c := 1) (x := nmX (tK b n k)) (av := nI (nmX (tK b n k))) (bv := (0 : Int32)) m3 (by omega) (by omega) (by omega) hsd (fun _ => rfl) (fun z => by omega) (fun z => by omega)
      have e4' : pX12_grown N (1 : Int32) (nI (nmX (tK b n k))) (0 : Int32) w3 = some w4 := e4
      have f5 : Fr [17059] w4 (setI w4 16 0 59 (0 : Int32)) := Fr_setI (Fr_refl _ _) rfl
      obtain ⟨w6, e6, f6, j6⟩ := m_adv (N := N) (JM_fr f5 (JM_fr f4 (JM_fr f3 hm))) hN
      have f56 : Fr kTl w4 w6 := Fr_trans (Fr_mono f5 rfl) (Fr_mono f6 rfl)
      refine Or.inr ⟨j + 1, s, C + 1, op, up1 K j 1, up1 X j (nmX (tK b n k)), st, w2, w6, ?_, ?_, JC_fr f2 (JC_fr f1 hc), j6, ⟨c2, ?_, PF_leaf S3 (by omega) (by omega) (by omega) (by omega), ?_, fun z => by cases z⟩, nk⟩
      · simp only [pX7_readBeginning, ↓q1, ↓q2, fX7_readBeginning_44, ↓cbnd gv, ↓z1, ↓q3, ↓cbnd e1, ↓n1_0, ↓cbnd e2', ↓reduceIte, callW_eq]
      · simp only [pX12_leafRead, ↓cbnd gs', ↓z2, ↓cbnd gk', fX12_leafRead_47, ↓cbnd gn, ↓pn, fX12_leafRead_60, fX12_leafRead_70, ↓cbnd e3, ↓n1_0, fX12_leafRead_81, fX12_leafRead_87, ↓cbnd e4', ↓cbnd e6, ↓reduceIte, callW_eq]
      · rw [hsd]; exact MF_tk m4 f56
      · rw [(f6 16 0 59 rfl).1, gg_I, if_pos ⟨rfl, rfl, rfl⟩]; rfl
/-- any token where a value is wanted -/
theorem j_begin (hN : 1000 ≤ N) (ha : a < 2) (hc : JC wc' b n m d k) (hm : JM wm' b n k) (S : FS d a f wc wm wc' wm' j s C op K X st true) : StB b n d k wc wm (pX7_readBeginning N (2 * d + a) wc') (pX12_leafRead N wm') ∨ StG b n m d a f k wc wm (pX7_readBeginning N (2 * d + a) wc') (pX12_leafRead N wm') (!isV (tK b n k)) := by
  by_cases h33 : tK b n k = 33
  · rw [h33, show (!isV 33) = true from rfl]
    exact j_open hN hc hm S h33
  by_cases h18 : tK b n k = 18
  · rw [h18, show (!isV 18) = true from rfl]
    exact j_not hN hc hm S h18
  cases hV : isV (tK b n k) with
  | true => exact j_val hN ha hc hm S h33 h18 hV
  | false =>
    obtain ⟨S1, S2, S3, S4, S5⟩ := S
    have e8 : gI wc' 14 0 8 = kC (tK b n k) := hc.2.2.1.1
    have q1 : (gI wc' 14 0 8 = (33 : Int32)) = False := (JC_is hc (c := 33) (by omega)).trans (eq_false h33)
    have q2 : (gI wc' 14 0 8 = (18 : Int32)) = False := (JC_is hc (c := 18) (by omega)).trans (eq_false h18)
    have gv := c_isVal (N := N) (w := wc') (K := tK b n k) (tK_lt b n k)
    rw [← e8, hV] at gv
    have gs := m_isSign (N := N) hm (c := 33) (by omega) (by omega)
    rw [decide_eq_false h33] at gs
    have gs' : pX12_isSign N (40 : Int32) wm' = some (zB false, wm') := gs
    have gk := m_isKey (N := N) hm (c := 18) (by omega)
    rw [decide_eq_false h18] at gk
    have gk' : pX12_isKey N (18 : Int32) wm' = some (zB false, wm') := gk
    have gn := m_nameMet (N := N) hm
    have nx := nmX_f (tK b n k) (tK_lt b n k)
    rw [if_neg (fun z => by have := (nx.1.mp z).1; rw [hV] at this; cases this)] at gn
    have qn : (gI wm' 16 0 8 = (3 : Int32)) = False := eq_false (fun z => by
      have := (JM_8 hm).2.2.2.1.mp z
      rw [this] at hV
      exact absurd hV (by decide))
    refine Or.inl ⟨1, ?_, ?_⟩
    · simp only [pX7_readBeginning, ↓q1, ↓q2, fX7_readBeginning_44, ↓cbnd gv, ↓z2, ↓reduceIte, callW_eq]
      exact c_badE hc S1.1 1
    · simp only [pX12_leafRead, ↓cbnd gs', ↓z2, ↓cbnd gk', fX12_leafRead_47, ↓cbnd gn, ↓m1_l0, ↓qn, ↓reduceIte, callW_eq]
      exact m_badE hm S2.1 1
end

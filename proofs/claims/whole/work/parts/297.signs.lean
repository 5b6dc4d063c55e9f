/-! ===== laws: both read a sign, and the whole ===== -/
def opK (K : Nat) : Nat := if K = 17 then 3 else if K = 16 then 4 else if 39 ≤ K ∧ K ≤ 44 then K - 34 else if 35 ≤ K ∧ K ≤ 38 then K - 24 else 0
theorem opK_f : ∀ K, K < 64 → opK K ≤ 14 ∧ (opK K ≠ 0 → 3 ≤ opK K ∧ lvK K = rnk (opK K) ∧ nI (tkS (opK K)) = kC K ∧ K < 45 ∧ K ≠ 34) ∧ (opK K = 0 → lvK K = 0 ∨ lvK K = 3) := by decide +kernel
section
variable {N : Nat} {w w' w0 w1 wc wm wc' wm' wc1 wm1 : Wd} {b : Nat → Nat} {n m d k i : Nat} {u u' : Vw} {a f j s C op h : Nat} {K X st : Nat → Nat} {wt : Bool}
/-- which sign, in the reference -/
theorem m_op (hm : JM wm' b n k) : fX12_signs_26 N wm' = fX12_signs_72 N (nI (opK (tK b n k))) wm' := by
  have g17 : pX12_isKey N (16 : Int32) wm' = some (zB (decide (tK b n k = 17)), wm') := m_isKey (N := N) hm (c := 17) (by omega)
  have g16 : pX12_isKey N (17 : Int32) wm' = some (zB (decide (tK b n k = 16)), wm') := m_isKey (N := N) hm (c := 16) (by omega)
  have g35 : pX12_isSign N (43 : Int32) wm' = some (zB (decide (tK b n k = 35)), wm') := m_isSign (N := N) hm (c := 35) (by omega) (by omega)
  have g36 : pX12_isSign N (45 : Int32) wm' = some (zB (decide (tK b n k = 36)), wm') := m_isSign (N := N) hm (c := 36) (by omega) (by omega)
  have g37 : pX12_isSign N (42 : Int32) wm' = some (zB (decide (tK b n k = 37)), wm') := m_isSign (N := N) hm (c := 37) (by omega) (by omega)
  have g38 : pX12_isSign N (47 : Int32) wm' = some (zB (decide (tK b n k = 38)), wm') := m_isSign (N := N) hm (c := 38) (by omega) (by omega)
  have h5 := (JM_8 hm).2.2.2.2.1
  unfold opK
  by_cases y17 : tK b n k = 17
  · rw [decide_eq_true y17] at g17
    rw [if_pos y17]
    simp only [fX12_signs_26, ↓cbnd g17, ↓z1, ↓reduceIte, callW_eq]
    rfl
  rw [decide_eq_false y17] at g17
  rw [if_neg y17]
  by_cases y16 : tK b n k = 16
  · rw [decide_eq_true y16] at g16
    rw [if_pos y16]
    simp only [fX12_signs_26, ↓cbnd g17, ↓z2, ↓cbnd g16, ↓z1, ↓reduceIte, callW_eq]
    rfl
  rw [decide_eq_false y16] at g16
  rw [if_neg y16]
  by_cases yc : 39 ≤ tK b n k ∧ tK b n k ≤ 44
  · have q : (gI wm' 16 0 8 = (5 : Int32)) = True := eq_true (h5.mpr yc)
    have e9 := ((JM_kd hm).2.2.2.2.2.1 yc.1 yc.2).2
    have e5 : (5 : Int32) + gI wm' 16 0 9 = nI (tK b n k - 34) := by rw [e9, show (5 : Int32) = nI 5 from rfl, nI_add]; congr 1; omega
    rw [if_pos yc]
    simp only [fX12_signs_26, ↓cbnd g17, ↓z2, ↓cbnd g16, ↓q, ↓e5, ↓reduceIte, callW_eq]
  have q : (gI wm' 16 0 8 = (5 : Int32)) = False := eq_false (fun z => yc (h5.mp z))
  rw [if_neg yc]
  by_cases y35 : tK b n k = 35
  · rw [decide_eq_true y35] at g35
    rw [if_pos (by omega), y35]
    simp only [fX12_signs_26, ↓cbnd g17, ↓z2, ↓cbnd g16, ↓q, ↓cbnd g35, ↓z1, ↓reduceIte, callW_eq]
    rfl
  rw [decide_eq_false y35] at g35
  by_cases y36 : tK b n k = 36
  · rw [decide_eq_true y36] at g36
    rw [if_pos (by omega), y36]
    simp only [fX12_signs_26, ↓cbnd g17, ↓z2, ↓cbnd g16, ↓q, ↓cbnd g35, ↓cbnd g36, ↓z1, ↓reduceIte, callW_eq]
    rfl
  rw [decide_eq_false y36] at g36
  by_cases y37 : tK b n k = 37
  · rw [decide_eq_true y37] at g37
    rw [if_pos (by omega), y37]
    simp only [fX12_signs_26, ↓cbnd g17, ↓z2, ↓cbnd g16, ↓q, ↓cbnd g35, ↓cbnd g36, ↓cbnd g37, ↓z1, ↓reduceIte, callW_eq]
    rfl
  rw [decide_eq_false y37] at g37
  by_cases y38 : tK b n k = 38
  · rw [decide_eq_true y38] at g38
    rw [if_pos (by omega), y38]
    simp only [fX12_signs_26, ↓cbnd g17, ↓z2, ↓cbnd g16, ↓q, ↓cbnd g35, ↓cbnd g36, ↓cbnd g37, ↓cbnd g38, ↓z1, ↓reduceIte, callW_eq]
    rfl
  rw [decide_eq_false y38] at g38
  rw [if_neg (by omega)]
  simp only [fX12_signs_26, ↓cbnd g17, ↓z2, ↓cbnd g16, ↓q, ↓cbnd g35, ↓cbnd g36, ↓cbnd g37, ↓cbnd g38, ↓reduceIte, callW_eq]
  rfl
/-- the sign waits -/
theorem j_tail (hN : 1000 ≤ N) (hc : JC wc1 b n m d k) (hm : JM wm1 b n k) (S1 : CF wc wc1 d a j s C op K X st) (S2 : MFh wm wm1 f j s C op K X st (sd K j)) (S3 : PF f j s C op K X st false) {o : Nat} (ho : 3 ≤ o) (ho2 : o ≤ 14) {v : Int32} (hv : v = nI (tkS o)) (hk : tK b n k ≠ 60) : StB b n d k wc wm (fX7_readSign_63 N v wc1) (fX12_signs_110 N (nI o) wm1) ∨ StG b n m d a f k wc wm (fX7_readSign_63 N v wc1) (fX12_signs_110 N (nI o) wm1) true := by
  have hC := S3.2.1
  have h1 := S3.1
  have h5 := S3.2.2.2.2.1
  have h8 := S3.2.2.1
  subst hv
  by_cases yC : C = 64
  · subst yC
    refine Or.inl ⟨2, ?_, ?_⟩
    · simp only [fX7_readSign_63, callW_eq]
      refine ok_bind (c_cntF (N := N) S1 hc) ?_
      rintro ⟨x, w1⟩ ⟨e, h2⟩
      simp only at e h2
      subst e
      simp only [↓n0_0, ↓reduceIte]
      exact ok_some ⟨rfl, flC_B S1.1 h2⟩
    · simp only [fX12_signs_110, callW_eq]
      refine ok_bind (m_cntF (N := N) S2 hm) ?_
      rintro ⟨x, w1⟩ ⟨e, h2⟩
      simp only at e h2
      subst e
      simp only [↓n0_0, ↓reduceIte]
      exact ok_some ⟨rfl, flM_B S2.1 h2⟩
  · obtain ⟨⟨x, w1⟩, e1, ex, c1, f1⟩ := c_cntK (N := N) S1 hc (by omega)
    simp only at ex c1 f1
    subst ex
    obtain ⟨⟨x, w2⟩, e2, ex, c2, f2⟩ := c_wait (N := N) c1 (by omega) o
    simp only at ex c2 f2
    subst ex
    obtain ⟨⟨x, w3⟩, e3, ex, m3, f3⟩ := m_cnt (N := N) S2 (by omega)
    simp only at ex m3 f3
    subst ex
    obtain ⟨w4, e4, m4, f4⟩ := m_wait (N := N) m3 (by omega) o
    have f5 : Fr [17059] w4 (setI w4 16 0 59 (1 : Int32)) := Fr_setI (Fr_refl _ _) rfl
    have g5 := m_rank (N := N) (w := setI w4 16 0 59 (1 : Int32)) (o := o) (by omega)
    have rf := rnk_f o (by omega)
    have j5 : JM (setI w4 16 0 59 (1 : Int32)) b n k := JM_fr f5 (JM_fr f4 (JM_fr f3 hm))
    have a59 : gI (setI w4 16 0 59 (1 : Int32)) 16 0 59 = (1 : Int32) := by rw [gg_I, if_pos ⟨rfl, rfl, rfl⟩]
    generalize hw5 : setI w4 16 0 59 (1 : Int32) = w5 at f5 g5 j5 a59
    have fin : ∀ v60 : Int32, v60 = zB (decide (rnk o ≤ 3)) → ∃ w7, pX12_token N (setI w5 16 0 60 v60) = some w7 ∧ JM w7 b n (k + 1) ∧ FS d a f wc wm w2 w7 j (s + 1) (C + 1) op K X (up1 st s o) true := fun v60 hv60 => by
      have f6 : Fr [17060] w5 (setI w5 16 0 60 v60) := Fr_setI (Fr_refl _ _) rfl
      obtain ⟨w7, e7, f7, j7⟩ := m_adv (N := N) (JM_fr f6 j5) hN
      have ff : Fr kTl w4 w7 := Fr_trans (Fr_mono f5 rfl) (Fr_trans (Fr_mono f6 rfl) (Fr_mono f7 rfl))
      refine ⟨w7, e7, j7, c2, MF_tk m4 ff, PF_push S3 (by omega) ho2 (by omega) (Or.inr ⟨ho, rfl, rfl⟩), ?_, fun _ => ?_⟩
      · rw [(f7 16 0 59 rfl).1, (f6 16 0 59 rfl).1]; exact a59
      · rw [(f7 16 0 60 rfl).1, gg_I, if_pos ⟨rfl, rfl, rfl⟩, tp_up]; exact hv60
    have Cc : fX7_readSign_63 N (nI (tkS o)) wc1 = some ((1 : Int32), w2) := by
      simp only [fX7_readSign_63, ↓cbnd e1, ↓n1_0, ↓cbnd e2, ↓reduceIte]
    by_cases yr : rnk o < 3
    · have q : (nI (rnk o) < (3 : Int32)) = True := eq_true ((nI_ltI (b := 3) (by omega) (by omega)).mpr yr)
      obtain ⟨w7, e7, j7, S7⟩ := fin (1 : Int32) (by rw [decide_eq_true (by omega)]; rfl)
      refine Or.inr ⟨j, s + 1, C + 1, op, K, X, up1 st s o, w2, w7, Cc, ?_, JC_fr f2 (JC_fr f1 hc), j7, S7, hk⟩
      simp only [fX12_signs_110, ↓cbnd e3, ↓n1_0, ↓cbnd e4, hw5, ↓cbnd g5, ↓q, ↓cbnd e7, ↓reduceIte]
    · have r3 := rf.2.2.1 ho
      have q : (nI (rnk o) < (3 : Int32)) = False := eq_false (fun z => yr ((nI_ltI (b := 3) (by omega) (by omega)).mp z))
      obtain ⟨w7, e7, j7, S7⟩ := fin (0 : Int32) (by rw [decide_eq_false (by omega)]; rfl)
      refine Or.inr ⟨j, s + 1, C + 1, op, K, X, up1 st s o, w2, w7, Cc, ?_, JC_fr f2 (JC_fr f1 hc), j7, S7, hk⟩
      simp only [fX12_signs_110, ↓cbnd e3, ↓n1_0, ↓cbnd e4, hw5, ↓cbnd g5, ↓q, ↓cbnd e7, ↓reduceIte]
theorem j_op (hN : 1000 ≤ N) (ha : a < 2) (hc : JC wc' b n m d k) (hm : JM wm' b n k) (S : FS d a f wc wm wc' wm' j s C op K X st false) : StB b n d k wc wm (fX7_readSign_30 N (2 * d + a) (gI wc' 14 0 8) wc') (fX12_signs_26 N wm') ∨ (tK b n k ≠ 34 ∧ StG b n m d a f k wc wm (fX7_readSign_30 N (2 * d + a) (gI wc' 14 0 8) wc') (fX12_signs_26 N wm') true) := by
  obtain ⟨S1, S2, S3, S4, S5⟩ := S
  rw [m_op hm]
  have e8 : gI wc' 14 0 8 = kC (tK b n k) := hc.2.2.1.1
  have gl := c_levK (N := N) (w := wc') (tK_lt b n k)
  rw [← e8] at gl
  obtain ⟨o14, o1, o2⟩ := opK_f (tK b n k) (tK_lt b n k)
  have hs : s ≤ 72 := by
    have h1 := S3.1
    have hC := S3.2.1
    have h5 := S3.2.2.2.2.1
    have h8 := S3.2.2.1
    omega
  by_cases y : opK (tK b n k) = 0
  · rw [y]
    refine Or.inl ⟨1, ?_, ?_⟩
    · rcases o2 y with z | z
      · rw [z] at gl
        simp only [fX7_readSign_30, ↓cbnd gl]
        have q : (nI 0 = (0 : Int32)) = True := eq_true rfl
        simp only [↓q, ↓reduceIte]
        exact c_bad hc S1.1 1
      · rw [z] at gl
        simp only [fX7_readSign_30, ↓cbnd gl]
        have q : (nI 3 = (0 : Int32)) = False := eq_false (by decide)
        have q2 : (nI 3 = (3 : Int32)) = True := eq_true rfl
        simp only [↓q, ↓q2, ↓reduceIte]
        exact c_bad hc S1.1 1
    · have q : (nI 0 = (0 : Int32)) = True := eq_true rfl
      simp only [fX12_signs_72, ↓q, ↓reduceIte]
      exact m_bad hm S2.1 1
  · obtain ⟨p3, plv, ptk, p45, p34⟩ := o1 y
    have hk60 : tK b n k ≠ 60 := by omega
    generalize opK (tK b n k) = o at *
    have rf := rnk_f o (by omega)
    have r1 := rf.2.1 (by omega)
    have r3 := rf.2.2.1 p3
    rw [plv] at gl
    have q0 : (nI o = (0 : Int32)) = False := eq_false (fun z => by
      have := (nI_eq (b := 0) (by omega) (by omega)).mp z
      omega)
    have qa : (nI (rnk o) = (0 : Int32)) = False := eq_false (fun z => by
      have := (nI_eq (b := 0) (by omega) (by omega)).mp z
      omega)
    have qb : (nI (rnk o) = (3 : Int32)) = False := eq_false (fun z => by
      have := (nI_eq (b := 3) (by omega) (by omega)).mp z
      omega)
    have gr : ∀ w, pX12_rank N (nI o) w = some (nI (rnk o), w) := fun w => m_rank (by omega)
    have hv : gI wc' 14 0 8 = nI (tkS o) := by rw [e8, ptk]
    have key : ∀ least, 1 ≤ least → least ≤ 7 → ∃ s' j' K' X' wc'' wm'', pX7_release N (2 * d + a) (nI least) wc' = some wc'' ∧ pX12_bind N (nI least) wm' = some wm'' ∧ CF wc wc'' d a j' s' C op K' X' st ∧ MFh wm wm'' f j' s' C op K' X' st (sd K' j') ∧ PF f j' s' C op K' X' st false ∧ JC wc'' b n m d k ∧ JM wm'' b n k := fun least hl hl7 => by
      obtain ⟨s', j', K', X', wc'', wm'', t1, t2, t3, t4, t5, t6, t7, t8, t9⟩ := j_bind (N := N) (wc := wc) (wm := wm) ha hl hl7 s j K X N N wc' wm' (by omega) (by omega) S1 S2 S3
      refine ⟨s', j', K', X', wc'', wm'', ?_, ?_, t4, t5, t6, JC_fr t8 hc, JM_fr t9 hm⟩
      · unfold pX7_release
        rw [callW_eq, S1.2.2.2.2.2.1]
        exact t2
      · unfold pX12_bind
        rw [callW_eq]
        exact t3
    by_cases y4 : rnk o = 4
    · have qc : (nI (rnk o) = (4 : Int32)) = True := eq_true (by rw [y4]; rfl)
      obtain ⟨s', j', K', X', wc'', wm'', t2, t3, t4, t5, t6, jc, jm⟩ := key 5 (by omega) (by omega)
      have t2' : pX7_release N (2 * d + a) (5 : Int32) wc' = some wc'' := t2
      have t3' : pX12_bind N (5 : Int32) wm' = some wm'' := t3
      have tp := tp_ok t6
      have hs' : s' ≤ 72 := by
        have h1 := t6.1
        have hC := t6.2.1
        have h5 := t6.2.2.2.2.1
        have h8 := t6.2.2.1
        omega
      have g1 := c_last (N := N) t4 hs'
      have g2 := c_levS (N := N) (w := wc'') tp.1 tp.2
      have rt := (rnk_f (tpS st s') tp.1).1
      by_cases yt : rnk (tpS st s') = 4
      · have qt : (nI (rnk (tpS st s')) = (4 : Int32)) = True := eq_true (by rw [yt]; rfl)
        have sp' : 0 < s' := by
          rcases Nat.eq_zero_or_pos s' with z | z
          · subst z
            exact absurd yt (show ¬ rnk 0 = 4 by decide)
          · exact z
        have e55 : gI wm'' 16 0 55 - (1 : Int32) = nI (s' - 1) := by rw [t5.2.2.2.2.1, show (1 : Int32) = nI 1 from rfl, nI_sb (by omega)]
        have q55 : ((0 : Int32) < gI wm'' 16 0 55) = True := eq_true (by rw [t5.2.2.2.2.1]; exact (nI_ltI (a := 0) (by omega) (by omega)).mpr sp')
        have etp : tpS st s' = st (s' - 1) := by unfold tpS; rw [if_neg (by omega)]
        have l1 : ldI wm'' 97 0 (gI wm'' 16 0 55 - (1 : Int32)) 96 = some (nI (tpS st s')) := by rw [e55, ldn (by omega) (by omega), t5.2.2.2.2.2.2.1 (s' - 1) (by omega), etp]
        have g3 := m_rank (N := N) (w := wm'') tp.1
        refine Or.inl ⟨1, ?_, ?_⟩
        · simp only [fX7_readSign_30, ↓cbnd gl, ↓qa, ↓qb, ↓qc, fX7_readSign_50, ↓cbnd t2', ↓cbnd g1, ↓cbnd g2, ↓qt, ↓reduceIte, callW_eq]
          exact c_badE jc t4.1 1
        · simp only [fX12_signs_72, ↓q0, ↓cbnd (gr wm'), ↓qc, fX12_signs_88, ↓cbnd t3', ↓cbnd (gr wm''), ↓q55, ↓bnd l1, ↓cbnd g3, ↓qt, ↓reduceIte, callW_eq]
          exact m_badE jm t5.1 1
      · have qt : (nI (rnk (tpS st s')) = (4 : Int32)) = False := eq_false (fun z => yt ((nI_eq (b := 4) (by omega) (by omega)).mp z))
        have Cc : fX7_readSign_30 N (2 * d + a) (gI wc' 14 0 8) wc' = fX7_readSign_63 N (gI wc' 14 0 8) wc'' := by
          simp only [fX7_readSign_30, ↓cbnd gl, ↓qa, ↓qb, ↓qc, fX7_readSign_50, ↓cbnd t2', ↓cbnd g1, ↓cbnd g2, ↓qt, ↓reduceIte, callW_eq]
        have Cm : fX12_signs_72 N (nI o) wm' = fX12_signs_110 N (nI o) wm'' := by
          by_cases z : s' = 0
          · have q55 : ((0 : Int32) < gI wm'' 16 0 55) = False := eq_false (by rw [t5.2.2.2.2.1, z]; decide)
            simp only [fX12_signs_72, ↓q0, ↓cbnd (gr wm'), ↓qc, fX12_signs_88, ↓cbnd t3', ↓cbnd (gr wm''), ↓q55, ↓reduceIte, callW_eq]
          · have e55 : gI wm'' 16 0 55 - (1 : Int32) = nI (s' - 1) := by rw [t5.2.2.2.2.1, show (1 : Int32) = nI 1 from rfl, nI_sb (by omega)]
            have q55 : ((0 : Int32) < gI wm'' 16 0 55) = True := eq_true (by rw [t5.2.2.2.2.1]; exact (nI_ltI (a := 0) (by omega) (by omega)).mpr (by omega))
            have etp : tpS st s' = st (s' - 1) := by unfold tpS; rw [if_neg (by omega)]
            have l1 : ldI wm'' 97 0 (gI wm'' 16 0 55 - (1 : Int32)) 96 = some (nI (tpS st s')) := by rw [e55, ldn (by omega) (by omega), t5.2.2.2.2.2.2.1 (s' - 1) (by omega), etp]
            have g3 := m_rank (N := N) (w := wm'') tp.1
            simp only [fX12_signs_72, ↓q0, ↓cbnd (gr wm'), ↓qc, fX12_signs_88, ↓cbnd t3', ↓cbnd (gr wm''), ↓q55, ↓bnd l1, ↓cbnd g3, ↓qt, ↓reduceIte, callW_eq]
        rw [Cc, Cm]
        rcases j_tail hN jc jm t4 t5 t6 p3 o14 hv hk60 with z | z
        · exact Or.inl z
        · exact Or.inr ⟨p34, z⟩
    · have qc : (nI (rnk o) = (4 : Int32)) = False := eq_false (fun z => y4 ((nI_eq (b := 4) (by omega) (by omega)).mp z))
      obtain ⟨s', j', K', X', wc'', wm'', t2, t3, t4, t5, t6, jc, jm⟩ := key (rnk o) r1 (by omega)
      have Cc : fX7_readSign_30 N (2 * d + a) (gI wc' 14 0 8) wc' = fX7_readSign_63 N (gI wc' 14 0 8) wc'' := by
        simp only [fX7_readSign_30, ↓cbnd gl, ↓qa, ↓qb, ↓qc, fX7_readSign_50, ↓cbnd t2, ↓reduceIte, callW_eq]
      have Cm : fX12_signs_72 N (nI o) wm' = fX12_signs_110 N (nI o) wm'' := by
        simp only [fX12_signs_72, ↓q0, ↓cbnd (gr wm'), ↓qc, fX12_signs_88, ↓cbnd t3, ↓cbnd (gr wm''), ↓reduceIte, callW_eq]
      rw [Cc, Cm]
      rcases j_tail hN jc jm t4 t5 t6 p3 o14 hv hk60 with z | z
      · exact Or.inl z
      · exact Or.inr ⟨p34, z⟩
/-- any token where a sign is wanted -/
theorem j_signs (hN : 1000 ≤ N) (ha : a < 2) (hc : JC wc' b n m d k) (hm : JM wm' b n k) (S : FS d a f wc wm wc' wm' j s C op K X st false) : StB b n d k wc wm (pX7_readSign N (2 * d + a) wc') (pX12_signs N wm') ∨ StG b n m d a f k wc wm (pX7_readSign N (2 * d + a) wc') (pX12_signs N wm') (!decide (tK b n k = 34)) := by
  have S' := S
  obtain ⟨S1, S2, S3, S4, S5⟩ := S'
  have gs : pX12_isSign N (41 : Int32) wm' = some (zB (decide (tK b n k = 34)), wm') := m_isSign (N := N) hm (c := 34) (by omega) (by omega)
  have h8 := S3.2.2.1
  by_cases y : tK b n k = 34
  · rw [decide_eq_true y] at gs ⊢
    have q : (gI wc' 14 0 8 = (34 : Int32)) = True := (JC_is hc (c := 34) (by omega)).trans (eq_true y)
    by_cases yo : 0 < op
    · have q1 : ((0 : Int32) < gI wc' 11 0 6) = True := eq_true (by rw [S1.2.2.2.2.2.2.1]; exact (nI_ltI (a := 0) (by omega) (by omega)).mpr yo)
      have q2 : ((0 : Int32) < gI wm' 16 0 57) = True := eq_true (by rw [S2.2.2.2.2.2.1]; exact (nI_ltI (a := 0) (by omega) (by omega)).mpr yo)
      have hs : s ≤ 72 := by
        have h1 := S3.1
        have hC := S3.2.1
        have h5 := S3.2.2.2.2.1
        omega
      obtain ⟨s', j', K', X', wc'', wm'', t1, t2, t3, t4, t5, t6, t7, t8, t9⟩ := j_bind (N := N) (wc := wc) (wm := wm) ha (least := 1) (by omega) (by omega) s j K X N N wc' wm' (by omega) (by omega) S1 S2 S3
      have t2' : pX7_release N (2 * d + a) (1 : Int32) wc' = some wc'' := by
        unfold pX7_release
        rw [callW_eq, S1.2.2.2.2.2.1]
        exact t2
      have t3' : pX12_bind N (1 : Int32) wm' = some wm'' := by
        unfold pX12_bind
        rw [callW_eq]
        exact t3
      have sp' : 0 < s' := by
        have h5 := t6.2.2.2.2.1
        omega
      obtain ⟨s2, rfl⟩ : ∃ z, s' = z + 1 := ⟨s' - 1, by omega⟩
      have st0 : st s2 = 0 := by
        have e : tpS st (s2 + 1) = st s2 := by unfold tpS; rw [if_neg (by omega), show s2 + 1 - 1 = s2 by omega]
        rw [e] at t7
        have h6 := t6.2.2.2.2.2.1 s2 (by omega)
        rcases h6 with z | z
        · exact z
        · have := (rnk_f (st s2) (by omega)).2.1 z.1
          omega
      obtain ⟨_, P7⟩ := PF_close t6 st0
      have e1 : gI wc'' 11 0 5 - (1 : Int32) = nI s2 := by rw [t4.2.2.2.2.2.1, show (1 : Int32) = nI 1 from rfl, nI_sb (by omega)]; congr 1
      have gm : pJ9_max_7cf53 N (0 : Int32) (gI wc'' 11 0 5 - (1 : Int32)) wc'' = some (nI s2, wc'') := by
        rw [e1, li0, c_max (by omega) (by omega)]
        by_cases z : 0 < s2
        · rw [if_pos z]
        · rw [if_neg z, show s2 = 0 by omega]
      have e2 : gI (setI wc'' 11 0 5 (nI s2)) 11 0 6 - (1 : Int32) = nI (op - 1) := by rw [gg_I, if_neg (by omega), t4.2.2.2.2.2.2.1, show (1 : Int32) = nI 1 from rfl, nI_sb (by omega)]
      have e3 : gI wm'' 16 0 55 - (1 : Int32) = nI s2 := by rw [t5.2.2.2.2.1, show (1 : Int32) = nI 1 from rfl, nI_sb (by omega)]; congr 1
      have e4 : gI (setI wm'' 16 0 55 (nI s2)) 16 0 57 - (1 : Int32) = nI (op - 1) := by rw [gg_I, if_neg (by omega), t5.2.2.2.2.2.1, show (1 : Int32) = nI 1 from rfl, nI_sb (by omega)]
      have c5 := CF_op (op' := op - 1) (CF_low (s' := s2) t4 (by omega))
      have m5 := MF_op (op' := op - 1) (MF_low (s' := s2) t5 (by omega))
      have f5 : Fr [17055, 17057] wm'' (setI (setI wm'' 16 0 55 (nI s2)) 16 0 57 (nI (op - 1))) := Fr_setI (Fr_setI (Fr_refl _ _) rfl) rfl
      have f5c : Fr [12005, 12006] wc'' (setI (setI wc'' 11 0 5 (nI s2)) 11 0 6 (nI (op - 1))) := Fr_setI (Fr_setI (Fr_refl _ _) rfl) rfl
      obtain ⟨w7, e7, f7, j7⟩ := m_adv (N := N) (JM_fr f5 (JM_fr t9 hm)) hN
      refine Or.inr ⟨j', s2, C, op - 1, K', X', st, _, w7, ?_, ?_, JC_fr f5c (JC_fr t8 hc), j7, ⟨c5, MF_tk m5 (Fr_mono f7 rfl), P7, ?_, fun z => by cases z⟩, by omega⟩
      · simp only [pX7_readSign, ↓q, ↓q1, ↓cbnd t2', ↓cbnd gm, ↓e2, ↓reduceIte]
      · simp only [pX12_signs, ↓cbnd gs, ↓z1, ↓q2, ↓cbnd t3', ↓e3, ↓e4, ↓cbnd e7, ↓reduceIte]
      · rw [(f7 16 0 59 rfl).1, (f5 16 0 59 rfl).1, (t9 16 0 59 rfl).1, S4]; rfl
    · have q1 : ((0 : Int32) < gI wc' 11 0 6) = False := eq_false (by rw [S1.2.2.2.2.2.2.1, show op = 0 by omega]; decide)
      have q2 : ((0 : Int32) < gI wm' 16 0 57) = False := eq_false (by rw [S2.2.2.2.2.2.1, show op = 0 by omega]; decide)
      have Cc : pX7_readSign N (2 * d + a) wc' = fX7_readSign_30 N (2 * d + a) (gI wc' 14 0 8) wc' := by
        simp only [pX7_readSign, ↓q, ↓q1, ↓reduceIte, callW_eq]
      have Cm : pX12_signs N wm' = fX12_signs_26 N wm' := by
        simp only [pX12_signs, ↓cbnd gs, ↓z1, ↓q2, ↓reduceIte, callW_eq]
      rw [Cc, Cm]
      rcases j_op hN ha hc hm S with z | z
      · exact Or.inl z
      · exact absurd y z.1
  · rw [decide_eq_false y] at gs ⊢
    have q : (gI wc' 14 0 8 = (34 : Int32)) = False := (JC_is hc (c := 34) (by omega)).trans (eq_false y)
    have Cc : pX7_readSign N (2 * d + a) wc' = fX7_readSign_30 N (2 * d + a) (gI wc' 14 0 8) wc' := by
      simp only [pX7_readSign, ↓q, ↓reduceIte, callW_eq]
    have Cm : pX12_signs N wm' = fX12_signs_26 N wm' := by
      simp only [pX12_signs, ↓cbnd gs, ↓z2, ↓reduceIte, callW_eq]
    rw [Cc, Cm]
    rcases j_op hN ha hc hm S with z | z
    · exact Or.inl z
    · exact Or.inr z.2
end

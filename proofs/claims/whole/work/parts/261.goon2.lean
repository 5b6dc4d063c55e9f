/-! ===== the class: goOn ===== -/
section
variable {N : Nat} {v : Vw} {p S n : Nat}
def recOk (v : Vw) (p S n s : Nat) (f : Int32 → Int32 → Int64 → Wd → Option Wd) : Prop :=
  ∀ t w, pfO S s t → goT w v p S n → (∀ j, j < s → gI w 46 0 j = nI (t j)) → bsO w v p S n (fun r => lx s r t) → (s = n → gL w 9 0 10 < lN (opP v p t n)) → Ok (f (nI s) (nI (usO t s)) (lN (opP v p t s)) w) (goQ w v p S n s t)
theorem c_goLeaf (hF : WF v) (hT : ∀ j, v 18 j ≤ v 0 5) (h5 : v 0 5 ≤ 1000) (hn : n ≤ 8) (hS : S < 2 ^ v 0 0) (hc : cnt (fun k => S.testBit k) (v 0 0) = n) (rec : Int32 → Int32 → Int64 → Wd → Option Wd) : recOk v p S n n (pX5_goOnB N rec) := by
  intro t w ht hG h46 hB hgt
  have hgt := hgt rfl
  have hA : arr S n t := arr_of hS hc ht.1 ht.2
  obtain ⟨hR, h92, h911, hO, hBt⟩ := hG
  have lt : (nI n < gI w 9 0 12) = False := eq_false (fun z => by
    rw [h911] at z
    have := (nI_ltI (by omega) (by omega)).mp z
    omega)
  have e11 : gI (setL w 9 0 10 (lN (opP v p t n))) 9 0 12 = nI n := h911
  have c1 : cpI (setL w 9 0 10 (lN (opP v p t n))) 46 0 (0 : Int32) 8 47 0 (0 : Int32) 8 (gI (setL w 9 0 10 (lN (opP v p t n))) 9 0 12) = some (setRowI (setL w 9 0 10 (lN (opP v p t n))) 47 0 (va_cpy (gI (setL w 9 0 10 (lN (opP v p t n))) 46 0) (gI (setL w 9 0 10 (lN (opP v p t n))) 47 0) 0 0 n)) := by
    rw [e11]
    exact cpn (sp := 0) (dp := 0) (by omega) (by omega) (by omega) (by omega)
  simp only [pX5_goOnB, ↓lt, ↓bnd c1, ↓reduceIte]
  refine ok_some ⟨Fr_row (Fr_setL (Fr_refl _ _) rfl) (fun _ => rfl), fun j hj => ?_, Or.inr ⟨t, hA, ?_, fun j hj => ?_, Or.inr (fun _ _ => rfl), fun s hs hD => ?_⟩⟩
  · rw [gg_row, if_neg (by omega)]; rfl
  · rw [gg_Lrow, gg_L, if_pos ⟨rfl, rfl, rfl⟩]
  · rw [gg_row, if_pos ⟨rfl, rfl⟩, pk_cpy_in (by omega) (by omega)]
    show gI w 46 0 (0 + (j - 0)) = _
    rw [show 0 + (j - 0) = j by omega]
    exact h46 j hj
  · have hPt := opP_lt (p := p) hF h5 hT t hn
    rcases hD with hD | hD
    · rcases hB with ⟨_, hno⟩ | ⟨b, hAb, e9, _, hDb, hbest⟩
      · exact absurd hD (hno s hs)
      · have hPb := opP_lt (p := p) hF h5 hT b hn
        rw [e9] at hgt
        have h1 := (lNb_lt hPb hPt).mp hgt
        rcases hbest s hs hD with z | z
        · exact Or.inl (by omega)
        · exact Or.inl (by omega)
    · exact Or.inr ⟨opP_cong hD, fun z => lx_asym z (lx_cong hD (fun j hj => (hD j hj).symm) z)⟩
theorem c_go24 (hF : WF v) (hT : ∀ j, v 18 j ≤ v 0 5) (h5 : v 0 5 ≤ 1000) (hN : 100 ≤ N) (hn : n ≤ 8) (hS : S < 2 ^ v 0 0) (hth : ∀ i, i < n → sThere v p (v 0 5 + i) = true) {s : Nat} (hs : s < n) (rec : Int32 → Int32 → Int64 → Wd → Option Wd) (hrec : recOk v p S n (s + 1) rec)
    {t : Nat → Nat} {w0 : Wd} (ht : pfO S s t) (hG : goT w0 v p S n) (h46 : ∀ j, j < s → gI w0 46 0 j = nI (t j)) :
    ∀ fuel c w, c ≤ v 0 0 → v 0 0 - c < fuel → Fr kGo w0 w → (∀ j, j < s → gI w 46 0 j = gI w0 46 0 j) → bsO w v p S n (bcO t s c) → Ok (fX5_goOn_24 N rec (nI s) (nI (usO t s)) (lN (opP v p t s)) fuel (nI (knC v p t s)) (nI c) w) (goQ w0 v p S n s t) := by
  have h2 := WF_parts hF
  have hS8 : S < 2 ^ 8 := Nat.lt_of_lt_of_le hS (Nat.pow_le_pow_right (by omega) h2)
  intro fuel
  induction fuel with
  | zero => intro c _ _ h; omega
  | succ f ih =>
    intro c w hc hf f0 a46 hB
    have hG1 := goT_fr f0 hG
    obtain ⟨hR, h92, h911, hO, hBt⟩ := hG1
    have e1 : nI c + (1 : Int32) = nI (c + 1) := nI_add c 1
    rcases Nat.lt_or_ge c (v 0 0) with y | y
    · have lt : (nI c < gI w 8 (gR w 13 0 0) 0) = True := eq_true (by rw [TC_parts hR.1]; exact (nI_ltI (by omega) (by omega)).mpr y)
      cases hb : (S.testBit c && !(usO t s).testBit c) with
      | false =>
        have q : ((gI w 9 0 2 &&& (nI (usO t s) ^^^ (-1 : Int32))) &&& ((1 : Int32) <<< (nI c &&& (31 : Int32))) = 0) = True := eq_true (by rw [h92]; exact (free_iff hS8 (by omega)).mpr hb)
        simp only [fX5_goOn_24, ↓lt, ↓q, ↓e1, ↓reduceIte, callW_eq]
        refine ih (c + 1) w (by omega) (by omega) f0 a46 (bsO_ext (fun r hr => ?_) hB)
        constructor
        · rintro (z | z)
          · exact Or.inl z
          · exact Or.inr ⟨z.1, by omega⟩
        · rintro (z | z)
          · exact Or.inl z
          · refine Or.inr ⟨z.1, ?_⟩
            apply Classical.byContradiction
            intro u
            have e : r s = c := by omega
            have hx := hr.1 s hs
            rw [e] at hx
            rw [hx, usO_bit (by omega), Bool.true_and] at hb
            have hb' : anyB (fun j => t j == c) s = true := by
              cases hq : anyB (fun j => t j == c) s with
              | true => rfl
              | false => rw [hq] at hb; cases hb
            obtain ⟨j, hj, ej⟩ := anyB_true.mp hb'
            have := hr.2.1 j s hj hs
            rw [z.1 j hj, beq_iff_eq.mp ej] at this
            omega
      | true =>
        have q : ((gI w 9 0 2 &&& (nI (usO t s) ^^^ (-1 : Int32))) &&& ((1 : Int32) <<< (nI c &&& (31 : Int32))) = 0) = False := eq_false (fun z => by
          rw [h92] at z
          have := (free_iff hS8 (by omega)).mp z
          rw [hb] at this
          cases this)
        rw [Bool.and_eq_true] at hb
        have hbS := hb.1
        have hnt : ∀ j, j < s → t j ≠ c := by
          intro j hj e
          have h3 := hb.2
          have h4 : anyB (fun j => t j == c) s = true := anyB_true.mpr ⟨j, hj, beq_iff_eq.mpr e⟩
          rw [usO_bit (by omega), h4] at h3
          cases h3
        have hb8 := WF_beside8 hF c
        have l1 : ldI w 32 (gR w 13 0 0) (nI c) 8 = some (nI (v 3 c)) := by rw [ldn (by omega) (by omega), TC_beside hR.1 c y]
        have hand : v 3 c &&& knC v p t s ≤ v 3 c := Nat.and_le_left
        have gb : pJ6_bitCount_0f7a4 N (nI (v 3 c) &&& nI (knC v p t s)) w = some (nI (pc (v 3 c &&& knC v p t s)), w) := by
          rw [nz_and]
          exact c_bits (by omega)
        have hpc : pc (v 3 c &&& knC v p t s) ≤ pc (v 3 c) := cnt_mono (fun k _ h => by
          rw [Nat.testBit_and, Bool.and_eq_true] at h
          exact h.1)
        have hpc8 : pc (v 3 c) ≤ 8 := pc_lt hb8
        have gs := c_slot (N := N) (w := w) (i := s) (k := c) (a := pc (v 3 c &&& knC v p t s))
        have hsl : slO s c (pc (v 3 c &&& knC v p t s)) < 576 := by unfold slO; omega
        have exc : ∀ j, j < s → exO t s c j = t j := fun j hj => exO_o t hj
        have ptf : pfO S (s + 1) (exO t s c) := by
          refine ⟨fun i hi => ?_, fun i j hij hj => ?_⟩
          · rcases Nat.lt_or_ge i s with z | z
            · rw [exO_o t z]; exact ht.1 i z
            · have : i = s := by omega
              subst this
              rw [exO_s]; exact hbS
          · rw [exO_o t (by omega)]
            rcases Nat.lt_or_ge j s with z | z
            · rw [exO_o t z]; exact ht.2 i j hij z
            · have : j = s := by omega
              subst this
              rw [exO_s]; exact hnt i hij
        have hch : chO v p s c (pc (v 3 c &&& knC v p t s)) = opC v p (exO t s c) s := by
          rw [opC_eq (fun a b x z => ptf.2 a b x (by omega)) (hth s hs), exO_s, chO]
          have ek : knC v p (exO t s c) s = knC v p t s := by
            unfold knC
            apply mkB_ext
            intro k _
            rw [anyB_ext (f := fun j => exO t s c j == k && decide (v 0 5 + s ≤ utN v p k (v 0 5 + j) (v 0 6))) (g := fun j => t j == k && decide (v 0 5 + s ≤ utN v p k (v 0 5 + j) (v 0 6))) (fun j hj => by rw [exc j hj]), anyB_ext (f := fun j => exO t s c j == k) (g := fun j => t j == k) (fun j hj => by rw [exc j hj])]
          rw [ek, Nat.and_comm]
        have l4 : ldI w 40 0 (nI (slO s c (pc (v 3 c &&& knC v p t s)))) 576 = some (nI (opC v p (exO t s c) s)) := by
          rw [ldn hsl (by omega), (hO.2.1 s c hs y hbS).2 _ hpc, hch]
        have eus : nI (usO t s) ||| ((1 : Int32) <<< (nI c &&& (31 : Int32))) = nI (usO (exO t s c) (s + 1)) := by
          rw [usO_succ (by rw [exO_s]; omega), exO_s, li1, li31, nz_and, nz_shl (by omega), nz_or]
          congr 2
          unfold usO
          exact mkB_ext (fun k _ => anyB_ext (fun j hj => by rw [exc j hj]))
        have es1 : nI s + (1 : Int32) = nI (s + 1) := nI_add s 1
        obtain ⟨M, m1, m2, m3⟩ := hBt (usO (exO t s c) (s + 1)) (Nat.zero_le _) (mkB_lt _ 8) (usO_sub ptf.1)
        rw [pc_usO hS8 ptf.1 ptf.2] at m2
        have l5 : ldL w 45 0 (nI (usO t s) ||| ((1 : Int32) <<< (nI c &&& (31 : Int32)))) 256 = some (lN M) := by
          have hlt : usO (exO t s c) (s + 1) < 256 := mkB_lt _ 8
          rw [eus, ldLn hlt (by omega), m1]
        have hcl : opC v p (exO t s c) s ≤ 100 := opC_le hF h5 hT p _ (by omega)
        have em : lN (opP v p t s) * (nI (opC v p (exO t s c) s)).toInt64 = lN (opP v p (exO t s c) (s + 1)) := by
          rw [nI_l (by omega), lN_mul, opP, opP_cong exc]
        have hle1 := opP_le (p := p) hF h5 hT (exO t s c) (i := s + 1) (by omega)
        have hpr : opP v p (exO t s c) (s + 1) * M < 2 ^ 60 := by
          have h3 := Nat.mul_le_mul hle1 m2
          rw [← Nat.pow_add, show s + 1 + (n - (s + 1)) = n by omega] at h3
          exact p100 hn h3
        have em2 : lN (opP v p (exO t s c) (s + 1)) * lN (M) = lN (opP v p (exO t s c) (s + 1) * M) := lN_mul _ _
        by_cases hgt : gL w 9 0 10 < lN (opP v p (exO t s c) (s + 1) * M)
        · have gt : (0 < lg_cmp (lN (opP v p (exO t s c) (s + 1) * M)) (gL w 9 0 10)) = True := eq_true ((lg_gt _ _).mpr hgt)
          have s6 : stI w 46 0 (nI s) 8 (nI c) = some (setI w 46 0 s (nI c)) := stn (by omega) (by omega)
          simp only [fX5_goOn_24, ↓lt, ↓q, ↓bnd l1, ↓cbnd gb, ↓cbnd gs, ↓bnd l4, ↓bnd l5, ↓es1, ↓eus, ↓em, ↓em2, ↓gt, ↓bnd s6, ↓e1, ↓reduceIte]
          rw [callW_eq]
          have f6 : Fr kGo w (setI w 46 0 s (nI c)) := Fr_setI (Fr_refl _ _) rfl
          refine ok_bind (hrec (exO t s c) (setI w 46 0 s (nI c)) ptf (goT_fr (Fr_trans f0 f6) hG) (fun j hj => ?_) (bsO_ext (fun r _ => lx_ex.symm) hB) (fun en => ?_)) ?_
          · rw [gg_I]
            rcases Nat.lt_or_ge j s with z | z
            · rw [if_neg (fun u => by omega), a46 j z, h46 j z, exO_o t z]
            · have : j = s := by omega
              subst this
              rw [if_pos ⟨rfl, rfl, rfl⟩, exO_s]
          · subst en
            show gL w 9 0 10 < _
            have h3 : M ≤ 1 := by
              have := m2
              rw [Nat.sub_self, Nat.pow_zero] at this
              exact this
            have h4 : opP v p (exO t s c) (s + 1) * M ≤ opP v p (exO t s c) (s + 1) * 1 := Nat.mul_le_mul_left _ h3
            have h5' := opP_lt (p := p) hF h5 hT (exO t s c) hn
            rw [Int64.lt_iff_toInt_lt, lNb hpr] at hgt
            rw [Int64.lt_iff_toInt_lt, lNb h5']
            omega
          · intro w7 h7
            obtain ⟨g1, g2, g3⟩ := h7
            rw [callW_eq]
            refine ih (c + 1) w7 (by omega) (by omega) (Fr_trans f0 (Fr_trans f6 g1)) (fun j hj => ?_) (bsO_ext (fun r _ => up_ex) g3)
            rw [g2 j (by omega), gg_I, if_neg (fun u => by omega)]
            exact a46 j hj
        · have gt : (0 < lg_cmp (lN (opP v p (exO t s c) (s + 1) * M)) (gL w 9 0 10)) = False := eq_false (fun z => hgt ((lg_gt _ _).mp z))
          simp only [fX5_goOn_24, ↓lt, ↓q, ↓bnd l1, ↓cbnd gb, ↓cbnd gs, ↓bnd l4, ↓bnd l5, ↓es1, ↓eus, ↓em, ↓em2, ↓gt, ↓e1, ↓reduceIte]
          rw [callW_eq]
          refine ih (c + 1) w (by omega) (by omega) f0 a46 ?_
          rcases hB with ⟨e9, _⟩ | ⟨b, hAb, e9, h47, hDb, hbest⟩
          · exact absurd (by rw [e9]; exact lNb_m1 hpr) hgt
          · have hPb := opP_lt (p := p) hF h5 hT b hn
            rw [e9] at hgt
            have hle : opP v p (exO t s c) (s + 1) * M ≤ opP v p b n := by
              apply Classical.byContradiction
              intro z
              exact hgt ((lNb_lt hPb hpr).mpr (by omega))
            refine Or.inr ⟨b, hAb, e9, h47, ?_, fun r hr hD => ?_⟩
            · rcases hDb with z | z
              · exact Or.inl z
              · exact Or.inr ⟨z.1, by omega⟩
            · rcases up_ex.mpr hD with z | z
              · exact hbest r hr (lx_ex.mp z)
              · have eu : usO r (s + 1) = usO (exO t s c) (s + 1) := by
                  unfold usO
                  exact mkB_ext (fun k _ => anyB_ext (fun j hj => by rw [z j hj]))
                have h8 := opP_prF v p r (n - (s + 1)) (s + 1)
                rw [show s + 1 + (n - (s + 1)) = n by omega, opP_cong z] at h8
                have hbd : opP v p r n ≤ opP v p (exO t s c) (s + 1) * M := by
                  rw [h8]
                  exact Nat.mul_le_mul_left _ (m3 r (s + 1) hr (by omega) eu)
                have hnl : ¬ lx n r b := by
                  intro u
                  obtain ⟨m, m1, m2, m3⟩ := lx_ex.mpr hDb
                  exact lx_asym u ⟨m, by omega, fun j hj => by rw [m2 j hj, z j (by omega)], by rw [z m m1]; exact m3⟩
                rcases Nat.lt_or_ge (opP v p r n) (opP v p b n) with u | u
                · exact Or.inl u
                · exact Or.inr ⟨by omega, hnl⟩
    · have : c = v 0 0 := by omega
      subst this
      have lt : (nI (v 0 0) < gI w 8 (gR w 13 0 0) 0) = False := eq_false (fun z => by
        rw [TC_parts hR.1] at z
        have := (nI_ltI (by omega) (by omega)).mp z
        omega)
      simp only [fX5_goOn_24, ↓lt, ↓reduceIte]
      refine ok_some ⟨f0, a46, bsO_ext (fun r hr => ?_) hB⟩
      constructor
      · rintro (z | z)
        · exact Or.inl z
        · exact Or.inr z.1
      · rintro (z | z)
        · exact Or.inl z
        · exact Or.inr ⟨z, bit_lt hS (hr.1 s hs)⟩
theorem c_goOn (hF : WF v) (hT : ∀ j, v 18 j ≤ v 0 5) (h5 : v 0 5 ≤ 1000) (hN : 100 ≤ N) (hn : n ≤ 8) (hS : S < 2 ^ v 0 0) (hth : ∀ i, i < n → sThere v p (v 0 5 + i) = true) (hc : cnt (fun k => S.testBit k) (v 0 0) = n) :
    ∀ d s, s ≤ n → n - s < d → recOk v p S n s (pX5_goOn N d) := by
  intro d
  induction d with
  | zero => intro s _ h; omega
  | succ d ih =>
    intro s hs hd
    rcases Nat.lt_or_ge s n with y | y
    · intro t w ht hG h46 hB hgt
      have hO := hG.2.2.2.1
      have lt : (nI s < gI w 9 0 12) = True := eq_true (by rw [hG.2.2.1]; exact (nI_ltI (by omega) (by omega)).mpr y)
      have t8 : ∀ j, j < s → t j < v 0 0 := fun j hj => bit_lt hS (ht.1 j hj)
      have gk := c_knownAt (N := N) (w := w) (p := p) (i := s) (t := t) hF h5 hN (by omega) (hO.1 s y) h46 t8 (fun j hj => (hO.2.1 j (t j) (by omega) (t8 j hj) (ht.1 j hj)).1)
      simp only [pX5_goOn, pX5_goOnB, ↓lt, ↓cbnd gk, ↓reduceIte]
      rw [callW_eq]
      exact c_go24 (N := N) hF hT h5 hN hn hS hth y (pX5_goOn N d) (ih (s + 1) (by omega) (by omega)) ht hG h46 N 0 w (by omega) (by have := WF_parts hF; omega) (Fr_refl _ _) (fun _ _ => rfl) (bsO_ext (fun r _ => ⟨fun z => Or.inl z, fun z => by
        rcases z with z | z
        · exact z
        · omega⟩) hB)
    · have : s = n := by omega
      subst this
      exact c_goLeaf hF hT h5 hn hS hc (pX5_goOn N d)
end

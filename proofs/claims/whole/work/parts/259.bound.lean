/-! ===== the class: what is left can bring no more ===== -/
section
variable {N : Nat} {w : Wd} {v : Vw} {p S n : Nat}
theorem c_fresh (hO : orT w v p S n n) (hS : S < 2 ^ v 0 0) (hn : n ≤ 8) (hN : 100 ≤ N) {s : Nat} (hs : s < n) :
    ∃ m, pX5_freshAt N (nI s) w = some (nI m, w) ∧ m ≤ s ∧ ∀ r : Nat → Nat, (∀ i, i < s → S.testBit (r i) = true) → cnt (fun j => decide (s ≤ unO v p j (r j))) s ≤ m := by
  have key : ∀ fuel c m, c ≤ s → s - c < fuel → m ≤ c → (∀ r : Nat → Nat, (∀ i, i < s → S.testBit (r i) = true) → cnt (fun j => decide (s ≤ unO v p j (r j))) c ≤ m) →
      ∃ m', fX5_freshAt_4 N (nI s) fuel (nI m) (nI c) w = some (nI m', w) ∧ m' ≤ s ∧ ∀ r : Nat → Nat, (∀ i, i < s → S.testBit (r i) = true) → cnt (fun j => decide (s ≤ unO v p j (r j))) s ≤ m' := by
    intro fuel
    induction fuel with
    | zero => intro c _ _ h; omega
    | succ f ih =>
      intro c m hc hf hm hr
      have e1 : nI c + (1 : Int32) = nI (c + 1) := nI_add c 1
      have e2 : nI m + (1 : Int32) = nI (m + 1) := nI_add m 1
      rcases Nat.lt_or_ge c s with y | y
      · obtain ⟨x, x1, x2, x3⟩ := hO.2.2.1 c (by omega)
        have lt : (nI c < nI s) = True := eq_true ((nI_ltI (by omega) (by omega)).mpr y)
        have l1 : ldI w 44 0 (nI c) 8 = some (nI x) := by rw [ldn (by omega) (by omega), x2]
        by_cases z : x < s
        · have lt2 : (nI x < nI s) = True := eq_true ((nI_ltI (by omega) (by omega)).mpr z)
          simp only [fX5_freshAt_4, ↓lt, ↓bnd l1, ↓lt2, ↓e1, ↓reduceIte, callW_eq]
          refine ih (c + 1) m (by omega) (by omega) (by omega) (fun r hr' => ?_)
          have h1 := hr r hr'
          have h2 := x3 (r c) (bit_lt hS (hr' c y)) (hr' c y)
          rw [cnt, decide_eq_false (show ¬ s ≤ unO v p c (r c) by omega), if_neg (by decide)]
          exact h1
        · have lt2 : (nI x < nI s) = False := eq_false (fun u => z ((nI_ltI (by omega) (by omega)).mp u))
          simp only [fX5_freshAt_4, ↓lt, ↓bnd l1, ↓lt2, ↓e1, ↓e2, ↓reduceIte, callW_eq]
          refine ih (c + 1) (m + 1) (by omega) (by omega) (by omega) (fun r hr' => ?_)
          have h1 := hr r hr'
          rw [cnt]
          split <;> omega
      · have : c = s := by omega
        subst this
        have lt : (nI c < nI c) = False := eq_false (fun u => by
          have := (nI_ltI (by omega) (by omega)).mp u
          omega)
        simp only [fX5_freshAt_4, ↓lt, ↓reduceIte]
        exact ⟨m, rfl, hm, hr⟩
  unfold pX5_freshAt
  rw [callW_eq]
  exact key N 0 0 (by omega) (by omega) (by omega) (fun r _ => Nat.le_refl _)
theorem c_atMost (hF : WF v) (hO : orT w v p S n n) (hn : n ≤ 8) (hN : 100 ≤ N) {s k lo hi : Nat} (hs : s < n) (hk : k < v 0 0) (hb : S.testBit k = true) (hlo : lo ≤ 12) (hhi : hi ≤ pc (v 3 k)) :
    ∃ q, pX5_chanceAtMost N (nI s) (nI k) (nI lo) (nI hi) w = some (lN q, w) ∧ q ≤ 100 ∧ ∀ a, lo ≤ a → a ≤ hi → chO v p s k a ≤ q := by
  have h2 := WF_parts hF
  have hpa : pc (v 3 k) ≤ 8 := pc_lt (WF_beside8 hF k)
  have key : ∀ fuel c q, c ≤ 13 → 13 - c < fuel → q ≤ 100 → (∀ a, lo ≤ a → a < c → a ≤ hi → chO v p s k a ≤ q) →
      ∃ q', fX5_chanceAtMost_4 N (nI s) (nI k) (nI hi) fuel (fX5_chanceAtMost_19 N) (nI q) (nI c) w = some (lN q', w) ∧ q' ≤ 100 ∧ ∀ a, lo ≤ a → a ≤ hi → chO v p s k a ≤ q' := by
    intro fuel
    induction fuel with
    | zero => intro c _ _ h; omega
    | succ f ih =>
      intro c q hc hf hq hr
      rcases Nat.lt_or_ge hi c with y | y
      · have lt : (nI hi < nI c) = True := eq_true ((nI_ltI (by omega) (by omega)).mpr y)
        simp only [fX5_chanceAtMost_4, fX5_chanceAtMost_19, ↓lt, ↓reduceIte]
        exact ⟨q, by rw [nI_l (by omega)], hq, fun a h1 h3 => hr a h1 (by omega) h3⟩
      · have lt : (nI hi < nI c) = False := eq_false (fun z => by
          have := (nI_ltI (by omega) (by omega)).mp z
          omega)
        have gs := c_slot (N := N) (w := w) (i := s) (k := k) (a := c)
        have hsl : slO s k c < 576 := by unfold slO; omega
        have l2 : ldI w 40 0 (nI (slO s k c)) 576 = some (nI (chO v p s k c)) := by rw [ldn hsl (by omega), (hO.2.1 s k hs hk hb).2 c (by omega)]
        have hch := chO_le hF p s k c
        have g3 : pJ9_max_7cf53 N (nI q) (nI (chO v p s k c)) w = some (nI (if q < chO v p s k c then chO v p s k c else q), w) := c_max (by omega) (by omega)
        have e1 : nI c + (1 : Int32) = nI (c + 1) := nI_add c 1
        simp only [fX5_chanceAtMost_4, ↓lt, ↓cbnd gs, ↓bnd l2, ↓cbnd g3, ↓e1, ↓reduceIte]
        rw [callW_eq]
        refine ih (c + 1) _ (by omega) (by omega) (by split <;> omega) (fun a h1 h3 h4 => ?_)
        rcases Nat.lt_or_ge a c with z | z
        · have := hr a h1 z h4
          split <;> omega
        · have : a = c := by omega
          subst this
          split <;> omega
  unfold pX5_chanceAtMost
  rw [callW_eq]
  exact key N lo 0 (by omega) (by omega) (by omega) (fun a h1 h3 => by omega)
/-- the table of what is left, from the parts c on -/
def btT (w : Wd) (v : Vw) (p S n c : Nat) : Prop := ∀ us, c ≤ us → us < 256 → (∀ k, us.testBit k = true → S.testBit k = true) → ∃ m, gL w 45 0 us = lN m ∧ bhO v p S n us m
theorem lN_max {a b : Nat} (ha : a < 2 ^ 60) (hb : b < 2 ^ 60) : pJ9_max_f86c9 N (lN a) (lN b) w = some (lN (if a < b then b else a), w) := by
  unfold pJ9_max_f86c9
  by_cases z : a < b
  · rw [if_pos ((lg_lt _ _).mpr ((lNb_lt ha hb).mpr z)), if_pos z]
  · rw [if_neg (fun u => z ((lNb_lt ha hb).mp ((lg_lt _ _).mp u))), if_neg z]
theorem c_ordMost (hR : RC w 0 v) (hF : WF v) (h5 : v 0 5 ≤ 1000) (hT : ∀ j, v 18 j ≤ v 0 5) (hN : 100 ≤ N) (hn : n ≤ 8) (hS : S < 2 ^ v 0 0) (hth : ∀ i, i < n → sThere v p (v 0 5 + i) = true) (h92 : gI w 9 0 2 = nI S) (h12 : gI w 9 0 12 = nI n) (hO : orT w v p S n n)
    {us : Nat} (hu : us < 256) (hsub : ∀ k, us.testBit k = true → S.testBit k = true) (hB : btT w v p S n (us + 1)) : ∃ m, pX5_mostFrom N (nI us) w = some (lN m, w) ∧ bhO v p S n us m := by
  have h2 := WF_parts hF
  have hS8 : S < 2 ^ 8 := Nat.lt_of_lt_of_le hS (Nat.pow_le_pow_right (by omega) h2)
  have gb := c_bits (N := N) (w := w) (x := us) (by omega)
  have hpu : pc us ≤ 8 := pc_lt (p := 8) hu
  have step : ∀ r st', arr S n r → st' ≤ n → usO r st' = us → st' = pc us := fun r st' hr hst' e => by
    have := pc_usO hS8 (fun j hj => hr.1 j (show j < n by omega)) (fun a b x y => hr.2.1 a b x (show b < n by omega)) (i := st') (t := r)
    rw [e] at this
    exact this.symm
  generalize hst : pc us = st at gb hpu step
  by_cases hsn : st < n
  · have lt : (nI st < gI w 9 0 12) = True := eq_true (by rw [h12]; exact (nI_ltI (by omega) (by omega)).mpr hsn)
    have hsB := sBits_lt hF p (v 0 5 + st)
    have l2 : ldI w 41 0 (nI st) 8 = some (nI (sBits v p (v 0 5 + st))) := by rw [ldn (by omega) (by omega), hO.1 st hsn]
    obtain ⟨fr, gf, fr1, fr2⟩ := c_fresh (N := N) hO hS hn hN hsn
    have e0 : nI (sBits v p (v 0 5 + st)) &&& (nI us ^^^ (-1 : Int32)) = nI (sBits v p (v 0 5 + st) ^^^ (sBits v p (v 0 5 + st) &&& us)) := nz_not (by omega)
    simp only [pX5_mostFrom, ↓cbnd gb, ↓lt, ↓bnd l2, ↓cbnd gf, ↓e0, ↓reduceIte]
    rw [callW_eq]
    obtain ⟨l, la, lb, lc⟩ := hO.2.2.2
    generalize hany : sBits v p (v 0 5 + st) ^^^ (sBits v p (v 0 5 + st) &&& us) = any
    have p60 : ∀ x, x ≤ 100 ^ (n - st) → x < 2 ^ 60 := fun x hx => p100 (show n - st ≤ 8 by omega) hx
    have key : ∀ fuel c m, c ≤ v 0 0 → v 0 0 - c < fuel → m ≤ 100 ^ (n - st) → (∀ r, arr S n r → usO r st = us → r st < c → prF v p r st (n - st) ≤ m) →
        ∃ m', fX5_mostFrom_26 N (nI us) fuel (nI st) (nI any) (nI fr) (lN m) (nI c) w = some (lN m', w) ∧ bhO v p S n us m' := by
      intro fuel
      induction fuel with
      | zero => intro c _ _ h; omega
      | succ f ih =>
        intro c m hc hf hm hr
        have e1 : nI c + (1 : Int32) = nI (c + 1) := nI_add c 1
        rcases Nat.lt_or_ge c (v 0 0) with y | y
        · have ltc : (nI c < gI w 8 (gR w 13 0 0) 0) = True := eq_true (by rw [TC_parts hR.1]; exact (nI_ltI (by omega) (by omega)).mpr y)
          cases hb : (S.testBit c && !us.testBit c) with
          | false =>
            have q : ((gI w 9 0 2 &&& (nI us ^^^ (-1 : Int32))) &&& ((1 : Int32) <<< (nI c &&& (31 : Int32))) = 0) = True := eq_true (by rw [h92]; exact (free_iff hS8 (by omega)).mpr hb)
            simp only [fX5_mostFrom_26, ↓ltc, ↓q, ↓e1, ↓reduceIte, callW_eq]
            refine ih (c + 1) m (by omega) (by omega) hm (fun r hA e hlt => ?_)
            rcases Nat.lt_or_ge (r st) c with z | z
            · exact hr r hA e z
            · exfalso
              have ec : r st = c := by omega
              have hx := hA.1 st hsn
              rw [ec] at hx
              have hnb : us.testBit c = false := by
                rw [← e, usO_bit (by omega)]
                exact anyB_false.mpr (fun j hj => beq_eq_false_iff_ne.mpr (by rw [← ec]; exact hA.2.1 j st hj hsn))
              rw [hx, hnb] at hb
              cases hb
          | true =>
            have q : ((gI w 9 0 2 &&& (nI us ^^^ (-1 : Int32))) &&& ((1 : Int32) <<< (nI c &&& (31 : Int32))) = 0) = False := eq_false (fun z => by
              rw [h92] at z
              have := (free_iff hS8 (by omega)).mp z
              rw [hb] at this
              cases this)
            rw [Bool.and_eq_true, Bool.not_eq_true'] at hb
            have hbS := hb.1
            have hbu := hb.2
            have hb8 := WF_beside8 hF c
            have hpc8 : pc (v 3 c) ≤ 8 := pc_lt hb8
            have l1 : ldI w 32 (gR w 13 0 0) (nI c) 8 = some (nI (v 3 c)) := by rw [ldn (by omega) (by omega), TC_beside hR.1 c y]
            have g2 : pJ6_bitCount_0f7a4 N (nI (v 3 c) &&& (nI any ||| (gI w 9 0 7 &&& nI us))) w = some (nI (pc (v 3 c &&& (any ||| (l &&& us)))), w) := by
              rw [lb, nz_and, nz_or, nz_and]
              exact c_bits (Nat.lt_of_le_of_lt Nat.and_le_left (by omega))
            have g3 : pJ6_bitCount_0f7a4 N (nI (v 3 c) &&& nI any) w = some (nI (pc (v 3 c &&& any)), w) := by
              rw [nz_and]
              exact c_bits (Nat.lt_of_le_of_lt Nat.and_le_left (by omega))
            have g4 : pJ6_bitCount_0f7a4 N (nI (v 3 c) &&& (nI any ||| nI us)) w = some (nI (pc (v 3 c &&& (any ||| us))), w) := by
              rw [nz_or, nz_and]
              exact c_bits (Nat.lt_of_le_of_lt Nat.and_le_left (by omega))
            have pand : ∀ x, pc (v 3 c &&& x) ≤ pc (v 3 c) := fun x => cnt_mono (fun k _ h => by
              rw [Nat.testBit_and, Bool.and_eq_true] at h
              exact h.1)
            have ea : nI (pc (v 3 c &&& any)) + nI fr = nI (pc (v 3 c &&& any) + fr) := nI_add _ _
            have pa := pand any
            have pb := pand (any ||| us)
            have pd := pand (any ||| (l &&& us))
            have g5 : pJ9_min_7cf53 N (nI (pc (v 3 c &&& any)) + nI fr) (nI (pc (v 3 c &&& (any ||| us)))) w = some (nI (if pc (v 3 c &&& (any ||| us)) < pc (v 3 c &&& any) + fr then pc (v 3 c &&& (any ||| us)) else pc (v 3 c &&& any) + fr), w) := by
              rw [ea]
              exact c_min (by omega) (by omega)
            generalize hhi : (if pc (v 3 c &&& (any ||| us)) < pc (v 3 c &&& any) + fr then pc (v 3 c &&& (any ||| us)) else pc (v 3 c &&& any) + fr) = hi at g5
            have hi1 : hi ≤ pc (v 3 c) := by rw [← hhi]; split <;> omega
            obtain ⟨qq, gq, q1, q2⟩ := c_atMost (N := N) (lo := pc (v 3 c &&& (any ||| (l &&& us)))) hF hO hn hN hsn y hbS (by omega) hi1
            have hor : us ||| 2 ^ c < 2 ^ 8 := Nat.or_lt_two_pow hu (Nat.pow_lt_pow_right (by omega) (by omega))
            have hne : us ≠ us ||| 2 ^ c := fun z => by
              have : (us ||| 2 ^ c).testBit c = true := by rw [Nat.testBit_or, Nat.testBit_two_pow_self, Bool.or_true]
              rw [← z, hbu] at this
              cases this
            have hle : us ≤ us ||| 2 ^ c := Nat.left_le_or
            obtain ⟨M, m1, m2, m3⟩ := hB (us ||| 2 ^ c) (by omega) hor (fun k hk => by
              rw [Nat.testBit_or, Bool.or_eq_true, Nat.testBit_two_pow, decide_eq_true_eq] at hk
              rcases hk with z | z
              · exact hsub k z
              · rw [← z]; exact hbS)
            have hpo := pc_or (us := us) (c := c) (by omega) hbu
            rw [hst] at hpo
            rw [hpo] at m2
            have eo : nI us ||| ((1 : Int32) <<< (nI c &&& (31 : Int32))) = nI (us ||| 2 ^ c) := by
              rw [li1, li31, nz_and, nz_shl (by omega), nz_or]
            have l7 : ldL w 45 0 (nI us ||| ((1 : Int32) <<< (nI c &&& (31 : Int32)))) 256 = some (lN M) := by
              rw [eo, ldLn hor (by omega), m1]
            have hqM : qq * M ≤ 100 ^ (n - st) := by
              have h3 := Nat.mul_le_mul q1 m2
              rw [show n - st = (n - (st + 1)) + 1 by omega, Nat.pow_succ, Nat.mul_comm (100 ^ _) 100]
              exact h3
            have g8 : pJ9_max_f86c9 N (lN m) (lN qq * lN M) w = some (lN (if m < qq * M then qq * M else m), w) := by
              rw [lN_mul]
              exact lN_max (p60 _ hm) (p60 _ hqM)
            simp only [fX5_mostFrom_26, ↓ltc, ↓q, ↓bnd l1, ↓cbnd g2, ↓cbnd g3, ↓cbnd g4, ↓cbnd g5, ↓cbnd gq, ↓bnd l7, ↓cbnd g8, ↓e1, ↓reduceIte]
            rw [callW_eq]
            refine ih (c + 1) _ (by omega) (by omega) (by split <;> omega) (fun r hA e hlt => ?_)
            rcases Nat.lt_or_ge (r st) c with z | z
            · have := hr r hA e z
              split <;> omega
            · have ec : r st = c := by omega
              have a1 := ar_lo (p := p) (r := r) (l := l) hF hsn (fun k hk => (lc k hk).2)
              have a2 := ar_hi1 (p := p) (r := r) (st := st) hF
              have a3 := ar_hi2 (p := p) (r := r) (st := st) hF
              have a4 := fr2 r (fun i hi => hA.1 i (by omega))
              rw [e, hany, ec] at a1 a2 a3
              have a5 : pc (knC v p r st &&& v 3 c) ≤ hi := by rw [← hhi]; split <;> omega
              have eC := opC_eq (p := p) (r := r) (i := st) (fun a b x y => hA.2.1 a b x (by omega)) (hth st hsn)
              rw [ec] at eC
              have a6 : opC v p r st ≤ qq := by rw [eC]; exact q2 _ a1 a5
              have eu : usO r (st + 1) = us ||| 2 ^ c := by rw [usO_succ (by omega), e, ec]
              have a7 := m3 r (st + 1) hA (by omega) eu
              have a8 : prF v p r st (n - st) ≤ qq * M := by
                rw [show n - st = (n - (st + 1)) + 1 by omega, prF]
                exact Nat.mul_le_mul a6 a7
              split <;> omega
        · have : c = v 0 0 := by omega
          subst this
          have ltc : (nI (v 0 0) < gI w 8 (gR w 13 0 0) 0) = False := eq_false (fun z => by
            rw [TC_parts hR.1] at z
            have := (nI_ltI (by omega) (by omega)).mp z
            omega)
          simp only [fX5_mostFrom_26, ↓ltc, ↓reduceIte]
          refine ⟨m, rfl, by rw [hst]; exact hm, fun r st' hA hst' e => ?_⟩
          have es := step r st' hA hst' e
          subst es
          exact hr r hA e (bit_lt hS (hA.1 st' hsn))
    exact key N 0 0 (by omega) (by omega) (Nat.zero_le _) (fun r _ _ h => by omega)
  · have lt : (nI st < gI w 9 0 12) = False := eq_false (fun z => by
      rw [h12] at z
      exact hsn ((nI_ltI (by omega) (by omega)).mp z))
    simp only [pX5_mostFrom, ↓cbnd gb, ↓lt, ↓reduceIte]
    refine ⟨1, rfl, by rw [hst]; exact Nat.pow_pos (by omega), fun r st' hA hst' e => ?_⟩
    have es := step r st' hA hst' e
    have : n - st' = 0 := by omega
    rw [this]
    exact Nat.le_refl _
end

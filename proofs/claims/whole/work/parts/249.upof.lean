/-! ===== how likely a row of nights is: the reference ===== -/
def opV (v : Vw) (p : Nat) (r : Nat → Nat) : Nat → Vw
  | 0 => noLost v
  | i + 1 => up2 (up2 (opV v p r i) 16 (8 * p + r i) (v 0 5 + i + 2)) 18 p (opV v p r i 18 p + 1)
def opC (v : Vw) (p : Nat) (r : Nat → Nat) (i : Nat) : Nat := sCh (opV v p r i) p (r i) (v 0 5 + i) (sAr (opV v p r i) p (r i) (v 0 5 + i)) (opV v p r i 18 p)
def opP (v : Vw) (p : Nat) (r : Nat → Nat) : Nat → Nat
  | 0 => 1
  | i + 1 => opP v p r i * opC v p r i
theorem opV_o (v : Vw) (p : Nat) (r : Nat → Nat) (i : Nat) {k j : Nat} (h16 : k ≠ 16) (h18 : k ≠ 18) : opV v p r i k j = noLost v k j := by
  induction i with
  | zero => rfl
  | succ i ih => rw [opV, up2_ne h18, up2_ne h16, ih]
theorem opV_mr (v : Vw) (p : Nat) (r : Nat → Nat) (i : Nat) : ∀ k j, mr k j → opV v p r i k j = v k j := by
  intro k j h
  rw [opV_o v p r i (by unfold mr at h; omega) (by unfold mr at h; omega)]
  exact noLost_mr v k j h
theorem opV_18 (v : Vw) (p : Nat) (r : Nat → Nat) (i : Nat) : opV v p r i 18 p = v 18 p + i := by
  induction i with
  | zero => rfl
  | succ i ih => rw [opV, up2_eq, ih]; omega
theorem opV_18o (v : Vw) (p : Nat) (r : Nat → Nat) (i : Nat) {j : Nat} (h : j ≠ p) : opV v p r i 18 j = v 18 j := by
  induction i with
  | zero => rfl
  | succ i ih => rw [opV, up2_nj h, up2_ne (by omega), ih]
theorem opV_16 {v : Vw} (hF : WF v) (h5 : v 0 5 ≤ 1000) (p : Nat) (r : Nat → Nat) {i : Nat} (hi : i ≤ 8) (j : Nat) : opV v p r i 16 j ≤ 1052 := by
  induction i with
  | zero => exact WF_learned hF j
  | succ i ih =>
    rw [opV, up2_ne (by omega)]
    by_cases y : j = 8 * p + r i
    · rw [y, up2_eq]; omega
    · rw [up2_nj y]; exact ih (by omega)
theorem opV_WF {v : Vw} (hF : WF v) (h5 : v 0 5 ≤ 1000) (hT : ∀ j, v 18 j ≤ v 0 5) (p : Nat) (r : Nat → Nat) {i : Nat} (hi : i ≤ 8) : WF (opV v p r i) := by
  have o : ∀ k j, k ≠ 16 → k ≠ 18 → opV v p r i k j = noLost v k j := fun k j a b => opV_o v p r i a b
  have e05 : opV v p r i 0 5 = v 0 5 := o 0 5 (by omega) (by omega)
  have e06 : opV v p r i 0 6 = v 0 6 := o 0 6 (by omega) (by omega)
  have e14 : ∀ j, opV v p r i 14 j = v 14 j := fun j => o 14 j (by omega) (by omega)
  have e15 : ∀ j, opV v p r i 15 j = v 15 j := fun j => o 15 j (by omega) (by omega)
  refine WF_ext (opV_mr v p r i) hF (by rw [e05]; omega) (by rw [e06]; exact WF_slides hF) (fun s hs => by rw [e06] at hs; rw [e14]; exact WF_spart hF s hs) (fun s => by rw [e14]; exact WF_bd hF 14 s) (fun j => by rw [e15]; exact WF_snight hF j) (fun j => opV_16 hF h5 p r hi j) (fun j => by rw [o 17 j (by omega) (by omega)]; exact WF_gone hF j) (fun j => ?_) (fun j => by rw [o 19 j (by omega) (by omega)]; exact Nat.zero_le _)
  by_cases y : j = p
  · have := hT p
    rw [y, opV_18]; omega
  · have := hT j
    rw [opV_18o v p r i y]; omega
theorem opC_le {v : Vw} (hF : WF v) (h5 : v 0 5 ≤ 1000) (hT : ∀ j, v 18 j ≤ v 0 5) (p : Nat) (r : Nat → Nat) {i : Nat} (hi : i ≤ 8) : opC v p r i ≤ 100 := sCh_le (opV_WF hF h5 hT p r hi) _ _ _ _ _
section
variable {N : Nat} {w : Wd} {v : Vw} {n : Nat} {r : Nat → Nat}
def kUp : List Nat := [101, 102, 103, 104, 105, 17063, 99, 100]
theorem m_upOf (hR : RM w 0 v) (hF : WF v) (hL : WL v) (hT : ∀ j, v 18 j ≤ v 0 5) (h5 : v 0 5 ≤ 1000) (hnt : gI w 16 0 64 = nI (v 0 5)) (hN : 100 ≤ N) {p : Nat} (hp : p < v 0 1) (hn : n ≤ 8) (h87 : gI w 16 0 87 = nI n) (hrw : rwT w n r) (hr8 : ∀ j, j < n → r j < v 0 0) :
    Ok (pX12_upOf N (nI p) w) (fun x => Fr kUp w x.2 ∧ BFr 1 w x.2 ∧ x.1 = lN (opP v p r n)) := by
  have h1 := WF_people hF
  have h2 := WF_parts hF
  have key : ∀ fuel c w1, c ≤ n → n - c < fuel → (Fr kUp w w1 ∧ BFr 1 w w1 ∧ SM w1 1 (opV v p r c)) → Ok (fX12_upOf_6 N (nI p) fuel (lN (opP v p r c)) (nI c) w1) (fun x => Fr kUp w x.2 ∧ BFr 1 w x.2 ∧ x.1 = lN (opP v p r n)) := by
    intro fuel
    induction fuel with
    | zero => intro c _ _ h; omega
    | succ f ih =>
      intro c w1 hc hf hI
      obtain ⟨i1, i2, i3⟩ := hI
      have f87 : gI w1 16 0 87 = nI n := ((i1 16 0 87 rfl).1).trans h87
      rcases Nat.lt_or_ge c n with y | y
      · have lt : (nI c < gI w1 16 0 87) = True := eq_true (by rw [f87]; exact (nI_ltI (by omega) (by omega)).mpr y)
        have hx := hr8 c y
        have l1 : ldI w1 119 0 (nI c) 8 = some (nI (r c)) := by rw [ldn (by omega) (by omega), (i1 119 0 c rfl).1, hrw c y]
        have f64 : gI w1 16 0 64 + nI c = nI (v 0 5 + c) := by rw [(i1 16 0 64 rfl).1, hnt, nI_add]
        have hWF := opV_WF hF h5 hT p r (show c ≤ 8 by omega)
        have o : ∀ k j, k ≠ 16 → k ≠ 18 → opV v p r c k j = noLost v k j := fun k j a b => opV_o v p r c a b
        have T1 : TM w1 (opV v p r c) := TM_ext (opV_mr v p r c) (o 0 6 (by omega) (by omega)) (fun j => o 14 j (by omega) (by omega)) (fun j => o 15 j (by omega) (by omega)) (TM_fr i1 hR.1)
        have L1 : TL w1 (opV v p r c) := TL_ext (opV_mr v p r c) (TL_fr i1 hR.2.2.1)
        have e01 : opV v p r c 0 1 = v 0 1 := o 0 1 (by omega) (by omega)
        have e00 : opV v p r c 0 0 = v 0 0 := o 0 0 (by omega) (by omega)
        have hcl := opC_le hF h5 hT p r (show c ≤ 8 by omega)
        have h18 := opV_18 v p r c
        have hTp := hT p
        simp only [fX12_upOf_6, ↓lt, ↓bnd l1, ↓f64, ↓reduceIte, callW_eq]
        refine ok_bind (m_chance (N := N) (b := 1) T1 i3 L1 hWF (WL_ext (opV_mr v p r c) hL) (by omega) hN (show p < opV v p r c 0 1 by omega) (show r c < opV v p r c 0 0 by omega) (show v 0 5 + c < 2 ^ 30 by omega)) ?_
        rintro ⟨x, w2⟩ ⟨j1, j2⟩
        simp only at j1 j2
        have j2' : x = nI (opC v p r c) := j2
        subst j2'
        have F2 : Fr kUp w w2 := Fr_trans i1 (Fr_mono j1 rfl)
        have B2 : BFr 1 w w2 := BFr_trans i2 (BFr_fr j1)
        have S2 : SM w2 1 (opV v p r c) := SM_fr j1 i3
        have l3 : ldI w2 119 0 (nI c) 8 = some (nI (r c)) := by rw [ldn (by omega) (by omega), (F2 119 0 c rfl).1, hrw c y]
        have g64 : gI w2 16 0 64 + nI c = nI (v 0 5 + c) := by rw [(F2 16 0 64 rfl).1, hnt, nI_add]
        have ix : (48 : Int32) + (8 : Int32) * nI p + nI (r c) = nI (48 * 1 + 8 * p + r c) := by rw [li48, li8, pk_mul, nI_add, nI_add]
        have s4 : ∀ x, stI w2 101 0 ((48 : Int32) + (8 : Int32) * nI p + nI (r c)) 96 x = some (setI w2 101 0 (48 * 1 + 8 * p + r c) x) := fun x => by rw [ix]; exact stn (by omega) (by omega)
        generalize hw4 : setI w2 101 0 (48 * 1 + 8 * p + r c) (nI (v 0 5 + c)) = w4
        have l5 : ldI w4 119 0 (nI c) 8 = some (nI (r c)) := by rw [← hw4, ldn (by omega) (by omega), gg_I, if_neg (by omega), (F2 119 0 c rfl).1, hrw c y]
        have s6 : ∀ x, stI w4 102 0 ((48 : Int32) + (8 : Int32) * nI p + nI (r c)) 96 x = some (setI w4 102 0 (48 * 1 + 8 * p + r c) x) := fun x => by rw [ix]; exact stn (by omega) (by omega)
        have z0 : (0 : Int32) &&& 1 = nI 0 := by decide
        have S6 : SM (setI w4 102 0 (48 * 1 + 8 * p + r c) (nI 0)) 1 (up2 (opV v p r c) 16 (8 * p + r c) (v 0 5 + c + 2)) := by
          rw [← hw4]
          exact SM_set16 S2 (show r c < 8 by omega) (v 0 5 + c)
        have F6 : Fr kUp w (setI w4 102 0 (48 * 1 + 8 * p + r c) (nI 0)) := by
          rw [← hw4]
          exact Fr_setI (Fr_setI F2 rfl) rfl
        have B6 : BFr 1 w (setI w4 102 0 (48 * 1 + 8 * p + r c) (nI 0)) := by
          rw [← hw4]
          exact BFr_set (BFr_set B2 (Or.inl ⟨Or.inl rfl, by omega⟩)) (Or.inl ⟨Or.inr rfl, by omega⟩)
        generalize hw6 : setI w4 102 0 (48 * 1 + 8 * p + r c) (nI 0) = w6 at S6 F6 B6
        have e18 : up2 (opV v p r c) 16 (8 * p + r c) (v 0 5 + c + 2) 18 p = opV v p r c 18 p := up2_ne (by omega)
        have l7 : ldI w6 104 0 ((6 : Int32) + nI p) 12 = some (nI (opV v p r c 18 p)) := by
          have := SM_times S6 p (show p < up2 (opV v p r c) 16 (8 * p + r c) (v 0 5 + c + 2) 0 1 by rw [up2_ne (by omega)]; omega)
          rw [e18] at this
          rw [li6, nI_add, ldn (by omega) (by omega)]
          exact congrArg some this
        have s8 : ∀ x, stI w6 104 0 ((6 : Int32) + nI p) 12 x = some (setI w6 104 0 (6 * 1 + p) x) := fun x => by rw [li6, nI_add]; exact stn (by omega) (by omega)
        have e1 : nI (opV v p r c 18 p) + (1 : Int32) = nI (opV v p r c 18 p + 1) := nI_add _ 1
        have e2 : nI c + (1 : Int32) = nI (c + 1) := nI_add c 1
        have em : lN (opP v p r c) * (nI (opC v p r c)).toInt64 = lN (opP v p r (c + 1)) := by rw [nI_l (by omega), lN_mul]; rfl
        simp only [↓bnd l3, ↓g64, ↓bnd (s4 _), ↓hw4, ↓bnd l5, ↓z0, ↓bnd (s6 _), ↓hw6, ↓bnd l7, ↓e1, ↓bnd (s8 _), ↓em, ↓e2]
        exact ih (c + 1) _ (by omega) (by omega) ⟨Fr_setI F6 rfl, BFr_set B6 (Or.inr ⟨Or.inr (Or.inl rfl), by omega⟩), SM_set18 S6 p _⟩
      · have : c = n := by omega
        subst this
        have lt : (nI c < gI w1 16 0 87) = False := eq_false (fun z => by
          rw [f87] at z
          have := (nI_ltI (by omega) (by omega)).mp z
          omega)
        simp only [fX12_upOf_6, ↓lt, ↓reduceIte]
        exact ok_some ⟨i1, i2, rfl⟩
  unfold pX12_upOf
  rw [callW_eq]
  refine ok_bind (m_layTried (N := N) hR.2.1 hF hN) ?_
  rintro w1 ⟨j1, j2, j3⟩
  rw [callW_eq]
  exact key N 0 w1 (by omega) (by omega) ⟨Fr_mono j1 rfl, j2, j3⟩
end

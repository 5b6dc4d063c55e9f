/-! ===== the reference tries all rows ===== -/
section
variable {v : Vw} {p S n : Nat}
theorem opV_cong {r s : Nat → Nat} {i : Nat} (h : ∀ j, j < i → r j = s j) : opV v p r i = opV v p s i := by
  induction i with
  | zero => rfl
  | succ i ih => rw [opV, opV, ih (fun j hj => h j (by omega)), h i (by omega)]
theorem opC_cong {r s : Nat → Nat} {i : Nat} (h : ∀ j, j ≤ i → r j = s j) : opC v p r i = opC v p s i := by
  rw [opC, opC, opV_cong (fun j hj => h j (by omega)), h i (by omega)]
theorem opP_cong {r s : Nat → Nat} {i : Nat} (h : ∀ j, j < i → r j = s j) : opP v p r i = opP v p s i := by
  induction i with
  | zero => rfl
  | succ i ih => rw [opP, opP, ih (fun j hj => h j (by omega)), opC_cong (fun j hj => h j (by omega))]
theorem opP_le (hF : WF v) (h5 : v 0 5 ≤ 1000) (hT : ∀ j, v 18 j ≤ v 0 5) (r : Nat → Nat) {i : Nat} (hi : i ≤ 8) : opP v p r i ≤ 100 ^ i := by
  induction i with
  | zero => exact Nat.le_refl _
  | succ i ih =>
    rw [opP, Nat.pow_succ]
    exact Nat.mul_le_mul (ih (by omega)) (opC_le hF h5 hT p r (by omega))
theorem opP_lt (hF : WF v) (h5 : v 0 5 ≤ 1000) (hT : ∀ j, v 18 j ≤ v 0 5) (r : Nat → Nat) {i : Nat} (hi : i ≤ 8) : opP v p r i < 2 ^ 60 := by
  have h1 := opP_le (p := p) hF h5 hT r hi
  have h2 : 100 ^ i ≤ 100 ^ 8 := Nat.pow_le_pow_right (by omega) hi
  have h3 : 100 ^ 8 < 2 ^ 60 := by decide
  omega
/-- b is no worse than s, and comes first of its likes -/
def noW (v : Vw) (p n : Nat) (b s : Nat → Nat) : Prop := opP v p s n < opP v p b n ∨ (opP v p s n = opP v p b n ∧ ¬ lx n s b)
def isO (v : Vw) (p S n : Nat) (b : Nat → Nat) : Prop := arr S n b ∧ ∀ s, arr S n s → noW v p n b s
theorem isO_uniq {b b' : Nat → Nat} (h : isO v p S n b) (h' : isO v p S n b') : ∀ j, j < n → b j = b' j := by
  have h1 := h.2 b' h'.1
  have h2 := h'.2 b h.1
  unfold noW at h1 h2
  rcases lx_tri n b b' with y | y | y
  · rcases h1 with z | z
    · rcases h2 with u | u <;> omega
    · rcases h2 with u | u
      · omega
      · exact absurd y u.2
  · rcases h1 with z | z
    · rcases h2 with u | u <;> omega
    · exact absurd y z.2
  · exact y
theorem lNb {a : Nat} (h : a < 2 ^ 60) : (lN a).toInt = (a : Int) := lg_ofNat_toInt (by omega)
theorem lNb_lt {a b : Nat} (ha : a < 2 ^ 60) (hb : b < 2 ^ 60) : lN a < lN b ↔ a < b := by
  rw [Int64.lt_iff_toInt_lt, lNb ha, lNb hb]
  omega
theorem lNb_m1 {a : Nat} (ha : a < 2 ^ 60) : (-1 : Int64) < lN a := by
  rw [Int64.lt_iff_toInt_lt, lNb ha]
  have : (-1 : Int64).toInt = -1 := by decide
  omega
end
section
variable {N : Nat} {w0 : Wd} {v : Vw} {p S n : Nat}
def kOr : List Nat := [101, 102, 103, 104, 105, 17063, 99, 100, 119, 120, 17087, 17090]
theorem RM_or {w w1 : Wd} (hF : WF v) (f : Fr kOr w w1) (g : BFr 1 w w1) (h : RM w 0 v) : RM w1 0 v :=
  ⟨TM_fr f h.1, SM_bfr g (by omega) (WF_people hF) h.2.1, TL_fr f h.2.2.1, ST_fr f h.2.2.2⟩
def bwT (w : Wd) (n : Nat) (b : Nat → Nat) : Prop := ∀ j, j < n → gI w 120 0 j = nI (b j)
theorem m_lo74 {w0 : Wd} {r : Nat → Nat} (hn : n ≤ 8) (h87 : gI w0 16 0 87 = nI n) (hr : rwT w0 n r) {a1 : Int32} {Q : Int32 × Wd → Prop} (K : Wd → Option (Int32 × Wd)) (hK : ∀ w, Fr [120] w0 w → bwT w n r → Ok (K w) Q) :
    ∀ fuel c w, c ≤ n → n - c < fuel → Fr [120] w0 w → (∀ j, j < c → gI w 120 0 j = nI (r j)) → Ok (fX12_layOrder_74 N a1 fuel K (nI c) w) Q := by
  intro fuel
  induction fuel with
  | zero => intro c _ _ h; omega
  | succ f ih =>
    intro c w hc hf f0 hb
    have f87 : gI w 16 0 87 = nI n := ((f0 16 0 87 rfl).1).trans h87
    rcases Nat.lt_or_ge c n with y | y
    · have lt : (nI c < gI w 16 0 87) = True := eq_true (by rw [f87]; exact (nI_ltI (by omega) (by omega)).mpr y)
      have l1 : ldI w 119 0 (nI c) 8 = some (nI (r c)) := by rw [ldn (by omega) (by omega), (f0 119 0 c rfl).1, hr c y]
      have s1 : ∀ x, stI w 120 0 (nI c) 8 x = some (setI w 120 0 c x) := fun x => stn (by omega) (by omega)
      have e1 : nI c + (1 : Int32) = nI (c + 1) := nI_add c 1
      simp only [fX12_layOrder_74, ↓lt, ↓bnd l1, ↓bnd (s1 _), ↓e1, ↓reduceIte, callW_eq]
      refine ih (c + 1) _ (by omega) (by omega) (Fr_setI f0 rfl) (fun j hj => ?_)
      rw [gg_I]
      by_cases z : j = c
      · subst z; rw [if_pos ⟨rfl, rfl, rfl⟩]
      · rw [if_neg (fun u => z u.2.2)]; exact hb j (by omega)
    · have : c = n := by omega
      subst this
      have lt : (nI c < gI w 16 0 87) = False := eq_false (fun z => by
        rw [f87] at z
        have := (nI_ltI (by omega) (by omega)).mp z
        omega)
      simp only [fX12_layOrder_74, ↓lt, ↓reduceIte]
      exact hK w f0 hb
/-- what is kept of the rows before r -/
def bfO (w : Wd) (v : Vw) (p S n : Nat) (r : Nat → Nat) : Prop := (gL w 16 0 90 = (-1 : Int64) ∧ ∀ s, arr S n s → ¬ lx n s r) ∨ ∃ b, arr S n b ∧ gL w 16 0 90 = lN (opP v p b n) ∧ bwT w n b ∧ lx n b r ∧ ∀ s, arr S n s → lx n s r → noW v p n b s
def fnO (w0 : Wd) (v : Vw) (p S n : Nat) (x : Int32 × Wd) : Prop := Fr kOr w0 x.2 ∧ BFr 1 w0 x.2 ∧ gI x.2 16 0 87 = nI n ∧ x.1 = nI 1 ∧ ∃ b, isO v p S n b ∧ gL x.2 16 0 90 = lN (opP v p b n) ∧ bwT x.2 n b
theorem m_lo58 (hR : RM w0 0 v) (hF : WF v) (hL : WL v) (hT : ∀ j, v 18 j ≤ v 0 5) (h5 : v 0 5 ≤ 1000) (hnt : gI w0 16 0 64 = nI (v 0 5)) (hN : 100 ≤ N) (hp : p < v 0 1) (hn : n ≤ 8) (h1n : 1 ≤ n) (hS : S < 2 ^ v 0 0) :
    ∀ fuel w r, 8 ^ n - cdR r n + 1 < fuel → Fr kOr w0 w → BFr 1 w0 w → gI w 16 0 87 = nI n → rwT w n r → arr S n r → bfO w v p S n r → Ok (fX12_layOrder_58 N (nI p) fuel (nI 1) w) (fnO w0 v p S n) := by
  have h2 := WF_parts hF
  have hS8 : S < 2 ^ 8 := Nat.lt_of_lt_of_le hS (Nat.pow_le_pow_right (by omega) h2)
  intro fuel
  induction fuel with
  | zero => intro w r h; omega
  | succ f ih =>
    intro w r hf f0 g0 h87 hr hA hb
    have R0 := RM_or hF f0 g0 hR
    have r8 : ∀ j, j < n → r j < v 0 0 := fun j hj => bit_lt hS (hA.1 j hj)
    simp only [fX12_layOrder_58, ↓n10, ↓reduceIte, callW_eq]
    refine ok_bind (m_upOf (N := N) R0 hF hL hT h5 (((f0 16 0 64 rfl).1).trans hnt) hN hp hn h87 hr r8) ?_
    rintro ⟨x, w1⟩ ⟨j1, j2, j3⟩
    simp only at j1 j2 j3
    subst j3
    have F1 : Fr kOr w0 w1 := Fr_trans f0 (Fr_mono j1 rfl)
    have B1 : BFr 1 w0 w1 := BFr_trans g0 j2
    have a87 : gI w1 16 0 87 = nI n := ((j1 16 0 87 rfl).1).trans h87
    have a119 : rwT w1 n r := fun j hj => ((j1 119 0 j rfl).1).trans (hr j hj)
    have a120 : ∀ j, gI w1 120 0 j = gI w 120 0 j := fun j => (j1 120 0 j rfl).1
    have a90 : gL w1 16 0 90 = gL w 16 0 90 := (j1 16 0 90 rfl).2.1
    have hPr := opP_lt (p := p) hF h5 hT r hn
    /- the next row, once the best up to r is kept -/
    have nxt : ∀ w2 b, Fr kOr w0 w2 → BFr 1 w0 w2 → gI w2 16 0 87 = nI n → rwT w2 n r → arr S n b → gL w2 16 0 90 = lN (opP v p b n) → bwT w2 n b → (∀ s, lx n b s ∨ ¬ lx n r s) → (∀ s, arr S n s → ¬ lx n r s → noW v p n b s) → Ok (fX12_layOrder_88 N (nI p) (fX12_layOrder_58 N (nI p) f) w2) (fnO w0 v p S n) := by
      intro w2 b f2 g2 c87 c119 hAb c90 c120 hbr hbest
      unfold fX12_layOrder_88
      rw [c87, callW_eq]
      refine ok_bind (m_nextRow (N := N) hN hS8 hn h1n c119 hA) ?_
      rintro ⟨y, w3⟩ ⟨k1, k2⟩
      simp only at k1 k2
      have F3 : Fr kOr w0 w3 := Fr_trans f2 (Fr_mono k1 rfl)
      have B3 : BFr 1 w0 w3 := BFr_trans g2 (BFr_fr k1)
      have d87 : gI w3 16 0 87 = nI n := ((k1 16 0 87 rfl).1).trans c87
      have d90 : gL w3 16 0 90 = lN (opP v p b n) := ((k1 16 0 90 rfl).2.1).trans c90
      have d120 : bwT w3 n b := fun j hj => ((k1 120 0 j rfl).1).trans (c120 j hj)
      rcases k2 with ⟨e, hl⟩ | ⟨e, r', q1, q2, q3, q4⟩
      · subst e
        obtain ⟨f', rfl⟩ : ∃ m, f = m + 1 := ⟨f - 1, by omega⟩
        simp only [fX12_layOrder_58, ↓n00, ↓reduceIte]
        exact ok_some ⟨F3, B3, d87, rfl, b, ⟨hAb, fun s hs => hbest s hs (hl s hs)⟩, d90, d120⟩
      · subst e
        have hlt : cdR r n < cdR r' n := cdR_lt (fun j hj => arr_8 hS8 hA hj) q3
        have hbd : cdR r' n < 8 ^ n := cdR_bd (fun j hj => arr_8 hS8 q2 hj)
        refine ih w3 r' (by omega) F3 B3 d87 q1 q2 (Or.inr ⟨b, hAb, d90, d120, ?_, fun s hs hl => hbest s hs (fun z => q4 s hs z hl)⟩)
        rcases hbr r' with u | u
        · exact u
        · exact absurd q3 u
    /- r is new best -/
    have take : (∀ s, arr S n s → lx n s r → opP v p s n < opP v p r n) → Ok (fX12_layOrder_74 N (nI p) N (fX12_layOrder_88 N (nI p) (fX12_layOrder_58 N (nI p) f)) (0 : Int32) (setL w1 16 0 90 (lN (opP v p r n)))) (fnO w0 v p S n) := by
      intro hlt
      have fs : Fr kOr w1 (setL w1 16 0 90 (lN (opP v p r n))) := Fr_setL (Fr_refl _ _) rfl
      have gs : BFr 1 w1 (setL w1 16 0 90 (lN (opP v p r n))) := BFr_fr (Fr_setL (l := [17090]) (Fr_refl _ _) rfl)
      refine m_lo74 (N := N) (w0 := setL w1 16 0 90 (lN (opP v p r n))) hn a87 a119 _ (fun w2 f2 hb2 => ?_) N 0 _ (by omega) (by omega) (Fr_refl _ _) (fun j hj => by omega)
      refine nxt w2 r (Fr_trans F1 (Fr_trans fs (Fr_mono f2 rfl))) (BFr_trans B1 (BFr_trans gs (BFr_fr f2))) (((f2 16 0 87 rfl).1).trans a87) (fun j hj => ((f2 119 0 j rfl).1).trans (a119 j hj)) hA ((f2 16 0 90 rfl).2.1) hb2 (fun s => Classical.em _) (fun s hs hl => ?_)
      rcases lx_tri n s r with u | u | u
      · exact Or.inl (hlt s hs u)
      · exact absurd u hl
      · exact Or.inr ⟨opP_cong u, fun z => lx_asym z (lx_cong u (fun j hj => (u j hj).symm) z)⟩
    rcases hb with ⟨e90, hno⟩ | ⟨b, hAb, e90, e120, hbr, hbest⟩
    · have gt : (0 < lg_cmp (lN (opP v p r n)) (gL w1 16 0 90)) = True := eq_true (by rw [a90, e90, lg_gt]; exact lNb_m1 hPr)
      simp only [↓gt, ↓reduceIte]
      exact take (fun s hs hl => absurd hl (hno s hs))
    · have hPb := opP_lt (p := p) hF h5 hT b hn
      by_cases y : opP v p b n < opP v p r n
      · have gt : (0 < lg_cmp (lN (opP v p r n)) (gL w1 16 0 90)) = True := eq_true (by rw [a90, e90, lg_gt]; exact (lNb_lt hPb hPr).mpr y)
        simp only [↓gt, ↓reduceIte]
        refine take (fun s hs hl => ?_)
        rcases hbest s hs hl with u | u <;> omega
      · have gt : (0 < lg_cmp (lN (opP v p r n)) (gL w1 16 0 90)) = False := eq_false (fun z => by
          rw [a90, e90, lg_gt] at z
          exact y ((lNb_lt hPb hPr).mp z))
        simp only [↓gt, ↓reduceIte]
        refine nxt w1 b F1 B1 a87 a119 hAb (a90.trans e90) (fun j hj => (a120 j).trans (e120 j hj)) (fun s => ?_) (fun s hs hl => ?_)
        · by_cases u : lx n r s
          · exact Or.inl (lx_trans hbr u)
          · exact Or.inr u
        · rcases lx_tri n s r with u | u | u
          · exact hbest s hs u
          · exact absurd u hl
          · have eP : opP v p s n = opP v p r n := opP_cong u
            rcases Nat.lt_or_ge (opP v p r n) (opP v p b n) with q | q
            · exact Or.inl (by omega)
            · exact Or.inr ⟨by omega, fun z => lx_asym hbr (lx_cong u (fun _ _ => rfl) z)⟩
end

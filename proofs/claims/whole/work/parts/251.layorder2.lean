/-! ===== the reference's first row, and its best ===== -/
section
variable {N : Nat} {w0 : Wd} {v : Vw} {p S : Nat}
def nO (v : Vw) (S : Nat) : Nat := cnt (fun k => S.testBit k) (v 0 0)
def outO (w0 : Wd) (v : Vw) (p S : Nat) (x : Int32 × Wd) : Prop := (∃ i, i < nO v S ∧ sThere v p (v 0 5 + i) = false ∧ x.1 = nI 0 ∧ Fr kOr w0 x.2 ∧ BFr 1 w0 x.2) ∨ ((∀ i, i < nO v S → sThere v p (v 0 5 + i) = true) ∧ fnO w0 v p S (nO v S) x)
theorem nO_le (hF : WF v) : nO v S ≤ 8 := Nat.le_trans (cnt_le _ _) (WF_parts hF)
theorem nO_pos (hS : S < 2 ^ v 0 0) (h : S ≠ 0) : 1 ≤ nO v S := by
  obtain ⟨k, hk⟩ := ne0_bit h
  exact cnt_pos (k := k) (bit_lt hS hk) hk
theorem cnt_mle (f : Nat → Bool) {c n : Nat} (h : c ≤ n) : cnt f c ≤ cnt f n := by
  induction n with
  | zero => have : c = 0 := by omega
            subst this; exact Nat.le_refl _
  | succ n ih =>
    rcases Nat.lt_or_ge n c with y | y
    · have : c = n + 1 := by omega
      subst this; exact Nat.le_refl _
    · have := ih y
      rw [cnt]; omega
theorem m_lo18 (hR : RM w0 0 v) (hF : WF v) (hL : WL v) (hT : ∀ j, v 18 j ≤ v 0 5) (h5 : v 0 5 ≤ 1000) (hnt : gI w0 16 0 64 = nI (v 0 5)) (hN : 2 ^ 25 ≤ N) (hp : p < v 0 1) (hS : S < 2 ^ v 0 0) (hS0 : S ≠ 0) :
    ∀ fuel c w, c ≤ v 0 0 → v 0 0 - c < fuel → Fr kOr w0 w → BFr 1 w0 w → gI w 16 0 87 = nI (cnt (fun k => S.testBit k) c) → (∀ i, i < cnt (fun k => S.testBit k) c → sThere v p (v 0 5 + i) = true) →
    (∃ r : Nat → Nat, rwT w (cnt (fun k => S.testBit k) c) r ∧ (∀ i j, i < j → j < cnt (fun k => S.testBit k) c → r i < r j) ∧ (∀ j, j < cnt (fun k => S.testBit k) c → r j < c ∧ S.testBit (r j) = true) ∧ (∀ k, k < c → S.testBit k = true → ∃ i, i < cnt (fun k => S.testBit k) c ∧ r i = k)) →
    Ok (fX12_layOrder_18 N (nI p) (nI S) fuel (fX12_layOrder_53 N (nI p)) (nI c) w) (outO w0 v p S) := by
  have h1 := WF_people hF
  have h2 := WF_parts hF
  have hp8 := pw8 h2
  have hn8 : nO v S ≤ 8 := nO_le hF
  have hn1 : 1 ≤ nO v S := nO_pos hS hS0
  intro fuel
  induction fuel with
  | zero => intro c _ _ h; omega
  | succ f ih =>
    intro c w hc hf f0 g0 h87 hth hr
    obtain ⟨r, r1, r2, r3, r4⟩ := hr
    have R0 := RM_or hF f0 g0 hR
    have h64 : gI w 16 0 64 = nI (v 0 5) := ((f0 16 0 64 rfl).1).trans hnt
    have hcm : cnt (fun k => S.testBit k) c ≤ nO v S := cnt_mle _ hc
    rcases Nat.lt_or_ge c (v 0 0) with y | y
    · have lt : (nI c < gI w 16 0 12) = True := eq_true (by rw [TM_parts R0.1]; exact (nI_ltI (by omega) (by omega)).mpr y)
      have go := m_isOf (N := N) (w := w) (x := S) (k := c) (by omega) (by omega)
      have e1 : nI c + (1 : Int32) = nI (c + 1) := nI_add c 1
      cases hb : S.testBit c with
      | false =>
        rw [hb] at go
        have ec : cnt (fun k => S.testBit k) (c + 1) = cnt (fun k => S.testBit k) c := by rw [cnt, hb]; simp
        simp only [fX12_layOrder_18, ↓lt, ↓cbnd go, ↓z2, ↓e1, ↓reduceIte, callW_eq]
        refine ih (c + 1) w (by omega) (by omega) f0 g0 (by rw [ec]; exact h87) (by rw [ec]; exact hth) ?_
        rw [ec]
        refine ⟨r, r1, r2, fun j hj => ⟨by have := (r3 j hj).1; omega, (r3 j hj).2⟩, fun k hk hb' => ?_⟩
        rcases Nat.lt_or_ge k c with u | u
        · exact r4 k u hb'
        · have : k = c := by omega
          subst this
          rw [hb] at hb'; cases hb'
      | true =>
        rw [hb] at go
        have ec : cnt (fun k => S.testBit k) (c + 1) = cnt (fun k => S.testBit k) c + 1 := by rw [cnt, hb]; simp
        have hcm1 : cnt (fun k => S.testBit k) (c + 1) ≤ nO v S := cnt_mle _ (by omega)
        generalize hm : cnt (fun k => S.testBit k) c = m at *
        have et : pX12_isThere N (0 : Int32) (nI p) (gI w 16 0 64 + gI w 16 0 87) w = some (zB (sThere v p (v 0 5 + m)), w) := by
          rw [h64, h87, nI_add]
          exact m_isThere (N := N) (b := 0) R0.1 R0.2.1 hF (by omega) hp (by omega)
        cases ht : sThere v p (v 0 5 + m) with
        | false =>
          rw [ht] at et
          simp only [fX12_layOrder_18, ↓lt, ↓cbnd go, ↓z1, ↓cbnd et, ↓z2, ↓reduceIte]
          exact ok_some (Or.inl ⟨m, by omega, ht, rfl, f0, g0⟩)
        | true =>
          rw [ht] at et
          have s3 : ∀ x, stI w 119 0 (gI w 16 0 87) 8 x = some (setI w 119 0 m x) := fun x => by rw [h87]; exact stn (by omega) (by omega)
          have ea : gI (setI w 119 0 m (nI c)) 16 0 87 + (1 : Int32) = nI (m + 1) := by
            rw [gg_I, if_neg (by omega), h87]
            exact nI_add m 1
          simp only [fX12_layOrder_18, ↓lt, ↓cbnd go, ↓z1, ↓cbnd et, ↓bnd (s3 _), ↓ea, ↓e1, ↓reduceIte, callW_eq]
          refine ih (c + 1) _ (by omega) (by omega) (Fr_setI (Fr_setI f0 rfl) rfl) (BFr_trans g0 (BFr_fr (Fr_setI (l := [119, 17087]) (Fr_setI (Fr_refl _ _) rfl) rfl))) ?_ ?_ ?_
          · rw [ec]; rfl
          · rw [ec]
            intro i hi
            rcases Nat.lt_or_ge i m with u | u
            · exact hth i u
            · have : i = m := by omega
              subst this; exact ht
          · rw [ec]
            refine ⟨fun j => if j = m then c else r j, fun j hj => ?_, fun i j hij hj => ?_, fun j hj => ?_, fun k hk hb' => ?_⟩
            · show gI (setI (setI w 119 0 m (nI c)) 16 0 87 (nI (m + 1))) 119 0 j = nI (if j = m then c else r j)
              rw [gg_I, if_neg (by omega), gg_I]
              by_cases u : j = m
              · subst u; rw [if_pos ⟨rfl, rfl, rfl⟩, if_pos rfl]
              · rw [if_neg (fun z => u z.2.2), if_neg u]; exact r1 j (by omega)
            · show (if i = m then c else r i) < (if j = m then c else r j)
              rw [if_neg (show i ≠ m by omega)]
              by_cases u : j = m
              · rw [if_pos u]; exact (r3 i (by omega)).1
              · rw [if_neg u]; exact r2 i j hij (by omega)
            · show (if j = m then c else r j) < c + 1 ∧ S.testBit (if j = m then c else r j) = true
              by_cases u : j = m
              · rw [if_pos u]; exact ⟨by omega, hb⟩
              · rw [if_neg u]
                have := r3 j (by omega)
                exact ⟨by omega, this.2⟩
            · show ∃ i, i < m + 1 ∧ (if i = m then c else r i) = k
              rcases Nat.lt_or_ge k c with u | u
              · obtain ⟨i, a, b⟩ := r4 k u hb'
                exact ⟨i, by omega, by rw [if_neg (show i ≠ m by omega)]; exact b⟩
              · exact ⟨m, by omega, by rw [if_pos rfl]; omega⟩
    · have : c = v 0 0 := by omega
      subst this
      have lt : (nI (v 0 0) < gI w 16 0 12) = False := eq_false (fun z => by
        rw [TM_parts R0.1] at z
        have := (nI_ltI (by omega) (by omega)).mp z
        omega)
      have hA : arr S (nO v S) r := ⟨fun i hi => (r3 i hi).2, fun i j hij hj e => by
        have := r2 i j hij hj
        omega, fun k hk => r4 k (bit_lt hS hk) hk⟩
      simp only [fX12_layOrder_18, fX12_layOrder_53, ↓lt, ↓reduceIte, callW_eq]
      have h8n : 8 ^ nO v S ≤ 8 ^ 8 := Nat.pow_le_pow_right (by omega) hn8
      have h88 : 8 ^ 8 + 2 < 2 ^ 25 := by decide
      refine ok_mono (m_lo58 (N := N) (S := S) (n := nO v S) (p := p) hR hF hL hT h5 hnt (by omega) hp hn8 hn1 hS N (setL w 16 0 90 (-1 : Int64)) r (by omega) (Fr_setL f0 rfl) (BFr_trans g0 (BFr_fr (Fr_setL (l := [17090]) (Fr_refl _ _) rfl))) h87 r1 hA (Or.inl ⟨rfl, fun s hs => asc_first hA r2 hs⟩)) (fun x hx => Or.inr ⟨hth, hx⟩)
theorem m_layOrder (C : Cu w0 v) (hN : 2 ^ 25 ≤ N) (a b : Int32) : Ok (pX12_layOrder N a b w0) (fun x =>
    ((∃ p S, p < v 0 1 ∧ S < 2 ^ v 0 0 ∧ S ≠ 0 ∧ a = nI p ∧ b = nI S ∧ (∀ i, i < nO v S → sThere v p (v 0 5 + i) = true) ∧ fnO w0 v p S (nO v S) x)) ∨
    ((∀ p S, p < v 0 1 → S < 2 ^ v 0 0 → S ≠ 0 → a = nI p → b = nI S → ∃ i, i < nO v S ∧ sThere v p (v 0 5 + i) = false) ∧ x.1 = nI 0 ∧ Fr kOr w0 x.2 ∧ BFr 1 w0 x.2)) := by
  have hF := C.2.2.1
  have h1 := WF_people hF
  have h2 := WF_parts hF
  have hp8 := pw8 h2
  have g1 := m_gWho (N := N) C a
  have g2 := m_gSet (N := N) C b
  have bad : ∀ x : Int32 × Wd, x = (nI 0, w0) → (isI a (v 0 1) = false ∨ b < (1 : Int32) ∨ isI b (2 ^ v 0 0) = false) → ((∀ p S, p < v 0 1 → S < 2 ^ v 0 0 → S ≠ 0 → a = nI p → b = nI S → ∃ i, i < nO v S ∧ sThere v p (v 0 5 + i) = false) ∧ x.1 = nI 0 ∧ Fr kOr w0 x.2 ∧ BFr 1 w0 x.2) := by
    intro x hx hbad
    subst hx
    refine ⟨fun p S hp hS h0 ea eb => ?_, rfl, Fr_refl _ _, BFr_refl _ _⟩
    rcases hbad with z | z | z
    · rw [ea, isI_nI hp] at z; cases z
    · rw [eb] at z
      have := (nI_ltI (a := S) (b := 1) (by omega) (by omega)).mp z
      omega
    · rw [eb, isI_nI hS] at z; cases z
  cases ha : isI a (v 0 1) with
  | false =>
    rw [ha] at g1
    simp only [pX12_layOrder, ↓cbnd g1, ↓z2, ↓reduceIte]
    exact ok_some (Or.inr (bad _ rfl (Or.inl ha)))
  | true =>
    rw [ha] at g1
    by_cases hb1 : b < (1 : Int32)
    · have lt : (b < (1 : Int32)) = True := eq_true hb1
      simp only [pX12_layOrder, ↓cbnd g1, ↓z1, ↓lt, ↓reduceIte]
      exact ok_some (Or.inr (bad _ rfl (Or.inr (Or.inl hb1))))
    · have lt : (b < (1 : Int32)) = False := eq_false hb1
      cases hs : isI b (2 ^ v 0 0) with
      | false =>
        rw [hs] at g2
        simp only [pX12_layOrder, ↓cbnd g1, ↓z1, ↓lt, ↓cbnd g2, ↓z2, ↓reduceIte]
        exact ok_some (Or.inr (bad _ rfl (Or.inr (Or.inr hs))))
      | true =>
        rw [hs] at g2
        obtain ⟨p, hp, rfl⟩ := isI_t.mp ha
        obtain ⟨S, hS, rfl⟩ := isI_t.mp hs
        have hS0 : S ≠ 0 := fun z => hb1 (by rw [z]; decide)
        have f1 : Fr kOr w0 (setI w0 16 0 87 (0 : Int32)) := Fr_setI (Fr_refl _ _) rfl
        have g0 : BFr 1 w0 (setI w0 16 0 87 (0 : Int32)) := BFr_fr (Fr_setI (l := [17087]) (Fr_refl _ _) rfl)
        simp only [pX12_layOrder, ↓cbnd g1, ↓z1, ↓lt, ↓cbnd g2, ↓reduceIte, callW_eq]
        rw [show fX12_layOrder_18 N (nI p) (nI S) N (fX12_layOrder_53 N (nI p)) (0 : Int32) = fX12_layOrder_18 N (nI p) (nI S) N (fX12_layOrder_53 N (nI p)) (nI 0) from rfl]
        have no0 : ∀ j, ¬ j < cnt (fun k => S.testBit k) 0 := fun j => Nat.not_lt_zero j
        refine ok_mono (m_lo18 (N := N) (p := p) (S := S) C.2.1 hF C.2.2.2.1 C.2.2.2.2.2.1 C.2.2.2.2.2.2.1 (Cu_night C) hN hp hS hS0 N 0 (setI w0 16 0 87 (0 : Int32)) (by omega) (by omega) f1 g0 rfl (fun i hi => absurd hi (no0 i)) ⟨fun _ => 0, fun j hj => absurd hj (no0 j), fun i j _ hj => absurd hj (no0 j), fun j hj => absurd hj (no0 j), fun k hk => by omega⟩) ?_
        intro x hx
        rcases hx with ⟨i, a1, a2, a3, a4, a5⟩ | ⟨a1, a2⟩
        · refine Or.inr ⟨fun p' S' hp' hS' h0 ea eb => ?_, a3, a4, a5⟩
          have e1 := (nI_eq (by omega) (by omega)).mp ea
          have e2 := (nI_eq (by omega) (by omega)).mp eb
          subst e1; subst e2
          exact ⟨i, a1, a2⟩
        · exact Or.inl ⟨p, S, hp, hS, hS0, rfl, rfl, a1, a2⟩
end

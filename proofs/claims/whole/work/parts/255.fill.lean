/-! ===== the class: the table of chances ===== -/
def slO (i k a : Nat) : Nat := (i * 8 + k) * 9 + a
def chO (v : Vw) (p i k a : Nat) : Nat := sCh v p k (v 0 5 + i) a (v 18 p + i)
section
variable {N : Nat} {w : Wd} {v : Vw}
theorem chO_le {v : Vw} (hF : WF v) (p i k a : Nat) : chO v p i k a ≤ 100 := sCh_le hF p k (v 0 5 + i) a (v 18 p + i)
theorem c_max {a b : Nat} (ha : a < 2 ^ 31) (hb : b < 2 ^ 31) : pJ9_max_7cf53 N (nI a) (nI b) w = some (nI (if a < b then b else a), w) := by
  rw [pJ9_max_7cf53]
  by_cases q : a < b
  · rw [if_pos ((nI_ltI ha hb).mpr q), if_pos q]
  · rw [if_neg (fun z => q ((nI_ltI ha hb).mp z)), if_neg q]
theorem c_slot {i k a : Nat} : pX5_slot N (nI i) (nI k) (nI a) w = some (nI (slO i k a), w) := by
  unfold pX5_slot slO
  rw [li8, li9, pk_mul, nI_add, pk_mul, nI_add]
theorem c_fill (hR : RC w 0 v) (hF : WF v) (hL : WL v) (h5 : v 0 5 ≤ 1000) (hT : ∀ j, v 18 j ≤ v 0 5) (hN : 100 ≤ N) {p i k : Nat} (hp : p < v 0 1) (hi : i < 8) (hk : k < v 0 0) (h9 : gI w 9 0 1 = nI p) :
    Ok (pX5_fillChances N (nI i) (nI k) w) (fun x => Fr [66, 22, 40] w x ∧ (∀ a, a ≤ pc (v 3 k) → gI x 40 0 (slO i k a) = nI (chO v p i k a)) ∧ (∀ j, (∀ a, a ≤ 8 → j ≠ slO i k a) → gI x 40 0 j = gI w 40 0 j)) := by
  have h1 := WF_people hF
  have h2 := WF_parts hF
  have hb8 := WF_beside8 hF k
  have hpc : pc (v 3 k) ≤ 8 := pc_lt hb8
  have hTp := hT p
  have key : ∀ fuel c w1, c ≤ pc (v 3 k) + 1 → pc (v 3 k) + 1 - c < fuel → (Fr [66, 22, 40] w w1 ∧ (∀ a, a < c → gI w1 40 0 (slO i k a) = nI (chO v p i k a)) ∧ (∀ j, (∀ a, a ≤ 8 → j ≠ slO i k a) → gI w1 40 0 j = gI w 40 0 j)) →
      Ok (fX5_fillChances_12 N (nI i) (nI k) fuel (nI (pc (v 3 k))) (nI c) w1) (fun x => Fr [66, 22, 40] w x ∧ (∀ a, a ≤ pc (v 3 k) → gI x 40 0 (slO i k a) = nI (chO v p i k a)) ∧ (∀ j, (∀ a, a ≤ 8 → j ≠ slO i k a) → gI x 40 0 j = gI w 40 0 j)) := by
    intro fuel
    induction fuel with
    | zero => intro c _ _ h; omega
    | succ f ih =>
      intro c w1 hc hf hI
      obtain ⟨i1, i2, i3⟩ := hI
      rcases Nat.lt_or_ge (pc (v 3 k)) c with y | y
      · have : c = pc (v 3 k) + 1 := by omega
        subst this
        have lt : (nI (pc (v 3 k)) < nI (pc (v 3 k) + 1)) = True := eq_true ((nI_ltI (by omega) (by omega)).mpr (by omega))
        simp only [fX5_fillChances_12, ↓lt, ↓reduceIte]
        exact ok_some ⟨i1, fun a ha => i2 a (by omega), i3⟩
      · have lt : (nI (pc (v 3 k)) < nI c) = False := eq_false (fun z => by
          have := (nI_ltI (by omega) (by omega)).mp z
          omega)
        have R1 := RC_fr i1 hR
        have f9 : gI w1 9 0 1 = nI p := ((i1 9 0 1 rfl).1).trans h9
        have gs := c_slot (N := N) (w := w1) (i := i) (k := k) (a := c)
        have l1 : ldI w1 60 0 (gI w1 9 0 1) 6 = some (nI (v 18 p)) := by rw [f9, ldn (by omega) (by omega), SC_times R1.2 p hp]
        have en : gI w1 13 0 1 + nI i = nI (v 0 5 + i) := by rw [SC_night R1.2, nI_add]
        have et : nI (v 18 p) + nI i = nI (v 18 p + i) := nI_add _ _
        have hch := chO_le hF p i k c
        simp only [fX5_fillChances_12, ↓lt, ↓cbnd gs, ↓bnd l1, ↓reduceIte, callW_eq]
        rw [f9, en, et]
        refine ok_bind (c_chanceOn (N := N) R1 hF hL hN hp hk (show v 0 5 + i < 2 ^ 30 by omega) (show c < 2 ^ 31 by omega) (show v 18 p + i < 2 ^ 31 by omega)) ?_
        rintro ⟨x, w2⟩ ⟨j1, j2⟩
        simp only at j1 j2
        have j2' : x = nI (chO v p i k c) := j2
        subst j2'
        have hsl : slO i k c < 576 := by unfold slO; omega
        have s4 : ∀ y, stI w2 40 0 (nI (slO i k c)) 576 y = some (setI w2 40 0 (slO i k c) y) := fun y => stn hsl (by omega)
        have e1 : nI c + (1 : Int32) = nI (c + 1) := nI_add c 1
        rw [s4]
        simp only [Option.bind_some]
        rw [e1]
        refine ih (c + 1) _ (by omega) (by omega) ⟨Fr_setI (Fr_trans i1 (Fr_mono j1 rfl)) rfl, fun a ha => ?_, fun j hj => ?_⟩
        · rw [gg_I]
          by_cases z : a = c
          · subst z; rw [if_pos ⟨rfl, rfl, rfl⟩]
          · rw [if_neg (fun u => z (by have := u.2.2; unfold slO at this; omega)), (j1 40 0 _ rfl).1]; exact i2 a (by omega)
        · rw [gg_I, if_neg (fun u => hj c (by omega) u.2.2), (j1 40 0 _ rfl).1]; exact i3 j hj
  have l1 : ldI w 32 (gR w 13 0 0) (nI k) 8 = some (nI (v 3 k)) := by rw [ldn (by omega) (by omega), TC_beside hR.1 k hk]
  have gb := c_bits (N := N) (w := w) (x := v 3 k) (by omega)
  have gm : pJ9_min_7cf53 N (nI (pc (v 3 k))) (8 : Int32) w = some (nI (pc (v 3 k)), w) := by
    have := c_min (N := N) (w := w) (a := pc (v 3 k)) (b := 8) (by omega) (by omega)
    rw [if_neg (by omega)] at this
    exact this
  simp only [pX5_fillChances, ↓bnd l1, ↓cbnd gb, ↓cbnd gm, callW_eq]
  exact key N 0 w (by omega) (by omega) ⟨Fr_refl _ _, fun a h => by omega, fun _ _ => rfl⟩
end

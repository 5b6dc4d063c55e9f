/-! ===== the class: known until, and the known along a row ===== -/
section
variable {N : Nat} {w : Wd} {v : Vw}
theorem utN_ge (v : Vw) (p k n c : Nat) : n ≤ utN v p k n c := (utN_iff v p k n n c).mpr ⟨by omega, fun s _ _ h => h⟩
theorem c_knownUntil (hR : RC w 0 v) (hF : WF v) (hN : 100 ≤ N) {p k n : Nat} (hp : p < v 0 1) (hk : k < 8) (hn : n < 2 ^ 29) : pX9_knownUntil N 0 (nI p) (nI k) (nI n) w = some (nI (utN v p k n (v 0 6)), w) := by
  obtain ⟨T, S⟩ := hR
  have h1 := WF_people hF
  have h6 := WF_slides hF
  have hfo := WF_forget hF p
  have l1 : ldI w 53 (gR w 13 0 0) (nI p) 6 = some (nI (v 8 p)) := by rw [ldn (by omega) (by omega), TC_forget T p hp]
  have key : ∀ fuel c, c ≤ v 0 6 → v 0 6 - c < fuel → fX9_knownUntil_11 N 0 (nI k) (nI n) fuel (nI (utN v p k n c)) (nI c) w = some (nI (utN v p k n (v 0 6)), w) := by
    intro fuel
    induction fuel with
    | zero => intro c _ h; omega
    | succ f ih =>
      intro c hc hf
      rcases Nat.lt_or_ge c (v 0 6) with y | y
      · have lt : (nI c < gI w 13 0 7) = True := eq_true (by rw [SC_slides S]; exact (nI_ltI (by omega) (by omega)).mpr y)
        have hsp := WF_spart hF c y
        have h2 := WF_parts hF
        have hsn := WF_snight hF c
        have hle := utN_le v p k n c
        have l2 : ldI w 64 0 (nI c) 12 = some (nI (v 14 c)) := by rw [ldn (by omega) (by omega), SC_spart S c y]
        have l3 : ldI w 65 0 (nI c) 12 = some (nI (v 15 c)) := by rw [ldn (by omega) (by omega), SC_snight S c y]
        have e1 : nI c + (1 : Int32) = nI (c + 1) := nI_add c 1
        have en := ih (c + 1) (by omega) (by omega)
        rw [utN] at en
        by_cases q1 : v 14 c = k
        · have q1' : (nI (v 14 c) = nI k) = True := eq_true (by rw [q1])
          by_cases q2 : n < v 15 c
          · have q2' : (nI n < nI (v 15 c)) = True := eq_true ((nI_ltI (by omega) (by omega)).mpr q2)
            rw [if_pos ⟨q1, q2⟩] at en
            have em : nI (v 15 c) - (1 : Int32) = nI (v 15 c - 1) := (dn_sub _).trans (if_neg (by omega))
            have gm := c_min (N := N) (w := w) (a := utN v p k n c) (b := v 15 c - 1) (by omega) (by omega)
            have ec : (if v 15 c - 1 < utN v p k n c then v 15 c - 1 else utN v p k n c) = (if utN v p k n c ≤ v 15 c - 1 then utN v p k n c else v 15 c - 1) := by
              split <;> split <;> omega
            rw [ec, ← em] at gm
            simp only [fX9_knownUntil_11, ↓lt, ↓bnd l2, ↓q1', ↓bnd l3, ↓q2', ↓cbnd gm, ↓e1, ↓reduceIte, callW_eq]
            exact en
          · have q2' : (nI n < nI (v 15 c)) = False := eq_false (fun z => q2 ((nI_ltI (by omega) (by omega)).mp z))
            rw [if_neg (fun z => q2 z.2)] at en
            simp only [fX9_knownUntil_11, ↓lt, ↓bnd l2, ↓q1', ↓bnd l3, ↓q2', ↓e1, ↓reduceIte, callW_eq]
            exact en
        · have q1' : (nI (v 14 c) = nI k) = False := eq_false (fun z => q1 ((nI_eq (by omega) (by omega)).mp z))
          rw [if_neg (fun z => q1 z.1)] at en
          simp only [fX9_knownUntil_11, ↓lt, ↓bnd l2, ↓q1', ↓e1, ↓reduceIte, callW_eq]
          exact en
      · have : c = v 0 6 := by omega
        subst this
        have lt : (nI (v 0 6) < gI w 13 0 7) = False := eq_false (fun z => by
          rw [SC_slides S] at z
          have := (nI_ltI (by omega) (by omega)).mp z
          omega)
        simp only [fX9_knownUntil_11, ↓lt, ↓reduceIte]
  have e0 : nI n + nI (v 8 p) = nI (utN v p k n 0) := nI_add _ _
  simp only [pX9_knownUntil, ↓bnd l1, ↓e0, callW_eq]
  exact key N 0 (by omega) (by omega)
end
/-- what is known on night i of a row -/
def knC (v : Vw) (p : Nat) (r : Nat → Nat) (i : Nat) : Nat := mkB (fun k => anyB (fun j => r j == k && decide (v 0 5 + i ≤ utN v p k (v 0 5 + j) (v 0 6))) i || (sKnow v p k (v 0 5 + i) && !anyB (fun j => r j == k) i)) (v 0 0)
theorem sBits_op {v : Vw} {p i : Nat} {r : Nat → Nat} (hr : ∀ a b, a < b → b < i → r a ≠ r b) (ht : sThere v p (v 0 5 + i) = true) : sBits (opV v p r i) p (v 0 5 + i) = knC v p r i := by
  have e0 : opV v p r i 0 0 = v 0 0 := opV_mr v p r i 0 0 (by simp [mr])
  rw [sBits, knC, e0]
  apply mkB_ext
  intro k hk
  by_cases y : ∃ j, j < i ∧ r j = k
  · obtain ⟨j, hj, e⟩ := y
    have h1 : anyB (fun j => r j == k) i = true := anyB_true.mpr ⟨j, hj, beq_iff_eq.mpr e⟩
    have h2 := know_s (v := v) (p := p) hj hr
    rw [e, ht, Bool.true_and] at h2
    rw [h2, h1, Bool.not_true, Bool.and_false, Bool.or_false]
    rw [Bool.eq_iff_iff, decide_eq_true_eq, anyB_true]
    constructor
    · intro h
      exact ⟨j, hj, by rw [Bool.and_eq_true, beq_iff_eq, decide_eq_true_eq]; exact ⟨e, h⟩⟩
    · rintro ⟨j', hj', h⟩
      rw [Bool.and_eq_true, beq_iff_eq, decide_eq_true_eq] at h
      have : j' = j := by
        rcases Nat.lt_trichotomy j' j with z | z | z
        · exact absurd (h.1.trans e.symm) (hr j' j z hj)
        · exact z
        · exact absurd (e.trans h.1.symm) (hr j j' z hj')
      rw [← this]; exact h.2
  · have h0 : ∀ j, j < i → r j ≠ k := fun j hj e => y ⟨j, hj, e⟩
    have h1 : anyB (fun j => r j == k) i = false := anyB_false.mpr (fun j hj => beq_eq_false_iff_ne.mpr (h0 j hj))
    have h2 : anyB (fun j => r j == k && decide (v 0 5 + i ≤ utN v p k (v 0 5 + j) (v 0 6))) i = false := anyB_false.mpr (fun j hj => by rw [beq_eq_false_iff_ne.mpr (h0 j hj), Bool.false_and])
    rw [know_o h0, h1, h2]
    simp
/-- the chance of night i, as the class looks it up -/
theorem opC_eq {v : Vw} {p i : Nat} {r : Nat → Nat} (hr : ∀ a b, a < b → b < i → r a ≠ r b) (ht : sThere v p (v 0 5 + i) = true) : opC v p r i = sCh v p (r i) (v 0 5 + i) (pc (knC v p r i &&& v 3 (r i))) (v 18 p + i) := by
  rw [opC, sCh_mr (opV_mr v p r i), opV_18, sAr, sBits_op hr ht, opV_mr v p r i 3 (r i) (by simp [mr])]

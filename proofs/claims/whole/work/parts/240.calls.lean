/-! ===== the calls that ask: what both keep, and how a call is put together ===== -/
/-- what the class and the reference both stand for -/
def Cu (w : Wd) (v : Vw) : Prop := RC w 0 v ∧ RM w 0 v ∧ WF v ∧ WL v ∧ gR w 15 0 2 = gR w 13 0 0 ∧ (∀ j, v 18 j ≤ v 0 5) ∧ v 0 5 ≤ 1000 ∧ gI w 16 0 64 = nI (v 0 5)
def kCu : List Nat := kRC ++ kRM ++ [16002, 17064]
theorem Cu_fr {l : List Nat} {w w' : Wd} {v : Vw} (f : Fr l w w') (h : Cu w v) (hl : dis l kCu = true := by decide) : Cu w' v :=
  ⟨RC_fr f h.1 (dis_sub hl (by decide)), RM_fr f h.2.1 (dis_sub hl (by decide)), h.2.2.1, h.2.2.2.1,
    by rw [(f 15 0 2 (dis_of hl (k := 16002) (by decide))).2.2, (f 13 0 0 (dis_of hl (k := 14000) (by decide))).2.2]; exact h.2.2.2.2.1,
    h.2.2.2.2.2.1, h.2.2.2.2.2.2.1, by rw [(f 16 0 64 (dis_of hl (k := 17064) (by decide))).1]; exact h.2.2.2.2.2.2.2⟩
/-- what asking may touch -/
def kQ : List Nat := [22, 23, 25, 26, 27, 28, 29, 56, 57, 58, 59, 66, 7007, 7008, 8001, 8002, 17002, 17063, 99, 100, 108, 111, 112, 113, 114, 115, 116, 117, 118, 17082, 17083, 17091, 17092]
def Both {α : Type} (c m : Wd → Option (α × Wd)) (w : Wd) : Prop := ∃ r w1 w2, c w = some (r, w1) ∧ Fr kQ w w1 ∧ m w1 = some (r, w2) ∧ Fr kQ w1 w2
theorem Both_ex {α δ : Type} {c m : Wd → Option (α × Wd)} {w : Wd} {P : δ → Prop} {x : δ → α} (hm : ∀ w1, Fr kQ w w1 → Ok (m w1) (fun r => Fr kQ w1 r.2 ∧ ∃ d, P d ∧ r.1 = x d)) (hc : ∀ d, P d → Ok (c w) (fun r => Fr kQ w r.2 ∧ r.1 = x d)) : Both c m w := by
  obtain ⟨r0, _, _, d0, hd0, _⟩ := hm w (Fr_refl _ _)
  obtain ⟨⟨r, w1⟩, e1, f1, _⟩ := hc d0 hd0
  obtain ⟨⟨r', w2⟩, e2, f2, d, hd, hx⟩ := hm w1 f1
  obtain ⟨r3, e3, _, hx3⟩ := hc d hd
  rw [e1] at e3
  cases e3
  have hr : r' = r := hx.trans hx3.symm
  rw [hr] at e2
  exact ⟨r, w1, w2, e1, f1, e2, f2⟩
theorem Both_mk {α : Type} {c m : Wd → Option (α × Wd)} {w : Wd} {x : α} (hc : Ok (c w) (fun r => Fr kQ w r.2 ∧ r.1 = x)) (hm : ∀ w1, Fr kQ w w1 → Ok (m w1) (fun r => Fr kQ w1 r.2 ∧ r.1 = x)) : Both c m w :=
  Both_ex (P := fun _ : Unit => True) (x := fun _ => x) (fun w1 f1 => ok_mono (hm w1 f1) (fun r h => ⟨h.1, (), trivial, h.2⟩)) (fun _ _ => hc)
/-- a number of an argument -/
noncomputable def isI (a : Int32) (n : Nat) : Bool := @decide (∃ k, k < n ∧ a = nI k) (Classical.propDecidable _)
theorem isI_t {a : Int32} {n : Nat} : isI a n = true ↔ ∃ k, k < n ∧ a = nI k := by unfold isI; exact @decide_eq_true_iff _ (Classical.propDecidable _)
theorem isI_nI {k n : Nat} (h : k < n) : isI (nI k) n = true := isI_t.mpr ⟨k, h, rfl⟩
theorem a_nI (a : Int32) (h : ¬ a < 0) : ∃ k, k < 2 ^ 31 ∧ a = nI k := by
  refine ⟨a.toBitVec.toNat, ?_, ?_⟩
  · apply Classical.byContradiction
    intro q
    apply h
    rw [Int32.lt_iff_toInt_lt]
    have h0 : (0 : Int32).toInt = 0 := rfl
    have h1 := a.toBitVec.isLt
    rw [h0, ← Int32.toInt_toBitVec, BitVec.toInt_eq_toNat_cond]
    split <;> omega
  · apply Int32.toBitVec_inj.1
    apply BitVec.eq_of_toNat_eq
    simp [nI]
theorem isI_c (a : Int32) (n : Nat) (hn : n < 2 ^ 31) : (isI a n = true ∧ (a < 0) = False ∧ (a < nI n) = True) ∨ (isI a n = false ∧ (a < 0) = True) ∨ (isI a n = false ∧ (a < 0) = False ∧ (a < nI n) = False) := by
  by_cases h : a < 0
  · refine Or.inr (Or.inl ⟨?_, eq_true h⟩)
    rw [← Bool.not_eq_true, isI_t]
    rintro ⟨k, hk, e⟩
    rw [e] at h
    exact nz_ge0 (show k < 2 ^ 31 by omega) h
  · obtain ⟨k, hk, e⟩ := a_nI a h
    subst e
    rcases Nat.lt_or_ge k n with q | q
    · exact Or.inl ⟨isI_nI q, eq_false h, eq_true ((nI_ltI hk hn).mpr q)⟩
    · refine Or.inr (Or.inr ⟨?_, eq_false h, eq_false (fun z => by have := (nI_ltI hk hn).mp z; omega)⟩)
      rw [← Bool.not_eq_true, isI_t]
      rintro ⟨j, hj, e⟩
      have := (nI_eq hk (by omega)).mp e
      omega
theorem isI_if {α : Type} {a x : Int32} {n : Nat} (hx : x = nI n) (hn : n < 2 ^ 31) (A B : α) : (if a < 0 then A else if a < x then B else A) = if isI a n = true then B else A := by
  subst hx
  rcases isI_c a n hn with ⟨h1, h2, h3⟩ | ⟨h1, h2⟩ | ⟨h1, h2, h3⟩
  · simp only [h1, h2, h3, ↓reduceIte]
  · simp only [h1, h2, ↓reduceIte, Bool.false_eq_true]
  · simp only [h1, h2, h3, ↓reduceIte, Bool.false_eq_true]
theorem isI_if2 {α : Type} {a : Int32} {n : Nat} (hn : n + 1 < 2 ^ 31) (A B : α) : (if a < 0 then A else if nI n < a then A else B) = if isI a (n + 1) = true then B else A := by
  rcases isI_c a (n + 1) hn with ⟨h1, h2, h3⟩ | ⟨h1, h2⟩ | ⟨h1, h2, h3⟩
  · obtain ⟨k, hk, e⟩ := isI_t.mp h1
    subst e
    have : (nI n < nI k) = False := eq_false (fun z => by have := (nI_ltI (by omega) (by omega)).mp z; omega)
    simp only [h1, h2, this, ↓reduceIte]
  · simp only [h1, h2, ↓reduceIte, Bool.false_eq_true]
  · obtain ⟨k, hk, e⟩ := a_nI a (by rw [h2]; exact id)
    subst e
    have : (nI n < nI k) = True := eq_true ((nI_ltI (by omega) hk).mpr (by
      apply Classical.byContradiction
      intro z
      have : nI k < nI (n + 1) := (nI_ltI hk hn).mpr (by omega)
      rw [h3] at this
      exact this))
    simp only [h1, h2, this, ↓reduceIte, Bool.false_eq_true]
section
variable {N : Nat} {w : Wd} {v : Vw}
theorem Cu_t (C : Cu w v) : Cu (setI w 16 0 2 (0 : Int32)) v := Cu_fr (Fr_setI (l := [17002]) (Fr_refl _ _) rfl) C
theorem Fr_t : Fr kQ w (setI w 16 0 2 (0 : Int32)) := Fr_setI (Fr_refl _ _) rfl
theorem c_gPart (C : Cu w v) (a : Int32) : pX11_isPart N a w = some (zB (isI a (v 0 0)), w) := by
  have h2 := WF_parts C.2.2.1
  have e : gI w 8 (gR w 15 0 2) 0 = nI (v 0 0) := by rw [C.2.2.2.2.1]; exact TC_parts C.1.1
  unfold pX11_isPart
  rw [isI_if e (by omega)]
  cases isI a (v 0 0) <;> rfl
theorem c_gWho (C : Cu w v) (a : Int32) : pX11_isPerson N a w = some (zB (isI a (v 0 1)), w) := by
  have h2 := WF_people C.2.2.1
  have e : gI w 10 (gR w 15 0 2) 0 = nI (v 0 1) := by rw [C.2.2.2.2.1]; exact TC_people C.1.1
  unfold pX11_isPerson
  rw [isI_if e (by omega)]
  cases isI a (v 0 1) <;> rfl
theorem c_gParty (C : Cu w v) (a : Int32) : pX11_isParty N a w = some (zB (isI a (v 0 2)), w) := by
  have h2 := WF_parties C.2.2.1
  have e : gI w 8 (gR w 15 0 2) 5 = nI (v 0 2) := by rw [C.2.2.2.2.1]; exact TC_parties C.1.1
  unfold pX11_isParty
  rw [isI_if e (by omega)]
  cases isI a (v 0 2) <;> rfl
theorem c_gNight (a : Int32) : pX11_isNight N a w = some (zB (isI a 1000), w) := by
  unfold pX11_isNight
  have e : (999 : Int32) = nI 999 := rfl
  rw [e, isI_if2 (by omega)]
  cases isI a (999 + 1) <;> rfl
theorem c_gMaster (a : Int32) : pX11_isMaster N a w = some (zB (isI a 4), w) := by
  unfold pX11_isMaster
  rw [isI_if (x := (4 : Int32)) (n := 4) rfl (by omega)]
  cases isI a 4 <;> rfl
theorem m_gPart (C : Cu w v) (a : Int32) : pX12_isPart N a w = some (zB (isI a (v 0 0)), w) := by
  have h2 := WF_parts C.2.2.1
  unfold pX12_isPart
  rw [isI_if (TM_parts C.2.1.1) (by omega)]
  cases isI a (v 0 0) <;> rfl
theorem m_gWho (C : Cu w v) (a : Int32) : pX12_isPerson N a w = some (zB (isI a (v 0 1)), w) := by
  have h2 := WF_people C.2.2.1
  unfold pX12_isPerson
  rw [isI_if (TM_people C.2.1.1) (by omega)]
  cases isI a (v 0 1) <;> rfl
theorem m_gParty (C : Cu w v) (a : Int32) : pX12_isParty N a w = some (zB (isI a (v 0 2)), w) := by
  have h2 := WF_parties C.2.2.1
  unfold pX12_isParty
  rw [isI_if (TM_parties C.2.1.1) (by omega)]
  cases isI a (v 0 2) <;> rfl
theorem m_gIn {n : Nat} (hn : n + 1 < 2 ^ 31) (a : Int32) : pX12_isIn N a (0 : Int32) (nI n) w = some (zB (isI a (n + 1)), w) := by
  unfold pX12_isIn
  rw [isI_if2 hn]
  cases isI a (n + 1) <;> rfl
theorem m_gNight (a : Int32) : pX12_isNight N a w = some (zB (isI a 1000), w) := by
  have h := m_gIn (N := N) (w := w) (n := 999) (by omega) a
  have e : (999 : Int32) = nI 999 := rfl
  unfold pX12_isNight
  rw [callW_eq, e, h]
  show retZ (zB (isI a (999 + 1))) w = _
  exact retZ_b _ _
theorem m_gMaster (a : Int32) : pX12_isMaster N a w = some (zB (isI a 4), w) := by
  have h := m_gIn (N := N) (w := w) (n := 3) (by omega) a
  have e : (3 : Int32) = nI 3 := rfl
  unfold pX12_isMaster
  rw [callW_eq, e, h]
  show retZ (zB (isI a (3 + 1))) w = _
  exact retZ_b _ _
end

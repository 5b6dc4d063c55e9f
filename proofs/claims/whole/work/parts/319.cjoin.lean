/-! ===== constructors: pictures by their cells; a callee's among the caller's ===== -/
section
variable {u : List (Nat × Nat × Nat)} {cs : List (Nat × Nat)} {ρ : Nat → Nat → Nat} {aC : Nat → ClassId} {w : Wd} {D : va_G} {H : Heap} {A : Nat → Prop}
theorem picP_of (h : ∀ k i, (k, i) ∈ cs → va_at D classes (ρ k i, entN u ρ aC w k i) H) : va_P D classes (picN u cs ρ aC w) H := by
  intro k q hk
  rw [picN, List.getElem?_map] at hk
  cases hc : cs[k]? with
  | none => rw [hc] at hk; cases hk
  | some c =>
    rw [hc] at hk
    cases hk
    exact h c.1 c.2 (List.mem_of_getElem? hc)
theorem picP_at {k i : Nat} (h : va_P D classes (picN u cs ρ aC w) H) (hm : (k, i) ∈ cs) : va_at D classes (ρ k i, entN u ρ aC w k i) H := by
  obtain ⟨q0, _, hq⟩ := picN_at (u := u) (ρ := ρ) (aC := aC) (w := w) hm
  exact h q0 _ hq
theorem picD_of (hn : cs.Nodup) (h : ∀ c ∈ cs, ∀ c' ∈ cs, ρ c.1 c.2 = ρ c'.1 c'.2 → c = c') (hA : ∀ c ∈ cs, A (ρ c.1 c.2)) : va_D A (picN u cs ρ aC w) := by
  have at' : ∀ (k : Nat) (q : Nat × va_E), (picN u cs ρ aC w)[k]? = some q → ∃ c, cs[k]? = some c ∧ q.1 = ρ c.1 c.2 := fun k q hk => by
    rw [picN, List.getElem?_map] at hk
    cases hc : cs[k]? with
    | none => rw [hc] at hk; cases hk
    | some c =>
      rw [hc] at hk
      cases hk
      exact ⟨c, rfl, rfl⟩
  refine ⟨fun i j p q hi hj e => ?_, fun k q hk => ?_⟩
  · obtain ⟨c, hc, e1⟩ := at' i p hi
    obtain ⟨c', hc', e2⟩ := at' j q hj
    have hcc := h c (List.mem_of_getElem? hc) c' (List.mem_of_getElem? hc') (by rw [← e1, ← e2]; exact e)
    subst hcc
    exact (List.getElem?_inj (List.getElem?_eq_some_iff.mp hc).1 hn).mp (by rw [hc, hc'])
  · obtain ⟨c, hc, e1⟩ := at' k q hk
    rw [e1]
    exact hA c (List.mem_of_getElem? hc)
theorem picD_inj (h : va_D A (picN u cs ρ aC w)) {c c' : Nat × Nat} (hc : c ∈ cs) (hc' : c' ∈ cs) (e : ρ c.1 c.2 = ρ c'.1 c'.2) : c = c' := by
  obtain ⟨i, h1, h2⟩ := picN_at (u := u) (ρ := ρ) (aC := aC) (w := w) (k := c.1) (i := c.2) hc
  obtain ⟨j, h3, h4⟩ := picN_at (u := u) (ρ := ρ) (aC := aC) (w := w) (k := c'.1) (i := c'.2) hc'
  have := h.1 i j _ _ h2 h4 e
  subst this
  rw [h1] at h3
  exact Option.some.inj h3
theorem picD_A (h : va_D A (picN u cs ρ aC w)) {c : Nat × Nat} (hc : c ∈ cs) : A (ρ c.1 c.2) := by
  obtain ⟨i, h1, h2⟩ := picN_at (u := u) (ρ := ρ) (aC := aC) (w := w) (k := c.1) (i := c.2) hc
  exact h.2 i _ h2
theorem picA_iff {sz q : Nat} : va_A (picN u cs ρ aC w) sz q ↔ (∃ c ∈ cs, ρ c.1 c.2 = q) ∨ sz ≤ q := by
  constructor
  · rintro (⟨k, e, hk⟩ | h)
    · rw [picN, List.getElem?_map] at hk
      cases hc : cs[k]? with
      | none => rw [hc] at hk; cases hk
      | some c =>
        rw [hc] at hk
        cases hk
        exact Or.inl ⟨c, List.mem_of_getElem? hc, rfl⟩
    · exact Or.inr h
  · rintro (⟨c, hc, rfl⟩ | h)
    · obtain ⟨i, _, h2⟩ := picN_at (u := u) (ρ := ρ) (aC := aC) (w := w) (k := c.1) (i := c.2) hc
      exact Or.inl ⟨i, _, h2⟩
    · exact Or.inr h
end
/-- entries by the set fields of their own cell -/
theorem entN_u {u u1 : List (Nat × Nat × Nat)} {ρ : Nat → Nat → Nat} {aC : Nat → ClassId} {w : Wd} {k i : Nat} (hu : ∀ f, u1.contains (k, i, f) = u.contains (k, i, f)) : entN u1 ρ aC w k i = entN u ρ aC w k i := by
  have e : ∀ f, fvN u1 ρ w k i f = fvN u ρ w k i f := fun f => by unfold fvN; rw [hu f]
  unfold entN
  split
  · exact congrArg (fun z => (Sum.inr ((kd k).2.1, z) : va_E)) (List.map_congr_left (fun f _ => e f))
  · rfl
  · rfl
/-- what a list of changes leaves alone -/
def agW (C : List (Nat × Nat)) (w w1 : Wd) : Prop := ∀ k i, (k, i) ∉ C → gI w1 k i = gI w k i ∧ gL w1 k i = gL w k i ∧ gR w1 k i = gR w k i
theorem agW_trans {C : List (Nat × Nat)} {w w1 w2 : Wd} (h1 : agW C w w1) (h2 : agW C w1 w2) : agW C w w2 := fun k i h => ⟨(h2 k i h).1.trans (h1 k i h).1, (h2 k i h).2.1.trans (h1 k i h).2.1, (h2 k i h).2.2.trans (h1 k i h).2.2⟩
def lop (L : Nat → List (Nat × Nat)) (C : List (Nat × Nat)) (o : WO) : Bool := match o.1 with
  | 0 => C.contains (o.2.1, o.2.2.1)
  | 1 => C.contains (o.2.1, o.2.2.1)
  | 2 => C.contains (o.2.1, o.2.2.1)
  | _ => (L o.2.1).all C.contains
theorem wop_out {F : Nat → Wd → Option Wd} {L : Nat → List (Nat × Nat)} (hF : ∀ n w w1, F n w = some w1 → agW (L n) w w1) {C : List (Nat × Nat)} {o : WO} {w w1 : Wd} (h : wop F o w = some w1) (hl : lop L C o = true) : agW C w w1 := by
  unfold wop at h
  unfold lop at hl
  intro k i hn
  split at h
  · rename_i e
    rw [e] at hl
    cases h
    have hne : (k, i) ≠ (o.2.1, o.2.2.1) := fun z => hn (z ▸ List.contains_iff_mem.mp hl)
    exact ⟨up3_ne _ _ _ _ _ hne, rfl, rfl⟩
  · rename_i e
    rw [e] at hl
    cases h
    have hne : (k, i) ≠ (o.2.1, o.2.2.1) := fun z => hn (z ▸ List.contains_iff_mem.mp hl)
    exact ⟨rfl, rfl, up3_ne _ _ _ _ _ hne⟩
  · rename_i e
    rw [e] at hl
    cases h
    have hne : (k, i) ≠ (o.2.1, o.2.2.1) := fun z => hn (z ▸ List.contains_iff_mem.mp hl)
    exact ⟨gI_zn hne, gL_zn hne, rfl⟩
  · rename_i e0 e1 e2
    have hl' : (L o.2.1).all C.contains = true := by
      split at hl
      · rename_i e; exact absurd e e0
      · rename_i e; exact absurd e e1
      · rename_i e; exact absurd e e2
      · exact hl
    exact hF _ _ _ h k i (fun z => hn (List.contains_iff_mem.mp (List.all_eq_true.mp hl' _ z)))
theorem wops_out {F : Nat → Wd → Option Wd} {L : Nat → List (Nat × Nat)} (hF : ∀ n w w1, F n w = some w1 → agW (L n) w w1) {C : List (Nat × Nat)} : ∀ (ops : List WO) (w w1 : Wd), wops F ops w = some w1 → ops.all (lop L C) = true → agW C w w1
  | [], w, w1, h, _ => by cases h; exact fun _ _ _ => ⟨rfl, rfl, rfl⟩
  | o :: r, w, w1, h, hl => by
    obtain ⟨w2, h1, h2⟩ := bind_some' h
    have hl' : lop L C o = true ∧ r.all (lop L C) = true := by simpa using hl
    exact agW_trans (wop_out hF h1 hl'.1) (wops_out hF r w2 w1 h2 hl'.2)

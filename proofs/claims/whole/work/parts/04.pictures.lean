/-! ===== pictures: a world as cells of a heap; locals ===== -/
def trv (ρ : Nat → Nat → Nat) : AV → Value
  | .inl x => .int x
  | .inr (.inl x) => .long x
  | .inr (.inr q) => .ref (ρ q.1 q.2)
def aty : Nat → FieldType
  | 2 => .int
  | 3 => .long
  | 4 => .byte
  | 5 => .boolean
  | _ => .array .int
def atys (aC : Nat → ClassId) : List (ClassId × FieldType) := [(aC 2, .int), (aC 3, .long), (aC 4, .byte), (aC 5, .boolean), (aC 6, .array .int)]
def ent (ρ : Nat → Nat → Nat) (aC : Nat → ClassId) (w : Wd) (k i : Nat) : va_E := match (kd k).1 with
  | 1 => .inr ((kd k).2.1, (List.range (kd k).2.2).map fun f => trv ρ (fget w k i f (fm k f)))
  | 2 => .inl (aC 2, ln k i, .inl (gI w k i))
  | 3 => .inl (aC 3, ln k i, .inr (.inl (gL w k i)))
  | 4 => .inl (aC 4, ln k i, .inl (gI w k i))
  | 5 => .inl (aC 5, ln k i, .inl (gI w k i))
  | _ => .inl (aC 6, ln k i, .inr (.inr (.inr (.inr (fun j => some (ρ (rk k) (j + ln k i * i)))))))
def pic (cs : List (Nat × Nat)) (ρ : Nat → Nat → Nat) (aC : Nat → ClassId) (w : Wd) : va_W := cs.map fun c => (ρ c.1 c.2, ent ρ aC w c.1 c.2)
theorem pic_at {cs : List (Nat × Nat)} {ρ : Nat → Nat → Nat} {aC : Nat → ClassId} {w : Wd} {k i : Nat} (h : (k, i) ∈ cs) : ∃ q0 : Nat, cs[q0]? = some (k, i) ∧ (pic cs ρ aC w)[q0]? = some (ρ k i, ent ρ aC w k i) := by
  obtain ⟨q0, hq⟩ := List.getElem?_of_mem h
  exact ⟨q0, hq, by rw [pic, List.getElem?_map, hq]; rfl⟩
/-- a picture with one cell changed is the picture of the changed world -/
theorem pic_set {cs : List (Nat × Nat)} {ρ : Nat → Nat → Nat} {aC : Nat → ClassId} {w w1 : Wd} {k i q0 : Nat} (hn : cs.Nodup) (hq : cs[q0]? = some (k, i)) {x : va_E} (hx : ent ρ aC w1 k i = x) (ho : ∀ k' i', (k', i') ≠ (k, i) → ent ρ aC w1 k' i' = ent ρ aC w k' i') :
    (pic cs ρ aC w).set q0 (ρ k i, x) = pic cs ρ aC w1 := by
  apply List.ext_getElem?
  intro j
  have hl : q0 < cs.length := (List.getElem?_eq_some_iff.mp hq).1
  by_cases hj : q0 = j
  · subst hj
    rw [List.getElem?_set_self (by rw [pic, List.length_map]; exact hl), pic, List.getElem?_map, hq, ← hx]
    rfl
  · rw [List.getElem?_set_ne hj, pic, pic, List.getElem?_map, List.getElem?_map]
    cases hc : cs[j]? with
    | none => rfl
    | some c =>
      have hne : c ≠ (k, i) := by
        intro h
        subst h
        exact hj ((List.getElem?_inj hl hn).mp (by rw [hq, hc]))
      obtain ⟨k', i'⟩ := c
      simp only [Option.map_some]
      rw [ho k' i' hne]
/-- what a write changes of a cell -/
theorem up3_self {α : Type} (f : Nat → Nat → Nat → α) (k i j : Nat) (x : α) : up3 f k i j x k i = fun j' => if j' = j then x else f k i j' := by
  funext j'
  simp [up3]
theorem up3_ne {α : Type} (f : Nat → Nat → Nat → α) (k i j : Nat) (x : α) {k' i' : Nat} (h : (k', i') ≠ (k, i)) : up3 f k i j x k' i' = f k' i' := by
  funext j'
  have : ¬ (k' = k ∧ i' = i ∧ j' = j) := fun q => h (by rw [q.1, q.2.1])
  simp [up3, this]
theorem upRow_self {α : Type} (f : Nat → Nat → Nat → α) (k i : Nat) (g : Nat → α) : upRow f k i g k i = g := by simp [upRow]
theorem upRow_ne {α : Type} (f : Nat → Nat → Nat → α) (k i : Nat) (g : Nat → α) {k' i' : Nat} (h : (k', i') ≠ (k, i)) : upRow f k i g k' i' = f k' i' := by
  have : ¬ (k' = k ∧ i' = i) := fun q => h (by rw [q.1, q.2])
  simp [upRow, this]
theorem ent_congr {ρ : Nat → Nat → Nat} {aC : Nat → ClassId} {w w1 : Wd} {k i : Nat} (h1 : gI w1 k i = gI w k i) (h2 : gL w1 k i = gL w k i) (h3 : gR w1 k i = gR w k i) : ent ρ aC w1 k i = ent ρ aC w k i := by
  have e1 : ∀ j, gI w1 k i j = gI w k i j := fun j => congrFun h1 j
  have e2 : ∀ j, gL w1 k i j = gL w k i j := fun j => congrFun h2 j
  have e3 : ∀ j, gR w1 k i j = gR w k i j := fun j => congrFun h3 j
  have ef : ∀ f, fget w1 k i f (fm k f) = fget w k i f (fm k f) := fun f => by unfold fget; rw [e1, e2, e3]
  unfold ent
  simp only [ef, h1, h2]
theorem setI_other {w : Wd} {k i j : Nat} {x : Int32} {ρ : Nat → Nat → Nat} {aC : Nat → ClassId} : ∀ k' i', (k', i') ≠ (k, i) → ent ρ aC (setI w k i j x) k' i' = ent ρ aC w k' i' := fun _ _ h => ent_congr (up3_ne _ _ _ _ _ h) rfl rfl
theorem setL_other {w : Wd} {k i j : Nat} {x : Int64} {ρ : Nat → Nat → Nat} {aC : Nat → ClassId} : ∀ k' i', (k', i') ≠ (k, i) → ent ρ aC (setL w k i j x) k' i' = ent ρ aC w k' i' := fun _ _ h => ent_congr rfl (up3_ne _ _ _ _ _ h) rfl
theorem setR_other {w : Wd} {k i j : Nat} {x : Nat} {ρ : Nat → Nat → Nat} {aC : Nat → ClassId} : ∀ k' i', (k', i') ≠ (k, i) → ent ρ aC (setR w k i j x) k' i' = ent ρ aC w k' i' := fun _ _ h => ent_congr rfl rfl (up3_ne _ _ _ _ _ h)
theorem setRowI_other {w : Wd} {k i : Nat} {g : Nat → Int32} {ρ : Nat → Nat → Nat} {aC : Nat → ClassId} : ∀ k' i', (k', i') ≠ (k, i) → ent ρ aC (setRowI w k i g) k' i' = ent ρ aC w k' i' := fun _ _ h => ent_congr (upRow_ne _ _ _ _ h) rfl rfl
/-- references that are there -/
def vok (cs : List (Nat × Nat)) : AV → Prop
  | .inr (.inr q) => q ∈ cs ∨ q.1 = 2
  | _ => True
/-- every reference that doesn't change leads to a cell that is there -/
def cloS (cs : List (Nat × Nat)) : Prop := ∀ k i, (k, i) ∈ cs →
  ((kd k).1 = 1 → ∀ f, f < (kd k).2.2 → ((fm k f).1 = 2 → ((fm k f).2.1, i) ∈ cs) ∧ ((fm k f).1 = 4 → ((fm k f).2.1, 2 * i + (fm k f).2.2) ∈ cs) ∧ (5 ≤ (fm k f).1 → ((fm k f).2.1, (fm k f).2.2) ∈ cs)) ∧
  ((kd k).1 = 6 → ∀ j, j < ln k i → (rk k, j + ln k i * i) ∈ cs ∧ (kd (rk k)).1 = 2)
/-- and so does every one that may change -/
def cloR (cs : List (Nat × Nat)) (w : Wd) : Prop := ∀ k i, (k, i) ∈ cs → (kd k).1 = 1 → ∀ f, f < (kd k).2.2 → (fm k f).1 = 3 → ((fm k f).2.1, gR w k i f) ∈ cs
theorem cloR_I {cs : List (Nat × Nat)} {w : Wd} {k i j : Nat} {x : Int32} (h : cloR cs w) : cloR cs (setI w k i j x) := h
theorem cloR_L {cs : List (Nat × Nat)} {w : Wd} {k i j : Nat} {x : Int64} (h : cloR cs w) : cloR cs (setL w k i j x) := h
theorem cloR_Row {cs : List (Nat × Nat)} {w : Wd} {k i : Nat} {g : Nat → Int32} (h : cloR cs w) : cloR cs (setRowI w k i g) := h
theorem cloR_R {cs : List (Nat × Nat)} {w : Wd} {k i j : Nat} {x : Nat} (h : cloR cs w) (hx : (fm k j).1 = 3 → ((fm k j).2.1, x) ∈ cs) : cloR cs (setR w k i j x) := by
  intro k' i' hk h1 f hf h3
  show ((fm k' f).2.1, up3 w.2.2 k i j x k' i' f) ∈ cs
  unfold up3
  by_cases e : k' = k ∧ i' = i ∧ f = j
  · rw [if_pos e]
    obtain ⟨rfl, rfl, rfl⟩ := e
    exact hx h3
  · rw [if_neg e]
    exact h k' i' hk h1 f hf h3
theorem fget_ok {cs : List (Nat × Nat)} {w : Wd} {k i f : Nat} (hS : cloS cs) (hR : cloR cs w) (hk : (k, i) ∈ cs) (h1 : (kd k).1 = 1) (hf : f < (kd k).2.2) : vok cs (fget w k i f (fm k f)) := by
  have a := (hS k i hk).1 h1 f hf
  have b := hR k i hk h1 f hf
  unfold fget
  split
  · trivial
  · trivial
  · rename_i h; exact Or.inl (a.1 h)
  · rename_i h; exact Or.inl (b h)
  · rename_i h; exact Or.inl (a.2.1 h)
  · rename_i h0 h1' h2 h3 h4
    refine Or.inl (a.2.2 ?_)
    exact (by
      match hm : (fm k f).1 with
      | 0 => exact absurd hm h0
      | 1 => exact absurd hm h1'
      | 2 => exact absurd hm h2
      | 3 => exact absurd hm h3
      | 4 => exact absurd hm h4
      | n + 5 => omega)
/-! locals -/
def lva (ρ : Nat → Nat → Nat) : Nat → LV → List (Nat × Value)
  | _, [] => []
  | i, none :: r => lva ρ (i + 1) r
  | i, some v :: r => (i, trv ρ v) :: lva ρ (i + 1) r
theorem lva_mem {ρ : Nat → Nat → Nat} : ∀ (ls : LV) (b i : Nat) (v : AV), ls.getD i none = some v → (b + i, trv ρ v) ∈ lva ρ b ls
  | [], _, _, _, h => by simp at h
  | none :: r, b, 0, v, h => by simp at h
  | some u :: r, b, 0, v, h => by
    simp only [List.getD_cons_zero, Option.some.injEq] at h
    subst h
    exact List.mem_cons_self
  | none :: r, b, i + 1, v, h => by
    rw [List.getD_cons_succ] at h
    have := lva_mem (ρ := ρ) r (b + 1) i v h
    rw [show b + 1 + i = b + (i + 1) by omega] at this
    exact this
  | some u :: r, b, i + 1, v, h => by
    rw [List.getD_cons_succ] at h
    have := lva_mem (ρ := ρ) r (b + 1) i v h
    rw [show b + 1 + i = b + (i + 1) by omega] at this
    exact List.mem_cons_of_mem _ this
theorem lva_of {ρ : Nat → Nat → Nat} : ∀ (ls : LV) (b : Nat) (q : Nat × Value), q ∈ lva ρ b ls → ∃ i v, ls.getD i none = some v ∧ q = (b + i, trv ρ v)
  | [], _, _, h => by cases h
  | none :: r, b, q, h => by
    obtain ⟨i, v, h1, h2⟩ := lva_of r (b + 1) q h
    exact ⟨i + 1, v, by rw [List.getD_cons_succ]; exact h1, by rw [h2]; congr 1; omega⟩
  | some u :: r, b, q, h => by
    rcases List.mem_cons.mp h with h | h
    · exact ⟨0, u, rfl, by rw [h]; rfl⟩
    · obtain ⟨i, v, h1, h2⟩ := lva_of r (b + 1) q h
      exact ⟨i + 1, v, by rw [List.getD_cons_succ]; exact h1, by rw [h2]; congr 1; omega⟩
theorem lset_get : ∀ (ls : LV) (i : Nat) (v : Option AV) (j : Nat) (u : AV), (lset ls i v).getD j none = some u → (j = i ∧ v = some u) ∨ (j ≠ i ∧ ls.getD j none = some u ∧ (j + 1 = i → catA u = 1))
  | [], i, v, j, u, h => by simp [lset] at h
  | x :: r, 0, v, 0, u, h => by
    simp only [lset, List.getD_cons_zero] at h
    exact Or.inl ⟨rfl, h⟩
  | x :: r, 0, v, j + 1, u, h => by
    simp only [lset, List.getD_cons_succ] at h
    exact Or.inr ⟨by omega, by rw [List.getD_cons_succ]; exact h, fun e => by omega⟩
  | some (.inr (.inl y)) :: r, 1, v, 0, u, h => by simp [lset] at h
  | some (.inr (.inl y)) :: r, 1, v, j + 1, u, h => by
    simp only [lset, List.getD_cons_succ] at h
    rcases lset_get r 0 v j u h with ⟨a, b⟩ | ⟨a, b, c⟩
    · exact Or.inl ⟨by omega, b⟩
    · exact Or.inr ⟨by omega, by rw [List.getD_cons_succ]; exact b, fun e => c (by omega)⟩
  | some (.inr (.inl y)) :: r, i + 2, v, 0, u, h => by
    simp only [lset, List.getD_cons_zero, Option.some.injEq] at h
    exact Or.inr ⟨by omega, by simp [h], fun e => by omega⟩
  | some (.inr (.inl y)) :: r, i + 2, v, j + 1, u, h => by
    simp only [lset, List.getD_cons_succ] at h
    rcases lset_get r (i + 1) v j u h with ⟨a, b⟩ | ⟨a, b, c⟩
    · exact Or.inl ⟨by omega, b⟩
    · exact Or.inr ⟨by omega, by rw [List.getD_cons_succ]; exact b, fun e => c (by omega)⟩
  | some (.inr (.inr y)) :: r, i + 1, v, 0, u, h => by
    simp only [lset, List.getD_cons_zero, Option.some.injEq] at h
    exact Or.inr ⟨by omega, by simp [h], fun _ => by rw [← h]; rfl⟩
  | some (.inr (.inr y)) :: r, i + 1, v, j + 1, u, h => by
    simp only [lset, List.getD_cons_succ] at h
    rcases lset_get r i v j u h with ⟨a, b⟩ | ⟨a, b, c⟩
    · exact Or.inl ⟨by omega, b⟩
    · exact Or.inr ⟨by omega, by rw [List.getD_cons_succ]; exact b, fun e => c (by omega)⟩
  | some (.inl y) :: r, i + 1, v, 0, u, h => by
    simp only [lset, List.getD_cons_zero, Option.some.injEq] at h
    exact Or.inr ⟨by omega, by simp [h], fun _ => by rw [← h]; rfl⟩
  | some (.inl y) :: r, i + 1, v, j + 1, u, h => by
    simp only [lset, List.getD_cons_succ] at h
    rcases lset_get r i v j u h with ⟨a, b⟩ | ⟨a, b, c⟩
    · exact Or.inl ⟨by omega, b⟩
    · exact Or.inr ⟨by omega, by rw [List.getD_cons_succ]; exact b, fun e => c (by omega)⟩
  | none :: r, i + 1, v, 0, u, h => by simp [lset] at h
  | none :: r, i + 1, v, j + 1, u, h => by
    simp only [lset, List.getD_cons_succ] at h
    rcases lset_get r i v j u h with ⟨a, b⟩ | ⟨a, b, c⟩
    · exact Or.inl ⟨by omega, b⟩
    · exact Or.inr ⟨by omega, by rw [List.getD_cons_succ]; exact b, fun e => c (by omega)⟩
theorem catA_tr (ρ : Nat → Nat → Nat) (v : AV) : (trv ρ v).category = catA v := by
  rcases v with x | x | x <;> rfl
theorem lset_len : ∀ (ls : LV) (i : Nat) (v : Option AV), (lset ls i v).length = ls.length
  | [], _, _ => rfl
  | x :: r, 0, v => rfl
  | some (.inr (.inl y)) :: r, 1, v => by simp [lset, lset_len r 0 v]
  | some (.inr (.inl y)) :: r, i + 2, v => by simp [lset, lset_len r (i + 1) v]
  | some (.inr (.inr y)) :: r, i + 1, v => by simp [lset, lset_len r i v]
  | some (.inl y) :: r, i + 1, v => by simp [lset, lset_len r i v]
  | none :: r, i + 1, v => by simp [lset, lset_len r i v]
/-- the machine's locals hold what the small machine's do -/
def lvr (ρ : Nat → Nat → Nat) (la : Array Slot) (nL : Nat) (ls : LV) : Prop := ls.length = nL ∧ lv_has la nL (lva ρ 0 ls)
theorem lv_mono {la : Array Slot} {n : Nat} {l l' : List (Nat × Value)} (h : lv_has la n l) (hs : ∀ q ∈ l', q ∈ l) : lv_has la n l' := ⟨h.1, h.2.1, fun q hq => h.2.2 q (hs q hq)⟩
theorem lvr_get {ρ : Nat → Nat → Nat} {la : Array Slot} {nL i : Nat} {ls : LV} {v : AV} (h : lvr ρ la nL ls) (hv : ls.getD i none = some v) : la[i]? = some (.val (trv ρ v)) := by
  have := h.2.2.2 _ (lva_mem (ρ := ρ) ls 0 i v hv)
  rw [Nat.zero_add] at this
  exact this
theorem lvr_lt {ρ : Nat → Nat → Nat} {la : Array Slot} {nL i : Nat} {ls : LV} {v : AV} (h : lvr ρ la nL ls) (hv : ls.getD i none = some v) : i < nL := by
  rw [← h.1]
  rcases Nat.lt_or_ge i ls.length with q | q
  · exact q
  · rw [List.getD_eq_getElem?_getD, List.getElem?_eq_none q] at hv
    cases hv
theorem lvr_set {ρ : Nat → Nat → Nat} {la la' : Array Slot} {nL i : Nat} {ls : LV} {v : AV} (h : lvr ρ la nL ls)
    (h' : lv_has la' nL ((i, trv ρ v) :: (lva ρ 0 ls).filter (fun q => !(q.1 == i) && !(q.1 + 1 == i && q.2.category == 2)))) : lvr ρ la' nL (lset ls i (some v)) := by
  refine ⟨by rw [lset_len]; exact h.1, lv_mono h' (fun q hq => ?_)⟩
  obtain ⟨j, u, h1, h2⟩ := lva_of _ _ _ hq
  rw [Nat.zero_add] at h2
  subst h2
  rcases lset_get _ _ _ _ _ h1 with ⟨rfl, hv⟩ | ⟨a, b, c⟩
  · cases hv
    exact List.mem_cons_self
  · refine List.mem_cons_of_mem _ (List.mem_filter.mpr ⟨?_, ?_⟩)
    · have := lva_mem (ρ := ρ) ls 0 j u b
      rw [Nat.zero_add] at this
      exact this
    · have hc : ¬ (j + 1 = i ∧ (trv ρ u).category = 2) := fun ⟨x, y⟩ => by
        rw [catA_tr, c x] at y
        cases y
      simp only [Bool.and_eq_true, Bool.not_eq_true', beq_eq_false_iff_ne, ne_eq, Bool.and_eq_false_imp, beq_iff_eq]
      exact ⟨a, fun x => fun y => hc ⟨x, y⟩⟩
theorem lvr_setL {ρ : Nat → Nat → Nat} {la la' : Array Slot} {nL i : Nat} {ls : LV} {x : Int64} (h : lvr ρ la nL ls)
    (h' : lv_has la' nL ((i, Value.long x) :: (lva ρ 0 ls).filter (fun q => !(q.1 == i) && (!(q.1 == i + 1) && !(q.1 + 1 == i && q.2.category == 2))))) : lvr ρ la' nL (lsetL ls i x) := by
  refine ⟨by rw [lsetL, List.length_set, lset_len]; exact h.1, lv_mono h' (fun q hq => ?_)⟩
  obtain ⟨j, u, h1, h2⟩ := lva_of _ _ _ hq
  rw [Nat.zero_add] at h2
  subst h2
  have hne : j ≠ i + 1 := by
    intro e
    subst e
    unfold lsetL at h1
    rw [List.getD_eq_getElem?_getD, List.getElem?_set] at h1
    split at h1
    · split at h1 <;> simp at h1
    · rename_i q; exact q rfl
  have h1' : (lset ls i (some (.inr (.inl x)))).getD j none = some u := by
    unfold lsetL at h1
    rw [List.getD_eq_getElem?_getD, List.getElem?_set_ne (fun e => hne e.symm), ← List.getD_eq_getElem?_getD] at h1
    exact h1
  rcases lset_get _ _ _ _ _ h1' with ⟨rfl, hv⟩ | ⟨a, b, c⟩
  · cases hv
    exact List.mem_cons_self
  · refine List.mem_cons_of_mem _ (List.mem_filter.mpr ⟨?_, ?_⟩)
    · have := lva_mem (ρ := ρ) ls 0 j u b
      rw [Nat.zero_add] at this
      exact this
    · have hc : ¬ (j + 1 = i ∧ (trv ρ u).category = 2) := fun ⟨x, y⟩ => by
        rw [catA_tr, c x] at y
        cases y
      simp only [Bool.and_eq_true, Bool.not_eq_true', beq_eq_false_iff_ne, ne_eq, Bool.and_eq_false_imp, beq_iff_eq]
      exact ⟨a, hne, fun x => fun y => hc ⟨x, y⟩⟩
/-- fewer are known -/
def lle : LV → LV → Prop := fun a b => a.length = b.length ∧ ∀ i v, a.getD i none = some v → b.getD i none = some v
theorem lvr_le {ρ : Nat → Nat → Nat} {la : Array Slot} {nL : Nat} {a b : LV} (h : lvr ρ la nL b) (hl : lle a b) : lvr ρ la nL a := by
  refine ⟨by rw [hl.1]; exact h.1, lv_mono h.2 (fun q hq => ?_)⟩
  obtain ⟨j, u, h1, h2⟩ := lva_of _ _ _ hq
  rw [h2]
  exact lva_mem b 0 j u (hl.2 j u h1)

/-! ===== the start: changes of the world, cell by cell ===== -/
def noC1 (o : WO) : Bool := decide (o.1 < 3)
def noC (l : List WO) : Bool := l.all noC1
def wo1 (o : WO) (w : Wd) : Wd := match o.1 with
  | 0 => setI w o.2.1 o.2.2.1 o.2.2.2.1 o.2.2.2.2.1
  | 1 => setR w o.2.1 o.2.2.1 o.2.2.2.1 o.2.2.2.2.2
  | _ => zrow w o.2.1 o.2.2.1
def wsq : List WO → Wd → Wd
  | [], w => w
  | o :: r, w => wsq r (wo1 o w)
theorem wops_sq {F : Nat → Wd → Option Wd} : ∀ (l : List WO) (w : Wd), noC l = true → wops F l w = some (wsq l w)
  | [], _, _ => rfl
  | o :: l, w, h => by
    unfold noC at h
    rw [List.all_cons, Bool.and_eq_true] at h
    have h1 : o.1 < 3 := of_decide_eq_true h.1
    have e : wop F o w = some (wo1 o w) := by
      obtain ⟨a, r⟩ := o
      match a, h1 with
      | 0, _ => rfl
      | 1, _ => rfl
      | 2, _ => rfl
      | a + 3, h1 => exact absurd h1 (by simp)
    show (wop F o w).bind (wops F l) = _
    rw [e]
    exact wops_sq l _ h.2
def ev1 (k i j : Nat) (o : WO) : Option Int32 := match o.1 with
  | 0 => if k = o.2.1 ∧ i = o.2.2.1 ∧ j = o.2.2.2.1 then some o.2.2.2.2.1 else none
  | 1 => none
  | _ => if k = o.2.1 ∧ i = o.2.2.1 then some 0 else none
theorem ev1_s (k i j : Nat) (o : WO) (w : Wd) : gI (wo1 o w) k i j = (ev1 k i j o).getD (gI w k i j) := by
  obtain ⟨a, k', i', j', x, q⟩ := o
  match a with
  | 0 =>
    show gI (setI w k' i' j' x) k i j = (if k = k' ∧ i = i' ∧ j = j' then some x else none).getD (gI w k i j)
    rw [gg_I]
    by_cases h : k = k' ∧ i = i' ∧ j = j'
    · rw [if_pos h, if_pos h]; rfl
    · rw [if_neg h, if_neg h]; rfl
  | 1 => rfl
  | a + 2 =>
    show gI (zrow w k' i') k i j = (if k = k' ∧ i = i' then some (0 : Int32) else none).getD (gI w k i j)
    by_cases h : k = k' ∧ i = i'
    · rw [if_pos h, h.1, h.2, gI_z]; rfl
    · rw [if_neg h, gI_zn (fun e => h ⟨congrArg Prod.fst e, congrArg Prod.snd e⟩)]; rfl
def evI (k i j : Nat) : List WO → Option Int32
  | [] => none
  | o :: r => match evI k i j r with
    | some x => some x
    | none => ev1 k i j o
theorem evI_s (k i j : Nat) : ∀ (l : List WO) (w : Wd), gI (wsq l w) k i j = (evI k i j l).getD (gI w k i j)
  | [], _ => rfl
  | o :: l, w => by
    show gI (wsq l (wo1 o w)) k i j = _
    rw [evI_s k i j l, evI]
    cases evI k i j l with
    | some x => rfl
    | none => exact ev1_s k i j o w
theorem evI_app' (k i j : Nat) : ∀ (l a : List WO), evI k i j (l ++ a) = (match evI k i j a with | some x => some x | none => evI k i j l)
  | [], a => by
    show evI k i j a = _
    cases evI k i j a with
    | some x => rfl
    | none => rfl
  | o :: l, a => by
    show evI k i j (o :: (l ++ a)) = _
    rw [evI, evI_app' k i j l a]
    cases evI k i j a with
    | some x => rfl
    | none => rfl
theorem evI_app (k i j : Nat) (l a : List WO) (x : Int32) : (evI k i j (l ++ a)).getD x = (evI k i j a).getD ((evI k i j l).getD x) := by
  rw [evI_app']
  cases evI k i j a with
  | some y => rfl
  | none => rfl
def er1 (k i j : Nat) (o : WO) : Option Nat := match o.1 with
  | 1 => if k = o.2.1 ∧ i = o.2.2.1 ∧ j = o.2.2.2.1 then some o.2.2.2.2.2 else none
  | _ => none
theorem er1_s (k i j : Nat) (o : WO) (w : Wd) : gR (wo1 o w) k i j = (er1 k i j o).getD (gR w k i j) := by
  obtain ⟨a, k', i', j', x, q⟩ := o
  match a with
  | 0 => rfl
  | 1 =>
    show gR (setR w k' i' j' q) k i j = (if k = k' ∧ i = i' ∧ j = j' then some q else none).getD (gR w k i j)
    rw [gg_R]
    by_cases h : k = k' ∧ i = i' ∧ j = j'
    · rw [if_pos h, if_pos h]; rfl
    · rw [if_neg h, if_neg h]; rfl
  | a + 2 => rfl
def evR (k i j : Nat) : List WO → Option Nat
  | [] => none
  | o :: r => match evR k i j r with
    | some x => some x
    | none => er1 k i j o
theorem evR_s (k i j : Nat) : ∀ (l : List WO) (w : Wd), gR (wsq l w) k i j = (evR k i j l).getD (gR w k i j)
  | [], _ => rfl
  | o :: l, w => by
    show gR (wsq l (wo1 o w)) k i j = _
    rw [evR_s k i j l, evR]
    cases evR k i j l with
    | some x => rfl
    | none => exact er1_s k i j o w
def evZ (k i : Nat) (l : List WO) : Bool := l.any (fun o => decide (2 ≤ o.1) && (k == o.2.1 && i == o.2.2.1))
theorem evZ_s (k i j : Nat) : ∀ (l : List WO) (w : Wd), gL (wsq l w) k i j = if evZ k i l = true then 0 else gL w k i j
  | [], _ => rfl
  | o :: l, w => by
    show gL (wsq l (wo1 o w)) k i j = _
    rw [evZ_s k i j l]
    unfold evZ
    rw [List.any_cons]
    cases hl : l.any (fun o => decide (2 ≤ o.1) && (k == o.2.1 && i == o.2.2.1)) with
    | true => rw [Bool.or_true, if_pos rfl, if_pos rfl]
    | false =>
      rw [Bool.or_false, if_neg (by decide)]
      obtain ⟨a, k', i', j', x, q⟩ := o
      match a with
      | 0 => rfl
      | 1 => rfl
      | a + 2 =>
        show gL (zrow w k' i') k i j = _
        dsimp only
        rw [show decide (2 ≤ a + 2) = true from decide_eq_true (by omega), Bool.true_and]
        by_cases h : k = k' ∧ i = i'
        · rw [if_pos (by simp [h.1, h.2]), h.1, h.2, gL_z]
        · rw [if_neg (by simpa using h), gL_zn (fun e => h ⟨congrArg Prod.fst e, congrArg Prod.snd e⟩)]
/-- a cell that isn't named -/
def unt (k i : Nat) (l : List WO) : Bool := l.all (fun o => !(k == o.2.1 && i == o.2.2.1))
theorem unt_s {k i : Nat} : ∀ (l : List WO) (w : Wd), unt k i l = true → (∀ j, gI (wsq l w) k i j = gI w k i j ∧ gL (wsq l w) k i j = gL w k i j ∧ gR (wsq l w) k i j = gR w k i j)
  | [], _, _ => fun _ => ⟨rfl, rfl, rfl⟩
  | o :: l, w, h => fun j => by
    unfold unt at h
    rw [List.all_cons, Bool.and_eq_true] at h
    have hn : ¬ (k = o.2.1 ∧ i = o.2.2.1) := fun e => by
      have := h.1
      rw [e.1, e.2] at this
      simp at this
    obtain ⟨a1, a2, a3⟩ := unt_s l (wo1 o w) h.2 j
    have e1 := ev1_s k i j o w
    have e3 := er1_s k i j o w
    have n1 : ev1 k i j o = none := by
      unfold ev1
      split
      · exact if_neg (fun z => hn ⟨z.1, z.2.1⟩)
      · rfl
      · exact if_neg hn
    have n3 : er1 k i j o = none := by
      unfold er1
      split
      · exact if_neg (fun z => hn ⟨z.1, z.2.1⟩)
      · rfl
    rw [n1] at e1
    rw [n3] at e3
    refine ⟨a1.trans e1, a2.trans ?_, a3.trans e3⟩
    obtain ⟨a, k', i', j', x, q⟩ := o
    match a with
    | 0 => rfl
    | 1 => rfl
    | a + 2 => exact congrFun (gL_zn (fun e => hn ⟨congrArg Prod.fst e, congrArg Prod.snd e⟩)) j
/-! segments between calls -/
def sg (l : List WO) : List WO := l.takeWhile noC1
def rs (l : List WO) : List WO := (l.dropWhile noC1).tail
theorem noC_sg : ∀ l, noC (sg l) = true
  | [] => rfl
  | o :: l => by
    unfold sg
    rw [List.takeWhile_cons]
    cases h : noC1 o with
    | true =>
      rw [if_pos rfl]
      unfold noC
      rw [List.all_cons, h, Bool.true_and]
      exact noC_sg l
    | false => rw [if_neg (by decide)]; rfl
theorem sg_rs {l : List WO} {o : WO} (h : (l.dropWhile noC1).head? = some o) : l = sg l ++ o :: rs l := by
  have e := (List.takeWhile_append_dropWhile (p := noC1) (l := l)).symm
  unfold sg rs
  cases hd : l.dropWhile noC1 with
  | nil => rw [hd] at h; cases h
  | cons a r =>
    rw [hd] at h e
    cases h
    exact e
theorem wops_seg {F : Nat → Wd → Option Wd} {a r : List WO} {n : Nat} {w w1 w2 : Wd} (ha : noC a = true) (ho : F n (wsq a w) = some w1) (hr : wops F r w1 = some w2) : wops F (a ++ (3, n, 0, 0, 0, 0) :: r) w = some w2 := by
  rw [wops_app, wops_sq a w ha]
  show (F n (wsq a w)).bind (wops F r) = _
  rw [ho]
  exact hr
theorem mrg_Fr {l : List Nat} {C : List (Nat × Nat)} {w x : Wd} (f : Fr l w x) : Fr l w (mrg C w x) := fun k i j hk => by
  by_cases hm : (k, i) ∈ C
  · have e := mrg_in w x hm
    rw [e.1, e.2.1, e.2.2]
    exact f k i j hk
  · have e := mrg_out C w x k i hm
    rw [e.1, e.2.1, e.2.2]
    exact ⟨rfl, rfl, rfl⟩
/-! all but what calls may change -/
def kBd : List Nat := kBg ++ [67]
def VI (l : List WO) (w w1 : Wd) : Prop := ∀ k i j, kBd.contains (ky k j) = false → gI w1 k i j = (evI k i j l).getD (gI w k i j)
theorem VI_nil (w : Wd) : VI [] w w := fun _ _ _ _ => rfl
theorem VI_seq {l : List WO} {w w1 : Wd} (h : VI l w w1) (a : List WO) : VI (l ++ a) w (wsq a w1) := fun k i j hk => by
  rw [evI_s, h k i j hk, evI_app]
theorem VI_call {l : List WO} {w w1 w2 : Wd} (h : VI l w w1) (f : Fr kBd w1 w2) : VI l w w2 := fun k i j hk => (f k i j hk).1.trans (h k i j hk)
def okI (l : List WO) (t : List (Nat × Nat × Nat × Int32)) : Bool := t.all (fun q => !kBd.contains (ky q.1 q.2.2.1) && decide (evI q.1 q.2.1 q.2.2.1 l = some q.2.2.2))
theorem okI_s {l : List WO} {t : List (Nat × Nat × Nat × Int32)} {w w1 : Wd} (h : VI l w w1) (ho : okI l t = true) : ∀ q ∈ t, gI w1 q.1 q.2.1 q.2.2.1 = q.2.2.2 := fun q hq => by
  have a := List.all_eq_true.mp ho q hq
  rw [Bool.and_eq_true] at a
  have b := of_decide_eq_true a.2
  rw [h q.1 q.2.1 q.2.2.1 (by simpa using a.1), b]
  rfl

/-! ===== constructors: a run over a table, closed data alone ===== -/
/-- an instruction: its place, itself, two numbers, a constant -/
abbrev CE : Type := Nat × Instr × Nat × Nat × Int32
def ciln (e : CE) : Nat := match e.2.1 with
  | .bipush _ | .newarray _ => 2
  | .sipush _ | .new _ | .putfield _ | .getfield _ | .invokespecial _ | .invokevirtual _ => 3
  | .multianewarray _ _ => 4
  | _ => 1
def frs (S : CS) (ext ds : List (Nat × Nat)) (ls : LV) (st : List AV) : Bool := ds.all (fun c => !(S.1 ++ ext).contains c) && (st.all (nrs ds) && nrsL ds ls)
def cal (S : CS) (ds : List (Nat × Nat)) (a b : Nat) : CS := (S.1 ++ ds, S.2.1, S.2.2.1, a, b)
/-- may the field hold that cell -/
def ptgt (k i b : Nat) (q : Nat × Nat) : Bool := match (fm k b).1 with
  | 0 => false
  | 1 => false
  | 2 => q == ((fm k b).2.1, i)
  | 3 => q.1 == (fm k b).2.1
  | 4 => q == ((fm k b).2.1, 2 * i + (fm k b).2.2)
  | _ => q == ((fm k b).2.1, (fm k b).2.2)
def sam (k i b : Nat) (x : Nat × Nat × Nat × Nat) : Bool := x.1 == k && (x.2.1 == i && x.2.2.1 == b)
def rvp (S : CS) (k i b : Nat) (q : Nat) : List (Nat × Nat × Nat × Nat) := if (fm k b).1 = 3 then (k, i, b, q) :: S.2.2.1.filter (fun x => !sam k i b x) else S.2.2.1
/-- what a field that is set holds -/
def gtgt (S : CS) (k i b : Nat) : Option (Nat × Nat) := match (fm k b).1 with
  | 0 => none
  | 1 => none
  | 2 => some ((fm k b).2.1, i)
  | 3 => (S.2.2.1.find? (sam k i b)).map fun x => ((fm k b).2.1, x.2.2.2)
  | 4 => some ((fm k b).2.1, 2 * i + (fm k b).2.2)
  | _ => some ((fm k b).2.1, (fm k b).2.2)
def intF (ci b : Nat) : Bool := match classes[ci]? with
  | some q => match parseFieldDescriptor (q.2.1 b).2.2.1 with
    | some .int => true
    | _ => false
  | none => false
def cstp (mc ms : Nat) (ext : List (Nat × Nat)) (ls : LV) (e : CE) (st : List AV) (S : CS) : Option (List AV × CS × List WO) := match e with
  | (_, ins, a, b, x) => match ins with
  | .aload_n i => match ls.getD i.val none with
    | some (.inr (.inr q)) => some (.inr (.inr q) :: st, S, [])
    | _ => none
  | .iconst _ => some (.inl x :: st, S, [])
  | .bipush _ => some (.inl x :: st, S, [])
  | .sipush _ => some (.inl x :: st, S, [])
  | .dup => match st with
    | v :: r => if catA v = 1 then some (v :: v :: r, S, []) else none
    | _ => none
  | .new _ => if (kd a).1 = 1 ∧ frs S ext [(a, b)] ls st = true ∧ S.2.2.2.1 + 1 ≤ mc ∧ S.2.2.2.2 + (kd a).2.2 ≤ ms then some (.inr (.inr (a, b)) :: st, cal S [(a, b)] (S.2.2.2.1 + 1) (S.2.2.2.2 + (kd a).2.2), zops [(a, b)]) else none
  | .newarray t => match st with
    | .inl n :: r => if atO (kd a).1 t = true ∧ (¬ n < 0 ∧ n.toNatClampNeg = ln a b) ∧ ln a b ≤ 10000 ∧ frs S ext [(a, b)] ls r = true ∧ S.2.2.2.1 + 1 ≤ mc ∧ S.2.2.2.2 + ln a b ≤ ms then some (.inr (.inr (a, b)) :: r, cal S [(a, b)] (S.2.2.2.1 + 1) (S.2.2.2.2 + ln a b), zops [(a, b)]) else none
    | _ => none
  | .multianewarray _ d => match st with
    | .inl y :: .inl n :: r => if (d = 2 ∧ (kd a).1 = 6 ∧ (kd (rk a)).1 = 2 ∧ rk a ≠ 3) ∧ (¬ n < 0 ∧ n.toNatClampNeg = ln a b) ∧ (¬ y < 0 ∧ y.toNatClampNeg = lnL.getD (rk a) 0) ∧ (ln a b ≤ 10000 ∧ lnL.getD (rk a) 0 ≤ 10000) ∧ (frs S ext (rowC a b) ls r = true ∧ (rowC a b).Nodup) ∧ S.2.2.2.1 + (1 + ln a b) ≤ mc ∧ S.2.2.2.2 + (ln a b + ln a b * lnL.getD (rk a) 0) ≤ ms then some (.inr (.inr (a, b)) :: r, cal S (rowC a b) (S.2.2.2.1 + 1 + ln a b) (S.2.2.2.2 + ln a b + ln a b * lnL.getD (rk a) 0), zops (rowC a b)) else none
    | _ => none
  | .putfield _ => match st with
    | .inr (.inr q) :: .inr (.inr c) :: r => if ((kd c.1).1 = 1 ∧ (kd c.1).2.1 = a ∧ b < (kd c.1).2.2) ∧ S.1.contains c = true ∧ (S.1 ++ ext).contains q = true ∧ ptgt c.1 c.2 b q = true then some (r, (S.1, (c.1, c.2, b) :: S.2.1, rvp S c.1 c.2 b q.2, S.2.2.2.1, S.2.2.2.2), if (fm c.1 b).1 = 3 then [(1, c.1, c.2, b, 0, q.2)] else []) else none
    | .inl y :: .inr (.inr c) :: r => if ((kd c.1).1 = 1 ∧ (kd c.1).2.1 = a ∧ b < (kd c.1).2.2) ∧ S.1.contains c = true ∧ (fm c.1 b).1 = 0 ∧ intF a b = true then some (r, S, [(0, c.1, c.2, b, y, 0)]) else none
    | _ => none
  | .getfield _ => match st with
    | .inr (.inr c) :: r => if ((kd c.1).1 = 1 ∧ (kd c.1).2.1 = a ∧ b < (kd c.1).2.2) ∧ S.1.contains c = true ∧ S.2.1.contains (c.1, c.2, b) = true then (gtgt S c.1 c.2 b).bind fun q => some (.inr (.inr q) :: r, S, []) else none
    | _ => none
  | .iastore => match st with
    | .inl y :: .inl j :: .inr (.inr c) :: r => if (kd c.1).1 = 2 ∧ S.1.contains c = true ∧ ¬ j < 0 ∧ j.toNatClampNeg < ln c.1 c.2 then some (r, S, [(0, c.1, c.2, j.toNatClampNeg, y, 0)]) else none
    | _ => none
  | .invokespecial _ => match st with
    | .inr (.inr _) :: r => if a = 0 ∧ catS r ≤ 8 then some (r, S, []) else none
    | _ => none
  | _ => none
/-- the constants of an instruction, and what its words are -/
def cok (own : String) (e : CE) : Bool := match e.2.1 with
  | .iconst n => decide (Int32.ofInt n = e.2.2.2.2)
  | .bipush n => decide ((Int8.ofInt n).toInt32 = e.2.2.2.2)
  | .sipush n => decide ((Int16.ofInt n).toInt32 = e.2.2.2.2)
  | .putfield _ => cfnO own e.2.2.1 e.2.2.2.1
  | _ => true
def cwd (own : String) (e : CE) : List Cond := match e.2.1 with
  | .new idx => newW own idx (kd e.2.2.1).2.1
  | .newarray t => [.arrayClass (newarray.typeOf t)]
  | .multianewarray idx _ => mnaW own idx
  | .putfield idx => fldW own idx e.2.2.1 e.2.2.2.1
  | .getfield idx => fldW own idx e.2.2.1 e.2.2.2.1
  | .invokespecial idx => match e.2.2.1 with
    | 0 => objW own idx
    | _ => []
  | _ => []
theorem frs_of {S : CS} {ext ds : List (Nat × Nat)} {ls : LV} {st : List AV} (h : frs S ext ds ls st = true) : (∀ c ∈ ds, c ∉ S.1 ++ ext) ∧ st.all (nrs ds) = true ∧ nrsL ds ls = true := by
  unfold frs at h
  rw [Bool.and_eq_true, Bool.and_eq_true] at h
  refine ⟨fun c hc hm => ?_, h.2.1, h.2.2⟩
  have h1 := List.all_eq_true.mp h.1 c hc
  rw [List.contains_iff_mem.mpr hm] at h1
  cases h1
theorem nrs_1 {k i : Nat} {v : AV} (h : nrs [(k, i)] v = true) : nrf k i v = true := by
  match v, h with
  | .inl _, _ => rfl
  | .inr (.inl _), _ => rfl
  | .inr (.inr q), h =>
    simp only [nrs, List.contains_cons, List.contains_nil, Bool.or_false, Bool.not_eq_true', beq_eq_false_iff_ne] at h
    simp only [nrf, Bool.not_eq_true', Bool.and_eq_false_imp, beq_iff_eq, beq_eq_false_iff_ne]
    intro h1 h2
    exact h (Prod.ext h1 h2)
theorem nrs_1s {k i : Nat} {st : List AV} (h : st.all (nrs [(k, i)]) = true) : st.all (nrf k i) = true := List.all_eq_true.mpr (fun v hv => nrs_1 (List.all_eq_true.mp h v hv))
theorem nrs_1L {k i : Nat} : ∀ {ls : LV}, nrsL [(k, i)] ls = true → nrfL k i ls = true
  | [], _ => rfl
  | none :: r, h => nrs_1L (ls := r) h
  | some v :: r, h => by
    have h' : nrs [(k, i)] v = true ∧ nrsL [(k, i)] r = true := by simpa [nrsL] using h
    show (nrf k i v && nrfL k i r) = true
    rw [nrs_1 h'.1, nrs_1L h'.2]
    rfl
theorem wop0 {F : Nat → Wd → Option Wd} {w w1 : Wd} (h : wops F [] w = some w1) : w1 = w := (Option.some.inj h).symm
theorem wop1 {F : Nat → Wd → Option Wd} {w w1 : Wd} {k i j : Nat} {x : Int32} (h : wops F [(0, k, i, j, x, 0)] w = some w1) : w1 = setI w k i j x := (Option.some.inj h).symm
theorem wopR {F : Nat → Wd → Option Wd} {w w1 : Wd} {k i j q : Nat} (h : wops F [(1, k, i, j, 0, q)] w = some w1) : w1 = setR w k i j q := (Option.some.inj h).symm
theorem wopZ {F : Nat → Wd → Option Wd} {w w1 : Wd} {l : List (Nat × Nat)} (h : wops F (zops l) w = some w1) : w1 = zrows w l := by
  rw [zops_eq] at h
  exact (Option.some.inj h).symm
theorem sam_iff {k i b : Nat} {x : Nat × Nat × Nat × Nat} : sam k i b x = true ↔ x.1 = k ∧ x.2.1 = i ∧ x.2.2.1 = b := by
  simp [sam]
theorem ptgt_of {w : Wd} {k i b : Nat} {q : Nat × Nat} (h : ptgt k i b q = true) : 2 ≤ (fm k b).1 ∧ ((fm k b).1 ≠ 3 → fget w k i b (fm k b) = .inr (.inr q)) ∧ ((fm k b).1 = 3 → fget (setR w k i b q.2) k i b (fm k b) = .inr (.inr q)) := by
  unfold ptgt at h
  split at h
  · cases h
  · cases h
  · rename_i e
    refine ⟨by omega, fun _ => ?_, fun z => by omega⟩
    unfold fget
    rw [e, eq_of_beq h]
    rfl
  · rename_i e
    refine ⟨by omega, fun z => absurd e z, fun _ => ?_⟩
    unfold fget
    rw [e]
    have e2 : gR (setR w k i b q.2) k i b = q.2 := by simp [gR, setR, up3]
    show (Sum.inr (Sum.inr ((fm k b).2.1, gR (setR w k i b q.2) k i b)) : AV) = _
    rw [e2, ← eq_of_beq h]
  · rename_i e
    refine ⟨by omega, fun _ => ?_, fun z => by omega⟩
    unfold fget
    rw [e, eq_of_beq h]
    rfl
  · rename_i e0 e1 e2 e3 e4
    have hm : 5 ≤ (fm k b).1 := by
      match hm : (fm k b).1 with
      | 0 => exact absurd hm e0
      | 1 => exact absurd hm e1
      | 2 => exact absurd hm e2
      | 3 => exact absurd hm e3
      | 4 => exact absurd hm e4
      | n + 5 => omega
    refine ⟨by omega, fun _ => ?_, fun z => by omega⟩
    obtain ⟨n, hn⟩ : ∃ n, (fm k b).1 = n + 5 := ⟨(fm k b).1 - 5, by omega⟩
    unfold fget
    rw [hn, eq_of_beq h]
    rfl
theorem gtgt_of {S : CS} {w : Wd} {k i b : Nat} {q : Nat × Nat} (h : gtgt S k i b = some q) (hrv : ∀ k i f x, (k, i, f, x) ∈ S.2.2.1 → gR w k i f = x) : fget w k i b (fm k b) = .inr (.inr q) := by
  unfold gtgt at h
  split at h
  · cases h
  · cases h
  · rename_i e
    unfold fget
    rw [e, ← Option.some.inj h]
    rfl
  · rename_i e
    cases hf : S.2.2.1.find? (sam k i b) with
    | none => rw [hf] at h; cases h
    | some x =>
      rw [hf] at h
      have h1 := sam_iff.mp (List.find?_some hf)
      have h2 := List.mem_of_find?_eq_some hf
      have h3 := hrv k i b x.2.2.2 (by
        have e9 : (k, i, b, x.2.2.2) = x := by
          rw [← h1.1, ← h1.2.1, ← h1.2.2]
        rw [e9]
        exact h2)
      unfold fget
      rw [e, ← Option.some.inj h]
      show (Sum.inr (Sum.inr ((fm k b).2.1, gR w k i b)) : AV) = _
      rw [h3]
  · rename_i e
    unfold fget
    rw [e, ← Option.some.inj h]
    rfl
  · rename_i e0 e1 e2 e3 e4
    have hm : 5 ≤ (fm k b).1 := by
      match hm : (fm k b).1 with
      | 0 => exact absurd hm e0
      | 1 => exact absurd hm e1
      | 2 => exact absurd hm e2
      | 3 => exact absurd hm e3
      | 4 => exact absurd hm e4
      | n + 5 => omega
    obtain ⟨n, hn⟩ : ∃ n, (fm k b).1 = n + 5 := ⟨(fm k b).1 - 5, by omega⟩
    unfold fget
    rw [hn, ← Option.some.inj h]
    rfl
theorem intF_of {ci b : Nat} {q : vw_C} (h : intF ci b = true) (hq : classes[ci]? = some q) : parseFieldDescriptor (q.2.1 b).2.2.1 = some .int := by
  unfold intF at h
  rw [hq] at h
  dsimp only at h
  split at h
  · rename_i e; exact e
  · cases h

/-! ===== constructors: pictures of cells whose references aren't all set ===== -/
/-- what stands: cells, fields that are set, what the changing references hold, cells and places made so far -/
abbrev CS : Type := List (Nat × Nat) × List (Nat × Nat × Nat) × List (Nat × Nat × Nat × Nat) × Nat × Nat
/-- a change of the world: 0 an int, 1 a number of an object, 2 a new cell, 3 a call -/
abbrev WO : Type := Nat × Nat × Nat × Nat × Int32 × Nat
def zrow (w : Wd) (k i : Nat) : Wd := (upRow w.1 k i (fun _ => 0), upRow w.2.1 k i (fun _ => 0), w.2.2)
def wop (F : Nat → Wd → Option Wd) (o : WO) (w : Wd) : Option Wd := match o.1 with
  | 0 => some (setI w o.2.1 o.2.2.1 o.2.2.2.1 o.2.2.2.2.1)
  | 1 => some (setR w o.2.1 o.2.2.1 o.2.2.2.1 o.2.2.2.2.2)
  | 2 => some (zrow w o.2.1 o.2.2.1)
  | _ => F o.2.1 w
def wops (F : Nat → Wd → Option Wd) : List WO → Wd → Option Wd
  | [], w => some w
  | o :: r, w => (wop F o w).bind (wops F r)
theorem wops_app (F : Nat → Wd → Option Wd) : ∀ (a b : List WO) (w : Wd), wops F (a ++ b) w = (wops F a w).bind (wops F b)
  | [], b, w => rfl
  | o :: a, b, w => by
    show (wop F o w).bind (wops F (a ++ b)) = ((wop F o w).bind (wops F a)).bind (wops F b)
    cases wop F o w with
    | none => rfl
    | some w1 => exact wops_app F a b w1
/-- a field as it stands: null until it is set -/
def fvN (u : List (Nat × Nat × Nat)) (ρ : Nat → Nat → Nat) (w : Wd) (k i f : Nat) : Value := if 2 ≤ (fm k f).1 ∧ u.contains (k, i, f) = false then .null else trv ρ (fget w k i f (fm k f))
def entN (u : List (Nat × Nat × Nat)) (ρ : Nat → Nat → Nat) (aC : Nat → ClassId) (w : Wd) (k i : Nat) : va_E := match (kd k).1 with
  | 1 => .inr ((kd k).2.1, (List.range (kd k).2.2).map (fvN u ρ w k i))
  | 6 => .inl (aC 6, ln k i, .inr (.inr (.inr (.inr (fun j => if j < ln k i then some (ρ (rk k) (j + ln k i * i)) else none)))))
  | _ => ent ρ aC w k i
def picN (u : List (Nat × Nat × Nat)) (cs : List (Nat × Nat)) (ρ : Nat → Nat → Nat) (aC : Nat → ClassId) (w : Wd) : va_W := cs.map fun c => (ρ c.1 c.2, entN u ρ aC w c.1 c.2)
section
variable {u u1 : List (Nat × Nat × Nat)} {al cs : List (Nat × Nat)} {ρ ρ1 : Nat → Nat → Nat} {aC : Nat → ClassId} {w w1 : Wd} {k i : Nat}
theorem entN_1 (h : (kd k).1 = 1) : entN u ρ aC w k i = .inr ((kd k).2.1, (List.range (kd k).2.2).map (fvN u ρ w k i)) := by unfold entN; rw [h]; rfl
theorem entN_6 (h : (kd k).1 = 6) : entN u ρ aC w k i = .inl (aC 6, ln k i, .inr (.inr (.inr (.inr (fun j => if j < ln k i then some (ρ (rk k) (j + ln k i * i)) else none))))) := by unfold entN; rw [h]; rfl
theorem entN_a (h : 2 ≤ (kd k).1) (h' : (kd k).1 ≤ 5) : entN u ρ aC w k i = ent ρ aC w k i := by
  unfold entN
  split
  · rename_i e; omega
  · rename_i e; omega
  · rfl
/-- where a cell's references lead -/
def clN (al : List (Nat × Nat)) (u : List (Nat × Nat × Nat)) (w : Wd) (k i : Nat) : Prop := (1 ≤ (kd k).1 ∧ (kd k).1 ≤ 6) ∧
  ((kd k).1 = 1 → ∀ f, f < (kd k).2.2 → u.contains (k, i, f) = true → ∀ q, fget w k i f (fm k f) = .inr (.inr q) → q ∈ al) ∧
  ((kd k).1 = 6 → ∀ j, j < ln k i → (rk k, j + ln k i * i) ∈ al)
theorem fget_congr (h1 : gI w1 k i = gI w k i) (h2 : gL w1 k i = gL w k i) (h3 : gR w1 k i = gR w k i) (f : Nat) (md : Nat × Nat × Nat) : fget w1 k i f md = fget w k i f md := by
  unfold fget
  rw [h1, h2, h3]
theorem fget_ref {f : Nat} {q : Nat × Nat} (h : fget w k i f (fm k f) = .inr (.inr q)) : 2 ≤ (fm k f).1 := by
  unfold fget at h
  match hm : (fm k f).1 with
  | 0 => rw [hm] at h; cases h
  | 1 => rw [hm] at h; cases h
  | n + 2 => omega
theorem entN_eq (h1 : gI w1 k i = gI w k i) (h2 : gL w1 k i = gL w k i) (h3 : gR w1 k i = gR w k i) (hu : ∀ f, u1.contains (k, i, f) = u.contains (k, i, f)) (hρ : ∀ q : Nat × Nat, q ∈ al → ρ1 q.1 q.2 = ρ q.1 q.2) (hc : clN al u w k i) : entN u1 ρ1 aC w1 k i = entN u ρ aC w k i := by
  obtain ⟨⟨ha, hb⟩, hc1, hc6⟩ := hc
  by_cases k1 : (kd k).1 = 1
  · rw [entN_1 k1, entN_1 k1]
    refine congrArg (fun z => (Sum.inr ((kd k).2.1, z) : va_E)) (List.map_congr_left (fun f hf => ?_))
    have hf := List.mem_range.mp hf
    unfold fvN
    rw [hu f, fget_congr h1 h2 h3]
    by_cases hn : 2 ≤ (fm k f).1 ∧ u.contains (k, i, f) = false
    · rw [if_pos hn, if_pos hn]
    · rw [if_neg hn, if_neg hn]
      match hv : fget w k i f (fm k f) with
      | .inl x => rfl
      | .inr (.inl x) => rfl
      | .inr (.inr q) =>
        have h2 := fget_ref hv
        have hct : u.contains (k, i, f) = true := by
          cases hq : u.contains (k, i, f) with
          | true => rfl
          | false => exact absurd ⟨h2, hq⟩ hn
        show Value.ref (ρ1 q.1 q.2) = Value.ref (ρ q.1 q.2)
        rw [hρ q (hc1 k1 f hf hct q hv)]
  · by_cases k6 : (kd k).1 = 6
    · rw [entN_6 k6, entN_6 k6]
      refine congrArg (fun z => (Sum.inl (aC 6, ln k i, Sum.inr (Sum.inr (Sum.inr (Sum.inr z)))) : va_E)) (funext fun j => ?_)
      by_cases hj : j < ln k i
      · rw [if_pos hj, if_pos hj]
        have := hρ _ (hc6 k6 j hj)
        dsimp only at this
        rw [this]
      · rw [if_neg hj, if_neg hj]
    · rw [entN_a (by omega) (by omega), entN_a (by omega) (by omega)]
      have hk : (kd k).1 = 2 ∨ (kd k).1 = 3 ∨ (kd k).1 = 4 ∨ (kd k).1 = 5 := by omega
      rcases hk with hk | hk | hk | hk
      · rw [ent_2 hk, ent_2 hk, h1]
      · rw [ent_3 hk, ent_3 hk, h2]
      · rw [ent_4 hk, ent_4 hk, h1]
      · rw [ent_5 hk, ent_5 hk, h1]
theorem picN_at (h : (k, i) ∈ cs) : ∃ q0 : Nat, cs[q0]? = some (k, i) ∧ (picN u cs ρ aC w)[q0]? = some (ρ k i, entN u ρ aC w k i) := by
  obtain ⟨q0, hq⟩ := List.getElem?_of_mem h
  exact ⟨q0, hq, by rw [picN, List.getElem?_map, hq]; rfl⟩
theorem picN_set {q0 : Nat} (hn : cs.Nodup) (hq : cs[q0]? = some (k, i)) {x : va_E} (hx : entN u1 ρ aC w1 k i = x) (ho : ∀ c ∈ cs, c ≠ (k, i) → entN u1 ρ aC w1 c.1 c.2 = entN u ρ aC w c.1 c.2) :
    (picN u cs ρ aC w).set q0 (ρ k i, x) = picN u1 cs ρ aC w1 := by
  apply List.ext_getElem?
  intro j
  have hl : q0 < cs.length := (List.getElem?_eq_some_iff.mp hq).1
  by_cases hj : q0 = j
  · subst hj
    rw [List.getElem?_set_self (by rw [picN, List.length_map]; exact hl), picN, List.getElem?_map, hq, ← hx]
    rfl
  · rw [List.getElem?_set_ne hj, picN, picN, List.getElem?_map, List.getElem?_map]
    cases hc : cs[j]? with
    | none => rfl
    | some c =>
      have hne : c ≠ (k, i) := by
        intro h
        subst h
        exact hj ((List.getElem?_inj hl hn).mp (by rw [hq, hc]))
      simp only [Option.map_some]
      rw [ho c (List.mem_of_getElem? hc) hne]
theorem picN_cong (h : ∀ c ∈ cs, ρ1 c.1 c.2 = ρ c.1 c.2 ∧ entN u1 ρ1 aC w1 c.1 c.2 = entN u ρ aC w c.1 c.2) : picN u1 cs ρ1 aC w1 = picN u cs ρ aC w :=
  List.map_congr_left (fun c hc => by rw [(h c hc).1, (h c hc).2])
theorem picN_app (ds : List (Nat × Nat)) : picN u (cs ++ ds) ρ aC w = picN u cs ρ aC w ++ picN u ds ρ aC w := List.map_append
end
/-- a new address -/
def rup (ρ : Nat → Nat → Nat) (k i a : Nat) : Nat → Nat → Nat := fun k' i' => if k' = k ∧ i' = i then a else ρ k' i'
theorem rup_self (ρ : Nat → Nat → Nat) (k i a : Nat) : rup ρ k i a k i = a := if_pos ⟨rfl, rfl⟩
theorem rup_ne {ρ : Nat → Nat → Nat} {k i a k' i' : Nat} (h : (k', i') ≠ (k, i)) : rup ρ k i a k' i' = ρ k' i' := if_neg (fun z => h (by rw [z.1, z.2]))
/-- a value that isn't that cell -/
def nrf (k i : Nat) : AV → Bool
  | .inr (.inr q) => !(q.1 == k && q.2 == i)
  | _ => true
def nrfL (k i : Nat) : LV → Bool
  | [] => true
  | none :: r => nrfL k i r
  | some v :: r => nrf k i v && nrfL k i r
theorem trv_rup {ρ : Nat → Nat → Nat} {k i a : Nat} {v : AV} (h : nrf k i v = true) : trv (rup ρ k i a) v = trv ρ v := by
  match v, h with
  | .inl _, _ => rfl
  | .inr (.inl _), _ => rfl
  | .inr (.inr q), h =>
    show Value.ref (rup ρ k i a q.1 q.2) = Value.ref (ρ q.1 q.2)
    rw [rup_ne (fun z => by
      have z1 : q.1 = k := congrArg Prod.fst z
      have z2 : q.2 = i := congrArg Prod.snd z
      simp [nrf, z1, z2] at h)]
theorem map_rup {ρ : Nat → Nat → Nat} {k i a : Nat} {st : List AV} (h : st.all (nrf k i) = true) : st.map (trv (rup ρ k i a)) = st.map (trv ρ) :=
  List.map_congr_left (fun v hv => trv_rup (List.all_eq_true.mp h v hv))
theorem lva_rup {ρ : Nat → Nat → Nat} {k i a : Nat} : ∀ (ls : LV) (b : Nat), nrfL k i ls = true → lva (rup ρ k i a) b ls = lva ρ b ls
  | [], _, _ => rfl
  | none :: r, b, h => lva_rup r (b + 1) h
  | some v :: r, b, h => by
    have h' : nrf k i v = true ∧ nrfL k i r = true := by simpa [nrfL] using h
    show (b, trv (rup ρ k i a) v) :: lva (rup ρ k i a) (b + 1) r = (b, trv ρ v) :: lva ρ (b + 1) r
    rw [trv_rup h'.1, lva_rup r (b + 1) h'.2]
theorem lvr_rup {ρ : Nat → Nat → Nat} {k i a nL : Nat} {la : Array Slot} {ls : LV} (h : nrfL k i ls = true) (hl : lvr ρ la nL ls) : lvr (rup ρ k i a) la nL ls := ⟨hl.1, by rw [lva_rup ls 0 h]; exact hl.2⟩
/-! what is kept -/
def CI (S : CS) (ext : List (Nat × Nat)) (w : Wd) : Prop := S.1.Nodup ∧ (∀ k i, (k, i) ∈ S.1 → clN (S.1 ++ ext) S.2.1 w k i) ∧ (∀ k i f, S.2.1.contains (k, i, f) = true → (k, i) ∈ S.1) ∧ (∀ k i f x, (k, i, f, x) ∈ S.2.2.1 → gR w k i f = x)
/-- links between nest mates that make objects, and the rows' class -/
def nestL : List Cond := [.methodLinkNest RX11 15 yX4_init RX11, .methodLinkNest RX4 23 yX6_init RX11, .methodLinkNest RX4 51 yX1_init RX11, .methodLinkNest RX11 81 yX0_init RX11]
def exN (U : State) : Prop := (∀ x ∈ nestL, va_Nw x U) ∧ (Cond.arrayOver (.array .int)).before #[] U = true
def CW (X : XT) (ext : List (Nat × Nat)) (pc : Nat) (ls : LV) (st : List AV) (S : CS) (w : Wd) : Prop := match X with
  | (p, l, e, R, s, m, args, below, meth, c, _, _, Q, cs0, ρ0, D, aC, A, nL) => ∀ (ρ : Nat → Nat → Nat) (H : Heap) (locs : List Loc) (la : Array Slot), cs0.length ≤ S.1.length → (∀ k i, (k, i) ∉ S.1.drop cs0.length → ρ k i = ρ0 k i) → lvr ρ la nL ls → CI S ext w →
      va_P D classes (picN S.2.1 S.1 ρ aC w) H → va_D A (picN S.2.1 S.1 ρ aC w) → va_S A s.heap H locs → W p l e R s m args below meth c H locs S.2.2.2.1 S.2.2.2.2 Q (F0 m pc la (st.map (trv ρ)))
def GC0 (X : XT) (cc : ByteArray) (own : String) : Prop := match X with
  | (p, _, _, R, s, m, args, _, _, c, mc, ms, _, cs0, ρ0, D, aC, A, nL) => exS ρ0 A s ∧ exN s ∧ p.tables.exec = Jvm.exec ∧ c.code = cc ∧ c.maxLocals = nL ∧ s.vm.findClass own = some m.cls ∧ (∀ w ∈ lwg, w.before args s = true) ∧
      va_K D classes (atys aC) s ∧ (∀ q, s.heap.size ≤ q → A q) ∧ mc ≤ R.cells ∧ ms ≤ R.slots ∧ 1 ≤ R.frames ∧ 64 ≤ R.locals
def GC (X : XT) (cc : ByteArray) (own : String) : Prop := match X with
  | (p, _, _, R, s, m, args, _, meth, c, mc, ms, _, cs0, ρ0, D, aC, A, nL) => exS ρ0 A s ∧ exN s ∧ p.tables.exec = Jvm.exec ∧ c.code = cc ∧ c.maxLocals = nL ∧ s.vm.findClass own = some m.cls ∧ (∀ w ∈ lwg, w.before args s = true) ∧
      va_K D classes (atys aC) s ∧ (∀ q, s.heap.size ≤ q → A q) ∧ mc ≤ R.cells ∧ ms ≤ R.slots ∧ 1 ≤ R.frames ∧ 64 ≤ R.locals ∧ (meth.name = "<init>" ∨ own = "MoorGuidesLaw")
def xMe (X : XT) : Method := X.2.2.2.2.2.2.2.2.1
theorem GC.g0 {X : XT} {cc : ByteArray} {own : String} (G : GC X cc own) : GC0 X cc own := by
  obtain ⟨p, l, e0, R, s, m, args, below, meth, c, mc, ms, Q, cs0, ρ0, D, aC, A, nL⟩ := X
  obtain ⟨h1, h2, h3, h4, h5, h6, h7, h8, h9, h10, h11, h12, h13, h14⟩ := G
  exact ⟨h1, h2, h3, h4, h5, h6, h7, h8, h9, h10, h11, h12, h13⟩
theorem GC.name {X : XT} {cc : ByteArray} {own : String} (G : GC X cc own) : (xMe X).name = "<init>" ∨ own = "MoorGuidesLaw" := by
  obtain ⟨p, l, e0, R, s, m, args, below, meth, c, mc, ms, Q, cs0, ρ0, D, aC, A, nL⟩ := X
  exact G.2.2.2.2.2.2.2.2.2.2.2.2.2

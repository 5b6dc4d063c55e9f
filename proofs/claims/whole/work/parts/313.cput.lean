/-! ===== constructors: fields and places ===== -/
section
variable {X : XT} {cc : ByteArray} {own : String} {ext : List (Nat × Nat)} {pc : Nat} {ls : LV} {st : List AV} {S : CS} {w w1 : Wd}
/-- a field's link, and that a final one is written by its own class -/
def fldW (own : String) (idx ci b : Nat) : List Cond := match classes[ci]? with
  | some q => [.fieldLink own idx (q.2.1 b).1 (q.2.1 b).2.1 (q.2.1 b).2.2.1]
  | none => []
def cfnO (own : String) (ci b : Nat) : Bool := match classes[ci]? with
  | some q => !(q.2.1 b).2.2.2 || ((q.2.1 b).1 == own && own != "MoorGuidesLaw")
  | none => false
theorem ref_fit {d : String} {n : Nat} (h : tyMode d n = true) (hn : 2 ≤ n) : ∃ ty, parseFieldDescriptor d = some ty ∧ ∀ a : Nat, narrow ty (.ref a) = .ref a ∧ fits ty (.ref a) = true := by
  cases hp : parseFieldDescriptor d with
  | none => simp [tyMode, hp] at h
  | some ty =>
    rcases n with _ | _ | n
    · omega
    · omega
    · cases ty <;> simp [tyMode, hp] at h
      · exact ⟨_, rfl, fun a => ⟨rfl, rfl⟩⟩
      · exact ⟨_, rfl, fun a => ⟨rfl, rfl⟩⟩
/-- a putfield of either kind -/
theorem cs_put0 (G : GC0 X cc own) {idx k i b : Nat} {v : AV} {u1 : List (Nat × Nat × Nat)} {rv1 : List (Nat × Nat × Nat × Nat)} (hd : decode cc pc = .ok (.putfield idx, 3)) (hk : (kd k).1 = 1) (hfb : b < (kd k).2.2) (hw : ∀ x ∈ fldW own idx (kd k).2.1 b, x ∈ lwg) (hfn : ∀ q, classes[(kd k).2.1]? = some q → (q.2.1 b).2.2.2 = true → (xMe X).name = "<init>" ∧ (q.2.1 b).1 = own) (hm : (k, i) ∈ S.1)
    (hty : ∀ q, classes[(kd k).2.1]? = some q → ∃ ty, parseFieldDescriptor (q.2.1 b).2.2.1 = some ty ∧ ∀ ρ : Nat → Nat → Nat, narrow ty (trv ρ v) = trv ρ v ∧ fits ty (trv ρ v) = true)
    (hv : fget w1 k i b (fm k b) = v) (hc : 2 ≤ (fm k b).1 → u1.contains (k, i, b) = true) (hu : ∀ k' i' f, (k', i', f) ≠ (k, i, b) → u1.contains (k', i', f) = S.2.1.contains (k', i', f)) (hub : u1.contains (k, i, b) = true → 2 ≤ (fm k b).1 ∨ S.2.1.contains (k, i, b) = true)
    (hg : ∀ k' i' f, (k', i', f) ≠ (k, i, b) → gI w1 k' i' f = gI w k' i' f ∧ gL w1 k' i' f = gL w k' i' f ∧ gR w1 k' i' f = gR w k' i' f) (hq : ∀ q, v = .inr (.inr q) → q ∈ S.1 ++ ext) (hrv : (∀ k i f x, (k, i, f, x) ∈ S.2.2.1 → gR w k i f = x) → ∀ k i f x, (k, i, f, x) ∈ rv1 → gR w1 k i f = x)
    (h : CW X ext (pc + 3) ls st (S.1, u1, rv1, S.2.2.2.1, S.2.2.2.2) w1) : CW X ext pc ls (v :: .inr (.inr (k, i)) :: st) S w := by
  obtain ⟨p, l, e0, R, s, m, args, below, meth, c, mc, ms, Q, cs0, ρ0, D, aC, A, nL⟩ := X
  obtain ⟨hex, hen, hx, hb, hml, hown, hts, hK, hA, hcc, hcs, hfr, hlo⟩ := G
  intro ρ H locs la hle hρ hl hI hP hD hS
  obtain ⟨⟨C, TT, N⟩, hcq, hN⟩ := kd_cls hk
  dsimp only at hN
  have hww : fldW own idx (kd k).2.1 b = [.fieldLink own idx (TT b).1 (TT b).2.1 (TT b).2.2.1] := by unfold fldW; rw [hcq]
  rw [hww] at hw
  obtain ⟨ty, hty1, hty2⟩ := hty _ hcq
  have hfn' := hfn _ hcq
  obtain ⟨q0, hq0, hq0'⟩ := picN_at (u := S.2.1) (ρ := ρ) (aC := aC) (w := w) hm
  rw [entN_1 hk] at hq0'
  obtain ⟨i1, i2, i3, i4⟩ := hI
  have hfv : ∀ f, f ≠ b → fvN u1 ρ w1 k i f = fvN S.2.1 ρ w k i f := fun f hne => by
    have e := hg k i f (fun z => hne (congrArg (fun x => x.2.2) z))
    unfold fvN fget
    rw [hu k i f (fun z => hne (congrArg (fun x => x.2.2) z)), e.1, e.2.1, e.2.2]
  have hset : (picN S.2.1 S.1 ρ aC w).set q0 (ρ k i, .inr ((kd k).2.1, ((List.range (kd k).2.2).map (fvN S.2.1 ρ w k i)).set b (trv ρ v))) = picN u1 S.1 ρ aC w1 := by
    refine picN_set i1 hq0 ?_ (fun c hc1 hne => ?_)
    · rw [entN_1 hk]
      refine congrArg (fun z => (Sum.inr ((kd k).2.1, z) : va_E)) ?_
      apply List.ext_getElem?
      intro n
      by_cases e : b = n
      · subst e
        rw [List.getElem?_set_self (by rw [List.length_map, List.length_range]; exact hfb), List.getElem?_map, List.getElem?_range hfb]
        show some (fvN u1 ρ w1 k i b) = _
        unfold fvN
        rw [hv, if_neg (fun z => by rw [hc z.1] at z; exact absurd z.2 (by decide))]
      · rw [List.getElem?_set_ne e, List.getElem?_map, List.getElem?_map]
        rcases Nat.lt_or_ge n (kd k).2.2 with hn | hn
        · rw [List.getElem?_range hn]
          show some (fvN u1 ρ w1 k i n) = some (fvN S.2.1 ρ w k i n)
          rw [hfv n (fun z => e z.symm)]
        · rw [List.getElem?_eq_none (by rw [List.length_range]; exact hn)]
          rfl
    · have hne' : ∀ f, (c.1, c.2, f) ≠ (k, i, b) := fun f z => hne (by
        have z1 : c.1 = k := congrArg (fun x => x.1) z
        have z2 : c.2 = i := congrArg (fun x => x.2.1) z
        exact Prod.ext z1 z2)
      exact entN_eq (al := S.1 ++ ext) (funext fun f => (hg _ _ f (hne' f)).1) (funext fun f => (hg _ _ f (hne' f)).2.1) (funext fun f => (hg _ _ f (hne' f)).2.2) (fun f => hu _ _ f (hne' f)) (fun _ _ => rfl) (i2 c.1 c.2 hc1)
  have hI1 : CI (S.1, u1, rv1, S.2.2.2.1, S.2.2.2.2) ext w1 := by
    refine ⟨i1, fun k' i' hm' => ⟨(i2 k' i' hm').1, fun h1 f hf hcf q hqf => ?_, (i2 k' i' hm').2.2⟩, fun k' i' f hcf => ?_, hrv i4⟩
    · by_cases e : (k', i', f) = (k, i, b)
      · cases e
        exact hq q (hv.symm.trans hqf)
      · have g := hg k' i' f e
        dsimp only at hcf
        rw [hu k' i' f e] at hcf
        refine (i2 k' i' hm').2.1 h1 f hf hcf q ?_
        rw [← hqf]
        unfold fget
        rw [g.1, g.2.1, g.2.2]
    · by_cases e : (k', i', f) = (k, i, b)
      · cases e
        exact hm
      · dsimp only at hcf
        rw [hu k' i' f e] at hcf
        exact i3 k' i' f hcf
  have kk : ∀ (H1 : Heap) (locs1 : List Loc), va_P D classes ((picN S.2.1 S.1 ρ aC w).set q0 (ρ k i, .inr ((kd k).2.1, ((List.range (kd k).2.2).map (fvN S.2.1 ρ w k i)).set b (trv ρ v)))) H1 → va_D A ((picN S.2.1 S.1 ρ aC w).set q0 (ρ k i, .inr ((kd k).2.1, ((List.range (kd k).2.2).map (fvN S.2.1 ρ w k i)).set b (trv ρ v)))) → va_S A s.heap H1 locs1 → W p l e0 R s m args below meth c H1 locs1 S.2.2.2.1 S.2.2.2.2 Q (F0 m (pc + 3) la (st.map (trv ρ))) := fun H1 locs1 hP1 hD1 hS1 => by
    rw [hset] at hP1 hD1
    exact h ρ H1 locs1 la hle hρ hl hI1 hP1 hD1 hS1
  have hNb : b < N := by rw [hN]; exact hfb
  cases hfin : (TT b).2.2.2 with
  | false => exact va_put hx hb hts (cls_ws hcq) (tyOf (kd k).2.1) (cls_ok _ _ hcq).1 (cls_ok _ _ hcq).2 hown hK hP hD hS q0 hq0' hcq b hNb (hts _ (hw _ (by simp))) (fun _ h9 => h9) hfin hty1 (hty2 ρ).1 (hty2 ρ).2 (by rw [List.length_map, List.length_range]; exact hfb) hd kk
  | true =>
    obtain ⟨hin, hdc⟩ := hfn' hfin
    exact va_putF hx hb hts (cls_ws hcq) (tyOf (kd k).2.1) (cls_ok _ _ hcq).1 (cls_ok _ _ hcq).2 hown hK hP hD hS q0 hq0' hcq b hNb (hts _ (hw _ (by simp))) (fun _ h9 => h9) hfin hin hdc hty1 (hty2 ρ).1 (hty2 ρ).2 (by rw [List.length_map, List.length_range]; exact hfb) hd kk
theorem cs_put (G : GC X cc own) {idx k i b : Nat} {v : AV} {u1 : List (Nat × Nat × Nat)} {rv1 : List (Nat × Nat × Nat × Nat)} (hd : decode cc pc = .ok (.putfield idx, 3)) (hk : (kd k).1 = 1) (hfb : b < (kd k).2.2) (hw : ∀ x ∈ fldW own idx (kd k).2.1 b, x ∈ lwg) (hfn : cfnO own (kd k).2.1 b = true) (hm : (k, i) ∈ S.1)
    (hty : ∀ q, classes[(kd k).2.1]? = some q → ∃ ty, parseFieldDescriptor (q.2.1 b).2.2.1 = some ty ∧ ∀ ρ : Nat → Nat → Nat, narrow ty (trv ρ v) = trv ρ v ∧ fits ty (trv ρ v) = true)
    (hv : fget w1 k i b (fm k b) = v) (hc : 2 ≤ (fm k b).1 → u1.contains (k, i, b) = true) (hu : ∀ k' i' f, (k', i', f) ≠ (k, i, b) → u1.contains (k', i', f) = S.2.1.contains (k', i', f)) (hub : u1.contains (k, i, b) = true → 2 ≤ (fm k b).1 ∨ S.2.1.contains (k, i, b) = true)
    (hg : ∀ k' i' f, (k', i', f) ≠ (k, i, b) → gI w1 k' i' f = gI w k' i' f ∧ gL w1 k' i' f = gL w k' i' f ∧ gR w1 k' i' f = gR w k' i' f) (hq : ∀ q, v = .inr (.inr q) → q ∈ S.1 ++ ext) (hrv : (∀ k i f x, (k, i, f, x) ∈ S.2.2.1 → gR w k i f = x) → ∀ k i f x, (k, i, f, x) ∈ rv1 → gR w1 k i f = x)
    (h : CW X ext (pc + 3) ls st (S.1, u1, rv1, S.2.2.2.1, S.2.2.2.2) w1) : CW X ext pc ls (v :: .inr (.inr (k, i)) :: st) S w := cs_put0 G.g0 hd hk hfb hw (fun q hq hf => by
    unfold cfnO at hfn
    rw [hq] at hfn
    dsimp only at hfn
    rw [hf] at hfn
    have hfn' : (q.2.1 b).1 = own ∧ ¬ own = "MoorGuidesLaw" := by simpa using hfn
    exact ⟨G.name.resolve_right hfn'.2, hfn'.1⟩) hm hty hv hc hu hub hg hq hrv h
/-- .. of a reference -/
theorem cs_putR (G : GC X cc own) {idx k i b : Nat} {q : Nat × Nat} {rv1 : List (Nat × Nat × Nat × Nat)} (hd : decode cc pc = .ok (.putfield idx, 3)) (hk : (kd k).1 = 1) (hfb : b < (kd k).2.2) (hw : ∀ x ∈ fldW own idx (kd k).2.1 b, x ∈ lwg) (hfn : cfnO own (kd k).2.1 b = true) (hm : (k, i) ∈ S.1) (hmd : 2 ≤ (fm k b).1)
    (hv : fget w1 k i b (fm k b) = .inr (.inr q)) (hg : ∀ k' i' f, (k', i', f) ≠ (k, i, b) → gI w1 k' i' f = gI w k' i' f ∧ gL w1 k' i' f = gL w k' i' f ∧ gR w1 k' i' f = gR w k' i' f) (hq : q ∈ S.1 ++ ext) (hrv : (∀ k i f x, (k, i, f, x) ∈ S.2.2.1 → gR w k i f = x) → ∀ k i f x, (k, i, f, x) ∈ rv1 → gR w1 k i f = x)
    (h : CW X ext (pc + 3) ls st (S.1, (k, i, b) :: S.2.1, rv1, S.2.2.2.1, S.2.2.2.2) w1) : CW X ext pc ls (.inr (.inr q) :: .inr (.inr (k, i)) :: st) S w := by
  refine cs_put G hd hk hfb hw hfn hm (fun r hr => ?_) hv (fun _ => by simp) (fun k' i' f hne => ?_) (fun _ => Or.inl hmd) hg (fun q' hq' => by cases hq'; exact hq) hrv h
  · obtain ⟨ty, h1, h2⟩ := ref_fit (fm_ty hk hfb hr) hmd
    exact ⟨ty, h1, fun ρ => h2 _⟩
  · rw [List.contains_cons]
    have : ((k', i', f) == (k, i, b)) = false := beq_false_of_ne hne
    rw [this]
    rfl
/-- .. of an int -/
theorem cs_putI (G : GC X cc own) {idx k i b : Nat} {x : Int32} (hd : decode cc pc = .ok (.putfield idx, 3)) (hk : (kd k).1 = 1) (hfb : b < (kd k).2.2) (hw : ∀ x ∈ fldW own idx (kd k).2.1 b, x ∈ lwg) (hfn : cfnO own (kd k).2.1 b = true) (hm : (k, i) ∈ S.1) (hmd : (fm k b).1 = 0) (hty : ∀ q, classes[(kd k).2.1]? = some q → parseFieldDescriptor (q.2.1 b).2.2.1 = some .int)
    (h : CW X ext (pc + 3) ls st S (setI w k i b x)) : CW X ext pc ls (.inl x :: .inr (.inr (k, i)) :: st) S w := by
  refine cs_put (u1 := S.2.1) (rv1 := S.2.2.1) (w1 := setI w k i b x) G hd hk hfb hw hfn hm (fun r hr => ⟨_, hty r hr, fun ρ => ⟨rfl, rfl⟩⟩) ?_ (fun z => by omega) (fun _ _ _ _ => rfl) (fun z => Or.inr z) (fun k' i' f hne => ⟨?_, rfl, rfl⟩) (fun q' hq' => by cases hq') (fun z => z) h
  · unfold fget
    rw [hmd]
    simp [gI, setI, up3]
  · show up3 w.1 k i b x k' i' f = w.1 k' i' f
    unfold up3
    rw [if_neg (fun z => hne (by rw [z.1, z.2.1, z.2.2]))]
/-- a getfield of a reference that is set -/
theorem cs_get (G : GC X cc own) {idx k i b : Nat} {v : AV} (hd : decode cc pc = .ok (.getfield idx, 3)) (hk : (kd k).1 = 1) (hfb : b < (kd k).2.2) (hw : ∀ x ∈ fldW own idx (kd k).2.1 b, x ∈ lwg) (hm : (k, i) ∈ S.1) (hc : S.2.1.contains (k, i, b) = true) (hv : (∀ k i f x, (k, i, f, x) ∈ S.2.2.1 → gR w k i f = x) → fget w k i b (fm k b) = v)
    (h : CW X ext (pc + 3) ls (v :: st) S w) : CW X ext pc ls (.inr (.inr (k, i)) :: st) S w := by
  obtain ⟨p, l, e0, R, s, m, args, below, meth, c, mc, ms, Q, cs0, ρ0, D, aC, A, nL⟩ := X
  obtain ⟨hex, hen, hx, hb, hml, hown, hts, hK, hA, hcc, hcs, hfr, hlo, hin⟩ := G
  intro ρ H locs la hle hρ hl hI hP hD hS
  obtain ⟨⟨C, TT, N⟩, hcq, hN⟩ := kd_cls hk
  dsimp only at hN
  have hww : fldW own idx (kd k).2.1 b = [.fieldLink own idx (TT b).1 (TT b).2.1 (TT b).2.2.1] := by unfold fldW; rw [hcq]
  rw [hww] at hw
  obtain ⟨q0, hq0, hq0'⟩ := picN_at (u := S.2.1) (ρ := ρ) (aC := aC) (w := w) hm
  rw [entN_1 hk] at hq0'
  have e := hv hI.2.2.2
  refine va_get hx hb hts (cls_ws hcq) hown hK hP q0 hq0' hcq b (by show b < N; omega) (hts _ (hw _ (by simp))) (fun _ h9 => h9) (v := trv ρ v) ?_ hd (h ρ H locs la hle hρ hl hI hP hD hS)
  rw [List.getElem?_map, List.getElem?_range hfb]
  show some (fvN S.2.1 ρ w k i b) = _
  unfold fvN
  rw [e, if_neg (fun z => by rw [hc] at z; exact absurd z.2 (by decide))]
/-- a place of an array of ints -/
theorem cs_iast (G : GC X cc own) {k i : Nat} {j x : Int32} (hd : decode cc pc = .ok (.iastore, 1)) (hk : (kd k).1 = 2) (hm : (k, i) ∈ S.1) (hj : ¬ j < 0) (hjn : j.toNatClampNeg < ln k i)
    (h : CW X ext (pc + 1) ls st S (setI w k i j.toNatClampNeg x)) : CW X ext pc ls (.inl x :: .inl j :: .inr (.inr (k, i)) :: st) S w := by
  obtain ⟨p, l, e0, R, s, m, args, below, meth, c, mc, ms, Q, cs0, ρ0, D, aC, A, nL⟩ := X
  obtain ⟨hex, hen, hx, hb, hml, hown, hts, hK, hA, hcc, hcs, hfr, hlo, hin⟩ := G
  intro ρ H locs la hle hρ hl hI hP hD hS
  obtain ⟨q0, hq0, hq0'⟩ := picN_at (u := S.2.1) (ρ := ρ) (aC := aC) (w := w) hm
  rw [entN_a (by omega) (by omega), ent_2 hk] at hq0'
  obtain ⟨i1, i2, i3, i4⟩ := hI
  have hI1 : CI S ext (setI w k i j.toNatClampNeg x) := by
    refine ⟨i1, fun k' i' hm' => ⟨(i2 k' i' hm').1, fun h1 f hf hcf q hqf => ?_, (i2 k' i' hm').2.2⟩, i3, i4⟩
    have hne : (k', i') ≠ (k, i) := fun z => by
      have : k' = k := congrArg Prod.fst z
      rw [this] at h1
      omega
    refine (i2 k' i' hm').2.1 h1 f hf hcf q ?_
    rw [← hqf]
    exact (fget_congr (w1 := setI w k i j.toNatClampNeg x) (w := w) (up3_ne _ _ _ _ _ hne) rfl rfl f _).symm
  have hset := picN_set (u := S.2.1) (u1 := S.2.1) (ρ := ρ) (aC := aC) (w := w) (w1 := setI w k i j.toNatClampNeg x) i1 hq0 (x := .inl (aC 2, ln k i, .inl (upd (gI w k i) j.toNatClampNeg x))) (by rw [entN_a (by omega) (by omega), ent_2 hk]; exact congrArg (fun z => (Sum.inl (_, ln k i, Sum.inl z) : va_E)) (up3_self _ _ _ _ _)) (fun c hc hne => entN_eq (al := S.1 ++ ext) (up3_ne _ _ _ _ _ (fun z => hne z)) rfl rfl (fun _ => rfl) (fun _ _ => rfl) (i2 c.1 c.2 hc))
  exact va_iast hx hb hK hP hD hS q0 0 hq0' rfl (fun z => z.elim hj (fun z => by omega)) hd (fun H1 locs1 hP1 hD1 hS1 => h ρ H1 locs1 la hle hρ hl hI1 (by rw [← hset]; exact hP1) (by rw [← hset]; exact hD1) hS1)
end

/-! ===== constructors: the steps ===== -/
section
variable {X : XT} {cc : ByteArray} {own : String} {ext : List (Nat × Nat)} {pc : Nat} {ls : LV} {st : List AV} {S : CS} {w : Wd}
theorem cs_aload (G : GC0 X cc own) {i : Fin 4} {k q : Nat} (hd : decode cc pc = .ok (.aload_n i, 1)) (hi : ls.getD i.val none = some (.inr (.inr (k, q)))) (h : CW X ext (pc + 1) ls (.inr (.inr (k, q)) :: st) S w) : CW X ext pc ls st S w := by
  obtain ⟨p, l, e0, R, s, m, args, below, meth, c, mc, ms, Q, cs0, ρ0, D, aC, A, nL⟩ := X
  obtain ⟨hex, hen, hx, hb, -⟩ := G
  intro ρ H locs la hle hρ hl hI hP hD hS
  exact lv_aload_n hx hb hd rfl (lvr_get hl hi) (h ρ H locs la hle hρ hl hI hP hD hS)
theorem cs_iconst (G : GC X cc own) {n : Int} {x : Int32} (hd : decode cc pc = .ok (.iconst n, 1)) (hn : Int32.ofInt n = x) (h : CW X ext (pc + 1) ls (.inl x :: st) S w) : CW X ext pc ls st S w := by
  obtain ⟨p, l, e0, R, s, m, args, below, meth, c, mc, ms, Q, cs0, ρ0, D, aC, A, nL⟩ := X
  obtain ⟨hex, hen, hx, hb, -⟩ := G
  intro ρ H locs la hle hρ hl hI hP hD hS
  exact lv_iconst hx hb hd hn (h ρ H locs la hle hρ hl hI hP hD hS)
theorem cs_bipush (G : GC X cc own) {n : Int} {x : Int32} (hd : decode cc pc = .ok (.bipush n, 2)) (hn : (Int8.ofInt n).toInt32 = x) (h : CW X ext (pc + 2) ls (.inl x :: st) S w) : CW X ext pc ls st S w := by
  obtain ⟨p, l, e0, R, s, m, args, below, meth, c, mc, ms, Q, cs0, ρ0, D, aC, A, nL⟩ := X
  obtain ⟨hex, hen, hx, hb, -⟩ := G
  intro ρ H locs la hle hρ hl hI hP hD hS
  exact lv_bipush hx hb hd hn (h ρ H locs la hle hρ hl hI hP hD hS)
theorem cs_sipush (G : GC X cc own) {n : Int} {x : Int32} (hd : decode cc pc = .ok (.sipush n, 3)) (hn : (Int16.ofInt n).toInt32 = x) (h : CW X ext (pc + 3) ls (.inl x :: st) S w) : CW X ext pc ls st S w := by
  obtain ⟨p, l, e0, R, s, m, args, below, meth, c, mc, ms, Q, cs0, ρ0, D, aC, A, nL⟩ := X
  obtain ⟨hex, hen, hx, hb, -⟩ := G
  intro ρ H locs la hle hρ hl hI hP hD hS
  exact lv_sipush hx hb hd hn (h ρ H locs la hle hρ hl hI hP hD hS)
theorem cs_dup (G : GC X cc own) {v : AV} (hd : decode cc pc = .ok (.dup, 1)) (hc : catA v = 1) (h : CW X ext (pc + 1) ls (v :: v :: st) S w) : CW X ext pc ls (v :: st) S w := by
  obtain ⟨p, l, e0, R, s, m, args, below, meth, c, mc, ms, Q, cs0, ρ0, D, aC, A, nL⟩ := X
  obtain ⟨hex, hen, hx, hb, -⟩ := G
  intro ρ H locs la hle hρ hl hI hP hD hS
  exact lv_dup hx hb hd ((catA_tr ρ v).trans hc) (h ρ H locs la hle hρ hl hI hP hD hS)
/-- Object's own constructor -/
def objW (own : String) (idx : Nat) : List Cond := [.methodLink own idx objectInit, .instanceMethod objectInit, .code objectInit ⟨#[0xb1]⟩ 1 none]
theorem cs_obj (G : GC X cc own) {idx k i : Nat} (hd : decode cc pc = .ok (.invokespecial idx, 3)) (hw : ∀ x ∈ objW own idx, x ∈ lwg) (h8 : catS st ≤ 8) (h : CW X ext (pc + 3) ls st S w) : CW X ext pc ls (.inr (.inr (k, i)) :: st) S w := by
  obtain ⟨p, l, e0, R, s, m, args, below, meth, c, mc, ms, Q, cs0, ρ0, D, aC, A, nL⟩ := X
  obtain ⟨hex, hen, hx, hb, hml, hown, hts, hK, hA, hcc, hcs, hfr, hlo, hin⟩ := G
  intro ρ H locs la hle hρ hl hI hP hD hS
  refine W.objInit hx hb hown (hts _ (hw _ (by simp [objW]))) (hts _ (hw _ (by simp [objW]))) (hts _ (hw _ (by simp [objW]))) rfl (by rw [hml]; exact hl.2.1) rfl hd hfr ?_ (W.eq (g2 := F0 m (pc + 3) la (st.map (trv ρ))) rfl (h ρ H locs la hle hρ hl hI hP hD hS))
  have := catS_tr ρ st
  show 2 * 0 + _ + 12 ≤ R.locals
  rw [this]
  omega
/-- what a new object's fields hold -/
def dfv : Nat → Value
  | 0 => .int 0
  | 1 => .long 0
  | _ => .null
def fsZ (k : Nat) : List Value := (List.range (kd k).2.2).map (fun f => dfv (fm k f).1)
theorem dflt {d : String} {n : Nat} {ty : FieldType} (h : tyMode d n = true) (hp : parseFieldDescriptor d = some ty) : defaultValue ty = dfv n := by
  unfold tyMode at h
  rw [hp] at h
  rcases n with _ | _ | n <;> cases ty <;> first | rfl | (simp at h)
theorem gI_z (w : Wd) (k i : Nat) : gI (zrow w k i) k i = fun _ => 0 := upRow_self _ _ _ _
theorem gL_z (w : Wd) (k i : Nat) : gL (zrow w k i) k i = fun _ => 0 := upRow_self _ _ _ _
theorem gI_zn {w : Wd} {k i k' i' : Nat} (h : (k', i') ≠ (k, i)) : gI (zrow w k i) k' i' = gI w k' i' := upRow_ne _ _ _ _ h
theorem gL_zn {w : Wd} {k i k' i' : Nat} (h : (k', i') ≠ (k, i)) : gL (zrow w k i) k' i' = gL w k' i' := upRow_ne _ _ _ _ h
theorem clN_mono {al al1 : List (Nat × Nat)} {u : List (Nat × Nat × Nat)} {w w1 : Wd} {k i : Nat} (hm : ∀ q ∈ al, q ∈ al1) (hf : ∀ f, f < (kd k).2.2 → u.contains (k, i, f) = true → ∀ q, fget w1 k i f (fm k f) = .inr (.inr q) → fget w k i f (fm k f) = .inr (.inr q)) (h : clN al u w k i) : clN al1 u w1 k i :=
  ⟨h.1, fun h1 f hlt hc q hq => hm _ (h.2.1 h1 f hlt hc q (hf f hlt hc q hq)), fun h6 j hj => hm _ (h.2.2 h6 j hj)⟩
/-- a new cell beside what stands -/
theorem CI_new {k i nc ns : Nat} (hI : CI S ext w) (hf : (k, i) ∉ S.1 ++ ext) (hk1 : 1 ≤ (kd k).1) (hk5 : (kd k).1 ≤ 5) : CI (S.1 ++ [(k, i)], S.2.1, S.2.2.1, nc, ns) ext (zrow w k i) := by
  obtain ⟨h1, h2, h3, h4⟩ := hI
  have hnot : (k, i) ∉ S.1 := fun z => hf (List.mem_append_left _ z)
  refine ⟨?_, fun k' i' hm => ?_, fun k' i' f hc => List.mem_append_left _ (h3 k' i' f hc), h4⟩
  · refine List.nodup_append.mpr ⟨h1, by simp, fun a ha b hb => ?_⟩
    rw [List.mem_singleton.mp hb]
    intro e
    exact hnot (e ▸ ha)
  · rcases List.mem_append.mp hm with hm | hm
    · have hne : (k', i') ≠ (k, i) := fun e => hnot (e ▸ hm)
      refine clN_mono (al := S.1 ++ ext) (fun q hq => ?_) (fun f _ _ q hq => ?_) (h2 k' i' hm)
      · rcases List.mem_append.mp hq with hq | hq
        · exact List.mem_append_left _ (List.mem_append_left _ hq)
        · exact List.mem_append_right _ hq
      · rw [← hq]
        exact (fget_congr (gI_zn hne) (gL_zn hne) rfl f _).symm
    · obtain ⟨rfl, rfl⟩ : k' = k ∧ i' = i := by
        have := List.mem_singleton.mp hm
        exact ⟨congrArg Prod.fst this, congrArg Prod.snd this⟩
      refine ⟨⟨hk1, by omega⟩, fun _ f _ hc => absurd (h3 _ _ f hc) hnot, fun h6 => by omega⟩
theorem picN_new {k i : Nat} {ρ : Nat → Nat → Nat} {aC : Nat → ClassId} (q : Nat) (hI : CI S ext w) (hf : (k, i) ∉ S.1 ++ ext) : picN S.2.1 (S.1 ++ [(k, i)]) (rup ρ k i q) aC (zrow w k i) = picN S.2.1 S.1 ρ aC w ++ [(q, entN S.2.1 (rup ρ k i q) aC (zrow w k i) k i)] := by
  obtain ⟨h1, h2, h3, h4⟩ := hI
  rw [picN_app]
  have e : picN S.2.1 [(k, i)] (rup ρ k i q) aC (zrow w k i) = [(q, entN S.2.1 (rup ρ k i q) aC (zrow w k i) k i)] := by
    show [(rup ρ k i q k i, _)] = _
    rw [rup_self]
  rw [e]
  refine congrArg (· ++ _) (picN_cong (fun c hc => ?_))
  have hne : (c.1, c.2) ≠ (k, i) := fun z => hf (List.mem_append_left _ (z ▸ hc))
  refine ⟨rup_ne hne, entN_eq (al := S.1 ++ ext) (gI_zn hne) (gL_zn hne) rfl (fun _ => rfl) (fun q' hq' => rup_ne (fun z => hf (z ▸ hq'))) (h2 c.1 c.2 hc)⟩
theorem agr_new {k i n0 : Nat} {ρ ρ0 : Nat → Nat → Nat} {q : Nat} {cs : List (Nat × Nat)} (hle : n0 ≤ cs.length) (hρ : ∀ k i, (k, i) ∉ cs.drop n0 → ρ k i = ρ0 k i) : ∀ k' i', (k', i') ∉ (cs ++ [(k, i)]).drop n0 → rup ρ k i q k' i' = ρ0 k' i' := by
  intro k' i' h
  rw [List.drop_append_of_le_length hle] at h
  rw [rup_ne (fun z => h (List.mem_append_right _ (by rw [z]; exact List.mem_singleton.mpr rfl)))]
  exact hρ _ _ (fun z => h (List.mem_append_left _ z))
def newW (own : String) (idx ci : Nat) : List Cond := match classes[ci]? with
  | some q => [.classLink own idx q.1, .instantiable q.1 q.2.2, .initialized q.1]
  | none => []
theorem cs_new (G : GC X cc own) {idx k i : Nat} (hd : decode cc pc = .ok (.new idx, 3)) (hk : (kd k).1 = 1) (hw : ∀ x ∈ newW own idx (kd k).2.1, x ∈ lwg) (hf : (k, i) ∉ S.1 ++ ext) (hst : st.all (nrf k i) = true) (hls : nrfL k i ls = true)
    (hc1 : S.2.2.2.1 + 1 ≤ X.2.2.2.2.2.2.2.2.2.2.1) (hs1 : S.2.2.2.2 + (kd k).2.2 ≤ X.2.2.2.2.2.2.2.2.2.2.2.1)
    (h : CW X ext (pc + 3) ls (.inr (.inr (k, i)) :: st) (S.1 ++ [(k, i)], S.2.1, S.2.2.1, S.2.2.2.1 + 1, S.2.2.2.2 + (kd k).2.2) (zrow w k i)) : CW X ext pc ls st S w := by
  obtain ⟨p, l, e0, R, s, m, args, below, meth, c, mc, ms, Q, cs0, ρ0, D, aC, A, nL⟩ := X
  obtain ⟨hex, hen, hx, hb, hml, hown, hts, hK, hA, hcc, hcs, hfr, hlo, hin⟩ := G
  dsimp only at hc1 hs1
  intro ρ H locs la hle hρ hl hI hP hD hS
  obtain ⟨⟨C, TT, N⟩, hcq, hN⟩ := kd_cls hk
  dsimp only at hN
  have hww : newW own idx (kd k).2.1 = [.classLink own idx C, .instantiable C N, .initialized C] := by unfold newW; rw [hcq]
  rw [hww] at hw
  have hnot : ∀ f, S.2.1.contains (k, i, f) = false := fun f => by
    cases hq : S.2.1.contains (k, i, f) with
    | false => rfl
    | true => exact absurd (List.mem_append_left _ (hI.2.2.1 k i f hq)) hf
  refine va_new (ci := (kd k).2.1) (fs := fsZ k) (C := C) (T := TT) (N := N) hx hb hts (cls_ws hcq) (tyOf (kd k).2.1) (cls_ok _ _ hcq).1 hown (hts _ (hw _ (by simp))) (hts _ (hw _ (by simp))) (hts _ (hw _ (by simp))) hK hP hD hS hA hcq (fun j hj => ?_) (by omega) (by omega) hd (fun q H1 hP1 hD1 hS1 => ?_)
  · rw [hN] at hj
    have e := dflt (fm_ty hk hj hcq) ((cls_ok _ _ hcq).1 j (by dsimp only; omega))
    rw [e]
    unfold vp_V fsZ
    rw [List.getD_eq_getElem?_getD, List.getElem?_map, List.getElem?_range hj]
    rfl
  · have ee : entN S.2.1 (rup ρ k i q) aC (zrow w k i) k i = .inr ((kd k).2.1, fsZ k) := by
      rw [entN_1 hk]
      refine congrArg (fun z => (Sum.inr ((kd k).2.1, z) : va_E)) (List.map_congr_left (fun f _ => ?_))
      unfold fvN fget
      rw [hnot f, gI_z, gL_z]
      match (fm k f).1 with
      | 0 => rfl
      | 1 => rfl
      | n + 2 => simp [dfv]
    have ep := picN_new (ρ := ρ) (aC := aC) q hI hf
    rw [ee] at ep
    have g := h (rup ρ k i q) H1 locs la (by show cs0.length ≤ (S.1 ++ [(k, i)]).length; rw [List.length_append]; omega) (agr_new hle hρ) (lvr_rup hls hl) (CI_new hI hf (by omega) (by omega)) (by show va_P D classes (picN S.2.1 (S.1 ++ [(k, i)]) (rup ρ k i q) aC (zrow w k i)) H1; rw [ep]; exact hP1) (by show va_D A (picN S.2.1 (S.1 ++ [(k, i)]) (rup ρ k i q) aC (zrow w k i)); rw [ep]; exact hD1) hS1
    have em : (List.map (trv (rup ρ k i q)) (.inr (.inr (k, i)) :: st)) = .ref q :: st.map (trv ρ) := by
      rw [List.map_cons, map_rup hst]
      show Value.ref (rup ρ k i q k i) :: _ = _
      rw [rup_self]
    rw [em] at g
    rw [hN]
    exact g
/-- what an array's making needs -/
def atO (n : Nat) (t : ArrayType) : Bool := match n, t with
  | 2, .int => true
  | 3, .long => true
  | 4, .byte => true
  | 5, .boolean => true
  | _, _ => false
end

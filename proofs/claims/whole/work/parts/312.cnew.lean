/-! ===== constructors: new arrays ===== -/
section
variable {X : XT} {cc : ByteArray} {own : String} {ext : List (Nat × Nat)} {pc : Nat} {ls : LV} {st : List AV} {S : CS} {w : Wd}
theorem cs_newI (G : GC X cc own) {k i : Nat} {x : Int32} (hd : decode cc pc = .ok (.newarray .int, 2)) (hk : (kd k).1 = 2) (hw : Cond.arrayClass .int ∈ lwg) (hf : (k, i) ∉ S.1 ++ ext) (hst : st.all (nrf k i) = true) (hls : nrfL k i ls = true) (hx0 : ¬ x < 0) (hxn : x.toNatClampNeg = ln k i) (hln : ln k i ≤ 10000)
    (hc1 : S.2.2.2.1 + 1 ≤ X.2.2.2.2.2.2.2.2.2.2.1) (hs1 : S.2.2.2.2 + ln k i ≤ X.2.2.2.2.2.2.2.2.2.2.2.1)
    (h : CW X ext (pc + 2) ls (.inr (.inr (k, i)) :: st) (S.1 ++ [(k, i)], S.2.1, S.2.2.1, S.2.2.2.1 + 1, S.2.2.2.2 + ln k i) (zrow w k i)) : CW X ext pc ls (.inl x :: st) S w := by
  obtain ⟨p, l, e0, R, s, m, args, below, meth, c, mc, ms, Q, cs0, ρ0, D, aC, A, nL⟩ := X
  obtain ⟨hex, hen, hx, hb, hml, hown, hts, hK, hA, hcc, hcs, hfr, hlo, hin⟩ := G
  dsimp only at hc1 hs1
  intro ρ H locs la hle hρ hl hI hP hD hS
  refine va_newa (atype := .int) (ty := .int) (a0 := (ln k i, .inl (fun _ => 0))) hx hb (hts _ hw) rfl hK hP hD hS hA (fun _ => rfl) hx0 hxn (show ln k i * 4 ≤ _ by omega) (by omega) (by omega) hd (fun q cA H1 hK1 hP1 hD1 hS1 => ?_)
  have e1 := (hK1.2 5 (cA, .int) rfl).2
  have e2 := (hK.2 0 (aC 2, .int) rfl).2
  have eA : cA = aC 2 := Option.some.inj (e1.symm.trans e2)
  subst eA
  have ee : entN S.2.1 (rup ρ k i q) aC (zrow w k i) k i = .inl (aC 2, ln k i, .inl (fun _ => 0)) := by
    rw [entN_a (by omega) (by omega), ent_2 hk, gI_z]
  have ep := picN_new (ρ := ρ) (aC := aC) q hI hf
  rw [ee] at ep
  have g := h (rup ρ k i q) H1 locs la (by show cs0.length ≤ (S.1 ++ [(k, i)]).length; rw [List.length_append]; omega) (agr_new hle hρ) (lvr_rup hls hl) (CI_new hI hf (by omega) (by omega)) (by show va_P D classes (picN S.2.1 (S.1 ++ [(k, i)]) (rup ρ k i q) aC (zrow w k i)) H1; rw [ep]; exact hP1) (by show va_D A (picN S.2.1 (S.1 ++ [(k, i)]) (rup ρ k i q) aC (zrow w k i)); rw [ep]; exact hD1) hS1
  have em : (List.map (trv (rup ρ k i q)) (.inr (.inr (k, i)) :: st)) = .ref q :: st.map (trv ρ) := by
    rw [List.map_cons, map_rup hst]
    show Value.ref (rup ρ k i q k i) :: _ = _
    rw [rup_self]
  rw [em] at g
  exact g
theorem cs_newJ (G : GC X cc own) {k i : Nat} {x : Int32} (hd : decode cc pc = .ok (.newarray .long, 2)) (hk : (kd k).1 = 3) (hw : Cond.arrayClass .long ∈ lwg) (hf : (k, i) ∉ S.1 ++ ext) (hst : st.all (nrf k i) = true) (hls : nrfL k i ls = true) (hx0 : ¬ x < 0) (hxn : x.toNatClampNeg = ln k i) (hln : ln k i ≤ 10000)
    (hc1 : S.2.2.2.1 + 1 ≤ X.2.2.2.2.2.2.2.2.2.2.1) (hs1 : S.2.2.2.2 + ln k i ≤ X.2.2.2.2.2.2.2.2.2.2.2.1)
    (h : CW X ext (pc + 2) ls (.inr (.inr (k, i)) :: st) (S.1 ++ [(k, i)], S.2.1, S.2.2.1, S.2.2.2.1 + 1, S.2.2.2.2 + ln k i) (zrow w k i)) : CW X ext pc ls (.inl x :: st) S w := by
  obtain ⟨p, l, e0, R, s, m, args, below, meth, c, mc, ms, Q, cs0, ρ0, D, aC, A, nL⟩ := X
  obtain ⟨hex, hen, hx, hb, hml, hown, hts, hK, hA, hcc, hcs, hfr, hlo, hin⟩ := G
  dsimp only at hc1 hs1
  intro ρ H locs la hle hρ hl hI hP hD hS
  refine va_newa (atype := .long) (ty := .long) (a0 := (ln k i, .inr (.inl (fun _ => 0)))) hx hb (hts _ hw) rfl hK hP hD hS hA (fun _ => rfl) hx0 hxn (show ln k i * 8 ≤ _ by omega) (by omega) (by omega) hd (fun q cA H1 hK1 hP1 hD1 hS1 => ?_)
  have e1 := (hK1.2 5 (cA, .long) rfl).2
  have e2 := (hK.2 1 (aC 3, .long) rfl).2
  have eA : cA = aC 3 := Option.some.inj (e1.symm.trans e2)
  subst eA
  have ee : entN S.2.1 (rup ρ k i q) aC (zrow w k i) k i = .inl (aC 3, ln k i, .inr (.inl (fun _ => 0))) := by
    rw [entN_a (by omega) (by omega), ent_3 hk, gL_z]
  have ep := picN_new (ρ := ρ) (aC := aC) q hI hf
  rw [ee] at ep
  have g := h (rup ρ k i q) H1 locs la (by show cs0.length ≤ (S.1 ++ [(k, i)]).length; rw [List.length_append]; omega) (agr_new hle hρ) (lvr_rup hls hl) (CI_new hI hf (by omega) (by omega)) (by show va_P D classes (picN S.2.1 (S.1 ++ [(k, i)]) (rup ρ k i q) aC (zrow w k i)) H1; rw [ep]; exact hP1) (by show va_D A (picN S.2.1 (S.1 ++ [(k, i)]) (rup ρ k i q) aC (zrow w k i)); rw [ep]; exact hD1) hS1
  have em : (List.map (trv (rup ρ k i q)) (.inr (.inr (k, i)) :: st)) = .ref q :: st.map (trv ρ) := by
    rw [List.map_cons, map_rup hst]
    show Value.ref (rup ρ k i q k i) :: _ = _
    rw [rup_self]
  rw [em] at g
  exact g
theorem cs_newB (G : GC X cc own) {k i : Nat} {x : Int32} (hd : decode cc pc = .ok (.newarray .byte, 2)) (hk : (kd k).1 = 4) (hw : Cond.arrayClass .byte ∈ lwg) (hf : (k, i) ∉ S.1 ++ ext) (hst : st.all (nrf k i) = true) (hls : nrfL k i ls = true) (hx0 : ¬ x < 0) (hxn : x.toNatClampNeg = ln k i) (hln : ln k i ≤ 10000)
    (hc1 : S.2.2.2.1 + 1 ≤ X.2.2.2.2.2.2.2.2.2.2.1) (hs1 : S.2.2.2.2 + ln k i ≤ X.2.2.2.2.2.2.2.2.2.2.2.1)
    (h : CW X ext (pc + 2) ls (.inr (.inr (k, i)) :: st) (S.1 ++ [(k, i)], S.2.1, S.2.2.1, S.2.2.2.1 + 1, S.2.2.2.2 + ln k i) (zrow w k i)) : CW X ext pc ls (.inl x :: st) S w := by
  obtain ⟨p, l, e0, R, s, m, args, below, meth, c, mc, ms, Q, cs0, ρ0, D, aC, A, nL⟩ := X
  obtain ⟨hex, hen, hx, hb, hml, hown, hts, hK, hA, hcc, hcs, hfr, hlo, hin⟩ := G
  dsimp only at hc1 hs1
  intro ρ H locs la hle hρ hl hI hP hD hS
  refine va_newa (atype := .byte) (ty := .byte) (a0 := (ln k i, .inl (fun _ => 0))) hx hb (hts _ hw) rfl hK hP hD hS hA (fun _ => rfl) hx0 hxn (show ln k i * 1 ≤ _ by omega) (by omega) (by omega) hd (fun q cA H1 hK1 hP1 hD1 hS1 => ?_)
  have e1 := (hK1.2 5 (cA, .byte) rfl).2
  have e2 := (hK.2 2 (aC 4, .byte) rfl).2
  have eA : cA = aC 4 := Option.some.inj (e1.symm.trans e2)
  subst eA
  have ee : entN S.2.1 (rup ρ k i q) aC (zrow w k i) k i = .inl (aC 4, ln k i, .inl (fun _ => 0)) := by
    rw [entN_a (by omega) (by omega), ent_4 hk, gI_z]
  have ep := picN_new (ρ := ρ) (aC := aC) q hI hf
  rw [ee] at ep
  have g := h (rup ρ k i q) H1 locs la (by show cs0.length ≤ (S.1 ++ [(k, i)]).length; rw [List.length_append]; omega) (agr_new hle hρ) (lvr_rup hls hl) (CI_new hI hf (by omega) (by omega)) (by show va_P D classes (picN S.2.1 (S.1 ++ [(k, i)]) (rup ρ k i q) aC (zrow w k i)) H1; rw [ep]; exact hP1) (by show va_D A (picN S.2.1 (S.1 ++ [(k, i)]) (rup ρ k i q) aC (zrow w k i)); rw [ep]; exact hD1) hS1
  have em : (List.map (trv (rup ρ k i q)) (.inr (.inr (k, i)) :: st)) = .ref q :: st.map (trv ρ) := by
    rw [List.map_cons, map_rup hst]
    show Value.ref (rup ρ k i q k i) :: _ = _
    rw [rup_self]
  rw [em] at g
  exact g
theorem cs_newZ (G : GC X cc own) {k i : Nat} {x : Int32} (hd : decode cc pc = .ok (.newarray .boolean, 2)) (hk : (kd k).1 = 5) (hw : Cond.arrayClass .boolean ∈ lwg) (hf : (k, i) ∉ S.1 ++ ext) (hst : st.all (nrf k i) = true) (hls : nrfL k i ls = true) (hx0 : ¬ x < 0) (hxn : x.toNatClampNeg = ln k i) (hln : ln k i ≤ 10000)
    (hc1 : S.2.2.2.1 + 1 ≤ X.2.2.2.2.2.2.2.2.2.2.1) (hs1 : S.2.2.2.2 + ln k i ≤ X.2.2.2.2.2.2.2.2.2.2.2.1)
    (h : CW X ext (pc + 2) ls (.inr (.inr (k, i)) :: st) (S.1 ++ [(k, i)], S.2.1, S.2.2.1, S.2.2.2.1 + 1, S.2.2.2.2 + ln k i) (zrow w k i)) : CW X ext pc ls (.inl x :: st) S w := by
  obtain ⟨p, l, e0, R, s, m, args, below, meth, c, mc, ms, Q, cs0, ρ0, D, aC, A, nL⟩ := X
  obtain ⟨hex, hen, hx, hb, hml, hown, hts, hK, hA, hcc, hcs, hfr, hlo, hin⟩ := G
  dsimp only at hc1 hs1
  intro ρ H locs la hle hρ hl hI hP hD hS
  refine va_newa (atype := .boolean) (ty := .boolean) (a0 := (ln k i, .inl (fun _ => 0))) hx hb (hts _ hw) rfl hK hP hD hS hA (fun _ => rfl) hx0 hxn (show ln k i * 1 ≤ _ by omega) (by omega) (by omega) hd (fun q cA H1 hK1 hP1 hD1 hS1 => ?_)
  have e1 := (hK1.2 5 (cA, .boolean) rfl).2
  have e2 := (hK.2 3 (aC 5, .boolean) rfl).2
  have eA : cA = aC 5 := Option.some.inj (e1.symm.trans e2)
  subst eA
  have ee : entN S.2.1 (rup ρ k i q) aC (zrow w k i) k i = .inl (aC 5, ln k i, .inl (fun _ => 0)) := by
    rw [entN_a (by omega) (by omega), ent_5 hk, gI_z]
  have ep := picN_new (ρ := ρ) (aC := aC) q hI hf
  rw [ee] at ep
  have g := h (rup ρ k i q) H1 locs la (by show cs0.length ≤ (S.1 ++ [(k, i)]).length; rw [List.length_append]; omega) (agr_new hle hρ) (lvr_rup hls hl) (CI_new hI hf (by omega) (by omega)) (by show va_P D classes (picN S.2.1 (S.1 ++ [(k, i)]) (rup ρ k i q) aC (zrow w k i)) H1; rw [ep]; exact hP1) (by show va_D A (picN S.2.1 (S.1 ++ [(k, i)]) (rup ρ k i q) aC (zrow w k i)); rw [ep]; exact hD1) hS1
  have em : (List.map (trv (rup ρ k i q)) (.inr (.inr (k, i)) :: st)) = .ref q :: st.map (trv ρ) := by
    rw [List.map_cons, map_rup hst]
    show Value.ref (rup ρ k i q k i) :: _ = _
    rw [rup_self]
  rw [em] at g
  exact g
end

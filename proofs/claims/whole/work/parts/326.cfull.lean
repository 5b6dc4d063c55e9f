/-! ===== constructors: where all is set, the picture is the small machine's ===== -/
theorem Met.con {l : Launch} {y : MethodName} {ws : List Cond} {rm : Room} {Pc Pc' : Array Value → State → Prop} {Qc Qc' : Array Value → State → Outcome → State → Prop} {mc ms : Nat} {fr fr' : Addr → Prop} (h : Met l y ws rm Pc Qc mc ms fr) (hp : ∀ a s, Pc' a s → Pc a s) (hq : ∀ a s o t, Pc' a s → Qc a s o t → Qc' a s o t) (hf : ∀ q, fr q → fr' q) : Met l y ws rm Pc' Qc' mc ms fr' := fun p e ha hc hk s m args below hfr happ hP hK => by
  obtain ⟨n, o, h1, h2, h3, h4, L, h5, h6⟩ := h p e ha hc hk s m args below hfr happ (hp _ _ hP) trivial
  exact ⟨n, o, h1, h2, h3, hq _ _ _ _ hP h4, L, h5, fun q hq => hf _ (h6 q hq)⟩
/-- the cells C of w1, all others of w -/
def mrg (C : List (Nat × Nat)) (w w1 : Wd) : Wd := (fun k i => if C.contains (k, i) = true then w1.1 k i else w.1 k i, fun k i => if C.contains (k, i) = true then w1.2.1 k i else w.2.1 k i, fun k i => if C.contains (k, i) = true then w1.2.2 k i else w.2.2 k i)
theorem mrg_out (C : List (Nat × Nat)) (w w1 : Wd) : agW C w (mrg C w w1) := fun k i h => by
  have h0 : ¬ C.contains (k, i) = true := fun z => h (List.contains_iff_mem.mp z)
  exact ⟨if_neg h0, if_neg h0, if_neg h0⟩
theorem mrg_in {C : List (Nat × Nat)} (w w1 : Wd) {k i : Nat} (h : (k, i) ∈ C) : gI (mrg C w w1) k i = gI w1 k i ∧ gL (mrg C w w1) k i = gL w1 k i ∧ gR (mrg C w w1) k i = gR w1 k i := by
  have h0 := List.contains_iff_mem.mpr h
  exact ⟨if_pos h0, if_pos h0, if_pos h0⟩
def fulS (cs : List (Nat × Nat)) (u : List (Nat × Nat × Nat)) : Bool := cs.all fun c => (kd c.1).1 != 1 || (List.range (kd c.1).2.2).all fun f => decide ((fm c.1 f).1 < 2) || u.contains (c.1, c.2, f)
theorem fulS_at {cs : List (Nat × Nat)} {u : List (Nat × Nat × Nat)} (h : fulS cs u = true) {k i f : Nat} (hm : (k, i) ∈ cs) (h1 : (kd k).1 = 1) (hf : f < (kd k).2.2) (h2 : 2 ≤ (fm k f).1) : u.contains (k, i, f) = true := by
  have a := List.all_eq_true.mp h (k, i) hm
  dsimp only at a
  rw [h1] at a
  have b := ((Bool.or_eq_true _ _).mp a).resolve_left (by decide)
  have c := List.all_eq_true.mp b f (List.mem_range.mpr hf)
  rcases (Bool.or_eq_true _ _).mp c with c | c
  · have := of_decide_eq_true c
    omega
  · exact c
theorem arrV_con (cI : ClassId) (n : Nat) {f g : Nat → Value} (h : ∀ j, j < n → f j = g j) : arrV cI n f = arrV cI n g := by
  unfold arrV
  have : (fun j : Fin n => f j.val) = (fun j : Fin n => g j.val) := funext fun j => h j.val j.isLt
  rw [this]
section
variable {S : CS} {u : List (Nat × Nat × Nat)} {cs : List (Nat × Nat)} {ρ : Nat → Nat → Nat} {aC : Nat → ClassId} {w w1 x : Wd} {D : va_G} {H : Heap} {A : Nat → Prop} {k i sz : Nat}
theorem ent_6' (h : (kd k).1 = 6) : ent ρ aC w k i = .inl (aC 6, ln k i, .inr (.inr (.inr (.inr (fun j => some (ρ (rk k) (j + ln k i * i))))))) := by
  unfold ent
  rw [h]
  rfl
theorem at_ful (h1 : 1 ≤ (kd k).1 ∧ (kd k).1 ≤ 6) (hf : (kd k).1 = 1 → ∀ f, f < (kd k).2.2 → 2 ≤ (fm k f).1 → u.contains (k, i, f) = true) : va_at D classes (ρ k i, entN u ρ aC w k i) H ↔ va_at D classes (ρ k i, ent ρ aC w k i) H := by
  by_cases k1 : (kd k).1 = 1
  · rw [entN_1 k1, ent_1 k1]
    have e : (List.range (kd k).2.2).map (fvN u ρ w k i) = (List.range (kd k).2.2).map (fun f => trv ρ (fget w k i f (fm k f))) := List.map_congr_left (fun f hm => by
      have hm := List.mem_range.mp hm
      unfold fvN
      rw [if_neg (fun z => by
        have := hf k1 f hm z.1
        rw [this] at z
        exact absurd z.2 (by decide))])
    rw [e]
  · by_cases k6 : (kd k).1 = 6
    · rw [entN_6 k6, ent_6' k6]
      show H[ρ k i]? = some (vp_cell _ _) ↔ H[ρ k i]? = some (vp_cell _ _)
      dsimp only
      rw [vp_cell_q, vp_cell_q, arrV_con (aC 6) (ln k i) (g := fun j => va_rf (some (ρ (rk k) (j + ln k i * i)))) (fun j hj => by rw [if_pos hj])]
    · rw [entN_a (by omega) (by omega)]
theorem pic_get {j : Nat} {q : Nat × va_E} (h : (pic cs ρ aC w)[j]? = some q) : ∃ c, cs[j]? = some c ∧ q = (ρ c.1 c.2, ent ρ aC w c.1 c.2) := by
  rw [pic, List.getElem?_map] at h
  cases hc : cs[j]? with
  | none => rw [hc] at h; cases h
  | some c =>
    rw [hc] at h
    cases h
    exact ⟨c, rfl, rfl⟩
theorem picN_get {j : Nat} {q : Nat × va_E} (h : (picN u cs ρ aC w)[j]? = some q) : ∃ c, cs[j]? = some c ∧ q = (ρ c.1 c.2, entN u ρ aC w c.1 c.2) := by
  rw [picN, List.getElem?_map] at h
  cases hc : cs[j]? with
  | none => rw [hc] at h; cases h
  | some c =>
    rw [hc] at h
    cases h
    exact ⟨c, rfl, rfl⟩
theorem picN_put {j : Nat} {c : Nat × Nat} (h : cs[j]? = some c) : (picN u cs ρ aC w)[j]? = some (ρ c.1 c.2, entN u ρ aC w c.1 c.2) := by rw [picN, List.getElem?_map, h]; rfl
theorem pic_put {j : Nat} {c : Nat × Nat} (h : cs[j]? = some c) : (pic cs ρ aC w)[j]? = some (ρ c.1 c.2, ent ρ aC w c.1 c.2) := by rw [pic, List.getElem?_map, h]; rfl
theorem P_ful (hk : ∀ k i, (k, i) ∈ cs → 1 ≤ (kd k).1 ∧ (kd k).1 ≤ 6) (hf : fulS cs u = true) : va_P D classes (picN u cs ρ aC w) H ↔ va_P D classes (pic cs ρ aC w) H := by
  constructor
  · intro h j q hq
    obtain ⟨c, hc, rfl⟩ := pic_get hq
    have hm := List.mem_of_getElem? hc
    exact (at_ful (hk _ _ hm) (fun h1 f hf1 h2 => fulS_at hf hm h1 hf1 h2)).mp (h j _ (picN_put hc))
  · intro h j q hq
    obtain ⟨c, hc, rfl⟩ := picN_get hq
    have hm := List.mem_of_getElem? hc
    exact (at_ful (hk _ _ hm) (fun h1 f hf1 h2 => fulS_at hf hm h1 hf1 h2)).mpr (h j _ (pic_put hc))
theorem D_ful : va_D A (picN u cs ρ aC w) ↔ va_D A (pic cs ρ aC w1) := by
  constructor
  · intro h
    refine ⟨fun a b p q ha hb e => ?_, fun a q ha => ?_⟩
    · obtain ⟨c, hc, rfl⟩ := pic_get ha
      obtain ⟨d, hd, rfl⟩ := pic_get hb
      exact h.1 a b _ _ (picN_put hc) (picN_put hd) e
    · obtain ⟨c, hc, rfl⟩ := pic_get ha
      exact h.2 a (ρ c.1 c.2, entN u ρ aC w c.1 c.2) (picN_put hc)
  · intro h
    refine ⟨fun a b p q ha hb e => ?_, fun a q ha => ?_⟩
    · obtain ⟨c, hc, rfl⟩ := picN_get ha
      obtain ⟨d, hd, rfl⟩ := picN_get hb
      exact h.1 a b _ _ (pic_put hc) (pic_put hd) e
    · obtain ⟨c, hc, rfl⟩ := picN_get ha
      exact h.2 a (ρ c.1 c.2, ent ρ aC w1 c.1 c.2) (pic_put hc)
theorem A_ful : va_A (picN u cs ρ aC w) sz = va_A (pic cs ρ aC w1) sz := by
  funext q
  refine propext ⟨?_, ?_⟩
  · rintro (⟨k, e, h⟩ | h)
    · obtain ⟨c, hc, e1⟩ := picN_get h
      cases e1
      exact Or.inl ⟨k, _, pic_put hc⟩
    · exact Or.inr h
  · rintro (⟨k, e, h⟩ | h)
    · obtain ⟨c, hc, e1⟩ := pic_get h
      cases e1
      exact Or.inl ⟨k, _, picN_put hc⟩
    · exact Or.inr h
theorem rk_ints (h : (kd k).1 = 6) : (kd (rk k)).1 = 2 := by
  have h0 : ∀ k, k < 131 → (kd k).1 = 6 → (kd (rk k)).1 = 2 := by decide +kernel
  rcases Nat.lt_or_ge k 131 with hk | hk
  · exact h0 k hk h
  · have : kd k = (0, 0, 0) := by
      unfold kd
      rw [List.getD_eq_getElem?_getD, List.getElem?_eq_none (show kdL.length ≤ k from hk)]
      rfl
    rw [this] at h
    cases h
theorem fget_c {f : Nat} (h3 : (fm k f).1 ≠ 3) (h2 : 2 ≤ (fm k f).1) : fget w1 k i f (fm k f) = fget w k i f (fm k f) := by
  unfold fget
  split <;> first | rfl | (rename_i e; omega)
theorem CI_kd {ext : List (Nat × Nat)} (hI : CI S ext w) : ∀ k i, (k, i) ∈ S.1 → 1 ≤ (kd k).1 ∧ (kd k).1 ≤ 6 := fun k i hm => (hI.2.1 k i hm).1
theorem CI_cloS (hI : CI S [] w) (hf : fulS S.1 S.2.1 = true) : cloS S.1 := by
  intro k i hm
  obtain ⟨h0, h1, h6⟩ := hI.2.1 k i hm
  rw [List.append_nil] at h1 h6
  refine ⟨fun k1 f hf1 => ⟨fun e => ?_, fun e => ?_, fun e => ?_⟩, fun k6 j hj => ⟨h6 k6 j hj, rk_ints k6⟩⟩
  · refine h1 k1 f hf1 (fulS_at hf hm k1 hf1 (by omega)) _ ?_
    unfold fget
    rw [e]
    rfl
  · refine h1 k1 f hf1 (fulS_at hf hm k1 hf1 (by omega)) _ ?_
    unfold fget
    rw [e]
    rfl
  · refine h1 k1 f hf1 (fulS_at hf hm k1 hf1 (by omega)) _ ?_
    obtain ⟨n, hn⟩ : ∃ n, (fm k f).1 = n + 5 := ⟨(fm k f).1 - 5, by omega⟩
    unfold fget
    rw [hn]
    rfl
theorem CI_cloR (hI : CI S [] w) (hf : fulS S.1 S.2.1 = true) : cloR S.1 w := by
  intro k i hm k1 f hf1 h3
  obtain ⟨h0, h1, h6⟩ := hI.2.1 k i hm
  rw [List.append_nil] at h1
  refine h1 k1 f hf1 (fulS_at hf hm k1 hf1 (by omega)) _ ?_
  unfold fget
  rw [h3]
  rfl
/-- behind a call over the same cells -/
theorem CI_V {u1 : List (Nat × Nat × Nat)} {rv : List (Nat × Nat × Nat × Nat)} {a b c d : Nat} (hI : CI (S.1, u1, rv, a, b) [] w1) (hR : cloR S.1 x) : CI (S.1, u1, [], c, d) [] (mrg S.1 w x) := by
  refine ⟨hI.1, fun k i hm => ?_, hI.2.2.1, fun k i f y h => by cases h⟩
  obtain ⟨h0, h1, h6⟩ := hI.2.1 k i hm
  refine ⟨h0, fun k1 f hf hc q hq => ?_, h6⟩
  have e := mrg_in w x hm
  have hq' : fget x k i f (fm k f) = .inr (.inr q) := by
    rw [← hq]
    exact (fget_congr e.1 e.2.1 e.2.2 f _).symm
  by_cases h3 : (fm k f).1 = 3
  · have := hR k i hm k1 f hf h3
    unfold fget at hq'
    rw [h3] at hq'
    cases hq'
    exact List.mem_append_left _ this
  · refine h1 k1 f hf hc q ?_
    rw [fget_c (w := x) h3 (fget_ref hq')]
    exact hq'
theorem pic_mrg : pic cs ρ aC (mrg cs w x) = pic cs ρ aC x := List.map_congr_left (fun c hc => by
  have e := mrg_in w x hc
  rw [ent_congr e.1 e.2.1 e.2.2])
end
/-- a method's contract over the small machine's pictures, as a callee of a constructor -/
theorem SndC.ofV {y : MethodName} {b : ByteArray} {nL lev na : Nat} {as : List AV} {S : CS} {w x : Wd} {f : List AV → Wd → Option Wd} (M : SndV y b nL none lev na true f) (hI : CI S [] w) (hf : fulS S.1 S.2.1 = true) (hv : ∀ v ∈ as, vok S.1 v) (h : f as w = some x) : SndC y b nL lev 0 0 as [] S (S.1, S.2.1, [], 0, 0) w (mrg S.1 w x) := by
  intro l ρ D aC sz
  have hk := CI_kd hI
  refine ((M l S.1 ρ D aC sz as w x hI.1 (CI_cloS hI hf) (CI_cloR hI hf) hv h).2.2).con (fun a s hp => ?_) (fun a s o t hp hq => ?_) (fun q hq => ?_)
  · obtain ⟨rfl, h1, h2, h3, h4, h5, h6⟩ := hp
    exact ⟨rfl, h1, (P_ful hk hf).mp h2, h3, D_ful.mp h4, by rw [← A_ful (u := S.2.1) (w := w)]; exact h5⟩
  · obtain ⟨⟨u, h1, rfl, h2, h3, h4, h5⟩, h6⟩ := hq
    refine ⟨⟨ρ, h1, fun _ _ _ => rfl, ?_, ?_, CI_V (w1 := w) (rv := []) (a := 0) (b := 0) ⟨hI.1, hI.2.1, hI.2.2.1, fun _ _ _ _ z => by cases z⟩ h5⟩, by rw [A_ful (w1 := w)]; exact h6⟩
    · refine (P_ful hk hf).mpr ?_
      show va_P D classes (pic S.1 ρ aC (mrg S.1 w u)) _
      rw [pic_mrg]
      exact h2
    · refine (D_ful (w1 := u)).mpr ?_
      rw [A_ful (w1 := w)]
      exact h4
  · rw [A_ful (w1 := w)]
    exact hq
/-- from the constructor's walk to the small machine's -/
theorem CW_WW {X : XT} {pc : Nat} {ls : LV} {st : List AV} {S : CS} {w : Wd} {p : Program} {l : Launch} {e : Env} {R : Room} {s : State} {m : MethodId} {args : Array Value} {below : List Frame} {meth : Method} {c : Code} {mc ms : Nat} {Q : State → Prop} {cs0 : List (Nat × Nat)} {ρ0 : Nat → Nat → Nat} {D : va_G} {aC : Nat → ClassId} {A : Nat → Prop} {nL : Nat}
    (hX : X = (p, l, e, R, s, m, args, below, meth, c, mc, ms, Q, cs0, ρ0, D, aC, A, nL)) (hf : fulS S.1 S.2.1 = true) (hls : ∀ i v, ls.getD i none = some v → vok S.1 v) (hst : ∀ v ∈ st, vok S.1 v)
    (h : ∀ ρ, cs0.length ≤ S.1.length → (∀ k i, (k, i) ∉ S.1.drop cs0.length → ρ k i = ρ0 k i) → CI S [] w → WW (p, l, e, R, s, m, args, below, meth, c, S.2.2.2.1, S.2.2.2.2, Q, S.1, ρ, D, aC, A, nL) pc ls st w) : CW X [] pc ls st S w := by
  subst hX
  intro ρ H locs la hle hρ hl hI hP hD hS
  exact h ρ hle hρ hI H locs la hl hls hst ((P_ful (CI_kd hI) hf).mp hP) (D_ful.mp hD) hS (CI_cloR hI hf)
/-- .. and back, at the end -/
theorem WW_CW {X : XT} {pc : Nat} {ls : LV} {S : CS} {w w1 x : Wd} {p : Program} {l : Launch} {e : Env} {R : Room} {s : State} {m : MethodId} {args : Array Value} {below : List Frame} {meth : Method} {c : Code} {mc ms : Nat} {Q : State → Prop} {cs0 : List (Nat × Nat)} {ρ ρ0 : Nat → Nat → Nat} {D : va_G} {aC : Nat → ClassId} {A : Nat → Prop} {nL : Nat}
    (hX : X = (p, l, e, R, s, m, args, below, meth, c, mc, ms, Q, cs0, ρ0, D, aC, A, nL)) (hf : fulS S.1 S.2.1 = true) (hle : cs0.length ≤ S.1.length) (hρ : ∀ k i, (k, i) ∉ S.1.drop cs0.length → ρ k i = ρ0 k i) (hI : CI S [] w1) (h : CW X [] pc ls [] (S.1, S.2.1, [], S.2.2.2.1, S.2.2.2.2) (mrg S.1 w x)) : WW (p, l, e, R, s, m, args, below, meth, c, S.2.2.2.1, S.2.2.2.2, Q, S.1, ρ, D, aC, A, nL) pc ls [] x := by
  subst hX
  intro H locs la hl hv hs hP hD hS hR
  refine h ρ H locs la hle hρ hl (CI_V (w1 := w1) hI hR) ?_ (D_ful.mpr hD) hS
  refine (P_ful (CI_kd hI) hf).mpr ?_
  show va_P D classes (pic S.1 ρ aC (mrg S.1 w x)) H
  rw [pic_mrg]
  exact hP
/-- what the small machine needs, out of a constructor's -/
theorem GC0.gx {S : CS} {w : Wd} {cc : ByteArray} {own : String} {p : Program} {l : Launch} {e : Env} {R : Room} {s : State} {m : MethodId} {args : Array Value} {below : List Frame} {meth : Method} {c : Code} {mc ms : Nat} {Q : State → Prop} {cs0 : List (Nat × Nat)} {ρ ρ0 : Nat → Nat → Nat} {D : va_G} {aC : Nat → ClassId} {A : Nat → Prop} {nL n0 : Nat}
    (G : GC0 (p, l, e, R, s, m, args, below, meth, c, mc, ms, Q, cs0, ρ0, D, aC, A, nL) cc own) (hf : fulS S.1 S.2.1 = true) (hρ : ∀ k i, (k, i) ∉ S.1.drop n0 → ρ k i = ρ0 k i) (hI : CI S [] w) (h1 : S.2.2.2.1 ≤ mc) (h2 : S.2.2.2.2 ≤ ms) : GX (p, l, e, R, s, m, args, below, meth, c, S.2.2.2.1, S.2.2.2.2, Q, S.1, ρ, D, aC, A, nL) cc own := by
  obtain ⟨hex, hen, hx, hb, hml, hown, hts, hK, hA, hcc, hcs, hfr, hlo⟩ := G
  exact ⟨exS_agr hI hρ hex, hx, hb, hml, hown, hts, hK, hI.1, CI_cloS hI hf, hA, Nat.le_trans h1 hcc, Nat.le_trans h2 hcs, hfr, hlo⟩

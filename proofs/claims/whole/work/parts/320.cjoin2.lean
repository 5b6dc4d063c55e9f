/-! ===== constructors: behind a call, the caller's cells and the callee's ===== -/
section
variable {S T : CS} {sub nw ext ext1 : List (Nat × Nat)} {ρ ρ1 : Nat → Nat → Nat} {aC : Nat → ClassId} {w w1 : Wd} {D : va_G} {H H1 : Heap} {A : Nat → Prop}
theorem con_app {α : Type} [BEq α] [LawfulBEq α] {a b : List α} {x : α} : (a ++ b).contains x = (a.contains x || b.contains x) := by
  rw [Bool.eq_iff_iff, Bool.or_eq_true, List.contains_iff_mem, List.contains_iff_mem, List.contains_iff_mem, List.mem_append]
/-- the set fields of a callee's cell -/
theorem join_uC (hI : CI S ext w) (hnw : ∀ c ∈ nw, c ∉ S.1 ++ ext) (hT : T.1 = sub ++ nw) (hu5 : ∀ k i f, S.2.1.contains (k, i, f) = true → (k, i) ∈ sub → T.2.1.contains (k, i, f) = true) {k i : Nat} (hm : (k, i) ∈ T.1) (f : Nat) : (T.2.1 ++ S.2.1).contains (k, i, f) = T.2.1.contains (k, i, f) := by
  rw [con_app]
  cases h : S.2.1.contains (k, i, f) with
  | false => rw [Bool.or_false]
  | true =>
    rw [hT] at hm
    rcases List.mem_append.mp hm with hm | hm
    · rw [hu5 k i f h hm]; rfl
    · exact absurd (List.mem_append_left _ (hI.2.2.1 k i f h)) (hnw _ hm)
/-- .. of another of the caller's -/
theorem join_uR (hI1 : CI T ext1 w1) {k i : Nat} (hm : (k, i) ∉ T.1) (f : Nat) : (T.2.1 ++ S.2.1).contains (k, i, f) = S.2.1.contains (k, i, f) := by
  rw [con_app]
  cases h : T.2.1.contains (k, i, f) with
  | false => rfl
  | true => exact absurd (hI1.2.2.1 k i f h) hm
theorem CI_join {nc ns : Nat} {rv : List (Nat × Nat × Nat × Nat)} (hI : CI S ext w) (hI1 : CI T ext1 w1) (hsub : ∀ c ∈ sub, c ∈ S.1) (hT : T.1 = sub ++ nw) (hnw : ∀ c ∈ nw, c ∉ S.1 ++ ext) (hu5 : ∀ k i f, S.2.1.contains (k, i, f) = true → (k, i) ∈ sub → T.2.1.contains (k, i, f) = true) (hx : ∀ c ∈ ext1, c ∈ S.1 ++ ext) (hW : agW T.1 w w1) (hrv : ∀ k i f x, (k, i, f, x) ∈ rv → (k, i, f, x) ∈ T.2.2.1 ∨ ((k, i, f, x) ∈ S.2.2.1 ∧ (k, i) ∉ T.1)) : CI (S.1 ++ nw, T.2.1 ++ S.2.1, rv, nc, ns) ext w1 := by
  have hn1 := hI1.1
  rw [hT] at hn1
  refine ⟨?_, fun k i hm => ?_, fun k i f hc => ?_, fun k i f x hm => ?_⟩
  · exact List.nodup_append.mpr ⟨hI.1, (List.nodup_append.mp hn1).2.1, fun a ha b hb e => hnw b hb (List.mem_append_left _ (e ▸ ha))⟩
  · by_cases hc : (k, i) ∈ T.1
    · have h := hI1.2.1 k i hc
      have hal : ∀ q ∈ T.1 ++ ext1, q ∈ (S.1 ++ nw) ++ ext := fun q hq => by
        rcases List.mem_append.mp hq with hq | hq
        · rw [hT] at hq
          rcases List.mem_append.mp hq with hq | hq
          · exact List.mem_append_left _ (List.mem_append_left _ (hsub q hq))
          · exact List.mem_append_left _ (List.mem_append_right _ hq)
        · rcases List.mem_append.mp (hx q hq) with hq | hq
          · exact List.mem_append_left _ (List.mem_append_left _ hq)
          · exact List.mem_append_right _ hq
      exact ⟨h.1, fun h1 f hf hcf q hq => hal q (h.2.1 h1 f hf (by rw [← join_uC hI hnw hT hu5 hc f]; exact hcf) q hq), fun h6 j hj => hal _ (h.2.2 h6 j hj)⟩
    · have hm' : (k, i) ∈ S.1 := by
        rcases List.mem_append.mp hm with hm | hm
        · exact hm
        · exact absurd (by rw [hT]; exact List.mem_append_right _ hm) hc
      have h := hI.2.1 k i hm'
      have hal : ∀ q ∈ S.1 ++ ext, q ∈ (S.1 ++ nw) ++ ext := fun q hq => by
        rcases List.mem_append.mp hq with hq | hq
        · exact List.mem_append_left _ (List.mem_append_left _ hq)
        · exact List.mem_append_right _ hq
      obtain ⟨e1, e2, e3⟩ := hW k i hc
      refine ⟨h.1, fun h1 f hf hcf q hq => hal q (h.2.1 h1 f hf (by rw [← join_uR hI1 hc f]; exact hcf) q ?_), fun h6 j hj => hal _ (h.2.2 h6 j hj)⟩
      rw [← hq]
      exact (fget_congr e1 e2 e3 f _).symm
  · rw [con_app, Bool.or_eq_true] at hc
    rcases hc with hc | hc
    · have := hI1.2.2.1 k i f hc
      rw [hT] at this
      rcases List.mem_append.mp this with h | h
      · exact List.mem_append_left _ (hsub _ h)
      · exact List.mem_append_right _ h
    · exact List.mem_append_left _ (hI.2.2.1 k i f hc)
  · rcases hrv k i f x hm with h | ⟨h, hn⟩
    · exact hI1.2.2.2 k i f x h
    · rw [(hW k i hn).2.2]
      exact hI.2.2.2 k i f x h
theorem pic_join {us : List (Nat × Nat × Nat)} (hI : CI S ext w) (hI1 : CI T ext1 w1) (hsub : ∀ c ∈ sub, c ∈ S.1) (hT : T.1 = sub ++ nw) (hnw : ∀ c ∈ nw, c ∉ S.1 ++ ext) (hu5 : ∀ k i f, S.2.1.contains (k, i, f) = true → (k, i) ∈ sub → T.2.1.contains (k, i, f) = true) (hW : agW T.1 w w1) (hρ : ∀ k i, (k, i) ∉ nw → ρ1 k i = ρ k i)
    (hP : va_P D classes (picN S.2.1 S.1 ρ aC w) H) (hD : va_D A (picN S.2.1 S.1 ρ aC w)) (hP1 : va_P D classes (picN T.2.1 T.1 ρ1 aC w1) H1) (hD1 : va_D (va_A (picN us sub ρ aC w) H.size) (picN T.2.1 T.1 ρ1 aC w1)) (hk : ∀ q : Nat, q < H.size → ¬ va_A (picN us sub ρ aC w) H.size q → H1[q]? = H[q]?) (hF : ∀ q, va_A (picN us sub ρ aC w) H.size q → A q) :
    va_P D classes (picN (T.2.1 ++ S.2.1) (S.1 ++ nw) ρ1 aC w1) H1 ∧ va_D A (picN (T.2.1 ++ S.2.1) (S.1 ++ nw) ρ1 aC w1) := by
  have hn1 := hI1.1
  rw [hT] at hn1
  have hnd : (S.1 ++ nw).Nodup := List.nodup_append.mpr ⟨hI.1, (List.nodup_append.mp hn1).2.1, fun a ha b hb e => hnw b hb (List.mem_append_left _ (e ▸ ha))⟩
  have hS' : ∀ c : Nat × Nat, c ∈ S.1 → ρ1 c.1 c.2 = ρ c.1 c.2 := fun c hc => hρ c.1 c.2 (fun z => hnw _ z (List.mem_append_left _ hc))
  have rest : ∀ c : Nat × Nat, c ∈ S.1 ++ nw → c ∉ T.1 → c ∈ S.1 := fun c hc hn => by
    rcases List.mem_append.mp hc with hc | hc
    · exact hc
    · exact absurd (by rw [hT]; exact List.mem_append_right _ hc) hn
  have apart : ∀ c : Nat × Nat, c ∈ S.1 → c ∉ T.1 → ρ c.1 c.2 < H.size ∧ ¬ va_A (picN us sub ρ aC w) H.size (ρ c.1 c.2) := fun c hc hn => by
    have hl := (picP_at (k := c.1) (i := c.2) hP hc).lt
    refine ⟨hl, fun z => ?_⟩
    rcases picA_iff.mp z with ⟨c', hc', e⟩ | z
    · have := picD_inj hD (hsub c' hc') hc e
      subst this
      exact hn (by rw [hT]; exact List.mem_append_left _ hc')
    · dsimp only at hl
      omega
  refine ⟨picP_of (fun k i hm => ?_), picD_of hnd (fun c hc c' hc' e => ?_) (fun c hc => ?_)⟩
  · by_cases hc : (k, i) ∈ T.1
    · rw [entN_u (fun f => join_uC hI hnw hT hu5 hc f)]
      exact picP_at hP1 hc
    · have hm' := rest (k, i) hm hc
      obtain ⟨e1, e2, e3⟩ := hW k i hc
      have e : entN (T.2.1 ++ S.2.1) ρ1 aC w1 k i = entN S.2.1 ρ aC w k i := entN_eq (al := S.1 ++ ext) e1 e2 e3 (fun f => join_uR hI1 hc f) (fun q hq => hρ q.1 q.2 (fun z => hnw _ z hq)) (hI.2.1 k i hm')
      rw [e]
      have e4 := hS' (k, i) hm'
      dsimp only at e4
      rw [e4]
      obtain ⟨a1, a2⟩ := apart (k, i) hm' hc
      exact (picP_at hP hm').kept (hk _ a1 a2)
  · by_cases h1 : c ∈ T.1
    · by_cases h2 : c' ∈ T.1
      · exact picD_inj hD1 h1 h2 e
      · have hm' := rest c' hc' h2
        have := picD_A hD1 h1
        rw [e, hS' c' hm'] at this
        exact absurd this (apart c' hm' h2).2
    · have hm := rest c hc h1
      by_cases h2 : c' ∈ T.1
      · have := picD_A hD1 h2
        rw [← e, hS' c hm] at this
        exact absurd this (apart c hm h1).2
      · have hm' := rest c' hc' h2
        rw [hS' c hm, hS' c' hm'] at e
        exact picD_inj hD hm hm' e
  · by_cases h1 : c ∈ T.1
    · exact hF _ (picD_A hD1 h1)
    · have hm := rest c hc h1
      rw [hS' c hm]
      exact picD_A hD hm
end

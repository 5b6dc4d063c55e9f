/-! ===== constructors: what a callee gets ===== -/
def inS (sub : List (Nat × Nat)) (x : Nat × Nat × Nat) : Bool := sub.contains (x.1, x.2.1)
def inR (sub : List (Nat × Nat)) (x : Nat × Nat × Nat × Nat) : Bool := sub.contains (x.1, x.2.1)
def cSub (S : CS) (sub : List (Nat × Nat)) : CS := (sub, S.2.1.filter (inS sub), S.2.2.1.filter (inR sub), 0, 0)
/-- where a cell's references lead, on closed data -/
def clB (al : List (Nat × Nat)) (S : CS) (c : Nat × Nat) : Bool := decide (1 ≤ (kd c.1).1 ∧ (kd c.1).1 ≤ 6) &&
  (((kd c.1).1 != 1 || (List.range (kd c.1).2.2).all (fun f => !S.2.1.contains (c.1, c.2, f) || (match gtgt S c.1 c.2 f with | some q => al.contains q | none => decide ((fm c.1 f).1 < 2)))) &&
  ((kd c.1).1 != 6 || (List.range (ln c.1 c.2)).all fun j => al.contains (rk c.1, j + ln c.1 c.2 * c.2)))
section
variable {S : CS} {sub ext ext1 : List (Nat × Nat)} {w : Wd} {ρ : Nat → Nat → Nat} {aC : Nat → ClassId} {D : va_G} {H : Heap} {A : Nat → Prop}
theorem cSub_con {k i f : Nat} (hm : (k, i) ∈ sub) : (cSub S sub).2.1.contains (k, i, f) = S.2.1.contains (k, i, f) := by
  show (S.2.1.filter (inS sub)).contains (k, i, f) = _
  rw [Bool.eq_iff_iff, List.contains_iff_mem, List.contains_iff_mem, List.mem_filter]
  exact ⟨fun h => h.1, fun h => ⟨h, List.contains_iff_mem.mpr hm⟩⟩
theorem clB_of {al : List (Nat × Nat)} {k i : Nat} (h : clB al S (k, i) = true) (hrv : ∀ k i f x, (k, i, f, x) ∈ S.2.2.1 → gR w k i f = x) : clN al S.2.1 w k i := by
  unfold clB at h
  rw [Bool.and_eq_true, Bool.and_eq_true] at h
  obtain ⟨h1, h2, h3⟩ := h
  refine ⟨of_decide_eq_true h1, fun k1 f hf hc q hq => ?_, fun k6 j hj => ?_⟩
  · dsimp only at h2
    rw [k1] at h2
    have h2' := ((Bool.or_eq_true _ _).mp h2).resolve_left (by decide)
    have h4 := List.all_eq_true.mp h2' f (List.mem_range.mpr hf)
    rw [hc] at h4
    cases hg : gtgt S k i f with
    | none =>
      rw [hg] at h4
      have h5 : (fm k f).1 < 2 := by simpa using h4
      have := fget_ref hq
      omega
    | some q' =>
      rw [hg] at h4
      have e := gtgt_of hg hrv
      rw [e] at hq
      cases hq
      exact List.contains_iff_mem.mp (by simpa using h4)
  · dsimp only at h3
    rw [k6] at h3
    have h3' := ((Bool.or_eq_true _ _).mp h3).resolve_left (by decide)
    have h4 := List.all_eq_true.mp h3' j (List.mem_range.mpr hj)
    exact List.contains_iff_mem.mp h4
theorem CI_sub (hI : CI S ext w) (hn : sub.Nodup) (hc : sub.all (clB (sub ++ ext1) (cSub S sub)) = true) : CI (cSub S sub) ext1 w := by
  have hrv : ∀ k i f x, (k, i, f, x) ∈ (cSub S sub).2.2.1 → gR w k i f = x := fun k i f x h => hI.2.2.2 k i f x (List.mem_filter.mp h).1
  refine ⟨hn, fun k i hm => clB_of (List.all_eq_true.mp hc (k, i) hm) hrv, fun k i f h => ?_, hrv⟩
  have h1 := List.contains_iff_mem.mp h
  exact List.contains_iff_mem.mp (List.mem_filter.mp h1).2
theorem picP_sub (hsub : ∀ c ∈ sub, c ∈ S.1) (hP : va_P D classes (picN S.2.1 S.1 ρ aC w) H) : va_P D classes (picN (cSub S sub).2.1 (cSub S sub).1 ρ aC w) H := picP_of (fun k i hm => by
  have hm' : (k, i) ∈ sub := hm
  rw [entN_u (fun f => cSub_con (S := S) (sub := sub) hm')]
  exact picP_at hP (hsub _ hm'))
theorem picD_sub (hsub : ∀ c ∈ sub, c ∈ S.1) (hn : sub.Nodup) (hD : va_D A (picN S.2.1 S.1 ρ aC w)) : va_D A (picN (cSub S sub).2.1 (cSub S sub).1 ρ aC w) := picD_of hn (fun c hc c' hc' e => picD_inj hD (hsub c hc) (hsub c' hc') e) (fun c hc => picD_A hD (hsub c hc))
/-- the texts' addresses stay -/
theorem exS_agr {ρ0 : Nat → Nat → Nat} {s : State} {n0 : Nat} (hI : CI S ext w) (hρ : ∀ k i, (k, i) ∉ S.1.drop n0 → ρ k i = ρ0 k i) (h : exS ρ0 A s) : exS ρ A s := by
  have hz : ∀ k, (kd k).1 = 0 → ρ k = ρ0 k := fun k hk => funext fun i => hρ k i (fun z => by
    have := (hI.2.1 k i (List.mem_of_mem_drop z)).1.1
    omega)
  have e2 := hz 2 rfl
  have e0 := hz 0 rfl
  unfold exS at h ⊢
  rw [e2, e0]
  exact h
theorem exN.warm {s U : State} (hW : s.WarmedH U.vm) (h : exN s) : exN U := by
  refine ⟨fun x hx => ?_, Jvm.Stand.arrayOver_alikeB hW.alike h.2⟩
  have := h.1 x hx
  simp only [nestL, List.mem_cons, List.not_mem_nil, or_false] at hx
  rcases hx with rfl | rfl | rfl | rfl <;> exact va_Nw.warmM hW this
theorem exN.same {s U : State} (hv : U.vm = s.vm) (h : exN s) : exN U := by
  refine ⟨fun x hx => ?_, Jvm.Stand.arrayOver_alikeB (by rw [hv]; exact Vm.Alike.refl _) h.2⟩
  have := h.1 x hx
  simp only [nestL, List.mem_cons, List.not_mem_nil, or_false] at hx
  rcases hx with rfl | rfl | rfl | rfl <;> exact va_Nw.same rfl hv.symm this
theorem PcN.blind {sz : Nat} {av : List Value} : FrameBlind (va_Pc av (PcN S ρ D aC sz w)) := fun a U g mk q => by
  obtain ⟨q0, q1, qP, qK, qD, qE, qN⟩ := q
  exact ⟨q0, q1, qP, va_K.moved (u := U) (U := U.calling g mk a) (Vm.Alike.refl U.vm) qK, qD, qE.same rfl rfl, exN.same (s := U) (U := U.calling g mk a) rfl qN⟩
end

/-! ===== constructors: worlds behind calls, Tokens, methods that constructors call ===== -/
def tokC : List (Nat × Nat) := [(14, 0), (67, 0), (68, 0), (69, 0), (70, 0), (3, 1)]
def moorC (d : Nat) : List (Nat × Nat) := [(8, d), (30, d), (31, d), (32, d), (33, d), (34, d), (35, d), (36, d), (37, d), (38, d), (39, d), (10, d), (48, d), (49, d), (50, d), (51, d), (52, d), (53, d), (5, 2 * d), (21, 2 * d), (22, 2 * d), (5, 2 * d + 1), (21, 2 * d + 1), (22, 2 * d + 1)]
def stdC (i : Nat) : List (Nat × Nat) := [(13, i), (60, i), (61, i), (62, 0 + 6 * i), (62, 1 + 6 * i), (62, 2 + 6 * i), (62, 3 + 6 * i), (62, 4 + 6 * i), (62, 5 + 6 * i), (63, i), (64, i), (65, i), (66, i)] ++ moorC 0
def mmC : List (Nat × Nat) := (16, 0) :: (List.range 58).map (fun j => (73 + j, 0))
def Lc (n : Nat) : List (Nat × Nat) := if n = 0 then tokC else if n ≤ 3 then stdC (n - 1) else mmC
noncomputable def Fc (N n : Nat) (w : Wd) : Option Wd := if n = 0 then (pX10_init N w).map (mrg tokC w) else if n ≤ 3 then (pX9_begin N (n - 1) 0 w).map (mrg (stdC (n - 1)) w) else if n = 4 then (pX12_plain N w).map (mrg mmC w) else (pX12_keepText N w).map (mrg mmC w)
theorem map_mrg {o : Option Wd} {C : List (Nat × Nat)} {w w1 : Wd} (h : o.map (mrg C w) = some w1) : ∃ x, o = some x ∧ w1 = mrg C w x := by
  cases o with
  | none => cases h
  | some x => exact ⟨x, rfl, (Option.some.inj h).symm⟩
theorem Fc_ag (N : Nat) : ∀ n w w1, Fc N n w = some w1 → agW (Lc n) w w1 := by
  intro n w w1 h
  unfold Fc at h
  unfold Lc
  by_cases h0 : n = 0
  · rw [if_pos h0] at h ⊢
    obtain ⟨x, _, rfl⟩ := map_mrg h
    exact mrg_out _ _ _
  · rw [if_neg h0] at h ⊢
    by_cases h3 : n ≤ 3
    · rw [if_pos h3] at h ⊢
      obtain ⟨x, _, rfl⟩ := map_mrg h
      exact mrg_out _ _ _
    · rw [if_neg h3] at h ⊢
      by_cases h4 : n = 4
      · rw [if_pos h4] at h
        obtain ⟨x, _, rfl⟩ := map_mrg h
        exact mrg_out _ _ _
      · rw [if_neg h4] at h
        obtain ⟨x, _, rfl⟩ := map_mrg h
        exact mrg_out _ _ _
theorem wop3 {F : Nat → Wd → Option Wd} {n : Nat} {w w1 : Wd} (h : wops F [(3, n, 0, 0, 0, 0)] w = some w1) : F n w = some w1 := by
  have h' : (F n w).bind (fun x => some x) = some w1 := h
  cases hF : F n w with
  | none => rw [hF] at h'; cases h'
  | some x => rw [hF] at h'; exact h'
/-! begin -/
def rBeg (as : List AV) (S0 : CS) : Option (CS × List WO) := match as with
  | [.inr (.inr c), .inr (.inr d)] => if (d = (8, 0) ∧ c.2 ≤ 2) ∧ S0.1 = stdC c.2 ∧ fulS S0.1 ((13, c.2, 0) :: S0.2.1) = true then some ((S0.1, (13, c.2, 0) :: S0.2.1, [], 0, 0), [(3, 1 + c.2, 0, 0, 0, 0)]) else none
  | _ => none
theorem RSbeg (N : Nat) : RS (Fc N) yX9_begin cX9_begin 4 2 0 0 13 1 (fun _ => []) rBeg := by
  intro i t S0 T ops w w1 h1 h2 hz h3 h4 h5 hI hW
  unfold rBeg at h3
  split at h3
  · rename_i c d ec
    obtain ⟨⟨⟨rfl, hi⟩, hS, hf⟩, h9⟩ := if_some _ h3
    cases ec
    cases h9
    dsimp only at hi hS hf hW ⊢
    have hF := wop3 hW
    unfold Fc at hF
    rw [if_neg (by omega), if_pos (by omega), Nat.add_sub_cancel_left] at hF
    obtain ⟨x, hx, rfl⟩ := map_mrg hF
    rw [← hS]
    exact begC hI hz (by rw [hS]; exact List.mem_cons_self) (by rw [hS]; exact List.mem_append_right _ List.mem_cons_self) hf hx
  · cases h3
/-! plain, keepText -/
def rMM (n : Nat) (as : List AV) (S0 : CS) : Option (CS × List WO) := match as with
  | [.inr (.inr c)] => if c = (16, 0) ∧ S0.1 = mmC ∧ fulS S0.1 S0.2.1 = true then some ((S0.1, S0.2.1, [], 0, 0), [(3, n, 0, 0, 0, 0)]) else none
  | _ => none
theorem RSX12_plain (N : Nat) : RS (Fc N) yX12_plain cX12_plain 1 1 0 0 16 0 (fun _ => []) (rMM 4) := by
  intro i t S0 T ops w w1 h1 h2 hz h3 h4 h5 hI hW
  unfold rMM at h3
  split at h3
  · rename_i c ec
    obtain ⟨⟨hc, hS, hf⟩, h9⟩ := if_some _ h3
    subst hc
    cases ec
    cases h9
    dsimp only at hS hf hW ⊢
    have hF : (pX12_plain N w).map (mrg mmC w) = some w1 := wop3 hW
    obtain ⟨x, hx, rfl⟩ := map_mrg hF
    rw [← hS]
    refine SndC.ofV (MX12_plain N) hI hf (fun v hv => ?_) ?_
    · cases List.mem_singleton.mp hv
      exact Or.inl (by rw [hS]; exact List.mem_cons_self)
    · show callW (pX12_plain N) w = some x
      rw [callW_eq]
      exact hx
  · cases h3
theorem RSX12_keepText (N : Nat) : RS (Fc N) yX12_keepText cX12_keepText 2 5 0 0 16 0 (fun _ => []) (rMM 5) := by
  intro i t S0 T ops w w1 h1 h2 hz h3 h4 h5 hI hW
  unfold rMM at h3
  split at h3
  · rename_i c ec
    obtain ⟨⟨hc, hS, hf⟩, h9⟩ := if_some _ h3
    subst hc
    cases ec
    cases h9
    dsimp only at hS hf hW ⊢
    have hF : (pX12_keepText N w).map (mrg mmC w) = some w1 := wop3 hW
    obtain ⟨x, hx, rfl⟩ := map_mrg hF
    rw [← hS]
    refine SndC.ofV (MX12_keepText N) hI hf (fun v hv => ?_) ?_
    · cases List.mem_singleton.mp hv
      exact Or.inl (by rw [hS]; exact List.mem_cons_self)
    · show callW (pX12_keepText N) w = some x
      rw [callW_eq]
      exact hx
  · cases h3
/-! Tokens -/
def tC10 : List CE := [
  (0, .aload_n 0, 0, 0, 0), (1, .invokespecial 5, 0, 1, 0), (4, .aload_n 0, 0, 0, 0), (5, .bipush 24, 0, 0, 24), (7, .newarray .long, 67, 0, 0), (9, .putfield 11, 10, 0, 0),
  (12, .aload_n 0, 0, 0, 0), (13, .sipush 901, 0, 0, 901), (16, .newarray .int, 68, 0, 0), (18, .putfield 15, 10, 1, 0), (21, .aload_n 0, 0, 0, 0), (22, .sipush 901, 0, 0, 901),
  (25, .newarray .int, 69, 0, 0), (27, .putfield 19, 10, 2, 0), (30, .aload_n 0, 0, 0, 0), (31, .sipush 901, 0, 0, 901), (34, .newarray .int, 70, 0, 0), (36, .putfield 22, 10, 3, 0),
  (39, .aload_n 0, 0, 0, 0), (40, .iconst 0, 0, 0, 0), (41, .newarray .byte, 3, 1, 0), (43, .putfield 25, 10, 6, 0)]
def rX10 (as : List AV) (S0 : CS) : Option (CS × List WO) := match as with
  | [.inr (.inr c)] => if c = (14, 0) then (crunP 5 2727 [] (entL 3 as) tC10 [] S0).bind fun q => if q.1.length = 0 ∧ (q.2.1.1 = tokC ∧ S0.1.length ≤ 6) ∧ fulS q.2.1.1 q.2.1.2.1 = true then some ((q.2.1.1, q.2.1.2.1, [], q.2.1.2.2.2), q.2.2 ++ [(3, 0, 0, 0, 0, 0)]) else none else none
  | _ => none
theorem tC10_ok : ctok cX10_init RX10 tC10 = true := by decide +kernel
theorem tC10_w : ∀ e ∈ tC10, ∀ x ∈ cwd RX10 e, x ∈ lwg := fun e he x hx => wds_of (l := tC10.flatMap (cwd RX10)) (by decide +kernel) x (List.mem_flatMap.mpr ⟨e, he, hx⟩)
theorem RSX10 (N : Nat) : RS (Fc N) yX10_init cX10_init 3 6 5 2727 14 0 (fun _ => []) rX10 := by
  intro i t S0 T ops w w1 h1 h2 hz h3 h4 h5 hI hW
  unfold rX10 at h3
  split at h3
  · rename_i c ec
    obtain ⟨hc, h3⟩ := if_some _ h3
    subst hc
    cases ec
    obtain ⟨⟨st, S1, ops0⟩, hq, h3⟩ := bind_some' h3
    obtain ⟨⟨hs, ⟨hS, hl6⟩, hf⟩, h3⟩ := if_some _ h3
    cases h3
    dsimp only at hs hS hf hW h4 h5 hq ⊢
    obtain ⟨a1, a2, a3, a4⟩ := S0
    cases hz
    rw [wops_app] at hW
    obtain ⟨w2, hW1, hW2⟩ := bind_some' hW
    have hF : (pX10_init N w2).map (mrg tokC w2) = some w1 := wop3 hW2
    obtain ⟨x, hx, rfl⟩ := map_mrg hF
    rw [List.length_eq_zero_iff.mp hs] at hq
    refine SndC.of (by decide +kernel) rfl h2 hI h4 h5 (fun X G hmc hms hR hn hr => ?_)
    refine crunP_sound G hmc hms (F := Fc N) tC10 0 [] _ ops0 w tC10_ok (fun e r he => by cases he; rfl) tC10_w hq hW1 ?_
    obtain ⟨p, l, e0, R, s, m, args, below, meth, c, mc, ms, Q, cs0, ρ0, D, aC, A, nL⟩ := X
    dsimp only at hmc hms
    subst hmc hms
    refine CW_WW (S := S1) rfl hf ?_ (fun v hv => by cases hv) (fun ρ hle hρ hI1 => ?_)
    · intro j v hj
      match j with
      | 0 => cases hj; exact Or.inl (by rw [hS]; exact List.mem_cons_self)
      | 1 => cases hj
      | 2 => cases hj
      | j + 3 => cases hj
    · refine wX10_init (N := N) (r := x) (GC0.gx G.g0 hf hρ hI1 h4 h5) hn hR ?_ w2 hx
      intro w' pc ls hw' hd
      subst hw'
      have := hr pc ls hd
      rw [← hS] at this
      exact WW_CW rfl hf hle hρ hI1 this
  · cases h3

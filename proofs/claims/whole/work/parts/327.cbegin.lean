/-! ===== constructors: Stand.begin while its moor isn't set ===== -/
set_option maxRecDepth 100000 in
set_option maxHeartbeats 4000000 in
theorem wX9_begin3 {N : Nat} {X : XT} (G : GX X cX9_begin RX9) (hn : xnL X = 4) (hR : xR X = rmL 2) {r : Wd} (hr : RTV X cX9_begin r) (i0 i1 : Nat) (w : Wd) (h : pX9_begin N i0 i1 w = some r) : WW X (pcAt tX9_begin 3) [some (.inr (.inr (13, i0))), some (.inr (.inr (8, i1))), none, none] [] (setR w 13 i0 0 i1) := by
  have hC := crX9_begin (N := N) G hR
  refine run_sound (r := r) (X := X) (cc := cX9_begin) (own := RX9) (tab := tX9_begin) G (by rw [hn]; exact kX9_begin) (oI := (oF [(mX9_addSlide N)])) (oL := (oF [])) (oV := (oF [])) (rI := (fun _ _ => none)) (rL := (fun _ _ => none)) (rV := (fun w => some w))
    (K := (fun j ls st w => if j = 16 then (lgI ls 2 fun v2 => st0 st (callW (fX9_begin_16 N i0 i1 N (fX9_begin_57 N i0 i1) v2) w)) else none)) (fun _ _ _ _ hx => by cases hx) (fun _ _ _ _ hx => by cases hx) (fun w pc ls hx hd => hr w pc ls (Option.some.inj hx) hd) hC (fun ls => lsb [some (.inr (.inr (13, i0))), some (.inr (.inr (8, i1))), none, none] 0 ls) (keepsP_of rfl) ?_ 82 3 [some (.inr (.inr (13, i0))), some (.inr (.inr (8, i1))), none, none] [] (setR w 13 i0 0 i1) ?_ h
  · intro j ls st w hfx h
    obtain ⟨e0, e1, -⟩ : _ = _ ∧ _ = _ ∧ True := hfx
    try dsimp only at h
    by_cases hj : j = 16
    · subst hj
      rw [if_pos rfl] at h
      obtain ⟨v2, e2, h_1⟩ := lgI_some h
      obtain ⟨rfl, h_2⟩ := st0_some h_1
      clear h h_1
      have h := h_2
      try rw [callW_eq] at h
      exact WW.le (a := [some (.inr (.inr (13, i0))), some (.inr (.inr (8, i1))), some (.inl v2), none]) (by rw [hn]; rfl) (show _ = _ ∧ _ = _ ∧ _ = _ ∧ True from ⟨e0, e1, e2, trivial⟩) (sX9_begin_16 G hn hC hr i0 i1 N (fX9_begin_57 N i0 i1) v2 w h (fun w h => (sX9_begin_57 G hn hC hr i0 i1 w h)))
    rw [if_neg hj] at h
    cases h
  · exact (show _ = _ ∧ _ = _ ∧ True from ⟨rfl, rfl, trivial⟩)
theorem wds_of {l : List Cond} (h : l.all (fun x => lw_tbl.contains x && goodWord x) = true) : ∀ x ∈ l, x ∈ lwg := fun x hx => by
  have h2 := List.all_eq_true.mp h x hx
  rw [Bool.and_eq_true] at h2
  exact lwg_in (List.contains_iff_mem.mp h2.1) h2.2
theorem begC {N i : Nat} {S : CS} {w x : Wd} (hI : CI S [] w) (hz : S.2.2.2 = (0, 0)) (h13 : (13, i) ∈ S.1) (h8 : (8, 0) ∈ S.1) (hf : fulS S.1 ((13, i, 0) :: S.2.1) = true) (h : pX9_begin N i 0 w = some x) : SndC yX9_begin cX9_begin 4 2 0 0 [.inr (.inr (13, i)), .inr (.inr (8, 0))] [] S (S.1, (13, i, 0) :: S.2.1, [], 0, 0) w (mrg S.1 w x) := by
  obtain ⟨cs, u, rv, z⟩ := S
  cases hz
  intro l ρ D aC sz
  refine Met.ofWF (cc := cX9_begin) (maxL := 4) (ret := none) (by decide +kernel) rfl ?_
  intro p e s m args below meth c s₁ B hml hv
  obtain ⟨rfl, hsz, hP, hK, hD0, hex, hen⟩ := hv
  have hx := B.exec
  have hb := B.bytes
  have hr := B.returns
  have hts := atoms_spec (ws := wsy yX9_begin cX9_begin 4 none) B.pre
  have hown : s.vm.findClass yX9_begin.cls = some m.cls := findClass_of_methodNamed B.named
  have hlocks := B.notSynchronized
  subst hsz
  have hD := hD0.self (sz := s.heap.size)
  rw [lg_entry_eq]
  generalize hQ : MQ below _ _ _ _ _ _ = Q
  have G : GC0 (p, l, e, (headSpec (wsy yX9_begin cX9_begin 4 none) (rmC 2 0 0)).room, s, m, ([(Sum.inr (Sum.inr (13, i)) : AV), .inr (.inr (8, 0))].map (trv ρ)).toArray, below, meth, c, 0, 0, Q, cs, ρ, D, aC, va_A (picN u cs ρ aC w) s.heap.size, 4) cX9_begin RX9 := ⟨hex, hen, hx, hb, hml, hown, fun w h => hts w (List.mem_cons_of_mem _ h), hK, fun q h => Or.inr h, Nat.le_refl _, Nat.le_refl _, (show 1 ≤ 2 by decide), (show 64 ≤ 160 by decide)⟩
  have k : CW (p, l, e, (headSpec (wsy yX9_begin cX9_begin 4 none) (rmC 2 0 0)).room, s, m, ([(Sum.inr (Sum.inr (13, i)) : AV), .inr (.inr (8, 0))].map (trv ρ)).toArray, below, meth, c, 0, 0, Q, cs, ρ, D, aC, va_A (picN u cs ρ aC w) s.heap.size, 4) [] 0 (entL 4 [.inr (.inr (13, i)), .inr (.inr (8, 0))]) [] (cs, u, rv, 0, 0) w := by
    refine cs_aload G (i := 0) (k := 13) (q := i) (by decide +kernel) rfl ?_
    refine cs_aload G (i := 1) (k := 8) (q := 0) (by decide +kernel) rfl ?_
    refine cs_put0 (idx := 39) (b := 0) (w1 := setR w 13 i 0 0) (u1 := (13, i, 0) :: u) (rv1 := []) G (by decide +kernel) rfl (by decide) (wds_of (by decide +kernel)) (fun q hq hfin => ?_) h13 (fun q hq => ?_) ((ptgt_of (w := w) (k := 13) (i := i) (b := 0) (q := (8, 0)) rfl).2.2 rfl) (fun _ => by simp) (fun k' i' f hne => ?_) (fun _ => Or.inl (by decide)) (fun k' i' f hne => ⟨rfl, rfl, ?_⟩) (fun q hq => ?_) (fun _ _ _ _ _ z => by cases z) ?_
    · have : q = (RX9, TX9, 11) := (Option.some.inj hq).symm
      subst this
      exact absurd hfin (by decide)
    · obtain ⟨ty, h1, h2⟩ := ref_fit (fm_ty (k := 13) (f := 0) rfl (by decide) hq) (show 2 ≤ (fm 13 0).1 by decide)
      exact ⟨ty, h1, fun ρ => h2 _⟩
    · rw [List.contains_cons]
      have : ((k', i', f) == (13, i, 0)) = false := beq_false_of_ne hne
      rw [this]
      rfl
    · show up3 w.2.2 13 i 0 0 k' i' f = w.2.2 k' i' f
      unfold up3
      rw [if_neg (fun z => hne (by rw [z.1, z.2.1, z.2.2]))]
    · cases hq
      exact List.mem_append_left _ h8
    · refine CW_WW (S := (cs, (13, i, 0) :: u, [], 0, 0)) rfl hf ?_ (fun v hv => by cases hv) (fun ρ1 hle hρ hI1 => ?_)
      · intro j v hj
        match j with
        | 0 => cases hj; exact Or.inl h13
        | 1 => cases hj; exact Or.inl h8
        | 2 => cases hj
        | 3 => cases hj
        | j + 4 => cases hj
      · have G1 := GC0.gx (S := (cs, (13, i, 0) :: u, [], 0, 0)) (n0 := cs.length) G hf hρ hI1 (Nat.le_refl _) (Nat.le_refl _)
        refine wX9_begin3 (N := N) (r := x) G1 rfl rfl ?_ i 0 w h
        intro w1 pc ls hw1 hdd H locs la hl hv1 hs1 hP1 hD1 hS1 hR1
        subst hw1
        rw [← hQ]
        refine W.vret hx hb hr (fun t ht hW => ⟨⟨ρ1, rfl, fun k' i' hm => hρ k' i' hm, ?_, D_ful.mpr hD1, CI_V (S := (cs, (13, i, 0) :: u, [], 0, 0)) hI1 hR1⟩, hS1.F ht⟩) hS1.2.2 hdd hlocks
        refine (P_ful (CI_kd hI1) hf).mpr ?_
        show va_P D classes (pic cs ρ1 aC (mrg cs w w1)) t.heap
        rw [pic_mrg, ht]
        exact hP1
  exact k ρ s.heap [] _ (Nat.le_refl _) (fun _ _ _ => rfl) (ent_lvr ρ (Nat.le_of_ble_eq_true rfl)) hI hP hD va_S.rf

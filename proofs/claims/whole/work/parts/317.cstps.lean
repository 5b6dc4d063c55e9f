/-! ===== constructors: a step of the run is a step of the machine ===== -/
set_option maxHeartbeats 4000000 in
theorem cstp_sound {X : XT} {cc : ByteArray} {own : String} {ext : List (Nat × Nat)} {ls : LV} {st : List AV} {S : CS} {w w1 : Wd} {mc ms : Nat} (G : GC X cc own) (hmc : X.2.2.2.2.2.2.2.2.2.2.1 = mc) (hms : X.2.2.2.2.2.2.2.2.2.2.2.1 = ms) {e : CE} (hd : decode cc e.1 = .ok (e.2.1, ciln e)) (hk : cok own e = true) (hw : ∀ x ∈ cwd own e, x ∈ lwg) {F : Nat → Wd → Option Wd} {r : List AV × CS × List WO} (h : cstp mc ms ext ls e st S = some r) (hW : wops F r.2.2 w = some w1) (k : CW X ext (e.1 + ciln e) ls r.1 r.2.1 w1) : CW X ext e.1 ls st S w := by
  obtain ⟨pc, ins, a, b, x⟩ := e
  cases ins with
  | aload_n i =>
    dsimp only [cstp] at h
    split at h
    · rename_i q hi
      cases h
      rw [wop0 hW] at k
      exact cs_aload G.g0 hd hi k
    · cases h
  | iconst n =>
    cases h
    rw [wop0 hW] at k
    exact cs_iconst G hd (of_decide_eq_true hk) k
  | bipush n =>
    cases h
    rw [wop0 hW] at k
    exact cs_bipush G hd (of_decide_eq_true hk) k
  | sipush n =>
    cases h
    rw [wop0 hW] at k
    exact cs_sipush G hd (of_decide_eq_true hk) k
  | dup =>
    dsimp only [cstp] at h
    split at h
    · obtain ⟨hc, g⟩ := if_some _ h
      cases g
      rw [wop0 hW] at k
      exact cs_dup G hd hc k
    · cases h
  | new idx =>
    dsimp only [cstp] at h
    obtain ⟨⟨h1, h2, h3, h4⟩, g⟩ := if_some _ h
    cases g
    rw [wopZ hW] at k
    obtain ⟨f1, f2, f3⟩ := frs_of h2
    exact cs_new (k := a) (i := b) G hd h1 hw (f1 _ (List.mem_singleton.mpr rfl)) (nrs_1s f2) (nrs_1L f3) (by rw [hmc]; exact h3) (by rw [hms]; exact h4) k
  | newarray t =>
    dsimp only [cstp] at h
    split at h
    · obtain ⟨⟨h1, ⟨h2, h3⟩, h4, h5, h6, h7⟩, g⟩ := if_some _ h
      cases g
      rw [wopZ hW] at k
      obtain ⟨f1, f2, f3⟩ := frs_of h5
      have hw1 : Cond.arrayClass (newarray.typeOf t) ∈ lwg := hw _ (List.mem_singleton.mpr rfl)
      unfold atO at h1
      split at h1
      · rename_i e1
        exact cs_newI (k := a) (i := b) G hd e1 hw1 (f1 _ (List.mem_singleton.mpr rfl)) (nrs_1s f2) (nrs_1L f3) h2 h3 h4 (by rw [hmc]; exact h6) (by rw [hms]; exact h7) k
      · rename_i e1
        exact cs_newJ (k := a) (i := b) G hd e1 hw1 (f1 _ (List.mem_singleton.mpr rfl)) (nrs_1s f2) (nrs_1L f3) h2 h3 h4 (by rw [hmc]; exact h6) (by rw [hms]; exact h7) k
      · rename_i e1
        exact cs_newB (k := a) (i := b) G hd e1 hw1 (f1 _ (List.mem_singleton.mpr rfl)) (nrs_1s f2) (nrs_1L f3) h2 h3 h4 (by rw [hmc]; exact h6) (by rw [hms]; exact h7) k
      · rename_i e1
        exact cs_newZ (k := a) (i := b) G hd e1 hw1 (f1 _ (List.mem_singleton.mpr rfl)) (nrs_1s f2) (nrs_1L f3) h2 h3 h4 (by rw [hmc]; exact h6) (by rw [hms]; exact h7) k
      · cases h1
    · cases h
  | multianewarray idx d =>
    dsimp only [cstp] at h
    split at h
    · obtain ⟨⟨⟨h0, h1, h2, h3⟩, ⟨h4, h5⟩, ⟨h6, h7⟩, ⟨h8, h9⟩, ⟨h10, h11⟩, h12, h13⟩, g⟩ := if_some _ h
      cases g
      subst h0
      rw [wopZ hW] at k
      obtain ⟨f1, f2, f3⟩ := frs_of h10
      exact cs_mna (k := a) (i := b) G hd h1 h2 h3 hw f1 h11 f2 f3 h4 h5 h6 h7 h8 h9 (by rw [hmc]; exact h12) (by rw [hms]; exact h13) k
    · cases h
  | putfield idx =>
    dsimp only [cstp] at h
    split at h
    · rename_i q c r0
      obtain ⟨⟨⟨h1, h2, h3⟩, h4, h5, h6⟩, g⟩ := if_some _ h
      cases g
      subst h2
      obtain ⟨p1, p2, p3⟩ := ptgt_of (w := w) h6
      by_cases e3 : (fm c.1 b).1 = 3
      · dsimp only at hW k
        rw [if_pos e3] at hW
        rw [wopR hW] at k
        refine cs_putR (k := c.1) (i := c.2) (b := b) (q := q) G hd h1 h3 hw hk (List.contains_iff_mem.mp h4) p1 (p3 e3) (fun k' i' f hne => ⟨rfl, rfl, ?_⟩) (List.contains_iff_mem.mp h5) (fun hrv k' i' f y hy => ?_) k
        · show up3 w.2.2 c.1 c.2 b q.2 k' i' f = w.2.2 k' i' f
          unfold up3
          rw [if_neg (fun z => hne (by rw [z.1, z.2.1, z.2.2]))]
        · unfold rvp at hy
          rw [if_pos e3] at hy
          rcases List.mem_cons.mp hy with hy | hy
          · cases hy
            simp [gR, setR, up3]
          · obtain ⟨hy1, hy2⟩ := List.mem_filter.mp hy
            rw [← hrv k' i' f y hy1]
            show up3 w.2.2 c.1 c.2 b q.2 k' i' f = w.2.2 k' i' f
            unfold up3
            rw [if_neg (fun z => by
              have : sam c.1 c.2 b (k', i', f, y) = true := sam_iff.mpr z
              rw [this] at hy2
              cases hy2)]
      · dsimp only at hW k
        rw [if_neg e3] at hW
        rw [wop0 hW] at k
        refine cs_putR (k := c.1) (i := c.2) (b := b) (q := q) G hd h1 h3 hw hk (List.contains_iff_mem.mp h4) p1 (p2 e3) (fun k' i' f hne => ⟨rfl, rfl, rfl⟩) (List.contains_iff_mem.mp h5) (fun hrv k' i' f y hy => ?_) k
        unfold rvp at hy
        rw [if_neg e3] at hy
        exact hrv k' i' f y hy
    · rename_i y c r0
      obtain ⟨⟨⟨h1, h2, h3⟩, h4, h5, h6⟩, g⟩ := if_some _ h
      cases g
      subst h2
      rw [wop1 hW] at k
      exact cs_putI (k := c.1) (i := c.2) (b := b) G hd h1 h3 hw hk (List.contains_iff_mem.mp h4) h5 (fun q hq => intF_of h6 hq) k
    · cases h
  | getfield idx =>
    dsimp only [cstp] at h
    split at h
    · rename_i c r0
      obtain ⟨⟨⟨h1, h2, h3⟩, h4, h5⟩, g⟩ := if_some _ h
      obtain ⟨q, hq, g⟩ := bind_some' g
      cases g
      subst h2
      rw [wop0 hW] at k
      exact cs_get (k := c.1) (i := c.2) (b := b) G hd h1 h3 hw (List.contains_iff_mem.mp h4) h5 (fun hrv => gtgt_of hq hrv) k
    · cases h
  | iastore =>
    dsimp only [cstp] at h
    split at h
    · rename_i y j c r0
      obtain ⟨⟨h1, h2, h3, h4⟩, g⟩ := if_some _ h
      cases g
      rw [wop1 hW] at k
      exact cs_iast (k := c.1) (i := c.2) G hd h1 (List.contains_iff_mem.mp h2) h3 h4 k
    · cases h
  | invokespecial idx =>
    dsimp only [cstp] at h
    split at h
    · rename_i c r0
      obtain ⟨⟨h1, h2⟩, g⟩ := if_some _ h
      cases g
      subst h1
      rw [wop0 hW] at k
      exact cs_obj (k := c.1) (i := c.2) G hd hw h2 k
    · cases h
  | _ => cases h

-- MoorGuides$Reader.readParty()Z
def tX7_readParty : List EN := [
  (0, .aload_n 0, 0, 0, 0, 0, 0, []), (1, .invokevirtual 157, 0, 0, 1, 0, 0, []), (4, .istore_n 1, 0, 0, 0, 0, 0, []), (5, .iload_n 1, 0, 0, 0, 0, 0, []),
  (6, .ifCond .ge 7, 0, 7, 0, 0, 0, []), (9, .iconst (-1), 0, 0, 0, (-1), 0, []), (10, .goto 7, 0, 9, 0, 0, 0, []), (13, .aload_n 0, 0, 0, 0, 0, 0, []),
  (14, .invokevirtual 157, 0, 0, 1, 0, 0, []), (17, .istore_n 2, 10, 0, 0, 0, 0, []), (18, .iload_n 2, 0, 0, 0, 0, 0, []), (19, .ifCond .ge 7, 0, 14, 0, 0, 0, []),
  (22, .iconst (-1), 0, 0, 0, (-1), 0, []), (23, .goto 11, 0, 18, 0, 0, 0, []), (26, .aload_n 0, 0, 0, 0, 0, 0, []), (27, .iconst 0, 0, 0, 0, 0, 0, []),
  (28, .sipush 999, 0, 0, 0, 999, 0, []), (31, .invokevirtual 123, 0, 1, 3, 0, 0, []), (34, .istore_n 3, 19, 0, 0, 0, 0, []), (35, .iload_n 3, 0, 0, 0, 0, 0, []),
  (36, .ifCond .ge 7, 0, 23, 0, 0, 0, []), (39, .iconst (-1), 0, 0, 0, (-1), 0, []), (40, .goto 10, 0, 27, 0, 0, 0, []), (43, .aload_n 0, 0, 0, 0, 0, 0, []),
  (44, .iconst 0, 0, 0, 0, 0, 0, []), (45, .bipush 99, 0, 0, 0, 99, 0, []), (47, .invokevirtual 123, 0, 1, 3, 0, 0, []), (50, .istore 4, 28, 0, 0, 0, 0, []),
  (52, .iload 4, 0, 0, 0, 0, 0, []), (54, .ifCond .ge 5, 0, 32, 0, 0, 0, []), (57, .iconst 0, 0, 0, 0, 0, 0, []), (58, .ireturn, 0, 0, 0, 0, 0, []),
  (59, .aload_n 0, 0, 0, 0, 0, 0, []), (60, .getfield 26, 0, 7, 1, 0, 0, []), (63, .iload_n 1, 0, 0, 0, 0, 0, []), (64, .iload_n 2, 0, 0, 0, 0, 0, []),
  (65, .iload_n 3, 0, 0, 0, 0, 0, []), (66, .iload 4, 0, 0, 0, 0, 0, []), (68, .invokevirtual 161, 0, 0, 5, 0, 0, [(0, 0), (0, 0)]), (71, .iconst 1, 0, 0, 0, 1, 0, []),
  (72, .ireturn, 0, 0, 0, 0, 0, [])]
noncomputable def fX7_readParty_27 (N : Nat) (v1 : Int32) (v2 : Int32) (v3 : Int32) (s0 : Int32) (w : Wd) : Option (Int32 × Wd) :=
  if s0 < 0 then some ((0 : Int32), w) else
  (callW (pX4_addParty N (gR w 11 0 1) v1 v2 v3 s0) w).bind fun w1 =>
  some ((1 : Int32), w1)
noncomputable def fX7_readParty_18 (N : Nat) (v1 : Int32) (v2 : Int32) (s0 : Int32) (w : Wd) : Option (Int32 × Wd) :=
  if s0 < 0 then callW (fX7_readParty_27 N v1 v2 s0 (-1 : Int32)) w else
  (callW (pX7_readNumber N (0 : Int32) (99 : Int32)) w).bind fun r1 =>
  callW (fX7_readParty_27 N v1 v2 s0 r1.1) r1.2
noncomputable def fX7_readParty_9 (N : Nat) (v1 : Int32) (s0 : Int32) (w : Wd) : Option (Int32 × Wd) :=
  if s0 < 0 then callW (fX7_readParty_18 N v1 s0 (-1 : Int32)) w else
  (callW (pX7_readNumber N (0 : Int32) (999 : Int32)) w).bind fun r1 =>
  callW (fX7_readParty_18 N v1 s0 r1.1) r1.2
noncomputable def pX7_readParty (N : Nat) (w : Wd) : Option (Int32 × Wd) :=
  (callW (pX7_readToldPart N) w).bind fun r1 =>
  if r1.1 < 0 then callW (fX7_readParty_9 N r1.1 (-1 : Int32)) r1.2 else
  (callW (pX7_readToldPart N) r1.2).bind fun r2 =>
  callW (fX7_readParty_9 N r1.1 r2.1) r2.2
noncomputable def mX7_readParty (N : Nat) (as : List AV) (w : Wd) : Option (Int32 × Wd) := xS1 11 as fun t => xN1 t (callW (pX7_readParty N) w)
set_option maxRecDepth 100000 in
set_option maxHeartbeats 4000000 in
theorem kX7_readParty : TK cX7_readParty RX7 5 tX7_readParty := ⟨by decide +kernel, wok_of [467] (by decide +kernel) (by decide +kernel)⟩
set_option maxRecDepth 100000 in
set_option maxHeartbeats 4000000 in
theorem sX7_readParty_27 {N : Nat} {X : XT} (G : GX X cX7_readParty RX7) (hn : xnL X = 5) (hC : CRs X tX7_readParty (oF [(mX7_readToldPart N), (mX7_readNumber N)]) (oF []) (oF [(mX4_addParty N)])) {r : Int32 × Wd} (hr : RTZ X cX7_readParty r)  : ∀ (v1 : Int32) (v2 : Int32) (v3 : Int32) (s0 : Int32) (w : Wd), fX7_readParty_27 N v1 v2 v3 s0 w = some r → WW X (pcAt tX7_readParty 27) [some (.inr (.inr (11, 0))), some (.inl v1), some (.inl v2), some (.inl v3), none] [.inl s0] w := by
  intro v1 v2 v3 s0 w h
  refine run_sound (r := r) (X := X) (cc := cX7_readParty) (own := RX7) (tab := tX7_readParty) G (by rw [hn]; exact kX7_readParty) (oI := (oF [(mX7_readToldPart N), (mX7_readNumber N)])) (oL := (oF [])) (oV := (oF [(mX4_addParty N)])) (rI := retZ) (rL := (fun _ _ => none)) (rV := (fun _ => none))
    (K := (fun j ls st w => none)) hr (fun _ _ _ _ hx => by cases hx) (fun _ _ _ hx => by cases hx) hC (fun ls => lsb [some (.inr (.inr (11, 0))), none, none, none, none] 0 ls) (keepsP_of rfl) ?_ 43 27 [some (.inr (.inr (11, 0))), some (.inl v1), some (.inl v2), some (.inl v3), none] [.inl s0] w ?_ h
  · intro j ls st w hfx h
    obtain ⟨e0, -⟩ : _ = _ ∧ True := hfx
    try dsimp only at h
    cases h
  · exact (show _ = _ ∧ True from ⟨rfl, trivial⟩)
set_option maxRecDepth 100000 in
set_option maxHeartbeats 4000000 in
theorem sX7_readParty_18 {N : Nat} {X : XT} (G : GX X cX7_readParty RX7) (hn : xnL X = 5) (hC : CRs X tX7_readParty (oF [(mX7_readToldPart N), (mX7_readNumber N)]) (oF []) (oF [(mX4_addParty N)])) {r : Int32 × Wd} (hr : RTZ X cX7_readParty r)  : ∀ (v1 : Int32) (v2 : Int32) (s0 : Int32) (w : Wd), fX7_readParty_18 N v1 v2 s0 w = some r → WW X (pcAt tX7_readParty 18) [some (.inr (.inr (11, 0))), some (.inl v1), some (.inl v2), none, none] [.inl s0] w := by
  intro v1 v2 s0 w h
  refine run_sound (r := r) (X := X) (cc := cX7_readParty) (own := RX7) (tab := tX7_readParty) G (by rw [hn]; exact kX7_readParty) (oI := (oF [(mX7_readToldPart N), (mX7_readNumber N)])) (oL := (oF [])) (oV := (oF [(mX4_addParty N)])) (rI := retZ) (rL := (fun _ _ => none)) (rV := (fun _ => none))
    (K := (fun j ls st w => if j = 27 then (lgI ls 1 fun v1 => lgI ls 2 fun v2 => lgI ls 3 fun v3 => po1 st fun s0 st => st0 st (callW (fX7_readParty_27 N v1 v2 v3 s0) w)) else none)) hr (fun _ _ _ _ hx => by cases hx) (fun _ _ _ hx => by cases hx) hC (fun ls => lsb [some (.inr (.inr (11, 0))), none, none, none, none] 0 ls) (keepsP_of rfl) ?_ 43 18 [some (.inr (.inr (11, 0))), some (.inl v1), some (.inl v2), none, none] [.inl s0] w ?_ h
  · intro j ls st w hfx h
    obtain ⟨e0, -⟩ : _ = _ ∧ True := hfx
    try dsimp only at h
    by_cases hj : j = 27
    · subst hj
      rw [if_pos rfl] at h
      obtain ⟨v1, e1, h_1⟩ := lgI_some h
      obtain ⟨v2, e2, h_2⟩ := lgI_some h_1
      obtain ⟨v3, e3, h_3⟩ := lgI_some h_2
      obtain ⟨s0, st0, rfl, h_4⟩ := po1_some h_3
      obtain ⟨rfl, h_5⟩ := st0_some h_4
      clear h h_1 h_2 h_3 h_4
      have h := h_5
      try rw [callW_eq] at h
      exact WW.le (a := [some (.inr (.inr (11, 0))), some (.inl v1), some (.inl v2), some (.inl v3), none]) (by rw [hn]; rfl) (show _ = _ ∧ _ = _ ∧ _ = _ ∧ _ = _ ∧ True from ⟨e0, e1, e2, e3, trivial⟩) (sX7_readParty_27 G hn hC hr v1 v2 v3 s0 w h)
    rw [if_neg hj] at h
    cases h
  · exact (show _ = _ ∧ True from ⟨rfl, trivial⟩)
set_option maxRecDepth 100000 in
set_option maxHeartbeats 4000000 in
theorem sX7_readParty_9 {N : Nat} {X : XT} (G : GX X cX7_readParty RX7) (hn : xnL X = 5) (hC : CRs X tX7_readParty (oF [(mX7_readToldPart N), (mX7_readNumber N)]) (oF []) (oF [(mX4_addParty N)])) {r : Int32 × Wd} (hr : RTZ X cX7_readParty r)  : ∀ (v1 : Int32) (s0 : Int32) (w : Wd), fX7_readParty_9 N v1 s0 w = some r → WW X (pcAt tX7_readParty 9) [some (.inr (.inr (11, 0))), some (.inl v1), none, none, none] [.inl s0] w := by
  intro v1 s0 w h
  refine run_sound (r := r) (X := X) (cc := cX7_readParty) (own := RX7) (tab := tX7_readParty) G (by rw [hn]; exact kX7_readParty) (oI := (oF [(mX7_readToldPart N), (mX7_readNumber N)])) (oL := (oF [])) (oV := (oF [(mX4_addParty N)])) (rI := retZ) (rL := (fun _ _ => none)) (rV := (fun _ => none))
    (K := (fun j ls st w => if j = 18 then (lgI ls 1 fun v1 => lgI ls 2 fun v2 => po1 st fun s0 st => st0 st (callW (fX7_readParty_18 N v1 v2 s0) w)) else none)) hr (fun _ _ _ _ hx => by cases hx) (fun _ _ _ hx => by cases hx) hC (fun ls => lsb [some (.inr (.inr (11, 0))), none, none, none, none] 0 ls) (keepsP_of rfl) ?_ 43 9 [some (.inr (.inr (11, 0))), some (.inl v1), none, none, none] [.inl s0] w ?_ h
  · intro j ls st w hfx h
    obtain ⟨e0, -⟩ : _ = _ ∧ True := hfx
    try dsimp only at h
    by_cases hj : j = 18
    · subst hj
      rw [if_pos rfl] at h
      obtain ⟨v1, e1, h_1⟩ := lgI_some h
      obtain ⟨v2, e2, h_2⟩ := lgI_some h_1
      obtain ⟨s0, st0, rfl, h_3⟩ := po1_some h_2
      obtain ⟨rfl, h_4⟩ := st0_some h_3
      clear h h_1 h_2 h_3
      have h := h_4
      try rw [callW_eq] at h
      exact WW.le (a := [some (.inr (.inr (11, 0))), some (.inl v1), some (.inl v2), none, none]) (by rw [hn]; rfl) (show _ = _ ∧ _ = _ ∧ _ = _ ∧ True from ⟨e0, e1, e2, trivial⟩) (sX7_readParty_18 G hn hC hr v1 v2 s0 w h)
    rw [if_neg hj] at h
    cases h
  · exact (show _ = _ ∧ True from ⟨rfl, trivial⟩)
set_option maxRecDepth 100000 in
set_option maxHeartbeats 4000000 in
theorem crX7_readParty {N : Nat} {X : XT} (G : GX X cX7_readParty RX7) (hR : xR X = rmL 4) : CRs X tX7_readParty (oF [(mX7_readToldPart N), (mX7_readNumber N)]) (oF []) (oF [(mX4_addParty N)]) := by
  have hl : tX7_readParty.filter isInv = [(1, .invokevirtual 157, 0, 0, 1, 0, 0, []), (14, .invokevirtual 157, 0, 0, 1, 0, 0, []), (31, .invokevirtual 123, 0, 1, 3, 0, 0, []), (47, .invokevirtual 123, 0, 1, 3, 0, 0, []), (68, .invokevirtual 161, 0, 0, 5, 0, 0, [(0, 0), (0, 0)])] := rfl
  intro e he
  rw [hl] at he
  simp only [List.mem_cons, List.not_mem_nil, or_false] at he
  rcases he with rfl | rfl | rfl | rfl | rfl
  · exact crI_V (idx := 157) G (by decide +kernel) (MX7_readToldPart N) (cw_of (ps := [902, 904, 19, 152, 905]) (by decide +kernel) (by decide +kernel)) ⟨by decide +kernel, by decide +kernel, by decide +kernel⟩ (by unfold rmOk; rw [hR]; exact ⟨by decide, by decide⟩)
  · exact crI_V (idx := 157) G (by decide +kernel) (MX7_readToldPart N) (cw_of (ps := [902, 904, 19, 152, 905]) (by decide +kernel) (by decide +kernel)) ⟨by decide +kernel, by decide +kernel, by decide +kernel⟩ (by unfold rmOk; rw [hR]; exact ⟨by decide, by decide⟩)
  · exact crI_V (idx := 123) G (by decide +kernel) (MX7_readNumber N) (cw_of (ps := [874, 876, 13, 152, 877]) (by decide +kernel) (by decide +kernel)) ⟨by decide +kernel, by decide +kernel, by decide +kernel⟩ (by unfold rmOk; rw [hR]; exact ⟨by decide, by decide⟩)
  · exact crI_V (idx := 123) G (by decide +kernel) (MX7_readNumber N) (cw_of (ps := [874, 876, 13, 152, 877]) (by decide +kernel) (by decide +kernel)) ⟨by decide +kernel, by decide +kernel, by decide +kernel⟩ (by unfold rmOk; rw [hR]; exact ⟨by decide, by decide⟩)
  · exact crV_V (idx := 161) G (by decide +kernel) (MX4_addParty N) (cw_of (ps := [906, 907, 908, 149, 909]) (by decide +kernel) (by decide +kernel)) ⟨by decide +kernel, by decide +kernel, by decide +kernel⟩ (by unfold rmOk; rw [hR]; exact ⟨by decide, by decide⟩)
set_option maxRecDepth 100000 in
set_option maxHeartbeats 4000000 in
theorem MX7_readParty (N : Nat) : SndI yX7_readParty cX7_readParty 5 (some .boolean) 4 1 true (mX7_readParty N) := by
  refine SndI.ofZ tX7_readParty (by decide +kernel) rfl rfl ?_ ?_
  · intro as w x h
    obtain ⟨t1, rfl, h_1⟩ := xS1_some h
    obtain ⟨rfl, h_2⟩ := xN1_some h_1
    clear h h_1
    have h := h_2
    rw [callW_eq] at h
    exact ⟨fun _ => ⟨_, _, _, rfl, rfl, _, rfl, rfl⟩, rfl, Nat.le_of_ble_eq_true rfl⟩
  · intro X G hn hR as w r h hr
    have hC := crX7_readParty (N := N) G hR
    obtain ⟨t1, rfl, h_1⟩ := xS1_some h
    obtain ⟨rfl, h_2⟩ := xN1_some h_1
    clear h h_1
    have h := h_2
    rw [callW_eq] at h
    refine run_sound (r := r) (X := X) (cc := cX7_readParty) (own := RX7) (tab := tX7_readParty) G (by rw [hn]; exact kX7_readParty) (oI := (oF [(mX7_readToldPart N), (mX7_readNumber N)])) (oL := (oF [])) (oV := (oF [(mX4_addParty N)])) (rI := retZ) (rL := (fun _ _ => none)) (rV := (fun _ => none))
      (K := (fun j ls st w => if j = 9 then (lgI ls 1 fun v1 => po1 st fun s0 st => st0 st (callW (fX7_readParty_9 N v1 s0) w)) else none)) hr (fun _ _ _ _ hx => by cases hx) (fun _ _ _ hx => by cases hx) hC (fun ls => lsb [some (.inr (.inr (11, 0))), none, none, none, none] 0 ls) (keepsP_of rfl) ?_ 43 0 [some (.inr (.inr (11, 0))), none, none, none, none] [] w ?_ h
    · intro j ls st w hfx h
      obtain ⟨e0, -⟩ : _ = _ ∧ True := hfx
      try dsimp only at h
      by_cases hj : j = 9
      · subst hj
        rw [if_pos rfl] at h
        obtain ⟨v1, e1, h_1⟩ := lgI_some h
        obtain ⟨s0, st0, rfl, h_2⟩ := po1_some h_1
        obtain ⟨rfl, h_3⟩ := st0_some h_2
        clear h h_1 h_2
        have h := h_3
        try rw [callW_eq] at h
        exact WW.le (a := [some (.inr (.inr (11, 0))), some (.inl v1), none, none, none]) (by rw [hn]; rfl) (show _ = _ ∧ _ = _ ∧ True from ⟨e0, e1, trivial⟩) (sX7_readParty_9 G hn hC hr v1 s0 w h)
      rw [if_neg hj] at h
      cases h
    · exact (show _ = _ ∧ True from ⟨rfl, trivial⟩)
-- MoorGuides$Reader.readWeather()Z
def tX7_readWeather : List EN := [
  (0, .iconst 0, 0, 0, 0, 0, 0, []), (1, .istore_n 1, 0, 0, 0, 0, 0, []), (2, .iload_n 1, 3, 0, 0, 0, 0, []), (3, .bipush 14, 0, 0, 0, 14, 0, []),
  (5, .if_icmp .ge 57, 0, 35, 0, 0, 0, []), (8, .aload_n 0, 0, 0, 0, 0, 0, []), (9, .iconst 0, 0, 0, 0, 0, 0, []), (10, .bipush 9, 0, 0, 0, 9, 0, []),
  (12, .invokevirtual 123, 0, 0, 3, 0, 0, []), (15, .istore_n 2, 0, 0, 0, 0, 0, []), (16, .iload_n 2, 0, 0, 0, 0, 0, []), (17, .ifCond .ge 5, 0, 14, 0, 0, 0, []),
  (20, .iconst 0, 0, 0, 0, 0, 0, []), (21, .ireturn, 0, 0, 0, 0, 0, []), (22, .aload_n 0, 0, 0, 0, 0, 0, []), (23, .getfield 26, 0, 7, 1, 0, 0, []),
  (26, .getfield 165, 0, 4, 11, 0, 0, []), (29, .iload_n 1, 0, 0, 0, 0, 0, []), (30, .iload_n 2, 0, 0, 0, 0, 0, []), (31, .iastore, 0, 0, 0, 0, 0, []),
  (32, .aload_n 0, 0, 0, 0, 0, 0, []), (33, .getfield 26, 0, 7, 1, 0, 0, []), (36, .iload_n 1, 0, 0, 0, 0, 0, []), (37, .iconst 1, 0, 0, 0, 1, 0, []),
  (38, .iadd, 0, 0, 0, 0, 0, []), (39, .putfield 95, 0, 4, 10, 0, 0, []), (42, .aload_n 0, 0, 0, 0, 0, 0, []), (43, .getfield 12, 0, 7, 0, 0, 0, []),
  (46, .getfield 47, 0, 10, 8, 0, 0, []), (49, .bipush (-3), 0, 0, 0, (-3), 0, []), (51, .if_icmp .eq 5, 0, 33, 0, 0, 0, []), (54, .iconst 1, 0, 0, 0, 1, 0, []),
  (55, .ireturn, 0, 0, 0, 0, 0, []), (56, .iinc 1 1, 0, 0, 0, 1, 0, []), (59, .goto (-57), 0, 2, 0, 0, 0, []), (62, .aload_n 0, 36, 0, 0, 0, 0, []),
  (63, .iconst 2, 0, 0, 0, 2, 0, []), (64, .invokevirtual 59, 0, 1, 2, 0, 0, []), (67, .ireturn, 0, 0, 0, 0, 0, [])]
noncomputable def fX7_readWeather_35 (N : Nat) (w : Wd) : Option (Int32 × Wd) :=
  (callW (pX7_fail N (2 : Int32)) w).bind fun r1 =>
  retZ r1.1 r1.2
noncomputable def fX7_readWeather_2 (N : Nat) : Nat → (Wd → Option (Int32 × Wd)) → Int32 → Wd → Option (Int32 × Wd)
  | 0, _, _, _ => none
  | n + 1, k35, v1, w =>
    if v1 < (14 : Int32) then
      (callW (pX7_readNumber N (0 : Int32) (9 : Int32)) w).bind fun r1 =>
      if r1.1 < 0 then some ((0 : Int32), r1.2) else
      (stI r1.2 37 (gR r1.2 11 0 1) v1 14 r1.1).bind fun w2 =>
      if (gI (setI w2 8 (gR w2 11 0 1) 10 (v1 + (1 : Int32))) 14 0 8) = (-3 : Int32) then
        callW (fX7_readWeather_2 N n k35 (v1 + (1 : Int32))) (setI w2 8 (gR w2 11 0 1) 10 (v1 + (1 : Int32)))
      else
      some ((1 : Int32), (setI w2 8 (gR w2 11 0 1) 10 (v1 + (1 : Int32))))
    else
    k35 w
noncomputable def pX7_readWeather (N : Nat) (w : Wd) : Option (Int32 × Wd) :=
  callW (fX7_readWeather_2 N N (fX7_readWeather_35 N) (0 : Int32)) w
noncomputable def mX7_readWeather (N : Nat) (as : List AV) (w : Wd) : Option (Int32 × Wd) := xS1 11 as fun t => xN1 t (callW (pX7_readWeather N) w)
set_option maxRecDepth 100000 in
set_option maxHeartbeats 4000000 in
theorem kX7_readWeather : TK cX7_readWeather RX7 3 tX7_readWeather := ⟨by decide +kernel, wok_of [467, 304, 467, 302, 466, 437] (by decide +kernel) (by decide +kernel)⟩
set_option maxRecDepth 100000 in
set_option maxHeartbeats 4000000 in
theorem sX7_readWeather_35 {N : Nat} {X : XT} (G : GX X cX7_readWeather RX7) (hn : xnL X = 3) (hC : CRs X tX7_readWeather (oF [(mX7_readNumber N), (mX7_fail N)]) (oF []) (oF [])) {r : Int32 × Wd} (hr : RTZ X cX7_readWeather r)  : ∀ (w : Wd), fX7_readWeather_35 N w = some r → WW X (pcAt tX7_readWeather 35) [some (.inr (.inr (11, 0))), none, none] [] w := by
  intro w h
  refine run_sound (r := r) (X := X) (cc := cX7_readWeather) (own := RX7) (tab := tX7_readWeather) G (by rw [hn]; exact kX7_readWeather) (oI := (oF [(mX7_readNumber N), (mX7_fail N)])) (oL := (oF [])) (oV := (oF [])) (rI := retZ) (rL := (fun _ _ => none)) (rV := (fun _ => none))
    (K := (fun j ls st w => none)) hr (fun _ _ _ _ hx => by cases hx) (fun _ _ _ hx => by cases hx) hC (fun ls => lsb [some (.inr (.inr (11, 0))), none, none] 0 ls) (keepsP_of rfl) ?_ 41 35 [some (.inr (.inr (11, 0))), none, none] [] w ?_ h
  · intro j ls st w hfx h
    obtain ⟨e0, -⟩ : _ = _ ∧ True := hfx
    try dsimp only at h
    cases h
  · exact (show _ = _ ∧ True from ⟨rfl, trivial⟩)
set_option maxRecDepth 100000 in
set_option maxHeartbeats 4000000 in
theorem sX7_readWeather_2 {N : Nat} {X : XT} (G : GX X cX7_readWeather RX7) (hn : xnL X = 3) (hC : CRs X tX7_readWeather (oF [(mX7_readNumber N), (mX7_fail N)]) (oF []) (oF [])) {r : Int32 × Wd} (hr : RTZ X cX7_readWeather r)  : ∀ (n : Nat) (k35 : Wd → Option (Int32 × Wd)) (v1 : Int32) (w : Wd), fX7_readWeather_2 N n k35 v1 w = some r → (∀ (w : Wd), k35 w = some r → WW X (pcAt tX7_readWeather 35) [some (.inr (.inr (11, 0))), none, none] [] w) → WW X (pcAt tX7_readWeather 2) [some (.inr (.inr (11, 0))), some (.inl v1), none] [] w := by
  intro n
  induction n with
  | zero => intro k35 v1 w h h35; cases h
  | succ n ih =>
    intro k35 v1 w h h35
    refine run_sound (r := r) (X := X) (cc := cX7_readWeather) (own := RX7) (tab := tX7_readWeather) G (by rw [hn]; exact kX7_readWeather) (oI := (oF [(mX7_readNumber N), (mX7_fail N)])) (oL := (oF [])) (oV := (oF [])) (rI := retZ) (rL := (fun _ _ => none)) (rV := (fun _ => none))
      (K := (fun j ls st w => if j = 2 then (lgI ls 1 fun v1 => st0 st (callW (fX7_readWeather_2 N n k35 v1) w)) else if j = 35 then (st0 st (k35 w)) else none)) hr (fun _ _ _ _ hx => by cases hx) (fun _ _ _ hx => by cases hx) hC (fun ls => lsb [some (.inr (.inr (11, 0))), none, none] 0 ls) (keepsP_of rfl) ?_ 41 2 [some (.inr (.inr (11, 0))), some (.inl v1), none] [] w ?_ h
    · intro j ls st w hfx h
      obtain ⟨e0, -⟩ : _ = _ ∧ True := hfx
      try dsimp only at h
      by_cases hj : j = 2
      · subst hj
        rw [if_pos rfl] at h
        obtain ⟨v1, e1, h_1⟩ := lgI_some h
        obtain ⟨rfl, h_2⟩ := st0_some h_1
        clear h h_1
        have h := h_2
        try rw [callW_eq] at h
        exact WW.le (a := [some (.inr (.inr (11, 0))), some (.inl v1), none]) (by rw [hn]; rfl) (show _ = _ ∧ _ = _ ∧ True from ⟨e0, e1, trivial⟩) (ih k35 v1 w h h35)
      rw [if_neg hj] at h
      by_cases hj : j = 35
      · subst hj
        rw [if_pos rfl] at h
        obtain ⟨rfl, h_1⟩ := st0_some h
        clear h
        have h := h_1
        try rw [callW_eq] at h
        exact WW.le (a := [some (.inr (.inr (11, 0))), none, none]) (by rw [hn]; rfl) (show _ = _ ∧ True from ⟨e0, trivial⟩) (h35 w h)
      rw [if_neg hj] at h
      cases h
    · exact (show _ = _ ∧ True from ⟨rfl, trivial⟩)
set_option maxRecDepth 100000 in
set_option maxHeartbeats 4000000 in
theorem crX7_readWeather {N : Nat} {X : XT} (G : GX X cX7_readWeather RX7) (hR : xR X = rmL 3) : CRs X tX7_readWeather (oF [(mX7_readNumber N), (mX7_fail N)]) (oF []) (oF []) := by
  have hl : tX7_readWeather.filter isInv = [(12, .invokevirtual 123, 0, 0, 3, 0, 0, []), (64, .invokevirtual 59, 0, 1, 2, 0, 0, [])] := rfl
  intro e he
  rw [hl] at he
  simp only [List.mem_cons, List.not_mem_nil, or_false] at he
  rcases he with rfl | rfl
  · exact crI_V (idx := 123) G (by decide +kernel) (MX7_readNumber N) (cw_of (ps := [874, 876, 13, 152, 877]) (by decide +kernel) (by decide +kernel)) ⟨by decide +kernel, by decide +kernel, by decide +kernel⟩ (by unfold rmOk; rw [hR]; exact ⟨by decide, by decide⟩)
  · exact crI_V (idx := 59) G (by decide +kernel) (MX7_fail N) (cw_of (ps := [858, 860, 10, 152, 861]) (by decide +kernel) (by decide +kernel)) ⟨by decide +kernel, by decide +kernel, by decide +kernel⟩ (by unfold rmOk; rw [hR]; exact ⟨by decide, by decide⟩)
set_option maxRecDepth 100000 in
set_option maxHeartbeats 4000000 in
theorem MX7_readWeather (N : Nat) : SndI yX7_readWeather cX7_readWeather 3 (some .boolean) 3 1 true (mX7_readWeather N) := by
  refine SndI.ofZ tX7_readWeather (by decide +kernel) rfl rfl ?_ ?_
  · intro as w x h
    obtain ⟨t1, rfl, h_1⟩ := xS1_some h
    obtain ⟨rfl, h_2⟩ := xN1_some h_1
    clear h h_1
    have h := h_2
    rw [callW_eq] at h
    exact ⟨fun _ => ⟨_, _, _, rfl, rfl, _, rfl, rfl⟩, rfl, Nat.le_of_ble_eq_true rfl⟩
  · intro X G hn hR as w r h hr
    have hC := crX7_readWeather (N := N) G hR
    obtain ⟨t1, rfl, h_1⟩ := xS1_some h
    obtain ⟨rfl, h_2⟩ := xN1_some h_1
    clear h h_1
    have h := h_2
    rw [callW_eq] at h
    refine run_sound (r := r) (X := X) (cc := cX7_readWeather) (own := RX7) (tab := tX7_readWeather) G (by rw [hn]; exact kX7_readWeather) (oI := (oF [(mX7_readNumber N), (mX7_fail N)])) (oL := (oF [])) (oV := (oF [])) (rI := retZ) (rL := (fun _ _ => none)) (rV := (fun _ => none))
      (K := (fun j ls st w => if j = 2 then (lgI ls 1 fun v1 => st0 st (callW (fX7_readWeather_2 N N (fX7_readWeather_35 N) v1) w)) else none)) hr (fun _ _ _ _ hx => by cases hx) (fun _ _ _ hx => by cases hx) hC (fun ls => lsb [some (.inr (.inr (11, 0))), none, none] 0 ls) (keepsP_of rfl) ?_ 41 0 [some (.inr (.inr (11, 0))), none, none] [] w ?_ h
    · intro j ls st w hfx h
      obtain ⟨e0, -⟩ : _ = _ ∧ True := hfx
      try dsimp only at h
      by_cases hj : j = 2
      · subst hj
        rw [if_pos rfl] at h
        obtain ⟨v1, e1, h_1⟩ := lgI_some h
        obtain ⟨rfl, h_2⟩ := st0_some h_1
        clear h h_1
        have h := h_2
        try rw [callW_eq] at h
        exact WW.le (a := [some (.inr (.inr (11, 0))), some (.inl v1), none]) (by rw [hn]; rfl) (show _ = _ ∧ _ = _ ∧ True from ⟨e0, e1, trivial⟩) (sX7_readWeather_2 G hn hC hr N (fX7_readWeather_35 N) v1 w h (fun w h => (sX7_readWeather_35 G hn hC hr w h)))
      rw [if_neg hj] at h
      cases h
    · exact (show _ = _ ∧ True from ⟨rfl, trivial⟩)
-- MoorGuides$Reader.readSlide()Z
def tX7_readSlide : List EN := [
  (0, .aload_n 0, 0, 0, 0, 0, 0, []), (1, .invokevirtual 157, 0, 0, 1, 0, 0, []), (4, .istore_n 1, 0, 0, 0, 0, 0, []), (5, .iload_n 1, 0, 0, 0, 0, 0, []),
  (6, .ifCond .ge 7, 0, 7, 0, 0, 0, []), (9, .iconst (-1), 0, 0, 0, (-1), 0, []), (10, .goto 11, 0, 11, 0, 0, 0, []), (13, .aload_n 0, 0, 0, 0, 0, 0, []),
  (14, .iconst 0, 0, 0, 0, 0, 0, []), (15, .sipush 999, 0, 0, 0, 999, 0, []), (18, .invokevirtual 123, 0, 1, 3, 0, 0, []), (21, .istore_n 2, 12, 0, 0, 0, 0, []),
  (22, .iload_n 2, 0, 0, 0, 0, 0, []), (23, .ifCond .ge 5, 0, 16, 0, 0, 0, []), (26, .iconst 0, 0, 0, 0, 0, 0, []), (27, .ireturn, 0, 0, 0, 0, 0, []),
  (28, .aload_n 0, 0, 0, 0, 0, 0, []), (29, .getfield 26, 0, 7, 1, 0, 0, []), (32, .iload_n 1, 0, 0, 0, 0, 0, []), (33, .iload_n 2, 0, 0, 0, 0, 0, []),
  (34, .invokevirtual 168, 0, 0, 3, 0, 0, [(0, 0), (0, 0)]), (37, .iconst 1, 0, 0, 0, 1, 0, []), (38, .ireturn, 0, 0, 0, 0, 0, [])]
noncomputable def fX7_readSlide_11 (N : Nat) (v1 : Int32) (s0 : Int32) (w : Wd) : Option (Int32 × Wd) :=
  if s0 < 0 then some ((0 : Int32), w) else
  (callW (pX4_addSlide N (gR w 11 0 1) v1 s0) w).bind fun w1 =>
  some ((1 : Int32), w1)
noncomputable def pX7_readSlide (N : Nat) (w : Wd) : Option (Int32 × Wd) :=
  (callW (pX7_readToldPart N) w).bind fun r1 =>
  if r1.1 < 0 then callW (fX7_readSlide_11 N r1.1 (-1 : Int32)) r1.2 else
  (callW (pX7_readNumber N (0 : Int32) (999 : Int32)) r1.2).bind fun r2 =>
  callW (fX7_readSlide_11 N r1.1 r2.1) r2.2
noncomputable def mX7_readSlide (N : Nat) (as : List AV) (w : Wd) : Option (Int32 × Wd) := xS1 11 as fun t => xN1 t (callW (pX7_readSlide N) w)
set_option maxRecDepth 100000 in
set_option maxHeartbeats 4000000 in
theorem kX7_readSlide : TK cX7_readSlide RX7 3 tX7_readSlide := ⟨by decide +kernel, wok_of [467] (by decide +kernel) (by decide +kernel)⟩
set_option maxRecDepth 100000 in
set_option maxHeartbeats 4000000 in
theorem sX7_readSlide_11 {N : Nat} {X : XT} (G : GX X cX7_readSlide RX7) (hn : xnL X = 3) (hC : CRs X tX7_readSlide (oF [(mX7_readToldPart N), (mX7_readNumber N)]) (oF []) (oF [(mX4_addSlide N)])) {r : Int32 × Wd} (hr : RTZ X cX7_readSlide r)  : ∀ (v1 : Int32) (s0 : Int32) (w : Wd), fX7_readSlide_11 N v1 s0 w = some r → WW X (pcAt tX7_readSlide 11) [some (.inr (.inr (11, 0))), some (.inl v1), none] [.inl s0] w := by
  intro v1 s0 w h
  refine run_sound (r := r) (X := X) (cc := cX7_readSlide) (own := RX7) (tab := tX7_readSlide) G (by rw [hn]; exact kX7_readSlide) (oI := (oF [(mX7_readToldPart N), (mX7_readNumber N)])) (oL := (oF [])) (oV := (oF [(mX4_addSlide N)])) (rI := retZ) (rL := (fun _ _ => none)) (rV := (fun _ => none))
    (K := (fun j ls st w => none)) hr (fun _ _ _ _ hx => by cases hx) (fun _ _ _ hx => by cases hx) hC (fun ls => lsb [some (.inr (.inr (11, 0))), none, none] 0 ls) (keepsP_of rfl) ?_ 25 11 [some (.inr (.inr (11, 0))), some (.inl v1), none] [.inl s0] w ?_ h
  · intro j ls st w hfx h
    obtain ⟨e0, -⟩ : _ = _ ∧ True := hfx
    try dsimp only at h
    cases h
  · exact (show _ = _ ∧ True from ⟨rfl, trivial⟩)
set_option maxRecDepth 100000 in
set_option maxHeartbeats 4000000 in
theorem crX7_readSlide {N : Nat} {X : XT} (G : GX X cX7_readSlide RX7) (hR : xR X = rmL 4) : CRs X tX7_readSlide (oF [(mX7_readToldPart N), (mX7_readNumber N)]) (oF []) (oF [(mX4_addSlide N)]) := by
  have hl : tX7_readSlide.filter isInv = [(1, .invokevirtual 157, 0, 0, 1, 0, 0, []), (18, .invokevirtual 123, 0, 1, 3, 0, 0, []), (34, .invokevirtual 168, 0, 0, 3, 0, 0, [(0, 0), (0, 0)])] := rfl
  intro e he
  rw [hl] at he
  simp only [List.mem_cons, List.not_mem_nil, or_false] at he
  rcases he with rfl | rfl | rfl
  · exact crI_V (idx := 157) G (by decide +kernel) (MX7_readToldPart N) (cw_of (ps := [902, 904, 19, 152, 905]) (by decide +kernel) (by decide +kernel)) ⟨by decide +kernel, by decide +kernel, by decide +kernel⟩ (by unfold rmOk; rw [hR]; exact ⟨by decide, by decide⟩)
  · exact crI_V (idx := 123) G (by decide +kernel) (MX7_readNumber N) (cw_of (ps := [874, 876, 13, 152, 877]) (by decide +kernel) (by decide +kernel)) ⟨by decide +kernel, by decide +kernel, by decide +kernel⟩ (by unfold rmOk; rw [hR]; exact ⟨by decide, by decide⟩)
  · exact crV_V (idx := 168) G (by decide +kernel) (MX4_addSlide N) (cw_of (ps := [918, 919, 920, 149, 921]) (by decide +kernel) (by decide +kernel)) ⟨by decide +kernel, by decide +kernel, by decide +kernel⟩ (by unfold rmOk; rw [hR]; exact ⟨by decide, by decide⟩)
set_option maxRecDepth 100000 in
set_option maxHeartbeats 4000000 in
theorem MX7_readSlide (N : Nat) : SndI yX7_readSlide cX7_readSlide 3 (some .boolean) 4 1 true (mX7_readSlide N) := by
  refine SndI.ofZ tX7_readSlide (by decide +kernel) rfl rfl ?_ ?_
  · intro as w x h
    obtain ⟨t1, rfl, h_1⟩ := xS1_some h
    obtain ⟨rfl, h_2⟩ := xN1_some h_1
    clear h h_1
    have h := h_2
    rw [callW_eq] at h
    exact ⟨fun _ => ⟨_, _, _, rfl, rfl, _, rfl, rfl⟩, rfl, Nat.le_of_ble_eq_true rfl⟩
  · intro X G hn hR as w r h hr
    have hC := crX7_readSlide (N := N) G hR
    obtain ⟨t1, rfl, h_1⟩ := xS1_some h
    obtain ⟨rfl, h_2⟩ := xN1_some h_1
    clear h h_1
    have h := h_2
    rw [callW_eq] at h
    refine run_sound (r := r) (X := X) (cc := cX7_readSlide) (own := RX7) (tab := tX7_readSlide) G (by rw [hn]; exact kX7_readSlide) (oI := (oF [(mX7_readToldPart N), (mX7_readNumber N)])) (oL := (oF [])) (oV := (oF [(mX4_addSlide N)])) (rI := retZ) (rL := (fun _ _ => none)) (rV := (fun _ => none))
      (K := (fun j ls st w => if j = 11 then (lgI ls 1 fun v1 => po1 st fun s0 st => st0 st (callW (fX7_readSlide_11 N v1 s0) w)) else none)) hr (fun _ _ _ _ hx => by cases hx) (fun _ _ _ hx => by cases hx) hC (fun ls => lsb [some (.inr (.inr (11, 0))), none, none] 0 ls) (keepsP_of rfl) ?_ 25 0 [some (.inr (.inr (11, 0))), none, none] [] w ?_ h
    · intro j ls st w hfx h
      obtain ⟨e0, -⟩ : _ = _ ∧ True := hfx
      try dsimp only at h
      by_cases hj : j = 11
      · subst hj
        rw [if_pos rfl] at h
        obtain ⟨v1, e1, h_1⟩ := lgI_some h
        obtain ⟨s0, st0, rfl, h_2⟩ := po1_some h_1
        obtain ⟨rfl, h_3⟩ := st0_some h_2
        clear h h_1 h_2
        have h := h_3
        try rw [callW_eq] at h
        exact WW.le (a := [some (.inr (.inr (11, 0))), some (.inl v1), none]) (by rw [hn]; rfl) (show _ = _ ∧ _ = _ ∧ True from ⟨e0, e1, trivial⟩) (sX7_readSlide_11 G hn hC hr v1 s0 w h)
      rw [if_neg hj] at h
      cases h
    · exact (show _ = _ ∧ True from ⟨rfl, trivial⟩)
-- MoorGuides$Reader.readNear()Z
def tX7_readNear : List EN := [
  (0, .aload_n 0, 0, 0, 0, 0, 0, []), (1, .iconst 1, 0, 0, 0, 1, 0, []), (2, .putfield 36, 0, 7, 2, 0, 0, [(0, 0)]), (5, .aload_n 0, 0, 0, 0, 0, 0, []),
  (6, .getfield 26, 0, 7, 1, 0, 0, []), (9, .aload_n 0, 0, 0, 0, 0, 0, []), (10, .iconst 0, 0, 0, 0, 0, 0, []), (11, .bipush 8, 0, 0, 0, 8, 0, []),
  (13, .invokevirtual 123, 0, 0, 3, 0, 0, []), (16, .putfield 171, 0, 4, 15, 0, 0, []), (19, .aload_n 0, 0, 0, 0, 0, 0, []), (20, .getfield 26, 0, 7, 1, 0, 0, []),
  (23, .getfield 171, 0, 4, 15, 0, 0, []), (26, .ifCond .lt 7, 0, 16, 0, 0, 0, []), (29, .iconst 1, 0, 0, 0, 1, 0, []), (30, .goto 4, 0, 17, 0, 0, 0, []),
  (33, .iconst 0, 0, 0, 0, 0, 0, []), (34, .ireturn, 0, 0, 0, 0, 0, [])]
noncomputable def pX7_readNear (N : Nat) (w : Wd) : Option (Int32 × Wd) :=
  (callW (pX7_readNumber N (0 : Int32) (8 : Int32)) (setI w 11 0 2 (1 : Int32))).bind fun r1 =>
  if (gI (setI r1.2 8 (gR (setI w 11 0 2 (1 : Int32)) 11 0 1) 15 r1.1) 8 (gR (setI r1.2 8 (gR (setI w 11 0 2 (1 : Int32)) 11 0 1) 15 r1.1) 11 0 1) 15) < 0 then some ((0 : Int32), (setI r1.2 8 (gR (setI w 11 0 2 (1 : Int32)) 11 0 1) 15 r1.1)) else
  some ((1 : Int32), (setI r1.2 8 (gR (setI w 11 0 2 (1 : Int32)) 11 0 1) 15 r1.1))
noncomputable def mX7_readNear (N : Nat) (as : List AV) (w : Wd) : Option (Int32 × Wd) := xS1 11 as fun t => xN1 t (callW (pX7_readNear N) w)
set_option maxRecDepth 100000 in
set_option maxHeartbeats 4000000 in
theorem kX7_readNear : TK cX7_readNear RX7 1 tX7_readNear := ⟨by decide +kernel, wok_of [468, 467, 313, 467, 313] (by decide +kernel) (by decide +kernel)⟩
set_option maxRecDepth 100000 in
set_option maxHeartbeats 4000000 in
theorem crX7_readNear {N : Nat} {X : XT} (G : GX X cX7_readNear RX7) (hR : xR X = rmL 3) : CRs X tX7_readNear (oF [(mX7_readNumber N)]) (oF []) (oF []) := by
  have hl : tX7_readNear.filter isInv = [(13, .invokevirtual 123, 0, 0, 3, 0, 0, [])] := rfl
  intro e he
  rw [hl] at he
  simp only [List.mem_cons, List.not_mem_nil, or_false] at he
  rcases he with rfl
  · exact crI_V (idx := 123) G (by decide +kernel) (MX7_readNumber N) (cw_of (ps := [874, 876, 13, 152, 877]) (by decide +kernel) (by decide +kernel)) ⟨by decide +kernel, by decide +kernel, by decide +kernel⟩ (by unfold rmOk; rw [hR]; exact ⟨by decide, by decide⟩)
set_option maxRecDepth 100000 in
set_option maxHeartbeats 4000000 in
theorem MX7_readNear (N : Nat) : SndI yX7_readNear cX7_readNear 1 (some .boolean) 3 1 true (mX7_readNear N) := by
  refine SndI.ofZ tX7_readNear (by decide +kernel) rfl rfl ?_ ?_
  · intro as w x h
    obtain ⟨t1, rfl, h_1⟩ := xS1_some h
    obtain ⟨rfl, h_2⟩ := xN1_some h_1
    clear h h_1
    have h := h_2
    rw [callW_eq] at h
    exact ⟨fun _ => ⟨_, _, _, rfl, rfl, _, rfl, rfl⟩, rfl, Nat.le_of_ble_eq_true rfl⟩
  · intro X G hn hR as w r h hr
    have hC := crX7_readNear (N := N) G hR
    obtain ⟨t1, rfl, h_1⟩ := xS1_some h
    obtain ⟨rfl, h_2⟩ := xN1_some h_1
    clear h h_1
    have h := h_2
    rw [callW_eq] at h
    refine run_sound (r := r) (X := X) (cc := cX7_readNear) (own := RX7) (tab := tX7_readNear) G (by rw [hn]; exact kX7_readNear) (oI := (oF [(mX7_readNumber N)])) (oL := (oF [])) (oV := (oF [])) (rI := retZ) (rL := (fun _ _ => none)) (rV := (fun _ => none))
      (K := (fun j ls st w => none)) hr (fun _ _ _ _ hx => by cases hx) (fun _ _ _ hx => by cases hx) hC (fun ls => lsb [some (.inr (.inr (11, 0)))] 0 ls) (keepsP_of rfl) ?_ 20 0 [some (.inr (.inr (11, 0)))] [] w ?_ h
    · intro j ls st w hfx h
      obtain ⟨e0, -⟩ : _ = _ ∧ True := hfx
      try dsimp only at h
      cases h
    · exact (show _ = _ ∧ True from ⟨rfl, trivial⟩)
-- MoorGuides$Reader.readSeed()Z
def tX7_readSeed : List EN := [
  (0, .aload_n 0, 0, 0, 0, 0, 0, []), (1, .iconst 1, 0, 0, 0, 1, 0, []), (2, .putfield 40, 0, 7, 3, 0, 0, [(0, 0)]), (5, .aload_n 0, 0, 0, 0, 0, 0, []),
  (6, .getfield 26, 0, 7, 1, 0, 0, []), (9, .aload_n 0, 0, 0, 0, 0, 0, []), (10, .iconst 0, 0, 0, 0, 0, 0, []), (11, .ldc 174, 0, 0, 0, 99999, 0, []),
  (13, .invokevirtual 123, 0, 0, 3, 0, 0, []), (16, .putfield 175, 0, 4, 16, 0, 0, []), (19, .aload_n 0, 0, 0, 0, 0, 0, []), (20, .getfield 26, 0, 7, 1, 0, 0, []),
  (23, .getfield 175, 0, 4, 16, 0, 0, []), (26, .ifCond .lt 7, 0, 16, 0, 0, 0, []), (29, .iconst 1, 0, 0, 0, 1, 0, []), (30, .goto 4, 0, 17, 0, 0, 0, []),
  (33, .iconst 0, 0, 0, 0, 0, 0, []), (34, .ireturn, 0, 0, 0, 0, 0, [])]
noncomputable def pX7_readSeed (N : Nat) (w : Wd) : Option (Int32 × Wd) :=
  (callW (pX7_readNumber N (0 : Int32) (99999 : Int32)) (setI w 11 0 3 (1 : Int32))).bind fun r1 =>
  if (gI (setI r1.2 8 (gR (setI w 11 0 3 (1 : Int32)) 11 0 1) 16 r1.1) 8 (gR (setI r1.2 8 (gR (setI w 11 0 3 (1 : Int32)) 11 0 1) 16 r1.1) 11 0 1) 16) < 0 then some ((0 : Int32), (setI r1.2 8 (gR (setI w 11 0 3 (1 : Int32)) 11 0 1) 16 r1.1)) else
  some ((1 : Int32), (setI r1.2 8 (gR (setI w 11 0 3 (1 : Int32)) 11 0 1) 16 r1.1))
noncomputable def mX7_readSeed (N : Nat) (as : List AV) (w : Wd) : Option (Int32 × Wd) := xS1 11 as fun t => xN1 t (callW (pX7_readSeed N) w)
set_option maxRecDepth 100000 in
set_option maxHeartbeats 4000000 in
theorem kX7_readSeed : TK cX7_readSeed RX7 1 tX7_readSeed := ⟨by decide +kernel, wok_of [469, 467, 930, 317, 467, 317] (by decide +kernel) (by decide +kernel)⟩
set_option maxRecDepth 100000 in
set_option maxHeartbeats 4000000 in
theorem crX7_readSeed {N : Nat} {X : XT} (G : GX X cX7_readSeed RX7) (hR : xR X = rmL 3) : CRs X tX7_readSeed (oF [(mX7_readNumber N)]) (oF []) (oF []) := by
  have hl : tX7_readSeed.filter isInv = [(13, .invokevirtual 123, 0, 0, 3, 0, 0, [])] := rfl
  intro e he
  rw [hl] at he
  simp only [List.mem_cons, List.not_mem_nil, or_false] at he
  rcases he with rfl
  · exact crI_V (idx := 123) G (by decide +kernel) (MX7_readNumber N) (cw_of (ps := [874, 876, 13, 152, 877]) (by decide +kernel) (by decide +kernel)) ⟨by decide +kernel, by decide +kernel, by decide +kernel⟩ (by unfold rmOk; rw [hR]; exact ⟨by decide, by decide⟩)
set_option maxRecDepth 100000 in
set_option maxHeartbeats 4000000 in
theorem MX7_readSeed (N : Nat) : SndI yX7_readSeed cX7_readSeed 1 (some .boolean) 3 1 true (mX7_readSeed N) := by
  refine SndI.ofZ tX7_readSeed (by decide +kernel) rfl rfl ?_ ?_
  · intro as w x h
    obtain ⟨t1, rfl, h_1⟩ := xS1_some h
    obtain ⟨rfl, h_2⟩ := xN1_some h_1
    clear h h_1
    have h := h_2
    rw [callW_eq] at h
    exact ⟨fun _ => ⟨_, _, _, rfl, rfl, _, rfl, rfl⟩, rfl, Nat.le_of_ble_eq_true rfl⟩
  · intro X G hn hR as w r h hr
    have hC := crX7_readSeed (N := N) G hR
    obtain ⟨t1, rfl, h_1⟩ := xS1_some h
    obtain ⟨rfl, h_2⟩ := xN1_some h_1
    clear h h_1
    have h := h_2
    rw [callW_eq] at h
    refine run_sound (r := r) (X := X) (cc := cX7_readSeed) (own := RX7) (tab := tX7_readSeed) G (by rw [hn]; exact kX7_readSeed) (oI := (oF [(mX7_readNumber N)])) (oL := (oF [])) (oV := (oF [])) (rI := retZ) (rL := (fun _ _ => none)) (rV := (fun _ => none))
      (K := (fun j ls st w => none)) hr (fun _ _ _ _ hx => by cases hx) (fun _ _ _ hx => by cases hx) hC (fun ls => lsb [some (.inr (.inr (11, 0)))] 0 ls) (keepsP_of rfl) ?_ 20 0 [some (.inr (.inr (11, 0)))] [] w ?_ h
    · intro j ls st w hfx h
      obtain ⟨e0, -⟩ : _ = _ ∧ True := hfx
      try dsimp only at h
      cases h
    · exact (show _ = _ ∧ True from ⟨rfl, trivial⟩)
-- MoorGuides$Reader.pass(I)Z
def tX7_pass : List EN := [
  (0, .aload_n 0, 0, 0, 0, 0, 0, []), (1, .getfield 12, 0, 7, 0, 0, 0, []), (4, .getfield 47, 0, 10, 8, 0, 0, []), (7, .iload_n 1, 0, 0, 0, 0, 0, []),
  (8, .if_icmp .eq 9, 0, 9, 0, 0, 0, []), (11, .aload_n 0, 0, 0, 0, 0, 0, []), (12, .iconst 1, 0, 0, 0, 1, 0, []), (13, .invokevirtual 59, 0, 0, 2, 0, 0, []),
  (16, .ireturn, 0, 0, 0, 0, 0, []), (17, .aload_n 0, 0, 0, 0, 0, 0, []), (18, .getfield 12, 0, 7, 0, 0, 0, []), (21, .invokevirtual 62, 0, 0, 1, 0, 0, [(0, 0), (0, 0)]),
  (24, .iconst 1, 0, 0, 0, 1, 0, []), (25, .ireturn, 0, 0, 0, 0, 0, [])]
noncomputable def pX7_pass (N : Nat) (a1 : Int32) (w : Wd) : Option (Int32 × Wd) :=
  if (gI w 14 0 8) = a1 then
    (callW (pX10_advance N) w).bind fun w1 =>
    some ((1 : Int32), w1)
  else
  (callW (pX7_fail N (1 : Int32)) w).bind fun r2 =>
  retZ r2.1 r2.2
noncomputable def mX7_pass (N : Nat) (as : List AV) (w : Wd) : Option (Int32 × Wd) := xS1 11 as fun t => xI1 t fun a1 t => xN1 t (callW (pX7_pass N a1) w)
set_option maxRecDepth 100000 in
set_option maxHeartbeats 4000000 in
theorem kX7_pass : TK cX7_pass RX7 2 tX7_pass := ⟨by decide +kernel, wok_of [466, 437, 466] (by decide +kernel) (by decide +kernel)⟩
set_option maxRecDepth 100000 in
set_option maxHeartbeats 4000000 in
theorem crX7_pass {N : Nat} {X : XT} (G : GX X cX7_pass RX7) (hR : xR X = rmL 2) : CRs X tX7_pass (oF [(mX7_fail N)]) (oF []) (oF [(mX10_advance N)]) := by
  have hl : tX7_pass.filter isInv = [(13, .invokevirtual 59, 0, 0, 2, 0, 0, []), (21, .invokevirtual 62, 0, 0, 1, 0, 0, [(0, 0), (0, 0)])] := rfl
  intro e he
  rw [hl] at he
  simp only [List.mem_cons, List.not_mem_nil, or_false] at he
  rcases he with rfl | rfl
  · exact crI_V (idx := 59) G (by decide +kernel) (MX7_fail N) (cw_of (ps := [858, 860, 10, 152, 861]) (by decide +kernel) (by decide +kernel)) ⟨by decide +kernel, by decide +kernel, by decide +kernel⟩ (by unfold rmOk; rw [hR]; exact ⟨by decide, by decide⟩)
  · exact crV_V (idx := 62) G (by decide +kernel) (MX10_advance N) (cw_of (ps := [862, 847, 848, 153, 849]) (by decide +kernel) (by decide +kernel)) ⟨by decide +kernel, by decide +kernel, by decide +kernel⟩ (by unfold rmOk; rw [hR]; exact ⟨by decide, by decide⟩)
set_option maxRecDepth 100000 in
set_option maxHeartbeats 4000000 in
theorem MX7_pass (N : Nat) : SndI yX7_pass cX7_pass 2 (some .boolean) 2 2 true (mX7_pass N) := by
  refine SndI.ofZ tX7_pass (by decide +kernel) rfl rfl ?_ ?_
  · intro as w x h
    obtain ⟨t1, rfl, h_1⟩ := xS1_some h
    obtain ⟨a1, t2, rfl, h_2⟩ := xI1_some h_1
    obtain ⟨rfl, h_3⟩ := xN1_some h_2
    clear h h_1 h_2
    have h := h_3
    rw [callW_eq] at h
    exact ⟨fun _ => ⟨_, _, _, rfl, rfl, _, rfl, rfl⟩, rfl, Nat.le_of_ble_eq_true rfl⟩
  · intro X G hn hR as w r h hr
    have hC := crX7_pass (N := N) G hR
    obtain ⟨t1, rfl, h_1⟩ := xS1_some h
    obtain ⟨a1, t2, rfl, h_2⟩ := xI1_some h_1
    obtain ⟨rfl, h_3⟩ := xN1_some h_2
    clear h h_1 h_2
    have h := h_3
    rw [callW_eq] at h
    refine run_sound (r := r) (X := X) (cc := cX7_pass) (own := RX7) (tab := tX7_pass) G (by rw [hn]; exact kX7_pass) (oI := (oF [(mX7_fail N)])) (oL := (oF [])) (oV := (oF [(mX10_advance N)])) (rI := retZ) (rL := (fun _ _ => none)) (rV := (fun _ => none))
      (K := (fun j ls st w => none)) hr (fun _ _ _ _ hx => by cases hx) (fun _ _ _ hx => by cases hx) hC (fun ls => lsb [some (.inr (.inr (11, 0))), some (.inl a1)] 0 ls) (keepsP_of rfl) ?_ 16 0 [some (.inr (.inr (11, 0))), some (.inl a1)] [] w ?_ h
    · intro j ls st w hfx h
      obtain ⟨e0, e1, -⟩ : _ = _ ∧ _ = _ ∧ True := hfx
      try dsimp only at h
      cases h
    · exact (show _ = _ ∧ _ = _ ∧ True from ⟨rfl, rfl, trivial⟩)
-- MoorGuides$Reader.isValue(I)Z
def tX7_isValue : List EN := [
  (0, .iload_n 0, 0, 0, 0, 0, 0, []), (1, .bipush (-3), 0, 0, 0, (-3), 0, []), (3, .if_icmp .eq 10, 0, 6, 0, 0, 0, []), (6, .iload_n 0, 0, 0, 0, 0, 0, []),
  (7, .invokestatic 242, 0, 0, 1, 0, 0, []), (10, .ifCond .eq 7, 0, 8, 0, 0, 0, []), (13, .iconst 1, 0, 0, 0, 1, 0, []), (14, .goto 4, 0, 9, 0, 0, 0, []),
  (17, .iconst 0, 0, 0, 0, 0, 0, []), (18, .ireturn, 0, 0, 0, 0, 0, [])]
noncomputable def pX7_isValue (N : Nat) (a0 : Int32) (w : Wd) : Option (Int32 × Wd) :=
  if a0 = (-3 : Int32) then some ((1 : Int32), w) else
  (callW (pX10_isName N a0) w).bind fun r1 =>
  if r1.1 = 0 then some ((0 : Int32), r1.2) else
  some ((1 : Int32), r1.2)
noncomputable def mX7_isValue (N : Nat) (as : List AV) (w : Wd) : Option (Int32 × Wd) := xI1 as fun a0 t => xN1 t (callW (pX7_isValue N a0) w)
set_option maxRecDepth 100000 in
set_option maxHeartbeats 4000000 in
theorem kX7_isValue : TK cX7_isValue RX7 1 tX7_isValue := ⟨by decide +kernel, wok_of [] (by decide +kernel) (by decide +kernel)⟩
set_option maxRecDepth 100000 in
set_option maxHeartbeats 4000000 in
theorem crX7_isValue {N : Nat} {X : XT} (G : GX X cX7_isValue RX7) (hR : xR X = rmL 2) : CRs X tX7_isValue (oF [(mX10_isName N)]) (oF []) (oF []) := by
  have hl : tX7_isValue.filter isInv = [(7, .invokestatic 242, 0, 0, 1, 0, 0, [])] := rfl
  intro e he
  rw [hl] at he
  simp only [List.mem_cons, List.not_mem_nil, or_false] at he
  rcases he with rfl
  · exact crI_S (idx := 242) G (by decide +kernel) (MX10_isName N) (cw_of (ps := [961, 962, 153, 963]) (by decide +kernel) (by decide +kernel)) ⟨by decide +kernel, by decide +kernel, by decide +kernel⟩ (by unfold rmOk; rw [hR]; exact ⟨by decide, by decide⟩)
set_option maxRecDepth 100000 in
set_option maxHeartbeats 4000000 in
theorem MX7_isValue (N : Nat) : SndI yX7_isValue cX7_isValue 1 (some .boolean) 2 1 false (mX7_isValue N) := by
  refine SndI.ofZ tX7_isValue (by decide +kernel) rfl rfl ?_ ?_
  · intro as w x h
    obtain ⟨a0, t1, rfl, h_1⟩ := xI1_some h
    obtain ⟨rfl, h_2⟩ := xN1_some h_1
    clear h h_1
    have h := h_2
    rw [callW_eq] at h
    exact ⟨(fun z => by cases z), rfl, Nat.le_of_ble_eq_true rfl⟩
  · intro X G hn hR as w r h hr
    have hC := crX7_isValue (N := N) G hR
    obtain ⟨a0, t1, rfl, h_1⟩ := xI1_some h
    obtain ⟨rfl, h_2⟩ := xN1_some h_1
    clear h h_1
    have h := h_2
    rw [callW_eq] at h
    refine run_sound (r := r) (X := X) (cc := cX7_isValue) (own := RX7) (tab := tX7_isValue) G (by rw [hn]; exact kX7_isValue) (oI := (oF [(mX10_isName N)])) (oL := (oF [])) (oV := (oF [])) (rI := retZ) (rL := (fun _ _ => none)) (rV := (fun _ => none))
      (K := (fun j ls st w => none)) hr (fun _ _ _ _ hx => by cases hx) (fun _ _ _ hx => by cases hx) hC (fun ls => lsb [some (.inl a0)] 0 ls) (keepsP_of rfl) ?_ 12 0 [some (.inl a0)] [] w ?_ h
    · intro j ls st w hfx h
      obtain ⟨e0, -⟩ : _ = _ ∧ True := hfx
      try dsimp only at h
      cases h
    · exact (show _ = _ ∧ True from ⟨rfl, trivial⟩)
-- MoorGuides$Reader.await(I)Z
def tX7_await : List EN := [
  (0, .aload_n 0, 0, 0, 0, 0, 0, []), (1, .getfield 202, 0, 7, 5, 0, 0, []), (4, .aload_n 0, 0, 0, 0, 0, 0, []), (5, .getfield 18, 0, 7, 4, 0, 0, []),
  (8, .arraylength, 0, 0, 0, 0, 0, []), (9, .if_icmp .lt 9, 0, 10, 0, 0, 0, []), (12, .aload_n 0, 0, 0, 0, 0, 0, []), (13, .iconst 2, 0, 0, 0, 2, 0, []),
  (14, .invokevirtual 59, 0, 0, 2, 0, 0, []), (17, .ireturn, 0, 0, 0, 0, 0, []), (18, .aload_n 0, 0, 0, 0, 0, 0, []), (19, .getfield 18, 0, 7, 4, 0, 0, []),
  (22, .aload_n 0, 0, 0, 0, 0, 0, []), (23, .getfield 202, 0, 7, 5, 0, 0, []), (26, .iload_n 1, 0, 0, 0, 0, 0, []), (27, .iastore, 0, 0, 0, 0, 0, []),
  (28, .aload_n 0, 0, 0, 0, 0, 0, []), (29, .dup, 0, 0, 0, 0, 0, []), (30, .getfield 202, 0, 7, 5, 0, 0, []), (33, .iconst 1, 0, 0, 0, 1, 0, []),
  (34, .iadd, 0, 0, 0, 0, 0, []), (35, .putfield 202, 0, 7, 5, 0, 0, []), (38, .iconst 1, 0, 0, 0, 1, 0, []), (39, .ireturn, 0, 0, 0, 0, 0, [])]
noncomputable def pX7_await (N : Nat) (a1 : Int32) (w : Wd) : Option (Int32 × Wd) :=
  if (gI w 11 0 5) < (Int32.ofNat 72) then
    (stI w 54 0 (gI w 11 0 5) 72 a1).bind fun w1 =>
    some ((1 : Int32), (setI w1 11 0 5 ((gI w1 11 0 5) + (1 : Int32))))
  else
  (callW (pX7_fail N (2 : Int32)) w).bind fun r2 =>
  retZ r2.1 r2.2
noncomputable def mX7_await (N : Nat) (as : List AV) (w : Wd) : Option (Int32 × Wd) := xS1 11 as fun t => xI1 t fun a1 t => xN1 t (callW (pX7_await N a1) w)
set_option maxRecDepth 100000 in
set_option maxHeartbeats 4000000 in
theorem kX7_await : TK cX7_await RX7 2 tX7_await := ⟨by decide +kernel, wok_of [471, 470, 470, 471, 471, 471] (by decide +kernel) (by decide +kernel)⟩
set_option maxRecDepth 100000 in
set_option maxHeartbeats 4000000 in
theorem crX7_await {N : Nat} {X : XT} (G : GX X cX7_await RX7) (hR : xR X = rmL 2) : CRs X tX7_await (oF [(mX7_fail N)]) (oF []) (oF []) := by
  have hl : tX7_await.filter isInv = [(14, .invokevirtual 59, 0, 0, 2, 0, 0, [])] := rfl
  intro e he
  rw [hl] at he
  simp only [List.mem_cons, List.not_mem_nil, or_false] at he
  rcases he with rfl
  · exact crI_V (idx := 59) G (by decide +kernel) (MX7_fail N) (cw_of (ps := [858, 860, 10, 152, 861]) (by decide +kernel) (by decide +kernel)) ⟨by decide +kernel, by decide +kernel, by decide +kernel⟩ (by unfold rmOk; rw [hR]; exact ⟨by decide, by decide⟩)
set_option maxRecDepth 100000 in
set_option maxHeartbeats 4000000 in
theorem MX7_await (N : Nat) : SndI yX7_await cX7_await 2 (some .boolean) 2 2 true (mX7_await N) := by
  refine SndI.ofZ tX7_await (by decide +kernel) rfl rfl ?_ ?_
  · intro as w x h
    obtain ⟨t1, rfl, h_1⟩ := xS1_some h
    obtain ⟨a1, t2, rfl, h_2⟩ := xI1_some h_1
    obtain ⟨rfl, h_3⟩ := xN1_some h_2
    clear h h_1 h_2
    have h := h_3
    rw [callW_eq] at h
    exact ⟨fun _ => ⟨_, _, _, rfl, rfl, _, rfl, rfl⟩, rfl, Nat.le_of_ble_eq_true rfl⟩
  · intro X G hn hR as w r h hr
    have hC := crX7_await (N := N) G hR
    obtain ⟨t1, rfl, h_1⟩ := xS1_some h
    obtain ⟨a1, t2, rfl, h_2⟩ := xI1_some h_1
    obtain ⟨rfl, h_3⟩ := xN1_some h_2
    clear h h_1 h_2
    have h := h_3
    rw [callW_eq] at h
    refine run_sound (r := r) (X := X) (cc := cX7_await) (own := RX7) (tab := tX7_await) G (by rw [hn]; exact kX7_await) (oI := (oF [(mX7_fail N)])) (oL := (oF [])) (oV := (oF [])) (rI := retZ) (rL := (fun _ _ => none)) (rV := (fun _ => none))
      (K := (fun j ls st w => none)) hr (fun _ _ _ _ hx => by cases hx) (fun _ _ _ hx => by cases hx) hC (fun ls => lsb [some (.inr (.inr (11, 0))), some (.inl a1)] 0 ls) (keepsP_of rfl) ?_ 26 0 [some (.inr (.inr (11, 0))), some (.inl a1)] [] w ?_ h
    · intro j ls st w hfx h
      obtain ⟨e0, e1, -⟩ : _ = _ ∧ _ = _ ∧ True := hfx
      try dsimp only at h
      cases h
    · exact (show _ = _ ∧ _ = _ ∧ True from ⟨rfl, rfl, trivial⟩)
-- MoorGuides$Reader.lastWaiting()I
def tX7_lastWaiting : List EN := [
  (0, .aload_n 0, 0, 0, 0, 0, 0, []), (1, .getfield 202, 0, 7, 5, 0, 0, []), (4, .ifCond .le 17, 0, 11, 0, 0, 0, []), (7, .aload_n 0, 0, 0, 0, 0, 0, []),
  (8, .getfield 18, 0, 7, 4, 0, 0, []), (11, .aload_n 0, 0, 0, 0, 0, 0, []), (12, .getfield 202, 0, 7, 5, 0, 0, []), (15, .iconst 1, 0, 0, 0, 1, 0, []),
  (16, .isub, 0, 0, 0, 0, 0, []), (17, .iaload, 0, 0, 0, 0, 0, []), (18, .goto 5, 0, 12, 0, 0, 0, []), (21, .bipush 33, 0, 0, 0, 33, 0, []),
  (23, .ireturn, 0, 0, 0, 0, 0, [])]
noncomputable def pX7_lastWaiting (N : Nat) (w : Wd) : Option (Int32 × Wd) :=
  if 0 < (gI w 11 0 5) then
    (ldI w 54 0 ((gI w 11 0 5) - (1 : Int32)) 72).bind fun x1 =>
    some (x1, w)
  else
  some ((33 : Int32), w)
noncomputable def mX7_lastWaiting (N : Nat) (as : List AV) (w : Wd) : Option (Int32 × Wd) := xS1 11 as fun t => xN1 t (callW (pX7_lastWaiting N) w)
set_option maxRecDepth 100000 in
set_option maxHeartbeats 4000000 in
theorem kX7_lastWaiting : TK cX7_lastWaiting RX7 1 tX7_lastWaiting := ⟨by decide +kernel, wok_of [471, 470, 471] (by decide +kernel) (by decide +kernel)⟩
set_option maxRecDepth 100000 in
set_option maxHeartbeats 4000000 in
theorem crX7_lastWaiting {N : Nat} {X : XT} (G : GX X cX7_lastWaiting RX7) (hR : xR X = rmL 1) : CRs X tX7_lastWaiting (oF []) (oF []) (oF []) := by
  have hl : tX7_lastWaiting.filter isInv = [] := rfl
  intro e he
  rw [hl] at he
  cases he
set_option maxRecDepth 100000 in
set_option maxHeartbeats 4000000 in
theorem MX7_lastWaiting (N : Nat) : SndI yX7_lastWaiting cX7_lastWaiting 1 (some .int) 1 1 true (mX7_lastWaiting N) := by
  refine SndI.of tX7_lastWaiting (by decide +kernel) rfl rfl ?_ ?_
  · intro as w x h
    obtain ⟨t1, rfl, h_1⟩ := xS1_some h
    obtain ⟨rfl, h_2⟩ := xN1_some h_1
    clear h h_1
    have h := h_2
    rw [callW_eq] at h
    exact ⟨fun _ => ⟨_, _, _, rfl, rfl, _, rfl, rfl⟩, rfl, Nat.le_of_ble_eq_true rfl⟩
  · intro X G hn hR as w r h hr
    have hC := crX7_lastWaiting (N := N) G hR
    obtain ⟨t1, rfl, h_1⟩ := xS1_some h
    obtain ⟨rfl, h_2⟩ := xN1_some h_1
    clear h h_1
    have h := h_2
    rw [callW_eq] at h
    refine run_sound (r := r) (X := X) (cc := cX7_lastWaiting) (own := RX7) (tab := tX7_lastWaiting) G (by rw [hn]; exact kX7_lastWaiting) (oI := (oF [])) (oL := (oF [])) (oV := (oF [])) (rI := (fun x w => some (x, w))) (rL := (fun _ _ => none)) (rV := (fun _ => none))
      (K := (fun j ls st w => none)) (fun x w pc ls hx hd => hr x w pc ls (Option.some.inj hx) hd) (fun _ _ _ _ hx => by cases hx) (fun _ _ _ hx => by cases hx) hC (fun ls => lsb [some (.inr (.inr (11, 0)))] 0 ls) (keepsP_of rfl) ?_ 15 0 [some (.inr (.inr (11, 0)))] [] w ?_ h
    · intro j ls st w hfx h
      obtain ⟨e0, -⟩ : _ = _ ∧ True := hfx
      try dsimp only at h
      cases h
    · exact (show _ = _ ∧ True from ⟨rfl, trivial⟩)
-- MoorGuides$Reader.level(I)I
def tX7_level : List EN := [
  (0, .iload_n 0, 0, 0, 0, 0, 0, []), (1, .bipush 39, 0, 0, 0, 39, 0, []), (3, .if_icmp .lt 11, 0, 8, 0, 0, 0, []), (6, .iload_n 0, 0, 0, 0, 0, 0, []),
  (7, .bipush 44, 0, 0, 0, 44, 0, []), (9, .if_icmp .gt 5, 0, 8, 0, 0, 0, []), (12, .iconst 4, 0, 0, 0, 4, 0, []), (13, .ireturn, 0, 0, 0, 0, 0, []),
  (14, .iload_n 0, 9, 0, 0, 0, 0, []), (15, .tableswitch 116 16 38 #[105, 107, 109, 116, 116, 116, 116, 116, 116, 116, 116, 116, 116, 116, 116, 116, 116, 116, 116, 111, 111, 113, 113], 0, 20, 105, 0, 0, [(16, 10), (17, 12), (18, 14), (19, 20), (20, 20), (21, 20), (22, 20), (23, 20), (24, 20), (25, 20), (26, 20), (27, 20), (28, 20), (29, 20), (30, 20), (31, 20), (32, 20), (33, 20), (34, 20), (35, 16), (36, 16), (37, 18), (38, 18)]), (120, .iconst 1, 0, 0, 0, 1, 0, []), (121, .ireturn, 0, 0, 0, 0, 0, []),
  (122, .iconst 2, 0, 0, 0, 2, 0, []), (123, .ireturn, 0, 0, 0, 0, 0, []), (124, .iconst 3, 0, 0, 0, 3, 0, []), (125, .ireturn, 0, 0, 0, 0, 0, []),
  (126, .iconst 5, 0, 0, 0, 5, 0, []), (127, .ireturn, 0, 0, 0, 0, 0, []), (128, .bipush 6, 0, 0, 0, 6, 0, []), (130, .ireturn, 0, 0, 0, 0, 0, []),
  (131, .iconst 0, 0, 0, 0, 0, 0, []), (132, .ireturn, 0, 0, 0, 0, 0, [])]
noncomputable def fX7_level_8 (N : Nat) (a0 : Int32) (w : Wd) : Option (Int32 × Wd) :=
  if a0 = (16 : Int32) then some ((1 : Int32), w) else
  if a0 = (17 : Int32) then some ((2 : Int32), w) else
  if a0 = (18 : Int32) then some ((3 : Int32), w) else
  if a0 = (19 : Int32) then some ((0 : Int32), w) else
  if a0 = (20 : Int32) then some ((0 : Int32), w) else
  if a0 = (21 : Int32) then some ((0 : Int32), w) else
  if a0 = (22 : Int32) then some ((0 : Int32), w) else
  if a0 = (23 : Int32) then some ((0 : Int32), w) else
  if a0 = (24 : Int32) then some ((0 : Int32), w) else
  if a0 = (25 : Int32) then some ((0 : Int32), w) else
  if a0 = (26 : Int32) then some ((0 : Int32), w) else
  if a0 = (27 : Int32) then some ((0 : Int32), w) else
  if a0 = (28 : Int32) then some ((0 : Int32), w) else
  if a0 = (29 : Int32) then some ((0 : Int32), w) else
  if a0 = (30 : Int32) then some ((0 : Int32), w) else
  if a0 = (31 : Int32) then some ((0 : Int32), w) else
  if a0 = (32 : Int32) then some ((0 : Int32), w) else
  if a0 = (33 : Int32) then some ((0 : Int32), w) else
  if a0 = (34 : Int32) then some ((0 : Int32), w) else
  if a0 = (35 : Int32) then some ((5 : Int32), w) else
  if a0 = (36 : Int32) then some ((5 : Int32), w) else
  if a0 = (37 : Int32) then some ((6 : Int32), w) else
  if a0 = (38 : Int32) then some ((6 : Int32), w) else
  some ((0 : Int32), w)
noncomputable def pX7_level (N : Nat) (a0 : Int32) (w : Wd) : Option (Int32 × Wd) :=
  if a0 < (39 : Int32) then callW (fX7_level_8 N a0) w else
  if (44 : Int32) < a0 then callW (fX7_level_8 N a0) w else
  some ((4 : Int32), w)
noncomputable def mX7_level (N : Nat) (as : List AV) (w : Wd) : Option (Int32 × Wd) := xI1 as fun a0 t => xN1 t (callW (pX7_level N a0) w)
set_option maxRecDepth 100000 in
set_option maxHeartbeats 4000000 in
theorem kX7_level : TK cX7_level RX7 1 tX7_level := ⟨by decide +kernel, wok_of [] (by decide +kernel) (by decide +kernel)⟩
set_option maxRecDepth 100000 in
set_option maxHeartbeats 4000000 in
theorem sX7_level_8 {N : Nat} {X : XT} (G : GX X cX7_level RX7) (hn : xnL X = 1) (hC : CRs X tX7_level (oF []) (oF []) (oF [])) {r : Int32 × Wd} (hr : RTI X cX7_level r) (a0 : Int32) : ∀ (w : Wd), fX7_level_8 N a0 w = some r → WW X (pcAt tX7_level 8) [some (.inl a0)] [] w := by
  intro w h
  refine run_sound (r := r) (X := X) (cc := cX7_level) (own := RX7) (tab := tX7_level) G (by rw [hn]; exact kX7_level) (oI := (oF [])) (oL := (oF [])) (oV := (oF [])) (rI := (fun x w => some (x, w))) (rL := (fun _ _ => none)) (rV := (fun _ => none))
    (K := (fun j ls st w => none)) (fun x w pc ls hx hd => hr x w pc ls (Option.some.inj hx) hd) (fun _ _ _ _ hx => by cases hx) (fun _ _ _ hx => by cases hx) hC (fun ls => lsb [some (.inl a0)] 0 ls) (keepsP_of rfl) ?_ 24 8 [some (.inl a0)] [] w ?_ h
  · intro j ls st w hfx h
    obtain ⟨e0, -⟩ : _ = _ ∧ True := hfx
    try dsimp only at h
    cases h
  · exact (show _ = _ ∧ True from ⟨rfl, trivial⟩)
set_option maxRecDepth 100000 in
set_option maxHeartbeats 4000000 in
theorem crX7_level {N : Nat} {X : XT} (G : GX X cX7_level RX7) (hR : xR X = rmL 1) : CRs X tX7_level (oF []) (oF []) (oF []) := by
  have hl : tX7_level.filter isInv = [] := rfl
  intro e he
  rw [hl] at he
  cases he
set_option maxRecDepth 100000 in
set_option maxHeartbeats 4000000 in
theorem MX7_level (N : Nat) : SndI yX7_level cX7_level 1 (some .int) 1 1 false (mX7_level N) := by
  refine SndI.of tX7_level (by decide +kernel) rfl rfl ?_ ?_
  · intro as w x h
    obtain ⟨a0, t1, rfl, h_1⟩ := xI1_some h
    obtain ⟨rfl, h_2⟩ := xN1_some h_1
    clear h h_1
    have h := h_2
    rw [callW_eq] at h
    exact ⟨(fun z => by cases z), rfl, Nat.le_of_ble_eq_true rfl⟩
  · intro X G hn hR as w r h hr
    have hC := crX7_level (N := N) G hR
    obtain ⟨a0, t1, rfl, h_1⟩ := xI1_some h
    obtain ⟨rfl, h_2⟩ := xN1_some h_1
    clear h h_1
    have h := h_2
    rw [callW_eq] at h
    refine run_sound (r := r) (X := X) (cc := cX7_level) (own := RX7) (tab := tX7_level) G (by rw [hn]; exact kX7_level) (oI := (oF [])) (oL := (oF [])) (oV := (oF [])) (rI := (fun x w => some (x, w))) (rL := (fun _ _ => none)) (rV := (fun _ => none))
      (K := (fun j ls st w => if j = 8 then (st0 st (callW (fX7_level_8 N a0) w)) else none)) (fun x w pc ls hx hd => hr x w pc ls (Option.some.inj hx) hd) (fun _ _ _ _ hx => by cases hx) (fun _ _ _ hx => by cases hx) hC (fun ls => lsb [some (.inl a0)] 0 ls) (keepsP_of rfl) ?_ 24 0 [some (.inl a0)] [] w ?_ h
    · intro j ls st w hfx h
      obtain ⟨e0, -⟩ : _ = _ ∧ True := hfx
      try dsimp only at h
      by_cases hj : j = 8
      · subst hj
        rw [if_pos rfl] at h
        obtain ⟨rfl, h_1⟩ := st0_some h
        clear h
        have h := h_1
        try rw [callW_eq] at h
        exact WW.le (a := [some (.inl a0)]) (by rw [hn]; rfl) (show _ = _ ∧ True from ⟨e0, trivial⟩) (sX7_level_8 G hn hC hr a0 w h)
      rw [if_neg hj] at h
      cases h
    · exact (show _ = _ ∧ True from ⟨rfl, trivial⟩)
-- MoorGuides$Reader.countKnot()Z
def tX7_countKnot : List EN := [
  (0, .aload_n 0, 0, 0, 0, 0, 0, []), (1, .getfield 26, 0, 7, 1, 0, 0, []), (4, .invokevirtual 241, 0, 0, 1, 0, 0, []), (7, .ifCond .ne 11, 0, 8, 0, 0, 0, []),
  (10, .aload_n 0, 0, 0, 0, 0, 0, []), (11, .iconst 2, 0, 0, 0, 2, 0, []), (12, .invokevirtual 59, 0, 1, 2, 0, 0, []), (15, .ifCond .eq 7, 0, 10, 0, 0, 0, []),
  (18, .iconst 1, 0, 0, 0, 1, 0, []), (19, .goto 4, 0, 11, 0, 0, 0, []), (22, .iconst 0, 0, 0, 0, 0, 0, []), (23, .ireturn, 0, 0, 0, 0, 0, [])]
noncomputable def pX7_countKnot (N : Nat) (w : Wd) : Option (Int32 × Wd) :=
  (callW (pX4_countKnot N (gR w 11 0 1)) w).bind fun r1 =>
  if r1.1 = 0 then
    (callW (pX7_fail N (2 : Int32)) r1.2).bind fun r2 =>
    if r2.1 = 0 then some ((0 : Int32), r2.2) else
    some ((1 : Int32), r2.2)
  else
  some ((1 : Int32), r1.2)
noncomputable def mX7_countKnot (N : Nat) (as : List AV) (w : Wd) : Option (Int32 × Wd) := xS1 11 as fun t => xN1 t (callW (pX7_countKnot N) w)
set_option maxRecDepth 100000 in
set_option maxHeartbeats 4000000 in
theorem kX7_countKnot : TK cX7_countKnot RX7 1 tX7_countKnot := ⟨by decide +kernel, wok_of [467] (by decide +kernel) (by decide +kernel)⟩
set_option maxRecDepth 100000 in
set_option maxHeartbeats 4000000 in
theorem crX7_countKnot {N : Nat} {X : XT} (G : GX X cX7_countKnot RX7) (hR : xR X = rmL 2) : CRs X tX7_countKnot (oF [(mX4_countKnot N), (mX7_fail N)]) (oF []) (oF []) := by
  have hl : tX7_countKnot.filter isInv = [(4, .invokevirtual 241, 0, 0, 1, 0, 0, []), (12, .invokevirtual 59, 0, 1, 2, 0, 0, [])] := rfl
  intro e he
  rw [hl] at he
  simp only [List.mem_cons, List.not_mem_nil, or_false] at he
  rcases he with rfl | rfl
  · exact crI_V (idx := 241) G (by decide +kernel) (MX4_countKnot N) (cw_of (ps := [976, 977, 978, 149, 979]) (by decide +kernel) (by decide +kernel)) ⟨by decide +kernel, by decide +kernel, by decide +kernel⟩ (by unfold rmOk; rw [hR]; exact ⟨by decide, by decide⟩)
  · exact crI_V (idx := 59) G (by decide +kernel) (MX7_fail N) (cw_of (ps := [858, 860, 10, 152, 861]) (by decide +kernel) (by decide +kernel)) ⟨by decide +kernel, by decide +kernel, by decide +kernel⟩ (by unfold rmOk; rw [hR]; exact ⟨by decide, by decide⟩)
set_option maxRecDepth 100000 in
set_option maxHeartbeats 4000000 in
theorem MX7_countKnot (N : Nat) : SndI yX7_countKnot cX7_countKnot 1 (some .boolean) 2 1 true (mX7_countKnot N) := by
  refine SndI.ofZ tX7_countKnot (by decide +kernel) rfl rfl ?_ ?_
  · intro as w x h
    obtain ⟨t1, rfl, h_1⟩ := xS1_some h
    obtain ⟨rfl, h_2⟩ := xN1_some h_1
    clear h h_1
    have h := h_2
    rw [callW_eq] at h
    exact ⟨fun _ => ⟨_, _, _, rfl, rfl, _, rfl, rfl⟩, rfl, Nat.le_of_ble_eq_true rfl⟩
  · intro X G hn hR as w r h hr
    have hC := crX7_countKnot (N := N) G hR
    obtain ⟨t1, rfl, h_1⟩ := xS1_some h
    obtain ⟨rfl, h_2⟩ := xN1_some h_1
    clear h h_1
    have h := h_2
    rw [callW_eq] at h
    refine run_sound (r := r) (X := X) (cc := cX7_countKnot) (own := RX7) (tab := tX7_countKnot) G (by rw [hn]; exact kX7_countKnot) (oI := (oF [(mX4_countKnot N), (mX7_fail N)])) (oL := (oF [])) (oV := (oF [])) (rI := retZ) (rL := (fun _ _ => none)) (rV := (fun _ => none))
      (K := (fun j ls st w => none)) hr (fun _ _ _ _ hx => by cases hx) (fun _ _ _ hx => by cases hx) hC (fun ls => lsb [some (.inr (.inr (11, 0)))] 0 ls) (keepsP_of rfl) ?_ 14 0 [some (.inr (.inr (11, 0)))] [] w ?_ h
    · intro j ls st w hfx h
      obtain ⟨e0, -⟩ : _ = _ ∧ True := hfx
      try dsimp only at h
      cases h
    · exact (show _ = _ ∧ True from ⟨rfl, trivial⟩)
-- MoorGuides$Reader.readBeginning(LMoorGuides$Law;)Z
def tX7_readBeginning : List EN := [
  (0, .aload_n 0, 0, 0, 0, 0, 0, []), (1, .getfield 12, 0, 7, 0, 0, 0, []), (4, .getfield 47, 0, 10, 8, 0, 0, []), (7, .istore_n 2, 0, 0, 0, 0, 0, []),
  (8, .iload_n 2, 0, 0, 0, 0, 0, []), (9, .bipush 33, 0, 0, 0, 33, 0, []), (11, .if_icmp .ne 36, 0, 25, 0, 0, 0, []), (14, .aload_n 0, 0, 0, 0, 0, 0, []),
  (15, .dup, 0, 0, 0, 0, 0, []), (16, .getfield 205, 0, 7, 6, 0, 0, []), (19, .iconst 1, 0, 0, 0, 1, 0, []), (20, .iadd, 0, 0, 0, 0, 0, []),
  (21, .putfield 205, 0, 7, 6, 0, 0, []), (24, .aload_n 0, 0, 0, 0, 0, 0, []), (25, .getfield 205, 0, 7, 6, 0, 0, []), (28, .bipush 8, 0, 0, 0, 8, 0, []),
  (30, .if_icmp .gt 11, 0, 21, 0, 0, 0, []), (33, .aload_n 0, 0, 0, 0, 0, 0, []), (34, .iload_n 2, 0, 0, 0, 0, 0, []), (35, .invokevirtual 221, 0, 0, 2, 0, 0, []),
  (38, .goto 8, 0, 24, 0, 0, 0, []), (41, .aload_n 0, 0, 0, 0, 0, 0, []), (42, .iconst 2, 0, 0, 0, 2, 0, []), (43, .invokevirtual 59, 0, 1, 2, 0, 0, []),
  (46, .ireturn, 0, 0, 0, 0, 0, []), (47, .iload_n 2, 0, 0, 0, 0, 0, []), (48, .bipush 18, 0, 0, 0, 18, 0, []), (50, .if_icmp .ne 35, 0, 44, 0, 0, 0, []),
  (53, .aload_n 0, 0, 0, 0, 0, 0, []), (54, .invokevirtual 224, 0, 2, 1, 0, 0, []), (57, .invokestatic 227, 0, 3, 1, 0, 0, []), (60, .iconst 3, 0, 0, 0, 3, 0, []),
  (61, .if_icmp .gt 24, 0, 44, 0, 0, 0, []), (64, .aload_n 0, 0, 0, 0, 0, 0, []), (65, .invokevirtual 230, 0, 4, 1, 0, 0, []), (68, .ifCond .eq 15, 0, 42, 0, 0, 0, []),
  (71, .aload_n 0, 0, 0, 0, 0, 0, []), (72, .iload_n 2, 0, 0, 0, 0, 0, []), (73, .invokevirtual 221, 0, 0, 2, 0, 0, []), (76, .ifCond .eq 7, 0, 42, 0, 0, 0, []),
  (79, .iconst 1, 0, 0, 0, 1, 0, []), (80, .goto 4, 0, 43, 0, 0, 0, []), (83, .iconst 0, 0, 0, 0, 0, 0, []), (84, .ireturn, 0, 0, 0, 0, 0, []),
  (85, .iload_n 2, 45, 0, 0, 0, 0, []), (86, .invokestatic 212, 0, 5, 1, 0, 0, []), (89, .ifCond .ne 9, 0, 51, 0, 0, 0, []), (92, .aload_n 0, 0, 0, 0, 0, 0, []),
  (93, .iconst 1, 0, 0, 0, 1, 0, []), (94, .invokevirtual 59, 0, 1, 2, 0, 0, []), (97, .ireturn, 0, 0, 0, 0, 0, []), (98, .iload_n 2, 0, 0, 0, 0, 0, []),
  (99, .bipush (-3), 0, 0, 0, (-3), 0, []), (101, .if_icmp .eq 26, 0, 67, 0, 0, 0, []), (104, .aload_n 0, 0, 0, 0, 0, 0, []), (105, .invokevirtual 230, 0, 4, 1, 0, 0, []),
  (108, .ifCond .eq 17, 0, 65, 0, 0, 0, []), (111, .aload_n 1, 0, 0, 0, 0, 0, []), (112, .iload_n 2, 0, 0, 0, 0, 0, []), (113, .iconst (-1), 0, 0, 0, (-1), 0, []),
  (114, .ixor, 0, 0, 0, 0, 0, []), (115, .invokevirtual 233, 0, 6, 2, 0, 0, []), (118, .ifCond .eq 7, 0, 65, 0, 0, 0, []), (121, .iconst 1, 0, 0, 0, 1, 0, []),
  (122, .goto 4, 0, 66, 0, 0, 0, []), (125, .iconst 0, 0, 0, 0, 0, 0, []), (126, .ireturn, 0, 0, 0, 0, 0, []), (127, .aload_n 0, 0, 0, 0, 0, 0, []),
  (128, .getfield 12, 0, 7, 0, 0, 0, []), (131, .getfield 192, 0, 10, 10, 0, 0, []), (134, .sipush 9999, 0, 0, 0, 9999, 0, []), (137, .if_icmp .gt 32, 0, 85, 0, 0, 0, []),
  (140, .aload_n 0, 0, 0, 0, 0, 0, []), (141, .invokevirtual 230, 0, 4, 1, 0, 0, []), (144, .ifCond .eq 21, 0, 83, 0, 0, 0, []), (147, .aload_n 1, 0, 0, 0, 0, 0, []),
  (148, .aload_n 0, 0, 0, 0, 0, 0, []), (149, .getfield 12, 0, 7, 0, 0, 0, []), (152, .getfield 192, 0, 10, 10, 0, 0, []), (155, .invokevirtual 233, 0, 6, 2, 0, 0, []),
  (158, .ifCond .eq 7, 0, 83, 0, 0, 0, []), (161, .iconst 1, 0, 0, 0, 1, 0, []), (162, .goto 12, 0, 88, 0, 0, 0, []), (165, .iconst 0, 0, 0, 0, 0, 0, []),
  (166, .goto 8, 0, 88, 0, 0, 0, []), (169, .aload_n 0, 0, 0, 0, 0, 0, []), (170, .iconst 2, 0, 0, 0, 2, 0, []), (171, .invokevirtual 59, 0, 1, 2, 0, 0, []),
  (174, .ireturn, 0, 0, 0, 0, 0, [])]
noncomputable def fX7_readBeginning_44 (N : Nat) (i1 : Nat) (v2 : Int32) (w : Wd) : Option (Int32 × Wd) :=
  (callW (pX7_isValue N v2) w).bind fun r1 =>
  if r1.1 = 0 then
    (callW (pX7_fail N (1 : Int32)) r1.2).bind fun r2 =>
    retZ r2.1 r2.2
  else
  if v2 = (-3 : Int32) then
    if (9999 : Int32) < (gI r1.2 14 0 10) then
      (callW (pX7_fail N (2 : Int32)) r1.2).bind fun r3 =>
      retZ r3.1 r3.2
    else
    (callW (pX7_countKnot N) r1.2).bind fun r4 =>
    if r4.1 = 0 then some ((0 : Int32), r4.2) else
    (callW (pX1_add N i1 (gI r4.2 14 0 10)) r4.2).bind fun r5 =>
    if r5.1 = 0 then some ((0 : Int32), r5.2) else
    some ((1 : Int32), r5.2)
  else
  (callW (pX7_countKnot N) r1.2).bind fun r6 =>
  if r6.1 = 0 then some ((0 : Int32), r6.2) else
  (callW (pX1_add N i1 (v2 ^^^ (-1 : Int32))) r6.2).bind fun r7 =>
  if r7.1 = 0 then some ((0 : Int32), r7.2) else
  some ((1 : Int32), r7.2)
noncomputable def pX7_readBeginning (N : Nat) (i1 : Nat) (w : Wd) : Option (Int32 × Wd) :=
  if (gI w 14 0 8) = (33 : Int32) then
    if (8 : Int32) < (gI (setI w 11 0 6 ((gI w 11 0 6) + (1 : Int32))) 11 0 6) then
      (callW (pX7_fail N (2 : Int32)) (setI w 11 0 6 ((gI w 11 0 6) + (1 : Int32)))).bind fun r1 =>
      retZ r1.1 r1.2
    else
    (callW (pX7_await N (gI w 14 0 8)) (setI w 11 0 6 ((gI w 11 0 6) + (1 : Int32)))).bind fun r2 =>
    retZ r2.1 r2.2
  else
  if (gI w 14 0 8) = (18 : Int32) then
    (callW (pX7_lastWaiting N) w).bind fun r3 =>
    (callW (pX7_level N r3.1) r3.2).bind fun r4 =>
    if (3 : Int32) < r4.1 then callW (fX7_readBeginning_44 N i1 (gI w 14 0 8)) r4.2 else
    (callW (pX7_countKnot N) r4.2).bind fun r5 =>
    if r5.1 = 0 then some ((0 : Int32), r5.2) else
    (callW (pX7_await N (gI w 14 0 8)) r5.2).bind fun r6 =>
    if r6.1 = 0 then some ((0 : Int32), r6.2) else
    some ((1 : Int32), r6.2)
  else
  callW (fX7_readBeginning_44 N i1 (gI w 14 0 8)) w
noncomputable def mX7_readBeginning (N : Nat) (as : List AV) (w : Wd) : Option (Int32 × Wd) := xS1 11 as fun t => xR1 5 t fun i1 t => xN1 t (callW (pX7_readBeginning N i1) w)
set_option maxRecDepth 100000 in
set_option maxHeartbeats 4000000 in
theorem kX7_readBeginning : TK cX7_readBeginning RX7 3 tX7_readBeginning := ⟨by decide +kernel, wok_of [466, 437, 472, 472, 472, 466, 442, 466, 442] (by decide +kernel) (by decide +kernel)⟩
set_option maxRecDepth 100000 in
set_option maxHeartbeats 4000000 in
theorem sX7_readBeginning_44 {N : Nat} {X : XT} (G : GX X cX7_readBeginning RX7) (hn : xnL X = 3) (hC : CRs X tX7_readBeginning (oF [(mX7_await N), (mX7_fail N), (mX7_lastWaiting N), (mX7_level N), (mX7_countKnot N), (mX7_isValue N), (mX1_add N)]) (oF []) (oF [])) {r : Int32 × Wd} (hr : RTZ X cX7_readBeginning r) (i1 : Nat) : ∀ (v2 : Int32) (w : Wd), fX7_readBeginning_44 N i1 v2 w = some r → WW X (pcAt tX7_readBeginning 44) [some (.inr (.inr (11, 0))), some (.inr (.inr (5, i1))), some (.inl v2)] [] w := by
  intro v2 w h
  refine run_sound (r := r) (X := X) (cc := cX7_readBeginning) (own := RX7) (tab := tX7_readBeginning) G (by rw [hn]; exact kX7_readBeginning) (oI := (oF [(mX7_await N), (mX7_fail N), (mX7_lastWaiting N), (mX7_level N), (mX7_countKnot N), (mX7_isValue N), (mX1_add N)])) (oL := (oF [])) (oV := (oF [])) (rI := retZ) (rL := (fun _ _ => none)) (rV := (fun _ => none))
    (K := (fun j ls st w => none)) hr (fun _ _ _ _ hx => by cases hx) (fun _ _ _ hx => by cases hx) hC (fun ls => lsb [some (.inr (.inr (11, 0))), some (.inr (.inr (5, i1))), none] 0 ls) (keepsP_of rfl) ?_ 91 44 [some (.inr (.inr (11, 0))), some (.inr (.inr (5, i1))), some (.inl v2)] [] w ?_ h
  · intro j ls st w hfx h
    obtain ⟨e0, e1, -⟩ : _ = _ ∧ _ = _ ∧ True := hfx
    try dsimp only at h
    cases h
  · exact (show _ = _ ∧ _ = _ ∧ True from ⟨rfl, rfl, trivial⟩)
set_option maxRecDepth 100000 in
set_option maxHeartbeats 4000000 in
theorem crX7_readBeginning {N : Nat} {X : XT} (G : GX X cX7_readBeginning RX7) (hR : xR X = rmL 3) : CRs X tX7_readBeginning (oF [(mX7_await N), (mX7_fail N), (mX7_lastWaiting N), (mX7_level N), (mX7_countKnot N), (mX7_isValue N), (mX1_add N)]) (oF []) (oF []) := by
  have hl : tX7_readBeginning.filter isInv = [(35, .invokevirtual 221, 0, 0, 2, 0, 0, []), (43, .invokevirtual 59, 0, 1, 2, 0, 0, []), (54, .invokevirtual 224, 0, 2, 1, 0, 0, []), (57, .invokestatic 227, 0, 3, 1, 0, 0, []), (65, .invokevirtual 230, 0, 4, 1, 0, 0, []), (73, .invokevirtual 221, 0, 0, 2, 0, 0, []), (86, .invokestatic 212, 0, 5, 1, 0, 0, []), (94, .invokevirtual 59, 0, 1, 2, 0, 0, []), (105, .invokevirtual 230, 0, 4, 1, 0, 0, []), (115, .invokevirtual 233, 0, 6, 2, 0, 0, []), (141, .invokevirtual 230, 0, 4, 1, 0, 0, []), (155, .invokevirtual 233, 0, 6, 2, 0, 0, []), (171, .invokevirtual 59, 0, 1, 2, 0, 0, [])] := rfl
  intro e he
  rw [hl] at he
  simp only [List.mem_cons, List.not_mem_nil, or_false] at he
  rcases he with rfl | rfl | rfl | rfl | rfl | rfl | rfl | rfl | rfl | rfl | rfl | rfl | rfl
  · exact crI_V (idx := 221) G (by decide +kernel) (MX7_await N) (cw_of (ps := [968, 970, 30, 152, 971]) (by decide +kernel) (by decide +kernel)) ⟨by decide +kernel, by decide +kernel, by decide +kernel⟩ (by unfold rmOk; rw [hR]; exact ⟨by decide, by decide⟩)
  · exact crI_V (idx := 59) G (by decide +kernel) (MX7_fail N) (cw_of (ps := [858, 860, 10, 152, 861]) (by decide +kernel) (by decide +kernel)) ⟨by decide +kernel, by decide +kernel, by decide +kernel⟩ (by unfold rmOk; rw [hR]; exact ⟨by decide, by decide⟩)
  · exact crI_V (idx := 224) G (by decide +kernel) (MX7_lastWaiting N) (cw_of (ps := [947, 949, 28, 152, 950]) (by decide +kernel) (by decide +kernel)) ⟨by decide +kernel, by decide +kernel, by decide +kernel⟩ (by unfold rmOk; rw [hR]; exact ⟨by decide, by decide⟩)
  · exact crI_S (idx := 227) G (by decide +kernel) (MX7_level N) (cw_of (ps := [951, 952, 152, 953]) (by decide +kernel) (by decide +kernel)) ⟨by decide +kernel, by decide +kernel, by decide +kernel⟩ (by unfold rmOk; rw [hR]; exact ⟨by decide, by decide⟩)
  · exact crI_V (idx := 230) G (by decide +kernel) (MX7_countKnot N) (cw_of (ps := [972, 974, 31, 152, 975]) (by decide +kernel) (by decide +kernel)) ⟨by decide +kernel, by decide +kernel, by decide +kernel⟩ (by unfold rmOk; rw [hR]; exact ⟨by decide, by decide⟩)
  · exact crI_V (idx := 221) G (by decide +kernel) (MX7_await N) (cw_of (ps := [968, 970, 30, 152, 971]) (by decide +kernel) (by decide +kernel)) ⟨by decide +kernel, by decide +kernel, by decide +kernel⟩ (by unfold rmOk; rw [hR]; exact ⟨by decide, by decide⟩)
  · exact crI_S (idx := 212) G (by decide +kernel) (MX7_isValue N) (cw_of (ps := [958, 959, 152, 960]) (by decide +kernel) (by decide +kernel)) ⟨by decide +kernel, by decide +kernel, by decide +kernel⟩ (by unfold rmOk; rw [hR]; exact ⟨by decide, by decide⟩)
  · exact crI_V (idx := 59) G (by decide +kernel) (MX7_fail N) (cw_of (ps := [858, 860, 10, 152, 861]) (by decide +kernel) (by decide +kernel)) ⟨by decide +kernel, by decide +kernel, by decide +kernel⟩ (by unfold rmOk; rw [hR]; exact ⟨by decide, by decide⟩)
  · exact crI_V (idx := 230) G (by decide +kernel) (MX7_countKnot N) (cw_of (ps := [972, 974, 31, 152, 975]) (by decide +kernel) (by decide +kernel)) ⟨by decide +kernel, by decide +kernel, by decide +kernel⟩ (by unfold rmOk; rw [hR]; exact ⟨by decide, by decide⟩)
  · exact crI_V (idx := 233) G (by decide +kernel) (MX1_add N) (cw_of (ps := [954, 955, 956, 151, 957]) (by decide +kernel) (by decide +kernel)) ⟨by decide +kernel, by decide +kernel, by decide +kernel⟩ (by unfold rmOk; rw [hR]; exact ⟨by decide, by decide⟩)
  · exact crI_V (idx := 230) G (by decide +kernel) (MX7_countKnot N) (cw_of (ps := [972, 974, 31, 152, 975]) (by decide +kernel) (by decide +kernel)) ⟨by decide +kernel, by decide +kernel, by decide +kernel⟩ (by unfold rmOk; rw [hR]; exact ⟨by decide, by decide⟩)
  · exact crI_V (idx := 233) G (by decide +kernel) (MX1_add N) (cw_of (ps := [954, 955, 956, 151, 957]) (by decide +kernel) (by decide +kernel)) ⟨by decide +kernel, by decide +kernel, by decide +kernel⟩ (by unfold rmOk; rw [hR]; exact ⟨by decide, by decide⟩)
  · exact crI_V (idx := 59) G (by decide +kernel) (MX7_fail N) (cw_of (ps := [858, 860, 10, 152, 861]) (by decide +kernel) (by decide +kernel)) ⟨by decide +kernel, by decide +kernel, by decide +kernel⟩ (by unfold rmOk; rw [hR]; exact ⟨by decide, by decide⟩)
set_option maxRecDepth 100000 in
set_option maxHeartbeats 4000000 in
theorem MX7_readBeginning (N : Nat) : SndI yX7_readBeginning cX7_readBeginning 3 (some .boolean) 3 2 true (mX7_readBeginning N) := by
  refine SndI.ofZ tX7_readBeginning (by decide +kernel) rfl rfl ?_ ?_
  · intro as w x h
    obtain ⟨t1, rfl, h_1⟩ := xS1_some h
    obtain ⟨i1, t2, rfl, h_2⟩ := xR1_some h_1
    obtain ⟨rfl, h_3⟩ := xN1_some h_2
    clear h h_1 h_2
    have h := h_3
    rw [callW_eq] at h
    exact ⟨fun _ => ⟨_, _, _, rfl, rfl, _, rfl, rfl⟩, rfl, Nat.le_of_ble_eq_true rfl⟩
  · intro X G hn hR as w r h hr
    have hC := crX7_readBeginning (N := N) G hR
    obtain ⟨t1, rfl, h_1⟩ := xS1_some h
    obtain ⟨i1, t2, rfl, h_2⟩ := xR1_some h_1
    obtain ⟨rfl, h_3⟩ := xN1_some h_2
    clear h h_1 h_2
    have h := h_3
    rw [callW_eq] at h
    refine run_sound (r := r) (X := X) (cc := cX7_readBeginning) (own := RX7) (tab := tX7_readBeginning) G (by rw [hn]; exact kX7_readBeginning) (oI := (oF [(mX7_await N), (mX7_fail N), (mX7_lastWaiting N), (mX7_level N), (mX7_countKnot N), (mX7_isValue N), (mX1_add N)])) (oL := (oF [])) (oV := (oF [])) (rI := retZ) (rL := (fun _ _ => none)) (rV := (fun _ => none))
      (K := (fun j ls st w => if j = 44 then (lgI ls 2 fun v2 => st0 st (callW (fX7_readBeginning_44 N i1 v2) w)) else none)) hr (fun _ _ _ _ hx => by cases hx) (fun _ _ _ hx => by cases hx) hC (fun ls => lsb [some (.inr (.inr (11, 0))), some (.inr (.inr (5, i1))), none] 0 ls) (keepsP_of rfl) ?_ 91 0 [some (.inr (.inr (11, 0))), some (.inr (.inr (5, i1))), none] [] w ?_ h
    · intro j ls st w hfx h
      obtain ⟨e0, e1, -⟩ : _ = _ ∧ _ = _ ∧ True := hfx
      try dsimp only at h
      by_cases hj : j = 44
      · subst hj
        rw [if_pos rfl] at h
        obtain ⟨v2, e2, h_1⟩ := lgI_some h
        obtain ⟨rfl, h_2⟩ := st0_some h_1
        clear h h_1
        have h := h_2
        try rw [callW_eq] at h
        exact WW.le (a := [some (.inr (.inr (11, 0))), some (.inr (.inr (5, i1))), some (.inl v2)]) (by rw [hn]; rfl) (show _ = _ ∧ _ = _ ∧ _ = _ ∧ True from ⟨e0, e1, e2, trivial⟩) (sX7_readBeginning_44 G hn hC hr i1 v2 w h)
      rw [if_neg hj] at h
      cases h
    · exact (show _ = _ ∧ _ = _ ∧ True from ⟨rfl, rfl, trivial⟩)
-- MoorGuides$Reader.release(LMoorGuides$Law;I)V
def tX7_release : List EN := [
  (0, .aload_n 0, 0, 0, 0, 0, 0, []), (1, .getfield 202, 0, 7, 5, 0, 0, []), (4, .istore_n 3, 0, 0, 0, 0, 0, []), (5, .iload_n 3, 4, 0, 0, 0, 0, []),
  (6, .ifCond .le 41, 0, 25, 0, 0, 0, []), (9, .aload_n 0, 0, 0, 0, 0, 0, []), (10, .invokevirtual 224, 0, 0, 1, 0, 0, []), (13, .invokestatic 227, 0, 1, 1, 0, 0, []),
  (16, .iload_n 2, 0, 0, 0, 0, 0, []), (17, .if_icmp .lt 30, 0, 25, 0, 0, 0, []), (20, .aload_n 1, 0, 0, 0, 0, 0, []), (21, .aload_n 0, 0, 0, 0, 0, 0, []),
  (22, .invokevirtual 224, 0, 0, 1, 0, 0, []), (25, .iconst (-1), 0, 0, 0, (-1), 0, []), (26, .ixor, 0, 0, 0, 0, 0, []), (27, .invokevirtual 233, 0, 2, 2, 0, 0, []),
  (30, .pop, 0, 0, 0, 0, 0, []), (31, .aload_n 0, 0, 0, 0, 0, 0, []), (32, .dup, 0, 0, 0, 0, 0, []), (33, .getfield 202, 0, 7, 5, 0, 0, []),
  (36, .iconst 1, 0, 0, 0, 1, 0, []), (37, .isub, 0, 0, 0, 0, 0, []), (38, .putfield 202, 0, 7, 5, 0, 0, []), (41, .iinc 3 (-1), 0, 0, 0, (-1), 0, []),
  (44, .goto (-39), 0, 3, 0, 0, 0, []), (47, .return_, 0, 0, 0, 0, 0, [])]
noncomputable def fX7_release_3 (N : Nat) (i1 : Nat) (a2 : Int32) : Nat → Int32 → Wd → Option (Wd)
  | 0, _, _ => none
  | n + 1, v3, w =>
    if 0 < v3 then
      (callW (pX7_lastWaiting N) w).bind fun r1 =>
      (callW (pX7_level N r1.1) r1.2).bind fun r2 =>
      if r2.1 < a2 then some r2.2 else
      (callW (pX7_lastWaiting N) r2.2).bind fun r3 =>
      (callW (pX1_add N i1 (r3.1 ^^^ (-1 : Int32))) r3.2).bind fun r4 =>
      callW (fX7_release_3 N i1 a2 n (v3 + (-1 : Int32))) (setI r4.2 11 0 5 ((gI r4.2 11 0 5) - (1 : Int32)))
    else
    some w
noncomputable def pX7_release (N : Nat) (i1 : Nat) (a2 : Int32) (w : Wd) : Option (Wd) :=
  callW (fX7_release_3 N i1 a2 N (gI w 11 0 5)) w
noncomputable def mX7_release (N : Nat) (as : List AV) (w : Wd) : Option (Wd) := xS1 11 as fun t => xR1 5 t fun i1 t => xI1 t fun a2 t => xN1 t (callW (pX7_release N i1 a2) w)
set_option maxRecDepth 100000 in
set_option maxHeartbeats 4000000 in
theorem kX7_release : TK cX7_release RX7 4 tX7_release := ⟨by decide +kernel, wok_of [471, 471, 471] (by decide +kernel) (by decide +kernel)⟩
set_option maxRecDepth 100000 in
set_option maxHeartbeats 4000000 in
theorem sX7_release_3 {N : Nat} {X : XT} (G : GX X cX7_release RX7) (hn : xnL X = 4) (hC : CRs X tX7_release (oF [(mX7_lastWaiting N), (mX7_level N), (mX1_add N)]) (oF []) (oF [])) {r : Wd} (hr : RTV X cX7_release r) (i1 : Nat) (a2 : Int32) : ∀ (n : Nat) (v3 : Int32) (w : Wd), fX7_release_3 N i1 a2 n v3 w = some r → WW X (pcAt tX7_release 3) [some (.inr (.inr (11, 0))), some (.inr (.inr (5, i1))), some (.inl a2), some (.inl v3)] [] w := by
  intro n
  induction n with
  | zero => intro v3 w h; cases h
  | succ n ih =>
    intro v3 w h
    refine run_sound (r := r) (X := X) (cc := cX7_release) (own := RX7) (tab := tX7_release) G (by rw [hn]; exact kX7_release) (oI := (oF [(mX7_lastWaiting N), (mX7_level N), (mX1_add N)])) (oL := (oF [])) (oV := (oF [])) (rI := (fun _ _ => none)) (rL := (fun _ _ => none)) (rV := (fun w => some w))
      (K := (fun j ls st w => if j = 3 then (lgI ls 3 fun v3 => st0 st (callW (fX7_release_3 N i1 a2 n v3) w)) else none)) (fun _ _ _ _ hx => by cases hx) (fun _ _ _ _ hx => by cases hx) (fun w pc ls hx hd => hr w pc ls (Option.some.inj hx) hd) hC (fun ls => lsb [some (.inr (.inr (11, 0))), some (.inr (.inr (5, i1))), some (.inl a2), none] 0 ls) (keepsP_of rfl) ?_ 28 3 [some (.inr (.inr (11, 0))), some (.inr (.inr (5, i1))), some (.inl a2), some (.inl v3)] [] w ?_ h
    · intro j ls st w hfx h
      obtain ⟨e0, e1, e2, -⟩ : _ = _ ∧ _ = _ ∧ _ = _ ∧ True := hfx
      try dsimp only at h
      by_cases hj : j = 3
      · subst hj
        rw [if_pos rfl] at h
        obtain ⟨v3, e3, h_1⟩ := lgI_some h
        obtain ⟨rfl, h_2⟩ := st0_some h_1
        clear h h_1
        have h := h_2
        try rw [callW_eq] at h
        exact WW.le (a := [some (.inr (.inr (11, 0))), some (.inr (.inr (5, i1))), some (.inl a2), some (.inl v3)]) (by rw [hn]; rfl) (show _ = _ ∧ _ = _ ∧ _ = _ ∧ _ = _ ∧ True from ⟨e0, e1, e2, e3, trivial⟩) (ih v3 w h)
      rw [if_neg hj] at h
      cases h
    · exact (show _ = _ ∧ _ = _ ∧ _ = _ ∧ True from ⟨rfl, rfl, rfl, trivial⟩)
set_option maxRecDepth 100000 in
set_option maxHeartbeats 4000000 in
theorem crX7_release {N : Nat} {X : XT} (G : GX X cX7_release RX7) (hR : xR X = rmL 2) : CRs X tX7_release (oF [(mX7_lastWaiting N), (mX7_level N), (mX1_add N)]) (oF []) (oF []) := by
  have hl : tX7_release.filter isInv = [(10, .invokevirtual 224, 0, 0, 1, 0, 0, []), (13, .invokestatic 227, 0, 1, 1, 0, 0, []), (22, .invokevirtual 224, 0, 0, 1, 0, 0, []), (27, .invokevirtual 233, 0, 2, 2, 0, 0, [])] := rfl
  intro e he
  rw [hl] at he
  simp only [List.mem_cons, List.not_mem_nil, or_false] at he
  rcases he with rfl | rfl | rfl | rfl
  · exact crI_V (idx := 224) G (by decide +kernel) (MX7_lastWaiting N) (cw_of (ps := [947, 949, 28, 152, 950]) (by decide +kernel) (by decide +kernel)) ⟨by decide +kernel, by decide +kernel, by decide +kernel⟩ (by unfold rmOk; rw [hR]; exact ⟨by decide, by decide⟩)
  · exact crI_S (idx := 227) G (by decide +kernel) (MX7_level N) (cw_of (ps := [951, 952, 152, 953]) (by decide +kernel) (by decide +kernel)) ⟨by decide +kernel, by decide +kernel, by decide +kernel⟩ (by unfold rmOk; rw [hR]; exact ⟨by decide, by decide⟩)
  · exact crI_V (idx := 224) G (by decide +kernel) (MX7_lastWaiting N) (cw_of (ps := [947, 949, 28, 152, 950]) (by decide +kernel) (by decide +kernel)) ⟨by decide +kernel, by decide +kernel, by decide +kernel⟩ (by unfold rmOk; rw [hR]; exact ⟨by decide, by decide⟩)
  · exact crI_V (idx := 233) G (by decide +kernel) (MX1_add N) (cw_of (ps := [954, 955, 956, 151, 957]) (by decide +kernel) (by decide +kernel)) ⟨by decide +kernel, by decide +kernel, by decide +kernel⟩ (by unfold rmOk; rw [hR]; exact ⟨by decide, by decide⟩)
set_option maxRecDepth 100000 in
set_option maxHeartbeats 4000000 in
theorem MX7_release (N : Nat) : SndV yX7_release cX7_release 4 none 2 3 true (mX7_release N) := by
  refine SndV.of tX7_release (by decide +kernel) rfl rfl ?_ ?_
  · intro as w x h
    obtain ⟨t1, rfl, h_1⟩ := xS1_some h
    obtain ⟨i1, t2, rfl, h_2⟩ := xR1_some h_1
    obtain ⟨a2, t3, rfl, h_3⟩ := xI1_some h_2
    obtain ⟨rfl, h_4⟩ := xN1_some h_3
    clear h h_1 h_2 h_3
    have h := h_4
    rw [callW_eq] at h
    exact ⟨fun _ => ⟨_, _, _, rfl, rfl, _, rfl, rfl⟩, rfl, Nat.le_of_ble_eq_true rfl⟩
  · intro X G hn hR as w r h hr
    have hC := crX7_release (N := N) G hR
    obtain ⟨t1, rfl, h_1⟩ := xS1_some h
    obtain ⟨i1, t2, rfl, h_2⟩ := xR1_some h_1
    obtain ⟨a2, t3, rfl, h_3⟩ := xI1_some h_2
    obtain ⟨rfl, h_4⟩ := xN1_some h_3
    clear h h_1 h_2 h_3
    have h := h_4
    rw [callW_eq] at h
    refine run_sound (r := r) (X := X) (cc := cX7_release) (own := RX7) (tab := tX7_release) G (by rw [hn]; exact kX7_release) (oI := (oF [(mX7_lastWaiting N), (mX7_level N), (mX1_add N)])) (oL := (oF [])) (oV := (oF [])) (rI := (fun _ _ => none)) (rL := (fun _ _ => none)) (rV := (fun w => some w))
      (K := (fun j ls st w => if j = 3 then (lgI ls 3 fun v3 => st0 st (callW (fX7_release_3 N i1 a2 N v3) w)) else none)) (fun _ _ _ _ hx => by cases hx) (fun _ _ _ _ hx => by cases hx) (fun w pc ls hx hd => hr w pc ls (Option.some.inj hx) hd) hC (fun ls => lsb [some (.inr (.inr (11, 0))), some (.inr (.inr (5, i1))), some (.inl a2), none] 0 ls) (keepsP_of rfl) ?_ 28 0 [some (.inr (.inr (11, 0))), some (.inr (.inr (5, i1))), some (.inl a2), none] [] w ?_ h
    · intro j ls st w hfx h
      obtain ⟨e0, e1, e2, -⟩ : _ = _ ∧ _ = _ ∧ _ = _ ∧ True := hfx
      try dsimp only at h
      by_cases hj : j = 3
      · subst hj
        rw [if_pos rfl] at h
        obtain ⟨v3, e3, h_1⟩ := lgI_some h
        obtain ⟨rfl, h_2⟩ := st0_some h_1
        clear h h_1
        have h := h_2
        try rw [callW_eq] at h
        exact WW.le (a := [some (.inr (.inr (11, 0))), some (.inr (.inr (5, i1))), some (.inl a2), some (.inl v3)]) (by rw [hn]; rfl) (show _ = _ ∧ _ = _ ∧ _ = _ ∧ _ = _ ∧ True from ⟨e0, e1, e2, e3, trivial⟩) (sX7_release_3 G hn hC hr i1 a2 N v3 w h)
      rw [if_neg hj] at h
      cases h
    · exact (show _ = _ ∧ _ = _ ∧ _ = _ ∧ True from ⟨rfl, rfl, rfl, trivial⟩)
-- MoorGuides$Reader.readSign(LMoorGuides$Law;)Z
def tX7_readSign : List EN := [
  (0, .aload_n 0, 0, 0, 0, 0, 0, []), (1, .getfield 12, 0, 7, 0, 0, 0, []), (4, .getfield 47, 0, 10, 8, 0, 0, []), (7, .istore_n 2, 0, 0, 0, 0, 0, []),
  (8, .iload_n 2, 0, 0, 0, 0, 0, []), (9, .bipush 34, 0, 0, 0, 34, 0, []), (11, .if_icmp .ne 42, 0, 30, 0, 0, 0, []), (14, .aload_n 0, 0, 0, 0, 0, 0, []),
  (15, .getfield 205, 0, 7, 6, 0, 0, []), (18, .ifCond .le 35, 0, 30, 0, 0, 0, []), (21, .aload_n 0, 0, 0, 0, 0, 0, []), (22, .aload_n 1, 0, 0, 0, 0, 0, []),
  (23, .iconst 1, 0, 0, 0, 1, 0, []), (24, .invokevirtual 208, 0, 0, 3, 0, 0, [(0, 0), (0, 0)]), (27, .aload_n 0, 0, 0, 0, 0, 0, []), (28, .iconst 0, 0, 0, 0, 0, 0, []),
  (29, .aload_n 0, 0, 0, 0, 0, 0, []), (30, .getfield 202, 0, 7, 5, 0, 0, []), (33, .iconst 1, 0, 0, 0, 1, 0, []), (34, .isub, 0, 0, 0, 0, 0, []),
  (35, .invokestatic 236, 0, 0, 2, 0, 0, []), (38, .putfield 202, 0, 7, 5, 0, 0, []), (41, .aload_n 0, 0, 0, 0, 0, 0, []), (42, .dup, 0, 0, 0, 0, 0, []),
  (43, .getfield 205, 0, 7, 6, 0, 0, []), (46, .iconst 1, 0, 0, 0, 1, 0, []), (47, .isub, 0, 0, 0, 0, 0, []), (48, .putfield 205, 0, 7, 6, 0, 0, []),
  (51, .iconst 1, 0, 0, 0, 1, 0, []), (52, .ireturn, 0, 0, 0, 0, 0, []), (53, .iload_n 2, 31, 0, 0, 0, 0, []), (54, .invokestatic 227, 0, 1, 1, 0, 0, []),
  (57, .istore_n 3, 0, 0, 0, 0, 0, []), (58, .iload_n 3, 0, 0, 0, 0, 0, []), (59, .ifCond .eq 8, 0, 38, 0, 0, 0, []), (62, .iload_n 3, 0, 0, 0, 0, 0, []),
  (63, .iconst 3, 0, 0, 0, 3, 0, []), (64, .if_icmp .ne 9, 0, 42, 0, 0, 0, []), (67, .aload_n 0, 0, 0, 0, 0, 0, []), (68, .iconst 1, 0, 0, 0, 1, 0, []),
  (69, .invokevirtual 59, 0, 2, 2, 0, 0, []), (72, .ireturn, 0, 0, 0, 0, 0, []), (73, .aload_n 0, 0, 0, 0, 0, 0, []), (74, .aload_n 1, 0, 0, 0, 0, 0, []),
  (75, .iload_n 3, 0, 0, 0, 0, 0, []), (76, .iconst 4, 0, 0, 0, 4, 0, []), (77, .if_icmp .ne 7, 0, 49, 0, 0, 0, []), (80, .iconst 5, 0, 0, 0, 5, 0, []),
  (81, .goto 4, 0, 50, 0, 0, 0, []), (84, .iload_n 3, 0, 0, 0, 0, 0, []), (85, .invokevirtual 208, 51, 0, 3, 0, 0, [(0, 0), (0, 0)]), (88, .iload_n 3, 0, 0, 0, 0, 0, []),
  (89, .iconst 4, 0, 0, 0, 4, 0, []), (90, .if_icmp .ne 20, 0, 63, 0, 0, 0, []), (93, .aload_n 0, 0, 0, 0, 0, 0, []), (94, .invokevirtual 224, 0, 3, 1, 0, 0, []),
  (97, .invokestatic 227, 0, 1, 1, 0, 0, []), (100, .iconst 4, 0, 0, 0, 4, 0, []), (101, .if_icmp .ne 9, 0, 63, 0, 0, 0, []), (104, .aload_n 0, 0, 0, 0, 0, 0, []),
  (105, .iconst 1, 0, 0, 0, 1, 0, []), (106, .invokevirtual 59, 0, 2, 2, 0, 0, []), (109, .ireturn, 0, 0, 0, 0, 0, []), (110, .aload_n 0, 64, 0, 0, 0, 0, []),
  (111, .invokevirtual 230, 0, 4, 1, 0, 0, []), (114, .ifCond .eq 15, 0, 72, 0, 0, 0, []), (117, .aload_n 0, 0, 0, 0, 0, 0, []), (118, .iload_n 2, 0, 0, 0, 0, 0, []),
  (119, .invokevirtual 221, 0, 5, 2, 0, 0, []), (122, .ifCond .eq 7, 0, 72, 0, 0, 0, []), (125, .iconst 1, 0, 0, 0, 1, 0, []), (126, .goto 4, 0, 73, 0, 0, 0, []),
  (129, .iconst 0, 0, 0, 0, 0, 0, []), (130, .ireturn, 0, 0, 0, 0, 0, [])]
noncomputable def fX7_readSign_63 (N : Nat) (v2 : Int32) (w : Wd) : Option (Int32 × Wd) :=
  (callW (pX7_countKnot N) w).bind fun r1 =>
  if r1.1 = 0 then some ((0 : Int32), r1.2) else
  (callW (pX7_await N v2) r1.2).bind fun r2 =>
  if r2.1 = 0 then some ((0 : Int32), r2.2) else
  some ((1 : Int32), r2.2)
noncomputable def fX7_readSign_50 (N : Nat) (v2 : Int32) (v3 : Int32) (s0 : Int32) (s1 : Nat) (w : Wd) : Option (Int32 × Wd) :=
  (callW (pX7_release N s1 s0) w).bind fun w1 =>
  if v3 = (4 : Int32) then
    (callW (pX7_lastWaiting N) w1).bind fun r2 =>
    (callW (pX7_level N r2.1) r2.2).bind fun r3 =>
    if r3.1 = (4 : Int32) then
      (callW (pX7_fail N (1 : Int32)) r3.2).bind fun r4 =>
      retZ r4.1 r4.2
    else
    callW (fX7_readSign_63 N v2) r3.2
  else
  callW (fX7_readSign_63 N v2) w1
noncomputable def fX7_readSign_30 (N : Nat) (i1 : Nat) (v2 : Int32) (w : Wd) : Option (Int32 × Wd) :=
  (callW (pX7_level N v2) w).bind fun r1 =>
  if r1.1 = 0 then
    (callW (pX7_fail N (1 : Int32)) r1.2).bind fun r2 =>
    retZ r2.1 r2.2
  else
  if r1.1 = (3 : Int32) then
    (callW (pX7_fail N (1 : Int32)) r1.2).bind fun r3 =>
    retZ r3.1 r3.2
  else
  if r1.1 = (4 : Int32) then callW (fX7_readSign_50 N v2 r1.1 (5 : Int32) i1) r1.2 else
  callW (fX7_readSign_50 N v2 r1.1 r1.1 i1) r1.2
noncomputable def pX7_readSign (N : Nat) (i1 : Nat) (w : Wd) : Option (Int32 × Wd) :=
  if (gI w 14 0 8) = (34 : Int32) then
    if 0 < (gI w 11 0 6) then
      (callW (pX7_release N i1 (1 : Int32)) w).bind fun w1 =>
      (callW (pJ9_max_7cf53 N (0 : Int32) ((gI w1 11 0 5) - (1 : Int32))) w1).bind fun r2 =>
      some ((1 : Int32), (setI (setI r2.2 11 0 5 r2.1) 11 0 6 ((gI (setI r2.2 11 0 5 r2.1) 11 0 6) - (1 : Int32))))
    else
    callW (fX7_readSign_30 N i1 (gI w 14 0 8)) w
  else
  callW (fX7_readSign_30 N i1 (gI w 14 0 8)) w
noncomputable def mX7_readSign (N : Nat) (as : List AV) (w : Wd) : Option (Int32 × Wd) := xS1 11 as fun t => xR1 5 t fun i1 t => xN1 t (callW (pX7_readSign N i1) w)
set_option maxRecDepth 100000 in
set_option maxHeartbeats 4000000 in
theorem kX7_readSign : TK cX7_readSign RX7 4 tX7_readSign := ⟨by decide +kernel, wok_of [466, 437, 472, 471, 471, 472, 472] (by decide +kernel) (by decide +kernel)⟩
set_option maxRecDepth 100000 in
set_option maxHeartbeats 4000000 in
theorem sX7_readSign_63 {N : Nat} {X : XT} (G : GX X cX7_readSign RX7) (hn : xnL X = 4) (hC : CRs X tX7_readSign (oF [(mJ9_max_7cf53 N), (mX7_level N), (mX7_fail N), (mX7_lastWaiting N), (mX7_countKnot N), (mX7_await N)]) (oF []) (oF [(mX7_release N)])) {r : Int32 × Wd} (hr : RTZ X cX7_readSign r) (i1 : Nat) : ∀ (v2 : Int32) (w : Wd), fX7_readSign_63 N v2 w = some r → WW X (pcAt tX7_readSign 63) [some (.inr (.inr (11, 0))), some (.inr (.inr (5, i1))), some (.inl v2), none] [] w := by
  intro v2 w h
  refine run_sound (r := r) (X := X) (cc := cX7_readSign) (own := RX7) (tab := tX7_readSign) G (by rw [hn]; exact kX7_readSign) (oI := (oF [(mJ9_max_7cf53 N), (mX7_level N), (mX7_fail N), (mX7_lastWaiting N), (mX7_countKnot N), (mX7_await N)])) (oL := (oF [])) (oV := (oF [(mX7_release N)])) (rI := retZ) (rL := (fun _ _ => none)) (rV := (fun _ => none))
    (K := (fun j ls st w => none)) hr (fun _ _ _ _ hx => by cases hx) (fun _ _ _ hx => by cases hx) hC (fun ls => lsb [some (.inr (.inr (11, 0))), some (.inr (.inr (5, i1))), none, none] 0 ls) (keepsP_of rfl) ?_ 76 63 [some (.inr (.inr (11, 0))), some (.inr (.inr (5, i1))), some (.inl v2), none] [] w ?_ h
  · intro j ls st w hfx h
    obtain ⟨e0, e1, -⟩ : _ = _ ∧ _ = _ ∧ True := hfx
    try dsimp only at h
    cases h
  · exact (show _ = _ ∧ _ = _ ∧ True from ⟨rfl, rfl, trivial⟩)
set_option maxRecDepth 100000 in
set_option maxHeartbeats 4000000 in
theorem sX7_readSign_50 {N : Nat} {X : XT} (G : GX X cX7_readSign RX7) (hn : xnL X = 4) (hC : CRs X tX7_readSign (oF [(mJ9_max_7cf53 N), (mX7_level N), (mX7_fail N), (mX7_lastWaiting N), (mX7_countKnot N), (mX7_await N)]) (oF []) (oF [(mX7_release N)])) {r : Int32 × Wd} (hr : RTZ X cX7_readSign r) (i1 : Nat) : ∀ (v2 : Int32) (v3 : Int32) (s0 : Int32) (s1 : Nat) (w : Wd), fX7_readSign_50 N v2 v3 s0 s1 w = some r → WW X (pcAt tX7_readSign 50) [some (.inr (.inr (11, 0))), some (.inr (.inr (5, i1))), some (.inl v2), some (.inl v3)] [.inl s0, .inr (.inr (5, s1)), .inr (.inr (11, 0))] w := by
  intro v2 v3 s0 s1 w h
  refine run_sound (r := r) (X := X) (cc := cX7_readSign) (own := RX7) (tab := tX7_readSign) G (by rw [hn]; exact kX7_readSign) (oI := (oF [(mJ9_max_7cf53 N), (mX7_level N), (mX7_fail N), (mX7_lastWaiting N), (mX7_countKnot N), (mX7_await N)])) (oL := (oF [])) (oV := (oF [(mX7_release N)])) (rI := retZ) (rL := (fun _ _ => none)) (rV := (fun _ => none))
    (K := (fun j ls st w => if j = 63 then (lgI ls 2 fun v2 => st0 st (callW (fX7_readSign_63 N v2) w)) else none)) hr (fun _ _ _ _ hx => by cases hx) (fun _ _ _ hx => by cases hx) hC (fun ls => lsb [some (.inr (.inr (11, 0))), some (.inr (.inr (5, i1))), none, none] 0 ls) (keepsP_of rfl) ?_ 76 50 [some (.inr (.inr (11, 0))), some (.inr (.inr (5, i1))), some (.inl v2), some (.inl v3)] [.inl s0, .inr (.inr (5, s1)), .inr (.inr (11, 0))] w ?_ h
  · intro j ls st w hfx h
    obtain ⟨e0, e1, -⟩ : _ = _ ∧ _ = _ ∧ True := hfx
    try dsimp only at h
    by_cases hj : j = 63
    · subst hj
      rw [if_pos rfl] at h
      obtain ⟨v2, e2, h_1⟩ := lgI_some h
      obtain ⟨rfl, h_2⟩ := st0_some h_1
      clear h h_1
      have h := h_2
      try rw [callW_eq] at h
      exact WW.le (a := [some (.inr (.inr (11, 0))), some (.inr (.inr (5, i1))), some (.inl v2), none]) (by rw [hn]; rfl) (show _ = _ ∧ _ = _ ∧ _ = _ ∧ True from ⟨e0, e1, e2, trivial⟩) (sX7_readSign_63 G hn hC hr i1 v2 w h)
    rw [if_neg hj] at h
    cases h
  · exact (show _ = _ ∧ _ = _ ∧ True from ⟨rfl, rfl, trivial⟩)
set_option maxRecDepth 100000 in
set_option maxHeartbeats 4000000 in
theorem sX7_readSign_30 {N : Nat} {X : XT} (G : GX X cX7_readSign RX7) (hn : xnL X = 4) (hC : CRs X tX7_readSign (oF [(mJ9_max_7cf53 N), (mX7_level N), (mX7_fail N), (mX7_lastWaiting N), (mX7_countKnot N), (mX7_await N)]) (oF []) (oF [(mX7_release N)])) {r : Int32 × Wd} (hr : RTZ X cX7_readSign r) (i1 : Nat) : ∀ (v2 : Int32) (w : Wd), fX7_readSign_30 N i1 v2 w = some r → WW X (pcAt tX7_readSign 30) [some (.inr (.inr (11, 0))), some (.inr (.inr (5, i1))), some (.inl v2), none] [] w := by
  intro v2 w h
  refine run_sound (r := r) (X := X) (cc := cX7_readSign) (own := RX7) (tab := tX7_readSign) G (by rw [hn]; exact kX7_readSign) (oI := (oF [(mJ9_max_7cf53 N), (mX7_level N), (mX7_fail N), (mX7_lastWaiting N), (mX7_countKnot N), (mX7_await N)])) (oL := (oF [])) (oV := (oF [(mX7_release N)])) (rI := retZ) (rL := (fun _ _ => none)) (rV := (fun _ => none))
    (K := (fun j ls st w => if j = 50 then (lgI ls 2 fun v2 => lgI ls 3 fun v3 => po1 st fun s0 st => pr1 st fun kk s1 st => if kk = 5 then pr1 st fun kk qq st => if kk = 11 ∧ qq = 0 then st0 st (callW (fX7_readSign_50 N v2 v3 s0 s1) w) else none else none) else none)) hr (fun _ _ _ _ hx => by cases hx) (fun _ _ _ hx => by cases hx) hC (fun ls => lsb [some (.inr (.inr (11, 0))), some (.inr (.inr (5, i1))), none, none] 0 ls) (keepsP_of rfl) ?_ 76 30 [some (.inr (.inr (11, 0))), some (.inr (.inr (5, i1))), some (.inl v2), none] [] w ?_ h
  · intro j ls st w hfx h
    obtain ⟨e0, e1, -⟩ : _ = _ ∧ _ = _ ∧ True := hfx
    try dsimp only at h
    by_cases hj : j = 50
    · subst hj
      rw [if_pos rfl] at h
      obtain ⟨v2, e2, h_1⟩ := lgI_some h
      obtain ⟨v3, e3, h_2⟩ := lgI_some h_1
      obtain ⟨s0, st0, rfl, h_3⟩ := po1_some h_2
      obtain ⟨kkk1, s1, st1, rfl, h_4⟩ := pr1_some h_3
      obtain ⟨rfl, h_5⟩ := if_some _ h_4
      obtain ⟨kkk2, s2, st2, rfl, h_6⟩ := pr1_some h_5
      obtain ⟨⟨rfl, rfl⟩, h_7⟩ := if_some _ h_6
      obtain ⟨rfl, h_8⟩ := st0_some h_7
      clear h h_1 h_2 h_3 h_4 h_5 h_6 h_7
      have h := h_8
      try rw [callW_eq] at h
      exact WW.le (a := [some (.inr (.inr (11, 0))), some (.inr (.inr (5, i1))), some (.inl v2), some (.inl v3)]) (by rw [hn]; rfl) (show _ = _ ∧ _ = _ ∧ _ = _ ∧ _ = _ ∧ True from ⟨e0, e1, e2, e3, trivial⟩) (sX7_readSign_50 G hn hC hr i1 v2 v3 s0 s1 w h)
    rw [if_neg hj] at h
    cases h
  · exact (show _ = _ ∧ _ = _ ∧ True from ⟨rfl, rfl, trivial⟩)
set_option maxRecDepth 100000 in
set_option maxHeartbeats 4000000 in
theorem crX7_readSign {N : Nat} {X : XT} (G : GX X cX7_readSign RX7) (hR : xR X = rmL 3) : CRs X tX7_readSign (oF [(mJ9_max_7cf53 N), (mX7_level N), (mX7_fail N), (mX7_lastWaiting N), (mX7_countKnot N), (mX7_await N)]) (oF []) (oF [(mX7_release N)]) := by
  have hl : tX7_readSign.filter isInv = [(24, .invokevirtual 208, 0, 0, 3, 0, 0, [(0, 0), (0, 0)]), (35, .invokestatic 236, 0, 0, 2, 0, 0, []), (54, .invokestatic 227, 0, 1, 1, 0, 0, []), (69, .invokevirtual 59, 0, 2, 2, 0, 0, []), (85, .invokevirtual 208, 51, 0, 3, 0, 0, [(0, 0), (0, 0)]), (94, .invokevirtual 224, 0, 3, 1, 0, 0, []), (97, .invokestatic 227, 0, 1, 1, 0, 0, []), (106, .invokevirtual 59, 0, 2, 2, 0, 0, []), (111, .invokevirtual 230, 0, 4, 1, 0, 0, []), (119, .invokevirtual 221, 0, 5, 2, 0, 0, [])] := rfl
  intro e he
  rw [hl] at he
  simp only [List.mem_cons, List.not_mem_nil, or_false] at he
  rcases he with rfl | rfl | rfl | rfl | rfl | rfl | rfl | rfl | rfl | rfl
  · exact crV_V (idx := 208) G (by decide +kernel) (MX7_release N) (cw_of (ps := [943, 945, 27, 152, 946]) (by decide +kernel) (by decide +kernel)) ⟨by decide +kernel, by decide +kernel, by decide +kernel⟩ (by unfold rmOk; rw [hR]; exact ⟨by decide, by decide⟩)
  · exact crI_S (idx := 236) G (by decide +kernel) (MJ9_max_7cf53 N) (cw_of (ps := [984, 985, 165, 986]) (by decide +kernel) (by decide +kernel)) ⟨by decide +kernel, by decide +kernel, by decide +kernel⟩ (by unfold rmOk; rw [hR]; exact ⟨by decide, by decide⟩)
  · exact crI_S (idx := 227) G (by decide +kernel) (MX7_level N) (cw_of (ps := [951, 952, 152, 953]) (by decide +kernel) (by decide +kernel)) ⟨by decide +kernel, by decide +kernel, by decide +kernel⟩ (by unfold rmOk; rw [hR]; exact ⟨by decide, by decide⟩)
  · exact crI_V (idx := 59) G (by decide +kernel) (MX7_fail N) (cw_of (ps := [858, 860, 10, 152, 861]) (by decide +kernel) (by decide +kernel)) ⟨by decide +kernel, by decide +kernel, by decide +kernel⟩ (by unfold rmOk; rw [hR]; exact ⟨by decide, by decide⟩)
  · exact crV_V (idx := 208) G (by decide +kernel) (MX7_release N) (cw_of (ps := [943, 945, 27, 152, 946]) (by decide +kernel) (by decide +kernel)) ⟨by decide +kernel, by decide +kernel, by decide +kernel⟩ (by unfold rmOk; rw [hR]; exact ⟨by decide, by decide⟩)
  · exact crI_V (idx := 224) G (by decide +kernel) (MX7_lastWaiting N) (cw_of (ps := [947, 949, 28, 152, 950]) (by decide +kernel) (by decide +kernel)) ⟨by decide +kernel, by decide +kernel, by decide +kernel⟩ (by unfold rmOk; rw [hR]; exact ⟨by decide, by decide⟩)
  · exact crI_S (idx := 227) G (by decide +kernel) (MX7_level N) (cw_of (ps := [951, 952, 152, 953]) (by decide +kernel) (by decide +kernel)) ⟨by decide +kernel, by decide +kernel, by decide +kernel⟩ (by unfold rmOk; rw [hR]; exact ⟨by decide, by decide⟩)
  · exact crI_V (idx := 59) G (by decide +kernel) (MX7_fail N) (cw_of (ps := [858, 860, 10, 152, 861]) (by decide +kernel) (by decide +kernel)) ⟨by decide +kernel, by decide +kernel, by decide +kernel⟩ (by unfold rmOk; rw [hR]; exact ⟨by decide, by decide⟩)
  · exact crI_V (idx := 230) G (by decide +kernel) (MX7_countKnot N) (cw_of (ps := [972, 974, 31, 152, 975]) (by decide +kernel) (by decide +kernel)) ⟨by decide +kernel, by decide +kernel, by decide +kernel⟩ (by unfold rmOk; rw [hR]; exact ⟨by decide, by decide⟩)
  · exact crI_V (idx := 221) G (by decide +kernel) (MX7_await N) (cw_of (ps := [968, 970, 30, 152, 971]) (by decide +kernel) (by decide +kernel)) ⟨by decide +kernel, by decide +kernel, by decide +kernel⟩ (by unfold rmOk; rw [hR]; exact ⟨by decide, by decide⟩)
set_option maxRecDepth 100000 in
set_option maxHeartbeats 4000000 in
theorem MX7_readSign (N : Nat) : SndI yX7_readSign cX7_readSign 4 (some .boolean) 3 2 true (mX7_readSign N) := by
  refine SndI.ofZ tX7_readSign (by decide +kernel) rfl rfl ?_ ?_
  · intro as w x h
    obtain ⟨t1, rfl, h_1⟩ := xS1_some h
    obtain ⟨i1, t2, rfl, h_2⟩ := xR1_some h_1
    obtain ⟨rfl, h_3⟩ := xN1_some h_2
    clear h h_1 h_2
    have h := h_3
    rw [callW_eq] at h
    exact ⟨fun _ => ⟨_, _, _, rfl, rfl, _, rfl, rfl⟩, rfl, Nat.le_of_ble_eq_true rfl⟩
  · intro X G hn hR as w r h hr
    have hC := crX7_readSign (N := N) G hR
    obtain ⟨t1, rfl, h_1⟩ := xS1_some h
    obtain ⟨i1, t2, rfl, h_2⟩ := xR1_some h_1
    obtain ⟨rfl, h_3⟩ := xN1_some h_2
    clear h h_1 h_2
    have h := h_3
    rw [callW_eq] at h
    refine run_sound (r := r) (X := X) (cc := cX7_readSign) (own := RX7) (tab := tX7_readSign) G (by rw [hn]; exact kX7_readSign) (oI := (oF [(mJ9_max_7cf53 N), (mX7_level N), (mX7_fail N), (mX7_lastWaiting N), (mX7_countKnot N), (mX7_await N)])) (oL := (oF [])) (oV := (oF [(mX7_release N)])) (rI := retZ) (rL := (fun _ _ => none)) (rV := (fun _ => none))
      (K := (fun j ls st w => if j = 30 then (lgI ls 2 fun v2 => st0 st (callW (fX7_readSign_30 N i1 v2) w)) else none)) hr (fun _ _ _ _ hx => by cases hx) (fun _ _ _ hx => by cases hx) hC (fun ls => lsb [some (.inr (.inr (11, 0))), some (.inr (.inr (5, i1))), none, none] 0 ls) (keepsP_of rfl) ?_ 76 0 [some (.inr (.inr (11, 0))), some (.inr (.inr (5, i1))), none, none] [] w ?_ h
    · intro j ls st w hfx h
      obtain ⟨e0, e1, -⟩ : _ = _ ∧ _ = _ ∧ True := hfx
      try dsimp only at h
      by_cases hj : j = 30
      · subst hj
        rw [if_pos rfl] at h
        obtain ⟨v2, e2, h_1⟩ := lgI_some h
        obtain ⟨rfl, h_2⟩ := st0_some h_1
        clear h h_1
        have h := h_2
        try rw [callW_eq] at h
        exact WW.le (a := [some (.inr (.inr (11, 0))), some (.inr (.inr (5, i1))), some (.inl v2), none]) (by rw [hn]; rfl) (show _ = _ ∧ _ = _ ∧ _ = _ ∧ True from ⟨e0, e1, e2, trivial⟩) (sX7_readSign_30 G hn hC hr i1 v2 w h)
      rw [if_neg hj] at h
      cases h
    · exact (show _ = _ ∧ _ = _ ∧ True from ⟨rfl, rfl, trivial⟩)
-- MoorGuides$Reader.readFormula(LMoorGuides$Law;)Z
def tX7_readFormula : List EN := [
  (0, .aload_n 0, 0, 0, 0, 0, 0, []), (1, .iconst 0, 0, 0, 0, 0, 0, []), (2, .putfield 202, 0, 7, 5, 0, 0, []), (5, .aload_n 0, 0, 0, 0, 0, 0, []),
  (6, .iconst 0, 0, 0, 0, 0, 0, []), (7, .putfield 205, 0, 7, 6, 0, 0, []), (10, .iconst 1, 0, 0, 0, 1, 0, []), (11, .istore_n 2, 0, 0, 0, 0, 0, []),
  (12, .iconst 0, 0, 0, 0, 0, 0, []), (13, .istore_n 3, 0, 0, 0, 0, 0, []), (14, .iload_n 3, 11, 0, 0, 0, 0, []), (15, .sipush 900, 0, 0, 0, 900, 0, []),
  (18, .if_icmp .gt 131, 0, 75, 0, 0, 0, []), (21, .iload_n 2, 0, 0, 0, 0, 0, []), (22, .ifCond .ne 30, 0, 29, 0, 0, 0, []), (25, .aload_n 0, 0, 0, 0, 0, 0, []),
  (26, .getfield 205, 0, 7, 6, 0, 0, []), (29, .ifCond .ne 23, 0, 29, 0, 0, 0, []), (32, .aload_n 0, 0, 0, 0, 0, 0, []), (33, .getfield 12, 0, 7, 0, 0, 0, []),
  (36, .getfield 47, 0, 10, 8, 0, 0, []), (39, .bipush 32, 0, 0, 0, 32, 0, []), (41, .if_icmp .ne 11, 0, 29, 0, 0, 0, []), (44, .aload_n 0, 0, 0, 0, 0, 0, []),
  (45, .aload_n 1, 0, 0, 0, 0, 0, []), (46, .iconst 1, 0, 0, 0, 1, 0, []), (47, .invokevirtual 208, 0, 0, 3, 0, 0, [(0, 0), (0, 0)]), (50, .iconst 1, 0, 0, 0, 1, 0, []),
  (51, .ireturn, 0, 0, 0, 0, 0, []), (52, .aload_n 0, 30, 0, 0, 0, 0, []), (53, .getfield 12, 0, 7, 0, 0, 0, []), (56, .getfield 47, 0, 10, 8, 0, 0, []),
  (59, .invokestatic 212, 0, 0, 1, 0, 0, []), (62, .istore 4, 0, 0, 0, 0, 0, []), (64, .aload_n 0, 0, 0, 0, 0, 0, []), (65, .getfield 12, 0, 7, 0, 0, 0, []),
  (68, .getfield 47, 0, 10, 8, 0, 0, []), (71, .bipush 34, 0, 0, 0, 34, 0, []), (73, .if_icmp .ne 7, 0, 41, 0, 0, 0, []), (76, .iconst 1, 0, 0, 0, 1, 0, []),
  (77, .goto 4, 0, 42, 0, 0, 0, []), (80, .iconst 0, 0, 0, 0, 0, 0, []), (81, .istore 5, 43, 0, 0, 0, 0, []), (83, .iload_n 2, 0, 0, 0, 0, 0, []),
  (84, .ifCond .eq 14, 0, 50, 0, 0, 0, []), (87, .aload_n 0, 0, 0, 0, 0, 0, []), (88, .aload_n 1, 0, 0, 0, 0, 0, []), (89, .invokevirtual 215, 0, 1, 2, 0, 0, []),
  (92, .ifCond .ne 16, 0, 56, 0, 0, 0, []), (95, .goto 11, 0, 54, 0, 0, 0, []), (98, .aload_n 0, 0, 0, 0, 0, 0, []), (99, .aload_n 1, 0, 0, 0, 0, 0, []),
  (100, .invokevirtual 218, 0, 2, 2, 0, 0, []), (103, .ifCond .ne 5, 0, 56, 0, 0, 0, []), (106, .iconst 0, 0, 0, 0, 0, 0, []), (107, .ireturn, 0, 0, 0, 0, 0, []),
  (108, .iload_n 2, 57, 0, 0, 0, 0, []), (109, .ifCond .eq 16, 0, 64, 0, 0, 0, []), (112, .iload 4, 0, 0, 0, 0, 0, []), (114, .ifCond .ne 7, 0, 62, 0, 0, 0, []),
  (117, .iconst 1, 0, 0, 0, 1, 0, []), (118, .goto 17, 0, 69, 0, 0, 0, []), (121, .iconst 0, 0, 0, 0, 0, 0, []), (122, .goto 13, 0, 69, 0, 0, 0, []),
  (125, .iload 5, 0, 0, 0, 0, 0, []), (127, .ifCond .ne 7, 0, 68, 0, 0, 0, []), (130, .iconst 1, 0, 0, 0, 1, 0, []), (131, .goto 4, 0, 69, 0, 0, 0, []),
  (134, .iconst 0, 0, 0, 0, 0, 0, []), (135, .istore_n 2, 70, 0, 0, 0, 0, []), (136, .aload_n 0, 0, 0, 0, 0, 0, []), (137, .getfield 12, 0, 7, 0, 0, 0, []),
  (140, .invokevirtual 62, 0, 1, 1, 0, 0, [(0, 0), (0, 0)]), (143, .iinc 3 1, 0, 0, 0, 1, 0, []), (146, .goto (-132), 0, 10, 0, 0, 0, []), (149, .aload_n 0, 76, 0, 0, 0, 0, []),
  (150, .iconst 1, 0, 0, 0, 1, 0, []), (151, .invokevirtual 59, 0, 3, 2, 0, 0, []), (154, .ireturn, 0, 0, 0, 0, 0, [])]
noncomputable def fX7_readFormula_75 (N : Nat) (w : Wd) : Option (Int32 × Wd) :=
  (callW (pX7_fail N (1 : Int32)) w).bind fun r1 =>
  retZ r1.1 r1.2
noncomputable def fX7_readFormula_69 (N : Nat) (i1 : Nat) (k10 : Int32 → Int32 → Wd → Option (Int32 × Wd)) (v3 : Int32) (s0 : Int32) (w : Wd) : Option (Int32 × Wd) :=
  (callW (pX10_advance N) w).bind fun w1 =>
  k10 s0 (v3 + (1 : Int32)) w1
noncomputable def fX7_readFormula_56 (N : Nat) (i1 : Nat) (k10 : Int32 → Int32 → Wd → Option (Int32 × Wd)) (v2 : Int32) (v3 : Int32) (v4 : Int32) (v5 : Int32) (w : Wd) : Option (Int32 × Wd) :=
  if v2 = 0 then
    if v5 = 0 then callW (fX7_readFormula_69 N i1 k10 v3 (1 : Int32)) w else
    callW (fX7_readFormula_69 N i1 k10 v3 (0 : Int32)) w
  else
  if v4 = 0 then callW (fX7_readFormula_69 N i1 k10 v3 (1 : Int32)) w else
  callW (fX7_readFormula_69 N i1 k10 v3 (0 : Int32)) w
noncomputable def fX7_readFormula_42 (N : Nat) (i1 : Nat) (k10 : Int32 → Int32 → Wd → Option (Int32 × Wd)) (v2 : Int32) (v3 : Int32) (v4 : Int32) (s0 : Int32) (w : Wd) : Option (Int32 × Wd) :=
  if v2 = 0 then
    (callW (pX7_readSign N i1) w).bind fun r1 =>
    if r1.1 = 0 then some ((0 : Int32), r1.2) else
    callW (fX7_readFormula_56 N i1 k10 v2 v3 v4 s0) r1.2
  else
  (callW (pX7_readBeginning N i1) w).bind fun r2 =>
  if r2.1 = 0 then some ((0 : Int32), r2.2) else
  callW (fX7_readFormula_56 N i1 k10 v2 v3 v4 s0) r2.2
noncomputable def fX7_readFormula_29 (N : Nat) (i1 : Nat) (k10 : Int32 → Int32 → Wd → Option (Int32 × Wd)) (v2 : Int32) (v3 : Int32) (w : Wd) : Option (Int32 × Wd) :=
  (callW (pX7_isValue N (gI w 14 0 8)) w).bind fun r1 =>
  if (gI r1.2 14 0 8) = (34 : Int32) then callW (fX7_readFormula_42 N i1 k10 v2 v3 r1.1 (1 : Int32)) r1.2 else
  callW (fX7_readFormula_42 N i1 k10 v2 v3 r1.1 (0 : Int32)) r1.2
noncomputable def fX7_readFormula_10 (N : Nat) (i1 : Nat) : Nat → (Wd → Option (Int32 × Wd)) → Int32 → Int32 → Wd → Option (Int32 × Wd)
  | 0, _, _, _, _ => none
  | n + 1, k75, v2, v3, w =>
    if (900 : Int32) < v3 then k75 w else
    if v2 = 0 then
      if (gI w 11 0 6) = 0 then
        if (gI w 14 0 8) = (32 : Int32) then
          (callW (pX7_release N i1 (1 : Int32)) w).bind fun w1 =>
          some ((1 : Int32), w1)
        else
        callW (fX7_readFormula_29 N i1 (fX7_readFormula_10 N i1 n k75) v2 v3) w
      else
      callW (fX7_readFormula_29 N i1 (fX7_readFormula_10 N i1 n k75) v2 v3) w
    else
    callW (fX7_readFormula_29 N i1 (fX7_readFormula_10 N i1 n k75) v2 v3) w
noncomputable def pX7_readFormula (N : Nat) (i1 : Nat) (w : Wd) : Option (Int32 × Wd) :=
  callW (fX7_readFormula_10 N i1 N (fX7_readFormula_75 N) (1 : Int32) (0 : Int32)) (setI (setI w 11 0 5 (0 : Int32)) 11 0 6 (0 : Int32))
noncomputable def mX7_readFormula (N : Nat) (as : List AV) (w : Wd) : Option (Int32 × Wd) := xS1 11 as fun t => xR1 5 t fun i1 t => xN1 t (callW (pX7_readFormula N i1) w)
set_option maxRecDepth 100000 in
set_option maxHeartbeats 4000000 in
theorem kX7_readFormula : TK cX7_readFormula RX7 6 tX7_readFormula := ⟨by decide +kernel, wok_of [471, 472, 472, 466, 437, 466, 437, 466, 437, 466] (by decide +kernel) (by decide +kernel)⟩
set_option maxRecDepth 100000 in
set_option maxHeartbeats 4000000 in
theorem sX7_readFormula_75 {N : Nat} {X : XT} (G : GX X cX7_readFormula RX7) (hn : xnL X = 6) (hC : CRs X tX7_readFormula (oF [(mX7_isValue N), (mX7_readBeginning N), (mX7_readSign N), (mX7_fail N)]) (oF []) (oF [(mX7_release N), (mX10_advance N)])) {r : Int32 × Wd} (hr : RTZ X cX7_readFormula r) (i1 : Nat) : ∀ (w : Wd), fX7_readFormula_75 N w = some r → WW X (pcAt tX7_readFormula 75) [some (.inr (.inr (11, 0))), some (.inr (.inr (5, i1))), none, none, none, none] [] w := by
  intro w h
  refine run_sound (r := r) (X := X) (cc := cX7_readFormula) (own := RX7) (tab := tX7_readFormula) G (by rw [hn]; exact kX7_readFormula) (oI := (oF [(mX7_isValue N), (mX7_readBeginning N), (mX7_readSign N), (mX7_fail N)])) (oL := (oF [])) (oV := (oF [(mX7_release N), (mX10_advance N)])) (rI := retZ) (rL := (fun _ _ => none)) (rV := (fun _ => none))
    (K := (fun j ls st w => none)) hr (fun _ _ _ _ hx => by cases hx) (fun _ _ _ hx => by cases hx) hC (fun ls => lsb [some (.inr (.inr (11, 0))), some (.inr (.inr (5, i1))), none, none, none, none] 0 ls) (keepsP_of rfl) ?_ 81 75 [some (.inr (.inr (11, 0))), some (.inr (.inr (5, i1))), none, none, none, none] [] w ?_ h
  · intro j ls st w hfx h
    obtain ⟨e0, e1, -⟩ : _ = _ ∧ _ = _ ∧ True := hfx
    try dsimp only at h
    cases h
  · exact (show _ = _ ∧ _ = _ ∧ True from ⟨rfl, rfl, trivial⟩)
set_option maxRecDepth 100000 in
set_option maxHeartbeats 4000000 in
theorem sX7_readFormula_69 {N : Nat} {X : XT} (G : GX X cX7_readFormula RX7) (hn : xnL X = 6) (hC : CRs X tX7_readFormula (oF [(mX7_isValue N), (mX7_readBeginning N), (mX7_readSign N), (mX7_fail N)]) (oF []) (oF [(mX7_release N), (mX10_advance N)])) {r : Int32 × Wd} (hr : RTZ X cX7_readFormula r) (i1 : Nat) : ∀ (k10 : Int32 → Int32 → Wd → Option (Int32 × Wd)) (v3 : Int32) (s0 : Int32) (w : Wd), fX7_readFormula_69 N i1 k10 v3 s0 w = some r → (∀ (v2 : Int32) (v3 : Int32) (w : Wd), k10 v2 v3 w = some r → WW X (pcAt tX7_readFormula 10) [some (.inr (.inr (11, 0))), some (.inr (.inr (5, i1))), some (.inl v2), some (.inl v3), none, none] [] w) → WW X (pcAt tX7_readFormula 69) [some (.inr (.inr (11, 0))), some (.inr (.inr (5, i1))), none, some (.inl v3), none, none] [.inl s0] w := by
  intro k10 v3 s0 w h h10
  refine run_sound (r := r) (X := X) (cc := cX7_readFormula) (own := RX7) (tab := tX7_readFormula) G (by rw [hn]; exact kX7_readFormula) (oI := (oF [(mX7_isValue N), (mX7_readBeginning N), (mX7_readSign N), (mX7_fail N)])) (oL := (oF [])) (oV := (oF [(mX7_release N), (mX10_advance N)])) (rI := retZ) (rL := (fun _ _ => none)) (rV := (fun _ => none))
    (K := (fun j ls st w => if j = 10 then (lgI ls 2 fun v2 => lgI ls 3 fun v3 => st0 st (k10 v2 v3 w)) else none)) hr (fun _ _ _ _ hx => by cases hx) (fun _ _ _ hx => by cases hx) hC (fun ls => lsb [some (.inr (.inr (11, 0))), some (.inr (.inr (5, i1))), none, none, none, none] 0 ls) (keepsP_of rfl) ?_ 81 69 [some (.inr (.inr (11, 0))), some (.inr (.inr (5, i1))), none, some (.inl v3), none, none] [.inl s0] w ?_ h
  · intro j ls st w hfx h
    obtain ⟨e0, e1, -⟩ : _ = _ ∧ _ = _ ∧ True := hfx
    try dsimp only at h
    by_cases hj : j = 10
    · subst hj
      rw [if_pos rfl] at h
      obtain ⟨v2, e2, h_1⟩ := lgI_some h
      obtain ⟨v3, e3, h_2⟩ := lgI_some h_1
      obtain ⟨rfl, h_3⟩ := st0_some h_2
      clear h h_1 h_2
      have h := h_3
      try rw [callW_eq] at h
      exact WW.le (a := [some (.inr (.inr (11, 0))), some (.inr (.inr (5, i1))), some (.inl v2), some (.inl v3), none, none]) (by rw [hn]; rfl) (show _ = _ ∧ _ = _ ∧ _ = _ ∧ _ = _ ∧ True from ⟨e0, e1, e2, e3, trivial⟩) (h10 v2 v3 w h)
    rw [if_neg hj] at h
    cases h
  · exact (show _ = _ ∧ _ = _ ∧ True from ⟨rfl, rfl, trivial⟩)
set_option maxRecDepth 100000 in
set_option maxHeartbeats 4000000 in
theorem sX7_readFormula_56 {N : Nat} {X : XT} (G : GX X cX7_readFormula RX7) (hn : xnL X = 6) (hC : CRs X tX7_readFormula (oF [(mX7_isValue N), (mX7_readBeginning N), (mX7_readSign N), (mX7_fail N)]) (oF []) (oF [(mX7_release N), (mX10_advance N)])) {r : Int32 × Wd} (hr : RTZ X cX7_readFormula r) (i1 : Nat) : ∀ (k10 : Int32 → Int32 → Wd → Option (Int32 × Wd)) (v2 : Int32) (v3 : Int32) (v4 : Int32) (v5 : Int32) (w : Wd), fX7_readFormula_56 N i1 k10 v2 v3 v4 v5 w = some r → (∀ (v2 : Int32) (v3 : Int32) (w : Wd), k10 v2 v3 w = some r → WW X (pcAt tX7_readFormula 10) [some (.inr (.inr (11, 0))), some (.inr (.inr (5, i1))), some (.inl v2), some (.inl v3), none, none] [] w) → WW X (pcAt tX7_readFormula 56) [some (.inr (.inr (11, 0))), some (.inr (.inr (5, i1))), some (.inl v2), some (.inl v3), some (.inl v4), some (.inl v5)] [] w := by
  intro k10 v2 v3 v4 v5 w h h10
  refine run_sound (r := r) (X := X) (cc := cX7_readFormula) (own := RX7) (tab := tX7_readFormula) G (by rw [hn]; exact kX7_readFormula) (oI := (oF [(mX7_isValue N), (mX7_readBeginning N), (mX7_readSign N), (mX7_fail N)])) (oL := (oF [])) (oV := (oF [(mX7_release N), (mX10_advance N)])) (rI := retZ) (rL := (fun _ _ => none)) (rV := (fun _ => none))
    (K := (fun j ls st w => if j = 69 then (lgI ls 3 fun v3 => po1 st fun s0 st => st0 st (callW (fX7_readFormula_69 N i1 k10 v3 s0) w)) else none)) hr (fun _ _ _ _ hx => by cases hx) (fun _ _ _ hx => by cases hx) hC (fun ls => lsb [some (.inr (.inr (11, 0))), some (.inr (.inr (5, i1))), none, none, none, none] 0 ls) (keepsP_of rfl) ?_ 81 56 [some (.inr (.inr (11, 0))), some (.inr (.inr (5, i1))), some (.inl v2), some (.inl v3), some (.inl v4), some (.inl v5)] [] w ?_ h
  · intro j ls st w hfx h
    obtain ⟨e0, e1, -⟩ : _ = _ ∧ _ = _ ∧ True := hfx
    try dsimp only at h
    by_cases hj : j = 69
    · subst hj
      rw [if_pos rfl] at h
      obtain ⟨v3, e3, h_1⟩ := lgI_some h
      obtain ⟨s0, st0, rfl, h_2⟩ := po1_some h_1
      obtain ⟨rfl, h_3⟩ := st0_some h_2
      clear h h_1 h_2
      have h := h_3
      try rw [callW_eq] at h
      exact WW.le (a := [some (.inr (.inr (11, 0))), some (.inr (.inr (5, i1))), none, some (.inl v3), none, none]) (by rw [hn]; rfl) (show _ = _ ∧ _ = _ ∧ _ = _ ∧ True from ⟨e0, e1, e3, trivial⟩) (sX7_readFormula_69 G hn hC hr i1 k10 v3 s0 w h (fun v2 v3 w h => (h10 v2 v3 w h)))
    rw [if_neg hj] at h
    cases h
  · exact (show _ = _ ∧ _ = _ ∧ True from ⟨rfl, rfl, trivial⟩)
set_option maxRecDepth 100000 in
set_option maxHeartbeats 4000000 in
theorem sX7_readFormula_42 {N : Nat} {X : XT} (G : GX X cX7_readFormula RX7) (hn : xnL X = 6) (hC : CRs X tX7_readFormula (oF [(mX7_isValue N), (mX7_readBeginning N), (mX7_readSign N), (mX7_fail N)]) (oF []) (oF [(mX7_release N), (mX10_advance N)])) {r : Int32 × Wd} (hr : RTZ X cX7_readFormula r) (i1 : Nat) : ∀ (k10 : Int32 → Int32 → Wd → Option (Int32 × Wd)) (v2 : Int32) (v3 : Int32) (v4 : Int32) (s0 : Int32) (w : Wd), fX7_readFormula_42 N i1 k10 v2 v3 v4 s0 w = some r → (∀ (v2 : Int32) (v3 : Int32) (w : Wd), k10 v2 v3 w = some r → WW X (pcAt tX7_readFormula 10) [some (.inr (.inr (11, 0))), some (.inr (.inr (5, i1))), some (.inl v2), some (.inl v3), none, none] [] w) → WW X (pcAt tX7_readFormula 42) [some (.inr (.inr (11, 0))), some (.inr (.inr (5, i1))), some (.inl v2), some (.inl v3), some (.inl v4), none] [.inl s0] w := by
  intro k10 v2 v3 v4 s0 w h h10
  refine run_sound (r := r) (X := X) (cc := cX7_readFormula) (own := RX7) (tab := tX7_readFormula) G (by rw [hn]; exact kX7_readFormula) (oI := (oF [(mX7_isValue N), (mX7_readBeginning N), (mX7_readSign N), (mX7_fail N)])) (oL := (oF [])) (oV := (oF [(mX7_release N), (mX10_advance N)])) (rI := retZ) (rL := (fun _ _ => none)) (rV := (fun _ => none))
    (K := (fun j ls st w => if j = 56 then (lgI ls 2 fun v2 => lgI ls 3 fun v3 => lgI ls 4 fun v4 => lgI ls 5 fun v5 => st0 st (callW (fX7_readFormula_56 N i1 k10 v2 v3 v4 v5) w)) else none)) hr (fun _ _ _ _ hx => by cases hx) (fun _ _ _ hx => by cases hx) hC (fun ls => lsb [some (.inr (.inr (11, 0))), some (.inr (.inr (5, i1))), none, none, none, none] 0 ls) (keepsP_of rfl) ?_ 81 42 [some (.inr (.inr (11, 0))), some (.inr (.inr (5, i1))), some (.inl v2), some (.inl v3), some (.inl v4), none] [.inl s0] w ?_ h
  · intro j ls st w hfx h
    obtain ⟨e0, e1, -⟩ : _ = _ ∧ _ = _ ∧ True := hfx
    try dsimp only at h
    by_cases hj : j = 56
    · subst hj
      rw [if_pos rfl] at h
      obtain ⟨v2, e2, h_1⟩ := lgI_some h
      obtain ⟨v3, e3, h_2⟩ := lgI_some h_1
      obtain ⟨v4, e4, h_3⟩ := lgI_some h_2
      obtain ⟨v5, e5, h_4⟩ := lgI_some h_3
      obtain ⟨rfl, h_5⟩ := st0_some h_4
      clear h h_1 h_2 h_3 h_4
      have h := h_5
      try rw [callW_eq] at h
      exact WW.le (a := [some (.inr (.inr (11, 0))), some (.inr (.inr (5, i1))), some (.inl v2), some (.inl v3), some (.inl v4), some (.inl v5)]) (by rw [hn]; rfl) (show _ = _ ∧ _ = _ ∧ _ = _ ∧ _ = _ ∧ _ = _ ∧ _ = _ ∧ True from ⟨e0, e1, e2, e3, e4, e5, trivial⟩) (sX7_readFormula_56 G hn hC hr i1 k10 v2 v3 v4 v5 w h (fun v2 v3 w h => (h10 v2 v3 w h)))
    rw [if_neg hj] at h
    cases h
  · exact (show _ = _ ∧ _ = _ ∧ True from ⟨rfl, rfl, trivial⟩)
set_option maxRecDepth 100000 in
set_option maxHeartbeats 4000000 in
theorem sX7_readFormula_29 {N : Nat} {X : XT} (G : GX X cX7_readFormula RX7) (hn : xnL X = 6) (hC : CRs X tX7_readFormula (oF [(mX7_isValue N), (mX7_readBeginning N), (mX7_readSign N), (mX7_fail N)]) (oF []) (oF [(mX7_release N), (mX10_advance N)])) {r : Int32 × Wd} (hr : RTZ X cX7_readFormula r) (i1 : Nat) : ∀ (k10 : Int32 → Int32 → Wd → Option (Int32 × Wd)) (v2 : Int32) (v3 : Int32) (w : Wd), fX7_readFormula_29 N i1 k10 v2 v3 w = some r → (∀ (v2 : Int32) (v3 : Int32) (w : Wd), k10 v2 v3 w = some r → WW X (pcAt tX7_readFormula 10) [some (.inr (.inr (11, 0))), some (.inr (.inr (5, i1))), some (.inl v2), some (.inl v3), none, none] [] w) → WW X (pcAt tX7_readFormula 29) [some (.inr (.inr (11, 0))), some (.inr (.inr (5, i1))), some (.inl v2), some (.inl v3), none, none] [] w := by
  intro k10 v2 v3 w h h10
  refine run_sound (r := r) (X := X) (cc := cX7_readFormula) (own := RX7) (tab := tX7_readFormula) G (by rw [hn]; exact kX7_readFormula) (oI := (oF [(mX7_isValue N), (mX7_readBeginning N), (mX7_readSign N), (mX7_fail N)])) (oL := (oF [])) (oV := (oF [(mX7_release N), (mX10_advance N)])) (rI := retZ) (rL := (fun _ _ => none)) (rV := (fun _ => none))
    (K := (fun j ls st w => if j = 42 then (lgI ls 2 fun v2 => lgI ls 3 fun v3 => lgI ls 4 fun v4 => po1 st fun s0 st => st0 st (callW (fX7_readFormula_42 N i1 k10 v2 v3 v4 s0) w)) else none)) hr (fun _ _ _ _ hx => by cases hx) (fun _ _ _ hx => by cases hx) hC (fun ls => lsb [some (.inr (.inr (11, 0))), some (.inr (.inr (5, i1))), none, none, none, none] 0 ls) (keepsP_of rfl) ?_ 81 29 [some (.inr (.inr (11, 0))), some (.inr (.inr (5, i1))), some (.inl v2), some (.inl v3), none, none] [] w ?_ h
  · intro j ls st w hfx h
    obtain ⟨e0, e1, -⟩ : _ = _ ∧ _ = _ ∧ True := hfx
    try dsimp only at h
    by_cases hj : j = 42
    · subst hj
      rw [if_pos rfl] at h
      obtain ⟨v2, e2, h_1⟩ := lgI_some h
      obtain ⟨v3, e3, h_2⟩ := lgI_some h_1
      obtain ⟨v4, e4, h_3⟩ := lgI_some h_2
      obtain ⟨s0, st0, rfl, h_4⟩ := po1_some h_3
      obtain ⟨rfl, h_5⟩ := st0_some h_4
      clear h h_1 h_2 h_3 h_4
      have h := h_5
      try rw [callW_eq] at h
      exact WW.le (a := [some (.inr (.inr (11, 0))), some (.inr (.inr (5, i1))), some (.inl v2), some (.inl v3), some (.inl v4), none]) (by rw [hn]; rfl) (show _ = _ ∧ _ = _ ∧ _ = _ ∧ _ = _ ∧ _ = _ ∧ True from ⟨e0, e1, e2, e3, e4, trivial⟩) (sX7_readFormula_42 G hn hC hr i1 k10 v2 v3 v4 s0 w h (fun v2 v3 w h => (h10 v2 v3 w h)))
    rw [if_neg hj] at h
    cases h
  · exact (show _ = _ ∧ _ = _ ∧ True from ⟨rfl, rfl, trivial⟩)
set_option maxRecDepth 100000 in
set_option maxHeartbeats 4000000 in
theorem sX7_readFormula_10 {N : Nat} {X : XT} (G : GX X cX7_readFormula RX7) (hn : xnL X = 6) (hC : CRs X tX7_readFormula (oF [(mX7_isValue N), (mX7_readBeginning N), (mX7_readSign N), (mX7_fail N)]) (oF []) (oF [(mX7_release N), (mX10_advance N)])) {r : Int32 × Wd} (hr : RTZ X cX7_readFormula r) (i1 : Nat) : ∀ (n : Nat) (k75 : Wd → Option (Int32 × Wd)) (v2 : Int32) (v3 : Int32) (w : Wd), fX7_readFormula_10 N i1 n k75 v2 v3 w = some r → (∀ (w : Wd), k75 w = some r → WW X (pcAt tX7_readFormula 75) [some (.inr (.inr (11, 0))), some (.inr (.inr (5, i1))), none, none, none, none] [] w) → WW X (pcAt tX7_readFormula 10) [some (.inr (.inr (11, 0))), some (.inr (.inr (5, i1))), some (.inl v2), some (.inl v3), none, none] [] w := by
  intro n
  induction n with
  | zero => intro k75 v2 v3 w h h75; cases h
  | succ n ih =>
    intro k75 v2 v3 w h h75
    refine run_sound (r := r) (X := X) (cc := cX7_readFormula) (own := RX7) (tab := tX7_readFormula) G (by rw [hn]; exact kX7_readFormula) (oI := (oF [(mX7_isValue N), (mX7_readBeginning N), (mX7_readSign N), (mX7_fail N)])) (oL := (oF [])) (oV := (oF [(mX7_release N), (mX10_advance N)])) (rI := retZ) (rL := (fun _ _ => none)) (rV := (fun _ => none))
      (K := (fun j ls st w => if j = 29 then (lgI ls 2 fun v2 => lgI ls 3 fun v3 => st0 st (callW (fX7_readFormula_29 N i1 (fX7_readFormula_10 N i1 n k75) v2 v3) w)) else if j = 75 then (st0 st (k75 w)) else none)) hr (fun _ _ _ _ hx => by cases hx) (fun _ _ _ hx => by cases hx) hC (fun ls => lsb [some (.inr (.inr (11, 0))), some (.inr (.inr (5, i1))), none, none, none, none] 0 ls) (keepsP_of rfl) ?_ 81 10 [some (.inr (.inr (11, 0))), some (.inr (.inr (5, i1))), some (.inl v2), some (.inl v3), none, none] [] w ?_ h
    · intro j ls st w hfx h
      obtain ⟨e0, e1, -⟩ : _ = _ ∧ _ = _ ∧ True := hfx
      try dsimp only at h
      by_cases hj : j = 29
      · subst hj
        rw [if_pos rfl] at h
        obtain ⟨v2, e2, h_1⟩ := lgI_some h
        obtain ⟨v3, e3, h_2⟩ := lgI_some h_1
        obtain ⟨rfl, h_3⟩ := st0_some h_2
        clear h h_1 h_2
        have h := h_3
        try rw [callW_eq] at h
        exact WW.le (a := [some (.inr (.inr (11, 0))), some (.inr (.inr (5, i1))), some (.inl v2), some (.inl v3), none, none]) (by rw [hn]; rfl) (show _ = _ ∧ _ = _ ∧ _ = _ ∧ _ = _ ∧ True from ⟨e0, e1, e2, e3, trivial⟩) (sX7_readFormula_29 G hn hC hr i1 (fX7_readFormula_10 N i1 n k75) v2 v3 w h (fun v2 v3 w h => (ih k75 v2 v3 w h h75)))
      rw [if_neg hj] at h
      by_cases hj : j = 75
      · subst hj
        rw [if_pos rfl] at h
        obtain ⟨rfl, h_1⟩ := st0_some h
        clear h
        have h := h_1
        try rw [callW_eq] at h
        exact WW.le (a := [some (.inr (.inr (11, 0))), some (.inr (.inr (5, i1))), none, none, none, none]) (by rw [hn]; rfl) (show _ = _ ∧ _ = _ ∧ True from ⟨e0, e1, trivial⟩) (h75 w h)
      rw [if_neg hj] at h
      cases h
    · exact (show _ = _ ∧ _ = _ ∧ True from ⟨rfl, rfl, trivial⟩)
set_option maxRecDepth 100000 in
set_option maxHeartbeats 4000000 in
theorem crX7_readFormula {N : Nat} {X : XT} (G : GX X cX7_readFormula RX7) (hR : xR X = rmL 4) : CRs X tX7_readFormula (oF [(mX7_isValue N), (mX7_readBeginning N), (mX7_readSign N), (mX7_fail N)]) (oF []) (oF [(mX7_release N), (mX10_advance N)]) := by
  have hl : tX7_readFormula.filter isInv = [(47, .invokevirtual 208, 0, 0, 3, 0, 0, [(0, 0), (0, 0)]), (59, .invokestatic 212, 0, 0, 1, 0, 0, []), (89, .invokevirtual 215, 0, 1, 2, 0, 0, []), (100, .invokevirtual 218, 0, 2, 2, 0, 0, []), (140, .invokevirtual 62, 0, 1, 1, 0, 0, [(0, 0), (0, 0)]), (151, .invokevirtual 59, 0, 3, 2, 0, 0, [])] := rfl
  intro e he
  rw [hl] at he
  simp only [List.mem_cons, List.not_mem_nil, or_false] at he
  rcases he with rfl | rfl | rfl | rfl | rfl | rfl
  · exact crV_V (idx := 208) G (by decide +kernel) (MX7_release N) (cw_of (ps := [943, 945, 27, 152, 946]) (by decide +kernel) (by decide +kernel)) ⟨by decide +kernel, by decide +kernel, by decide +kernel⟩ (by unfold rmOk; rw [hR]; exact ⟨by decide, by decide⟩)
  · exact crI_S (idx := 212) G (by decide +kernel) (MX7_isValue N) (cw_of (ps := [958, 959, 152, 960]) (by decide +kernel) (by decide +kernel)) ⟨by decide +kernel, by decide +kernel, by decide +kernel⟩ (by unfold rmOk; rw [hR]; exact ⟨by decide, by decide⟩)
  · exact crI_V (idx := 215) G (by decide +kernel) (MX7_readBeginning N) (cw_of (ps := [964, 966, 29, 152, 967]) (by decide +kernel) (by decide +kernel)) ⟨by decide +kernel, by decide +kernel, by decide +kernel⟩ (by unfold rmOk; rw [hR]; exact ⟨by decide, by decide⟩)
  · exact crI_V (idx := 218) G (by decide +kernel) (MX7_readSign N) (cw_of (ps := [980, 982, 32, 152, 983]) (by decide +kernel) (by decide +kernel)) ⟨by decide +kernel, by decide +kernel, by decide +kernel⟩ (by unfold rmOk; rw [hR]; exact ⟨by decide, by decide⟩)
  · exact crV_V (idx := 62) G (by decide +kernel) (MX10_advance N) (cw_of (ps := [862, 847, 848, 153, 849]) (by decide +kernel) (by decide +kernel)) ⟨by decide +kernel, by decide +kernel, by decide +kernel⟩ (by unfold rmOk; rw [hR]; exact ⟨by decide, by decide⟩)
  · exact crI_V (idx := 59) G (by decide +kernel) (MX7_fail N) (cw_of (ps := [858, 860, 10, 152, 861]) (by decide +kernel) (by decide +kernel)) ⟨by decide +kernel, by decide +kernel, by decide +kernel⟩ (by unfold rmOk; rw [hR]; exact ⟨by decide, by decide⟩)
set_option maxRecDepth 100000 in
set_option maxHeartbeats 4000000 in
theorem MX7_readFormula (N : Nat) : SndI yX7_readFormula cX7_readFormula 6 (some .boolean) 4 2 true (mX7_readFormula N) := by
  refine SndI.ofZ tX7_readFormula (by decide +kernel) rfl rfl ?_ ?_
  · intro as w x h
    obtain ⟨t1, rfl, h_1⟩ := xS1_some h
    obtain ⟨i1, t2, rfl, h_2⟩ := xR1_some h_1
    obtain ⟨rfl, h_3⟩ := xN1_some h_2
    clear h h_1 h_2
    have h := h_3
    rw [callW_eq] at h
    exact ⟨fun _ => ⟨_, _, _, rfl, rfl, _, rfl, rfl⟩, rfl, Nat.le_of_ble_eq_true rfl⟩
  · intro X G hn hR as w r h hr
    have hC := crX7_readFormula (N := N) G hR
    obtain ⟨t1, rfl, h_1⟩ := xS1_some h
    obtain ⟨i1, t2, rfl, h_2⟩ := xR1_some h_1
    obtain ⟨rfl, h_3⟩ := xN1_some h_2
    clear h h_1 h_2
    have h := h_3
    rw [callW_eq] at h
    refine run_sound (r := r) (X := X) (cc := cX7_readFormula) (own := RX7) (tab := tX7_readFormula) G (by rw [hn]; exact kX7_readFormula) (oI := (oF [(mX7_isValue N), (mX7_readBeginning N), (mX7_readSign N), (mX7_fail N)])) (oL := (oF [])) (oV := (oF [(mX7_release N), (mX10_advance N)])) (rI := retZ) (rL := (fun _ _ => none)) (rV := (fun _ => none))
      (K := (fun j ls st w => if j = 10 then (lgI ls 2 fun v2 => lgI ls 3 fun v3 => st0 st (callW (fX7_readFormula_10 N i1 N (fX7_readFormula_75 N) v2 v3) w)) else none)) hr (fun _ _ _ _ hx => by cases hx) (fun _ _ _ hx => by cases hx) hC (fun ls => lsb [some (.inr (.inr (11, 0))), some (.inr (.inr (5, i1))), none, none, none, none] 0 ls) (keepsP_of rfl) ?_ 81 0 [some (.inr (.inr (11, 0))), some (.inr (.inr (5, i1))), none, none, none, none] [] w ?_ h
    · intro j ls st w hfx h
      obtain ⟨e0, e1, -⟩ : _ = _ ∧ _ = _ ∧ True := hfx
      try dsimp only at h
      by_cases hj : j = 10
      · subst hj
        rw [if_pos rfl] at h
        obtain ⟨v2, e2, h_1⟩ := lgI_some h
        obtain ⟨v3, e3, h_2⟩ := lgI_some h_1
        obtain ⟨rfl, h_3⟩ := st0_some h_2
        clear h h_1 h_2
        have h := h_3
        try rw [callW_eq] at h
        exact WW.le (a := [some (.inr (.inr (11, 0))), some (.inr (.inr (5, i1))), some (.inl v2), some (.inl v3), none, none]) (by rw [hn]; rfl) (show _ = _ ∧ _ = _ ∧ _ = _ ∧ _ = _ ∧ True from ⟨e0, e1, e2, e3, trivial⟩) (sX7_readFormula_10 G hn hC hr i1 N (fX7_readFormula_75 N) v2 v3 w h (fun w h => (sX7_readFormula_75 G hn hC hr i1 w h)))
      rw [if_neg hj] at h
      cases h
    · exact (show _ = _ ∧ _ = _ ∧ True from ⟨rfl, rfl, trivial⟩)
-- MoorGuides$Reader.readLaw()Z
def tX7_readLaw : List EN := [
  (0, .aload_n 0, 0, 0, 0, 0, 0, []), (1, .getfield 12, 0, 7, 0, 0, 0, []), (4, .getfield 47, 0, 10, 8, 0, 0, []), (7, .bipush 14, 0, 0, 0, 14, 0, []),
  (9, .if_icmp .eq 21, 0, 14, 0, 0, 0, []), (12, .aload_n 0, 0, 0, 0, 0, 0, []), (13, .getfield 12, 0, 7, 0, 0, 0, []), (16, .getfield 47, 0, 10, 8, 0, 0, []),
  (19, .bipush 15, 0, 0, 0, 15, 0, []), (21, .if_icmp .eq 9, 0, 14, 0, 0, 0, []), (24, .aload_n 0, 0, 0, 0, 0, 0, []), (25, .iconst 1, 0, 0, 0, 1, 0, []),
  (26, .invokevirtual 59, 0, 0, 2, 0, 0, []), (29, .ireturn, 0, 0, 0, 0, 0, []), (30, .aload_n 0, 15, 0, 0, 0, 0, []), (31, .getfield 12, 0, 7, 0, 0, 0, []),
  (34, .getfield 47, 0, 10, 8, 0, 0, []), (37, .bipush 14, 0, 0, 0, 14, 0, []), (39, .if_icmp .ne 13, 0, 23, 0, 0, 0, []), (42, .aload_n 0, 0, 0, 0, 0, 0, []),
  (43, .getfield 26, 0, 7, 1, 0, 0, []), (46, .getfield 178, 0, 4, 18, 0, 0, []), (49, .goto 10, 0, 26, 0, 0, 0, []), (52, .aload_n 0, 0, 0, 0, 0, 0, []),
  (53, .getfield 26, 0, 7, 1, 0, 0, []), (56, .getfield 182, 0, 4, 19, 0, 0, []), (59, .astore_n 1, 27, 0, 0, 0, 0, []), (60, .aload_n 0, 0, 0, 0, 0, 0, []),
  (61, .aload_n 1, 0, 0, 0, 0, 0, []), (62, .getfield 185, 0, 1, 2, 0, 0, []), (65, .ifCond .le 7, 0, 33, 0, 0, 0, []), (68, .iconst 1, 0, 0, 0, 1, 0, []),
  (69, .goto 4, 0, 34, 0, 0, 0, []), (72, .iconst 0, 0, 0, 0, 0, 0, []), (73, .iconst 3, 35, 0, 0, 3, 0, []), (74, .invokevirtual 70, 0, 1, 3, 0, 0, []),
  (77, .ifCond .eq 15, 0, 43, 0, 0, 0, []), (80, .aload_n 0, 0, 0, 0, 0, 0, []), (81, .aload_n 1, 0, 0, 0, 0, 0, []), (82, .invokevirtual 188, 0, 2, 2, 0, 0, []),
  (85, .ifCond .eq 7, 0, 43, 0, 0, 0, []), (88, .iconst 1, 0, 0, 0, 1, 0, []), (89, .goto 4, 0, 44, 0, 0, 0, []), (92, .iconst 0, 0, 0, 0, 0, 0, []),
  (93, .ireturn, 0, 0, 0, 0, 0, [])]
noncomputable def fX7_readLaw_34 (N : Nat) (q1 : Nat) (s0 : Int32) (w : Wd) : Option (Int32 × Wd) :=
  (callW (pX7_passUnless N s0 (3 : Int32)) w).bind fun r1 =>
  if r1.1 = 0 then some ((0 : Int32), r1.2) else
  (callW (pX7_readFormula N q1) r1.2).bind fun r2 =>
  if r2.1 = 0 then some ((0 : Int32), r2.2) else
  some ((1 : Int32), r2.2)
noncomputable def fX7_readLaw_26 (N : Nat) (s0 : Nat) (w : Wd) : Option (Int32 × Wd) :=
  if 0 < (gI w 5 s0 2) then callW (fX7_readLaw_34 N s0 (1 : Int32)) w else
  callW (fX7_readLaw_34 N s0 (0 : Int32)) w
noncomputable def fX7_readLaw_14 (N : Nat) (w : Wd) : Option (Int32 × Wd) :=
  if (gI w 14 0 8) = (14 : Int32) then callW (fX7_readLaw_26 N (2 * (gR w 11 0 1) + 0)) w else
  callW (fX7_readLaw_26 N (2 * (gR w 11 0 1) + 1)) w
noncomputable def pX7_readLaw (N : Nat) (w : Wd) : Option (Int32 × Wd) :=
  if (gI w 14 0 8) = (14 : Int32) then callW (fX7_readLaw_14 N) w else
  if (gI w 14 0 8) = (15 : Int32) then callW (fX7_readLaw_14 N) w else
  (callW (pX7_fail N (1 : Int32)) w).bind fun r1 =>
  retZ r1.1 r1.2
noncomputable def mX7_readLaw (N : Nat) (as : List AV) (w : Wd) : Option (Int32 × Wd) := xS1 11 as fun t => xN1 t (callW (pX7_readLaw N) w)
set_option maxRecDepth 100000 in
set_option maxHeartbeats 4000000 in
theorem kX7_readLaw : TK cX7_readLaw RX7 2 tX7_readLaw := ⟨by decide +kernel, wok_of [466, 437, 466, 437, 466, 437, 467, 322, 467, 326, 248] (by decide +kernel) (by decide +kernel)⟩
set_option maxRecDepth 100000 in
set_option maxHeartbeats 4000000 in
theorem sX7_readLaw_34 {N : Nat} {X : XT} (G : GX X cX7_readLaw RX7) (hn : xnL X = 2) (hC : CRs X tX7_readLaw (oF [(mX7_fail N), (mX7_passUnless N), (mX7_readFormula N)]) (oF []) (oF [])) {r : Int32 × Wd} (hr : RTZ X cX7_readLaw r)  : ∀ (q1 : Nat) (s0 : Int32) (w : Wd), fX7_readLaw_34 N q1 s0 w = some r → WW X (pcAt tX7_readLaw 34) [some (.inr (.inr (11, 0))), some (.inr (.inr (5, q1)))] [.inl s0, .inr (.inr (11, 0))] w := by
  intro q1 s0 w h
  refine run_sound (r := r) (X := X) (cc := cX7_readLaw) (own := RX7) (tab := tX7_readLaw) G (by rw [hn]; exact kX7_readLaw) (oI := (oF [(mX7_fail N), (mX7_passUnless N), (mX7_readFormula N)])) (oL := (oF [])) (oV := (oF [])) (rI := retZ) (rL := (fun _ _ => none)) (rV := (fun _ => none))
    (K := (fun j ls st w => none)) hr (fun _ _ _ _ hx => by cases hx) (fun _ _ _ hx => by cases hx) hC (fun ls => lsb [some (.inr (.inr (11, 0))), none] 0 ls) (keepsP_of rfl) ?_ 47 34 [some (.inr (.inr (11, 0))), some (.inr (.inr (5, q1)))] [.inl s0, .inr (.inr (11, 0))] w ?_ h
  · intro j ls st w hfx h
    obtain ⟨e0, -⟩ : _ = _ ∧ True := hfx
    try dsimp only at h
    cases h
  · exact (show _ = _ ∧ True from ⟨rfl, trivial⟩)
set_option maxRecDepth 100000 in
set_option maxHeartbeats 4000000 in
theorem sX7_readLaw_26 {N : Nat} {X : XT} (G : GX X cX7_readLaw RX7) (hn : xnL X = 2) (hC : CRs X tX7_readLaw (oF [(mX7_fail N), (mX7_passUnless N), (mX7_readFormula N)]) (oF []) (oF [])) {r : Int32 × Wd} (hr : RTZ X cX7_readLaw r)  : ∀ (s0 : Nat) (w : Wd), fX7_readLaw_26 N s0 w = some r → WW X (pcAt tX7_readLaw 26) [some (.inr (.inr (11, 0))), none] [.inr (.inr (5, s0))] w := by
  intro s0 w h
  refine run_sound (r := r) (X := X) (cc := cX7_readLaw) (own := RX7) (tab := tX7_readLaw) G (by rw [hn]; exact kX7_readLaw) (oI := (oF [(mX7_fail N), (mX7_passUnless N), (mX7_readFormula N)])) (oL := (oF [])) (oV := (oF [])) (rI := retZ) (rL := (fun _ _ => none)) (rV := (fun _ => none))
    (K := (fun j ls st w => if j = 34 then (lgR ls 1 fun kk q1 => if kk = 5 then po1 st fun s0 st => pr1 st fun kk qq st => if kk = 11 ∧ qq = 0 then st0 st (callW (fX7_readLaw_34 N q1 s0) w) else none else none) else none)) hr (fun _ _ _ _ hx => by cases hx) (fun _ _ _ hx => by cases hx) hC (fun ls => lsb [some (.inr (.inr (11, 0))), none] 0 ls) (keepsP_of rfl) ?_ 47 26 [some (.inr (.inr (11, 0))), none] [.inr (.inr (5, s0))] w ?_ h
  · intro j ls st w hfx h
    obtain ⟨e0, -⟩ : _ = _ ∧ True := hfx
    try dsimp only at h
    by_cases hj : j = 34
    · subst hj
      rw [if_pos rfl] at h
      obtain ⟨kk1, q1, e1, h_1⟩ := lgR_some h
      obtain ⟨rfl, h_2⟩ := if_some _ h_1
      obtain ⟨s0, st0, rfl, h_3⟩ := po1_some h_2
      obtain ⟨kkk1, s1, st1, rfl, h_4⟩ := pr1_some h_3
      obtain ⟨⟨rfl, rfl⟩, h_5⟩ := if_some _ h_4
      obtain ⟨rfl, h_6⟩ := st0_some h_5
      clear h h_1 h_2 h_3 h_4 h_5
      have h := h_6
      try rw [callW_eq] at h
      exact WW.le (a := [some (.inr (.inr (11, 0))), some (.inr (.inr (5, q1)))]) (by rw [hn]; rfl) (show _ = _ ∧ _ = _ ∧ True from ⟨e0, e1, trivial⟩) (sX7_readLaw_34 G hn hC hr q1 s0 w h)
    rw [if_neg hj] at h
    cases h
  · exact (show _ = _ ∧ True from ⟨rfl, trivial⟩)
set_option maxRecDepth 100000 in
set_option maxHeartbeats 4000000 in
theorem sX7_readLaw_14 {N : Nat} {X : XT} (G : GX X cX7_readLaw RX7) (hn : xnL X = 2) (hC : CRs X tX7_readLaw (oF [(mX7_fail N), (mX7_passUnless N), (mX7_readFormula N)]) (oF []) (oF [])) {r : Int32 × Wd} (hr : RTZ X cX7_readLaw r)  : ∀ (w : Wd), fX7_readLaw_14 N w = some r → WW X (pcAt tX7_readLaw 14) [some (.inr (.inr (11, 0))), none] [] w := by
  intro w h
  refine run_sound (r := r) (X := X) (cc := cX7_readLaw) (own := RX7) (tab := tX7_readLaw) G (by rw [hn]; exact kX7_readLaw) (oI := (oF [(mX7_fail N), (mX7_passUnless N), (mX7_readFormula N)])) (oL := (oF [])) (oV := (oF [])) (rI := retZ) (rL := (fun _ _ => none)) (rV := (fun _ => none))
    (K := (fun j ls st w => if j = 26 then (pr1 st fun kk s0 st => if kk = 5 then st0 st (callW (fX7_readLaw_26 N s0) w) else none) else none)) hr (fun _ _ _ _ hx => by cases hx) (fun _ _ _ hx => by cases hx) hC (fun ls => lsb [some (.inr (.inr (11, 0))), none] 0 ls) (keepsP_of rfl) ?_ 47 14 [some (.inr (.inr (11, 0))), none] [] w ?_ h
  · intro j ls st w hfx h
    obtain ⟨e0, -⟩ : _ = _ ∧ True := hfx
    try dsimp only at h
    by_cases hj : j = 26
    · subst hj
      rw [if_pos rfl] at h
      obtain ⟨kkk0, s0, st0, rfl, h_1⟩ := pr1_some h
      obtain ⟨rfl, h_2⟩ := if_some _ h_1
      obtain ⟨rfl, h_3⟩ := st0_some h_2
      clear h h_1 h_2
      have h := h_3
      try rw [callW_eq] at h
      exact WW.le (a := [some (.inr (.inr (11, 0))), none]) (by rw [hn]; rfl) (show _ = _ ∧ True from ⟨e0, trivial⟩) (sX7_readLaw_26 G hn hC hr s0 w h)
    rw [if_neg hj] at h
    cases h
  · exact (show _ = _ ∧ True from ⟨rfl, trivial⟩)
set_option maxRecDepth 100000 in
set_option maxHeartbeats 4000000 in
theorem crX7_readLaw {N : Nat} {X : XT} (G : GX X cX7_readLaw RX7) (hR : xR X = rmL 5) : CRs X tX7_readLaw (oF [(mX7_fail N), (mX7_passUnless N), (mX7_readFormula N)]) (oF []) (oF []) := by
  have hl : tX7_readLaw.filter isInv = [(26, .invokevirtual 59, 0, 0, 2, 0, 0, []), (74, .invokevirtual 70, 0, 1, 3, 0, 0, []), (82, .invokevirtual 188, 0, 2, 2, 0, 0, [])] := rfl
  intro e he
  rw [hl] at he
  simp only [List.mem_cons, List.not_mem_nil, or_false] at he
  rcases he with rfl | rfl | rfl
  · exact crI_V (idx := 59) G (by decide +kernel) (MX7_fail N) (cw_of (ps := [858, 860, 10, 152, 861]) (by decide +kernel) (by decide +kernel)) ⟨by decide +kernel, by decide +kernel, by decide +kernel⟩ (by unfold rmOk; rw [hR]; exact ⟨by decide, by decide⟩)
  · exact crI_V (idx := 70) G (by decide +kernel) (MX7_passUnless N) (cw_of (ps := [854, 856, 9, 152, 857]) (by decide +kernel) (by decide +kernel)) ⟨by decide +kernel, by decide +kernel, by decide +kernel⟩ (by unfold rmOk; rw [hR]; exact ⟨by decide, by decide⟩)
  · exact crI_V (idx := 188) G (by decide +kernel) (MX7_readFormula N) (cw_of (ps := [939, 941, 26, 152, 942]) (by decide +kernel) (by decide +kernel)) ⟨by decide +kernel, by decide +kernel, by decide +kernel⟩ (by unfold rmOk; rw [hR]; exact ⟨by decide, by decide⟩)
set_option maxRecDepth 100000 in
set_option maxHeartbeats 4000000 in
theorem MX7_readLaw (N : Nat) : SndI yX7_readLaw cX7_readLaw 2 (some .boolean) 5 1 true (mX7_readLaw N) := by
  refine SndI.ofZ tX7_readLaw (by decide +kernel) rfl rfl ?_ ?_
  · intro as w x h
    obtain ⟨t1, rfl, h_1⟩ := xS1_some h
    obtain ⟨rfl, h_2⟩ := xN1_some h_1
    clear h h_1
    have h := h_2
    rw [callW_eq] at h
    exact ⟨fun _ => ⟨_, _, _, rfl, rfl, _, rfl, rfl⟩, rfl, Nat.le_of_ble_eq_true rfl⟩
  · intro X G hn hR as w r h hr
    have hC := crX7_readLaw (N := N) G hR
    obtain ⟨t1, rfl, h_1⟩ := xS1_some h
    obtain ⟨rfl, h_2⟩ := xN1_some h_1
    clear h h_1
    have h := h_2
    rw [callW_eq] at h
    refine run_sound (r := r) (X := X) (cc := cX7_readLaw) (own := RX7) (tab := tX7_readLaw) G (by rw [hn]; exact kX7_readLaw) (oI := (oF [(mX7_fail N), (mX7_passUnless N), (mX7_readFormula N)])) (oL := (oF [])) (oV := (oF [])) (rI := retZ) (rL := (fun _ _ => none)) (rV := (fun _ => none))
      (K := (fun j ls st w => if j = 14 then (st0 st (callW (fX7_readLaw_14 N) w)) else none)) hr (fun _ _ _ _ hx => by cases hx) (fun _ _ _ hx => by cases hx) hC (fun ls => lsb [some (.inr (.inr (11, 0))), none] 0 ls) (keepsP_of rfl) ?_ 47 0 [some (.inr (.inr (11, 0))), none] [] w ?_ h
    · intro j ls st w hfx h
      obtain ⟨e0, -⟩ : _ = _ ∧ True := hfx
      try dsimp only at h
      by_cases hj : j = 14
      · subst hj
        rw [if_pos rfl] at h
        obtain ⟨rfl, h_1⟩ := st0_some h
        clear h
        have h := h_1
        try rw [callW_eq] at h
        exact WW.le (a := [some (.inr (.inr (11, 0))), none]) (by rw [hn]; rfl) (show _ = _ ∧ True from ⟨e0, trivial⟩) (sX7_readLaw_14 G hn hC hr w h)
      rw [if_neg hj] at h
      cases h
    · exact (show _ = _ ∧ True from ⟨rfl, trivial⟩)
-- MoorGuides$Reader.readLine()Z
def tX7_readLine : List EN := [
  (0, .aload_n 0, 0, 0, 0, 0, 0, []), (1, .getfield 12, 0, 7, 0, 0, 0, []), (4, .getfield 47, 0, 10, 8, 0, 0, []), (7, .tableswitch 331 0 13 #[69, 331, 107, 331, 331, 331, 331, 331, 148, 186, 222, 259, 284, 309], 0, 136, 69, 0, 0, [(0, 4), (1, 136), (2, 23), (3, 136), (4, 136), (5, 136), (6, 136), (7, 136), (8, 43), (9, 62), (10, 80), (11, 99), (12, 112), (13, 125)]),
  (76, .aload_n 0, 0, 0, 0, 0, 0, []), (77, .aload_n 0, 0, 0, 0, 0, 0, []), (78, .getfield 26, 0, 7, 1, 0, 0, []), (81, .getfield 65, 0, 4, 0, 0, 0, []),
  (84, .bipush 8, 0, 0, 0, 8, 0, []), (86, .if_icmp .ne 7, 0, 12, 0, 0, 0, []), (89, .iconst 1, 0, 0, 0, 1, 0, []), (90, .goto 4, 0, 13, 0, 0, 0, []),
  (93, .iconst 0, 0, 0, 0, 0, 0, []), (94, .iconst 2, 14, 0, 0, 2, 0, []), (95, .invokevirtual 70, 0, 0, 3, 0, 0, []), (98, .ifCond .eq 14, 0, 21, 0, 0, 0, []),
  (101, .aload_n 0, 0, 0, 0, 0, 0, []), (102, .invokevirtual 74, 0, 1, 1, 0, 0, []), (105, .ifCond .eq 7, 0, 21, 0, 0, 0, []), (108, .iconst 1, 0, 0, 0, 1, 0, []),
  (109, .goto 4, 0, 22, 0, 0, 0, []), (112, .iconst 0, 0, 0, 0, 0, 0, []), (113, .ireturn, 0, 0, 0, 0, 0, []), (114, .aload_n 0, 0, 0, 0, 0, 0, []),
  (115, .aload_n 0, 0, 0, 0, 0, 0, []), (116, .getfield 26, 0, 7, 1, 0, 0, []), (119, .getfield 77, 0, 4, 4, 0, 0, []), (122, .getfield 81, 0, 6, 0, 0, 0, []),
  (125, .bipush 6, 0, 0, 0, 6, 0, []), (127, .if_icmp .ne 7, 0, 32, 0, 0, 0, []), (130, .iconst 1, 0, 0, 0, 1, 0, []), (131, .goto 4, 0, 33, 0, 0, 0, []),
  (134, .iconst 0, 0, 0, 0, 0, 0, []), (135, .iconst 2, 34, 0, 0, 2, 0, []), (136, .invokevirtual 70, 0, 0, 3, 0, 0, []), (139, .ifCond .eq 14, 0, 41, 0, 0, 0, []),
  (142, .aload_n 0, 0, 0, 0, 0, 0, []), (143, .invokevirtual 86, 0, 2, 1, 0, 0, []), (146, .ifCond .eq 7, 0, 41, 0, 0, 0, []), (149, .iconst 1, 0, 0, 0, 1, 0, []),
  (150, .goto 4, 0, 42, 0, 0, 0, []), (153, .iconst 0, 0, 0, 0, 0, 0, []), (154, .ireturn, 0, 0, 0, 0, 0, []), (155, .aload_n 0, 0, 0, 0, 0, 0, []),
  (156, .aload_n 0, 0, 0, 0, 0, 0, []), (157, .getfield 26, 0, 7, 1, 0, 0, []), (160, .getfield 89, 0, 4, 5, 0, 0, []), (163, .bipush 8, 0, 0, 0, 8, 0, []),
  (165, .if_icmp .ne 7, 0, 51, 0, 0, 0, []), (168, .iconst 1, 0, 0, 0, 1, 0, []), (169, .goto 4, 0, 52, 0, 0, 0, []), (172, .iconst 0, 0, 0, 0, 0, 0, []),
  (173, .iconst 2, 53, 0, 0, 2, 0, []), (174, .invokevirtual 70, 0, 0, 3, 0, 0, []), (177, .ifCond .eq 14, 0, 60, 0, 0, 0, []), (180, .aload_n 0, 0, 0, 0, 0, 0, []),
  (181, .invokevirtual 92, 0, 3, 1, 0, 0, []), (184, .ifCond .eq 7, 0, 60, 0, 0, 0, []), (187, .iconst 1, 0, 0, 0, 1, 0, []), (188, .goto 4, 0, 61, 0, 0, 0, []),
  (191, .iconst 0, 0, 0, 0, 0, 0, []), (192, .ireturn, 0, 0, 0, 0, 0, []), (193, .aload_n 0, 0, 0, 0, 0, 0, []), (194, .aload_n 0, 0, 0, 0, 0, 0, []),
  (195, .getfield 26, 0, 7, 1, 0, 0, []), (198, .getfield 95, 0, 4, 10, 0, 0, []), (201, .ifCond .le 7, 0, 69, 0, 0, 0, []), (204, .iconst 1, 0, 0, 0, 1, 0, []),
  (205, .goto 4, 0, 70, 0, 0, 0, []), (208, .iconst 0, 0, 0, 0, 0, 0, []), (209, .iconst 3, 71, 0, 0, 3, 0, []), (210, .invokevirtual 70, 0, 0, 3, 0, 0, []),
  (213, .ifCond .eq 14, 0, 78, 0, 0, 0, []), (216, .aload_n 0, 0, 0, 0, 0, 0, []), (217, .invokevirtual 98, 0, 4, 1, 0, 0, []), (220, .ifCond .eq 7, 0, 78, 0, 0, 0, []),
  (223, .iconst 1, 0, 0, 0, 1, 0, []), (224, .goto 4, 0, 79, 0, 0, 0, []), (227, .iconst 0, 0, 0, 0, 0, 0, []), (228, .ireturn, 0, 0, 0, 0, 0, []),
  (229, .aload_n 0, 0, 0, 0, 0, 0, []), (230, .aload_n 0, 0, 0, 0, 0, 0, []), (231, .getfield 26, 0, 7, 1, 0, 0, []), (234, .getfield 101, 0, 4, 12, 0, 0, []),
  (237, .iconst 4, 0, 0, 0, 4, 0, []), (238, .if_icmp .ne 7, 0, 88, 0, 0, 0, []), (241, .iconst 1, 0, 0, 0, 1, 0, []), (242, .goto 4, 0, 89, 0, 0, 0, []),
  (245, .iconst 0, 0, 0, 0, 0, 0, []), (246, .iconst 2, 90, 0, 0, 2, 0, []), (247, .invokevirtual 70, 0, 0, 3, 0, 0, []), (250, .ifCond .eq 14, 0, 97, 0, 0, 0, []),
  (253, .aload_n 0, 0, 0, 0, 0, 0, []), (254, .invokevirtual 104, 0, 5, 1, 0, 0, []), (257, .ifCond .eq 7, 0, 97, 0, 0, 0, []), (260, .iconst 1, 0, 0, 0, 1, 0, []),
  (261, .goto 4, 0, 98, 0, 0, 0, []), (264, .iconst 0, 0, 0, 0, 0, 0, []), (265, .ireturn, 0, 0, 0, 0, 0, []), (266, .aload_n 0, 0, 0, 0, 0, 0, []),
  (267, .aload_n 0, 0, 0, 0, 0, 0, []), (268, .getfield 36, 0, 7, 2, 0, 0, []), (271, .iconst 3, 0, 0, 0, 3, 0, []), (272, .invokevirtual 70, 0, 0, 3, 0, 0, []),
  (275, .ifCond .eq 14, 0, 110, 0, 0, 0, []), (278, .aload_n 0, 0, 0, 0, 0, 0, []), (279, .invokevirtual 107, 0, 6, 1, 0, 0, []), (282, .ifCond .eq 7, 0, 110, 0, 0, 0, []),
  (285, .iconst 1, 0, 0, 0, 1, 0, []), (286, .goto 4, 0, 111, 0, 0, 0, []), (289, .iconst 0, 0, 0, 0, 0, 0, []), (290, .ireturn, 0, 0, 0, 0, 0, []),
  (291, .aload_n 0, 0, 0, 0, 0, 0, []), (292, .aload_n 0, 0, 0, 0, 0, 0, []), (293, .getfield 40, 0, 7, 3, 0, 0, []), (296, .iconst 3, 0, 0, 0, 3, 0, []),
  (297, .invokevirtual 70, 0, 0, 3, 0, 0, []), (300, .ifCond .eq 14, 0, 123, 0, 0, 0, []), (303, .aload_n 0, 0, 0, 0, 0, 0, []), (304, .invokevirtual 110, 0, 7, 1, 0, 0, []),
  (307, .ifCond .eq 7, 0, 123, 0, 0, 0, []), (310, .iconst 1, 0, 0, 0, 1, 0, []), (311, .goto 4, 0, 124, 0, 0, 0, []), (314, .iconst 0, 0, 0, 0, 0, 0, []),
  (315, .ireturn, 0, 0, 0, 0, 0, []), (316, .aload_n 0, 0, 0, 0, 0, 0, []), (317, .bipush 13, 0, 0, 0, 13, 0, []), (319, .invokevirtual 54, 0, 8, 2, 0, 0, []),
  (322, .ifCond .eq 14, 0, 134, 0, 0, 0, []), (325, .aload_n 0, 0, 0, 0, 0, 0, []), (326, .invokevirtual 113, 0, 9, 1, 0, 0, []), (329, .ifCond .eq 7, 0, 134, 0, 0, 0, []),
  (332, .iconst 1, 0, 0, 0, 1, 0, []), (333, .goto 4, 0, 135, 0, 0, 0, []), (336, .iconst 0, 0, 0, 0, 0, 0, []), (337, .ireturn, 0, 0, 0, 0, 0, []),
  (338, .aload_n 0, 0, 0, 0, 0, 0, []), (339, .iconst 1, 0, 0, 0, 1, 0, []), (340, .invokevirtual 59, 0, 10, 2, 0, 0, []), (343, .ireturn, 0, 0, 0, 0, 0, [])]
noncomputable def fX7_readLine_89 (N : Nat) (s0 : Int32) (w : Wd) : Option (Int32 × Wd) :=
  (callW (pX7_passUnless N s0 (2 : Int32)) w).bind fun r1 =>
  if r1.1 = 0 then some ((0 : Int32), r1.2) else
  (callW (pX7_readSlide N) r1.2).bind fun r2 =>
  if r2.1 = 0 then some ((0 : Int32), r2.2) else
  some ((1 : Int32), r2.2)
noncomputable def fX7_readLine_70 (N : Nat) (s0 : Int32) (w : Wd) : Option (Int32 × Wd) :=
  (callW (pX7_passUnless N s0 (3 : Int32)) w).bind fun r1 =>
  if r1.1 = 0 then some ((0 : Int32), r1.2) else
  (callW (pX7_readWeather N) r1.2).bind fun r2 =>
  if r2.1 = 0 then some ((0 : Int32), r2.2) else
  some ((1 : Int32), r2.2)
noncomputable def fX7_readLine_52 (N : Nat) (s0 : Int32) (w : Wd) : Option (Int32 × Wd) :=
  (callW (pX7_passUnless N s0 (2 : Int32)) w).bind fun r1 =>
  if r1.1 = 0 then some ((0 : Int32), r1.2) else
  (callW (pX7_readParty N) r1.2).bind fun r2 =>
  if r2.1 = 0 then some ((0 : Int32), r2.2) else
  some ((1 : Int32), r2.2)
noncomputable def fX7_readLine_33 (N : Nat) (s0 : Int32) (w : Wd) : Option (Int32 × Wd) :=
  (callW (pX7_passUnless N s0 (2 : Int32)) w).bind fun r1 =>
  if r1.1 = 0 then some ((0 : Int32), r1.2) else
  (callW (pX7_readPerson N) r1.2).bind fun r2 =>
  if r2.1 = 0 then some ((0 : Int32), r2.2) else
  some ((1 : Int32), r2.2)
noncomputable def fX7_readLine_13 (N : Nat) (s0 : Int32) (w : Wd) : Option (Int32 × Wd) :=
  (callW (pX7_passUnless N s0 (2 : Int32)) w).bind fun r1 =>
  if r1.1 = 0 then some ((0 : Int32), r1.2) else
  (callW (pX7_readPart N) r1.2).bind fun r2 =>
  if r2.1 = 0 then some ((0 : Int32), r2.2) else
  some ((1 : Int32), r2.2)
noncomputable def pX7_readLine (N : Nat) (w : Wd) : Option (Int32 × Wd) :=
  if (gI w 14 0 8) = (0 : Int32) then
    if (gI w 8 (gR w 11 0 1) 0) = (8 : Int32) then callW (fX7_readLine_13 N (1 : Int32)) w else
    callW (fX7_readLine_13 N (0 : Int32)) w
  else
  if (gI w 14 0 8) = (1 : Int32) then
    (callW (pX7_fail N (1 : Int32)) w).bind fun r1 =>
    retZ r1.1 r1.2
  else
  if (gI w 14 0 8) = (2 : Int32) then
    if (gI w 10 (gR w 11 0 1) 0) = (6 : Int32) then callW (fX7_readLine_33 N (1 : Int32)) w else
    callW (fX7_readLine_33 N (0 : Int32)) w
  else
  if (gI w 14 0 8) = (3 : Int32) then
    (callW (pX7_fail N (1 : Int32)) w).bind fun r2 =>
    retZ r2.1 r2.2
  else
  if (gI w 14 0 8) = (4 : Int32) then
    (callW (pX7_fail N (1 : Int32)) w).bind fun r3 =>
    retZ r3.1 r3.2
  else
  if (gI w 14 0 8) = (5 : Int32) then
    (callW (pX7_fail N (1 : Int32)) w).bind fun r4 =>
    retZ r4.1 r4.2
  else
  if (gI w 14 0 8) = (6 : Int32) then
    (callW (pX7_fail N (1 : Int32)) w).bind fun r5 =>
    retZ r5.1 r5.2
  else
  if (gI w 14 0 8) = (7 : Int32) then
    (callW (pX7_fail N (1 : Int32)) w).bind fun r6 =>
    retZ r6.1 r6.2
  else
  if (gI w 14 0 8) = (8 : Int32) then
    if (gI w 8 (gR w 11 0 1) 5) = (8 : Int32) then callW (fX7_readLine_52 N (1 : Int32)) w else
    callW (fX7_readLine_52 N (0 : Int32)) w
  else
  if (gI w 14 0 8) = (9 : Int32) then
    if 0 < (gI w 8 (gR w 11 0 1) 10) then callW (fX7_readLine_70 N (1 : Int32)) w else
    callW (fX7_readLine_70 N (0 : Int32)) w
  else
  if (gI w 14 0 8) = (10 : Int32) then
    if (gI w 8 (gR w 11 0 1) 12) = (4 : Int32) then callW (fX7_readLine_89 N (1 : Int32)) w else
    callW (fX7_readLine_89 N (0 : Int32)) w
  else
  if (gI w 14 0 8) = (11 : Int32) then
    (callW (pX7_passUnless N (gI w 11 0 2) (3 : Int32)) w).bind fun r7 =>
    if r7.1 = 0 then some ((0 : Int32), r7.2) else
    (callW (pX7_readNear N) r7.2).bind fun r8 =>
    if r8.1 = 0 then some ((0 : Int32), r8.2) else
    some ((1 : Int32), r8.2)
  else
  if (gI w 14 0 8) = (12 : Int32) then
    (callW (pX7_passUnless N (gI w 11 0 3) (3 : Int32)) w).bind fun r9 =>
    if r9.1 = 0 then some ((0 : Int32), r9.2) else
    (callW (pX7_readSeed N) r9.2).bind fun r10 =>
    if r10.1 = 0 then some ((0 : Int32), r10.2) else
    some ((1 : Int32), r10.2)
  else
  if (gI w 14 0 8) = (13 : Int32) then
    (callW (pX7_pass N (13 : Int32)) w).bind fun r11 =>
    if r11.1 = 0 then some ((0 : Int32), r11.2) else
    (callW (pX7_readLaw N) r11.2).bind fun r12 =>
    if r12.1 = 0 then some ((0 : Int32), r12.2) else
    some ((1 : Int32), r12.2)
  else
  (callW (pX7_fail N (1 : Int32)) w).bind fun r13 =>
  retZ r13.1 r13.2
noncomputable def mX7_readLine (N : Nat) (as : List AV) (w : Wd) : Option (Int32 × Wd) := xS1 11 as fun t => xN1 t (callW (pX7_readLine N) w)
set_option maxRecDepth 100000 in
set_option maxHeartbeats 4000000 in
theorem kX7_readLine : TK cX7_readLine RX7 1 tX7_readLine := ⟨by decide +kernel, wok_of [466, 437, 467, 263, 467, 282, 198, 467, 286, 467, 302, 467, 307, 468, 469] (by decide +kernel) (by decide +kernel)⟩
set_option maxRecDepth 100000 in
set_option maxHeartbeats 4000000 in
theorem sX7_readLine_89 {N : Nat} {X : XT} (G : GX X cX7_readLine RX7) (hn : xnL X = 1) (hC : CRs X tX7_readLine (oF [(mX7_passUnless N), (mX7_readPart N), (mX7_readPerson N), (mX7_readParty N), (mX7_readWeather N), (mX7_readSlide N), (mX7_readNear N), (mX7_readSeed N), (mX7_pass N), (mX7_readLaw N), (mX7_fail N)]) (oF []) (oF [])) {r : Int32 × Wd} (hr : RTZ X cX7_readLine r)  : ∀ (s0 : Int32) (w : Wd), fX7_readLine_89 N s0 w = some r → WW X (pcAt tX7_readLine 89) [some (.inr (.inr (11, 0)))] [.inl s0, .inr (.inr (11, 0))] w := by
  intro s0 w h
  refine run_sound (r := r) (X := X) (cc := cX7_readLine) (own := RX7) (tab := tX7_readLine) G (by rw [hn]; exact kX7_readLine) (oI := (oF [(mX7_passUnless N), (mX7_readPart N), (mX7_readPerson N), (mX7_readParty N), (mX7_readWeather N), (mX7_readSlide N), (mX7_readNear N), (mX7_readSeed N), (mX7_pass N), (mX7_readLaw N), (mX7_fail N)])) (oL := (oF [])) (oV := (oF [])) (rI := retZ) (rL := (fun _ _ => none)) (rV := (fun _ => none))
    (K := (fun j ls st w => none)) hr (fun _ _ _ _ hx => by cases hx) (fun _ _ _ hx => by cases hx) hC (fun ls => lsb [some (.inr (.inr (11, 0)))] 0 ls) (keepsP_of rfl) ?_ 142 89 [some (.inr (.inr (11, 0)))] [.inl s0, .inr (.inr (11, 0))] w ?_ h
  · intro j ls st w hfx h
    obtain ⟨e0, -⟩ : _ = _ ∧ True := hfx
    try dsimp only at h
    cases h
  · exact (show _ = _ ∧ True from ⟨rfl, trivial⟩)
set_option maxRecDepth 100000 in
set_option maxHeartbeats 4000000 in
theorem sX7_readLine_70 {N : Nat} {X : XT} (G : GX X cX7_readLine RX7) (hn : xnL X = 1) (hC : CRs X tX7_readLine (oF [(mX7_passUnless N), (mX7_readPart N), (mX7_readPerson N), (mX7_readParty N), (mX7_readWeather N), (mX7_readSlide N), (mX7_readNear N), (mX7_readSeed N), (mX7_pass N), (mX7_readLaw N), (mX7_fail N)]) (oF []) (oF [])) {r : Int32 × Wd} (hr : RTZ X cX7_readLine r)  : ∀ (s0 : Int32) (w : Wd), fX7_readLine_70 N s0 w = some r → WW X (pcAt tX7_readLine 70) [some (.inr (.inr (11, 0)))] [.inl s0, .inr (.inr (11, 0))] w := by
  intro s0 w h
  refine run_sound (r := r) (X := X) (cc := cX7_readLine) (own := RX7) (tab := tX7_readLine) G (by rw [hn]; exact kX7_readLine) (oI := (oF [(mX7_passUnless N), (mX7_readPart N), (mX7_readPerson N), (mX7_readParty N), (mX7_readWeather N), (mX7_readSlide N), (mX7_readNear N), (mX7_readSeed N), (mX7_pass N), (mX7_readLaw N), (mX7_fail N)])) (oL := (oF [])) (oV := (oF [])) (rI := retZ) (rL := (fun _ _ => none)) (rV := (fun _ => none))
    (K := (fun j ls st w => none)) hr (fun _ _ _ _ hx => by cases hx) (fun _ _ _ hx => by cases hx) hC (fun ls => lsb [some (.inr (.inr (11, 0)))] 0 ls) (keepsP_of rfl) ?_ 142 70 [some (.inr (.inr (11, 0)))] [.inl s0, .inr (.inr (11, 0))] w ?_ h
  · intro j ls st w hfx h
    obtain ⟨e0, -⟩ : _ = _ ∧ True := hfx
    try dsimp only at h
    cases h
  · exact (show _ = _ ∧ True from ⟨rfl, trivial⟩)
set_option maxRecDepth 100000 in
set_option maxHeartbeats 4000000 in
theorem sX7_readLine_52 {N : Nat} {X : XT} (G : GX X cX7_readLine RX7) (hn : xnL X = 1) (hC : CRs X tX7_readLine (oF [(mX7_passUnless N), (mX7_readPart N), (mX7_readPerson N), (mX7_readParty N), (mX7_readWeather N), (mX7_readSlide N), (mX7_readNear N), (mX7_readSeed N), (mX7_pass N), (mX7_readLaw N), (mX7_fail N)]) (oF []) (oF [])) {r : Int32 × Wd} (hr : RTZ X cX7_readLine r)  : ∀ (s0 : Int32) (w : Wd), fX7_readLine_52 N s0 w = some r → WW X (pcAt tX7_readLine 52) [some (.inr (.inr (11, 0)))] [.inl s0, .inr (.inr (11, 0))] w := by
  intro s0 w h
  refine run_sound (r := r) (X := X) (cc := cX7_readLine) (own := RX7) (tab := tX7_readLine) G (by rw [hn]; exact kX7_readLine) (oI := (oF [(mX7_passUnless N), (mX7_readPart N), (mX7_readPerson N), (mX7_readParty N), (mX7_readWeather N), (mX7_readSlide N), (mX7_readNear N), (mX7_readSeed N), (mX7_pass N), (mX7_readLaw N), (mX7_fail N)])) (oL := (oF [])) (oV := (oF [])) (rI := retZ) (rL := (fun _ _ => none)) (rV := (fun _ => none))
    (K := (fun j ls st w => none)) hr (fun _ _ _ _ hx => by cases hx) (fun _ _ _ hx => by cases hx) hC (fun ls => lsb [some (.inr (.inr (11, 0)))] 0 ls) (keepsP_of rfl) ?_ 142 52 [some (.inr (.inr (11, 0)))] [.inl s0, .inr (.inr (11, 0))] w ?_ h
  · intro j ls st w hfx h
    obtain ⟨e0, -⟩ : _ = _ ∧ True := hfx
    try dsimp only at h
    cases h
  · exact (show _ = _ ∧ True from ⟨rfl, trivial⟩)
set_option maxRecDepth 100000 in
set_option maxHeartbeats 4000000 in
theorem sX7_readLine_33 {N : Nat} {X : XT} (G : GX X cX7_readLine RX7) (hn : xnL X = 1) (hC : CRs X tX7_readLine (oF [(mX7_passUnless N), (mX7_readPart N), (mX7_readPerson N), (mX7_readParty N), (mX7_readWeather N), (mX7_readSlide N), (mX7_readNear N), (mX7_readSeed N), (mX7_pass N), (mX7_readLaw N), (mX7_fail N)]) (oF []) (oF [])) {r : Int32 × Wd} (hr : RTZ X cX7_readLine r)  : ∀ (s0 : Int32) (w : Wd), fX7_readLine_33 N s0 w = some r → WW X (pcAt tX7_readLine 33) [some (.inr (.inr (11, 0)))] [.inl s0, .inr (.inr (11, 0))] w := by
  intro s0 w h
  refine run_sound (r := r) (X := X) (cc := cX7_readLine) (own := RX7) (tab := tX7_readLine) G (by rw [hn]; exact kX7_readLine) (oI := (oF [(mX7_passUnless N), (mX7_readPart N), (mX7_readPerson N), (mX7_readParty N), (mX7_readWeather N), (mX7_readSlide N), (mX7_readNear N), (mX7_readSeed N), (mX7_pass N), (mX7_readLaw N), (mX7_fail N)])) (oL := (oF [])) (oV := (oF [])) (rI := retZ) (rL := (fun _ _ => none)) (rV := (fun _ => none))
    (K := (fun j ls st w => none)) hr (fun _ _ _ _ hx => by cases hx) (fun _ _ _ hx => by cases hx) hC (fun ls => lsb [some (.inr (.inr (11, 0)))] 0 ls) (keepsP_of rfl) ?_ 142 33 [some (.inr (.inr (11, 0)))] [.inl s0, .inr (.inr (11, 0))] w ?_ h
  · intro j ls st w hfx h
    obtain ⟨e0, -⟩ : _ = _ ∧ True := hfx
    try dsimp only at h
    cases h
  · exact (show _ = _ ∧ True from ⟨rfl, trivial⟩)
set_option maxRecDepth 100000 in
set_option maxHeartbeats 4000000 in
theorem sX7_readLine_13 {N : Nat} {X : XT} (G : GX X cX7_readLine RX7) (hn : xnL X = 1) (hC : CRs X tX7_readLine (oF [(mX7_passUnless N), (mX7_readPart N), (mX7_readPerson N), (mX7_readParty N), (mX7_readWeather N), (mX7_readSlide N), (mX7_readNear N), (mX7_readSeed N), (mX7_pass N), (mX7_readLaw N), (mX7_fail N)]) (oF []) (oF [])) {r : Int32 × Wd} (hr : RTZ X cX7_readLine r)  : ∀ (s0 : Int32) (w : Wd), fX7_readLine_13 N s0 w = some r → WW X (pcAt tX7_readLine 13) [some (.inr (.inr (11, 0)))] [.inl s0, .inr (.inr (11, 0))] w := by
  intro s0 w h
  refine run_sound (r := r) (X := X) (cc := cX7_readLine) (own := RX7) (tab := tX7_readLine) G (by rw [hn]; exact kX7_readLine) (oI := (oF [(mX7_passUnless N), (mX7_readPart N), (mX7_readPerson N), (mX7_readParty N), (mX7_readWeather N), (mX7_readSlide N), (mX7_readNear N), (mX7_readSeed N), (mX7_pass N), (mX7_readLaw N), (mX7_fail N)])) (oL := (oF [])) (oV := (oF [])) (rI := retZ) (rL := (fun _ _ => none)) (rV := (fun _ => none))
    (K := (fun j ls st w => none)) hr (fun _ _ _ _ hx => by cases hx) (fun _ _ _ hx => by cases hx) hC (fun ls => lsb [some (.inr (.inr (11, 0)))] 0 ls) (keepsP_of rfl) ?_ 142 13 [some (.inr (.inr (11, 0)))] [.inl s0, .inr (.inr (11, 0))] w ?_ h
  · intro j ls st w hfx h
    obtain ⟨e0, -⟩ : _ = _ ∧ True := hfx
    try dsimp only at h
    cases h
  · exact (show _ = _ ∧ True from ⟨rfl, trivial⟩)
set_option maxRecDepth 100000 in
set_option maxHeartbeats 4000000 in
theorem crX7_readLine {N : Nat} {X : XT} (G : GX X cX7_readLine RX7) (hR : xR X = rmL 6) : CRs X tX7_readLine (oF [(mX7_passUnless N), (mX7_readPart N), (mX7_readPerson N), (mX7_readParty N), (mX7_readWeather N), (mX7_readSlide N), (mX7_readNear N), (mX7_readSeed N), (mX7_pass N), (mX7_readLaw N), (mX7_fail N)]) (oF []) (oF []) := by
  have hl : tX7_readLine.filter isInv = [(95, .invokevirtual 70, 0, 0, 3, 0, 0, []), (102, .invokevirtual 74, 0, 1, 1, 0, 0, []), (136, .invokevirtual 70, 0, 0, 3, 0, 0, []), (143, .invokevirtual 86, 0, 2, 1, 0, 0, []), (174, .invokevirtual 70, 0, 0, 3, 0, 0, []), (181, .invokevirtual 92, 0, 3, 1, 0, 0, []), (210, .invokevirtual 70, 0, 0, 3, 0, 0, []), (217, .invokevirtual 98, 0, 4, 1, 0, 0, []), (247, .invokevirtual 70, 0, 0, 3, 0, 0, []), (254, .invokevirtual 104, 0, 5, 1, 0, 0, []), (272, .invokevirtual 70, 0, 0, 3, 0, 0, []), (279, .invokevirtual 107, 0, 6, 1, 0, 0, []), (297, .invokevirtual 70, 0, 0, 3, 0, 0, []), (304, .invokevirtual 110, 0, 7, 1, 0, 0, []), (319, .invokevirtual 54, 0, 8, 2, 0, 0, []), (326, .invokevirtual 113, 0, 9, 1, 0, 0, []), (340, .invokevirtual 59, 0, 10, 2, 0, 0, [])] := rfl
  intro e he
  rw [hl] at he
  simp only [List.mem_cons, List.not_mem_nil, or_false] at he
  rcases he with rfl | rfl | rfl | rfl | rfl | rfl | rfl | rfl | rfl | rfl | rfl | rfl | rfl | rfl | rfl | rfl | rfl
  · exact crI_V (idx := 70) G (by decide +kernel) (MX7_passUnless N) (cw_of (ps := [854, 856, 9, 152, 857]) (by decide +kernel) (by decide +kernel)) ⟨by decide +kernel, by decide +kernel, by decide +kernel⟩ (by unfold rmOk; rw [hR]; exact ⟨by decide, by decide⟩)
  · exact crI_V (idx := 74) G (by decide +kernel) (MX7_readPart N) (cw_of (ps := [863, 865, 11, 152, 866]) (by decide +kernel) (by decide +kernel)) ⟨by decide +kernel, by decide +kernel, by decide +kernel⟩ (by unfold rmOk; rw [hR]; exact ⟨by decide, by decide⟩)
  · exact crI_V (idx := 70) G (by decide +kernel) (MX7_passUnless N) (cw_of (ps := [854, 856, 9, 152, 857]) (by decide +kernel) (by decide +kernel)) ⟨by decide +kernel, by decide +kernel, by decide +kernel⟩ (by unfold rmOk; rw [hR]; exact ⟨by decide, by decide⟩)
  · exact crI_V (idx := 86) G (by decide +kernel) (MX7_readPerson N) (cw_of (ps := [890, 892, 16, 152, 893]) (by decide +kernel) (by decide +kernel)) ⟨by decide +kernel, by decide +kernel, by decide +kernel⟩ (by unfold rmOk; rw [hR]; exact ⟨by decide, by decide⟩)
  · exact crI_V (idx := 70) G (by decide +kernel) (MX7_passUnless N) (cw_of (ps := [854, 856, 9, 152, 857]) (by decide +kernel) (by decide +kernel)) ⟨by decide +kernel, by decide +kernel, by decide +kernel⟩ (by unfold rmOk; rw [hR]; exact ⟨by decide, by decide⟩)
  · exact crI_V (idx := 92) G (by decide +kernel) (MX7_readParty N) (cw_of (ps := [898, 900, 18, 152, 901]) (by decide +kernel) (by decide +kernel)) ⟨by decide +kernel, by decide +kernel, by decide +kernel⟩ (by unfold rmOk; rw [hR]; exact ⟨by decide, by decide⟩)
  · exact crI_V (idx := 70) G (by decide +kernel) (MX7_passUnless N) (cw_of (ps := [854, 856, 9, 152, 857]) (by decide +kernel) (by decide +kernel)) ⟨by decide +kernel, by decide +kernel, by decide +kernel⟩ (by unfold rmOk; rw [hR]; exact ⟨by decide, by decide⟩)
  · exact crI_V (idx := 98) G (by decide +kernel) (MX7_readWeather N) (cw_of (ps := [910, 912, 20, 152, 913]) (by decide +kernel) (by decide +kernel)) ⟨by decide +kernel, by decide +kernel, by decide +kernel⟩ (by unfold rmOk; rw [hR]; exact ⟨by decide, by decide⟩)
  · exact crI_V (idx := 70) G (by decide +kernel) (MX7_passUnless N) (cw_of (ps := [854, 856, 9, 152, 857]) (by decide +kernel) (by decide +kernel)) ⟨by decide +kernel, by decide +kernel, by decide +kernel⟩ (by unfold rmOk; rw [hR]; exact ⟨by decide, by decide⟩)
  · exact crI_V (idx := 104) G (by decide +kernel) (MX7_readSlide N) (cw_of (ps := [914, 916, 21, 152, 917]) (by decide +kernel) (by decide +kernel)) ⟨by decide +kernel, by decide +kernel, by decide +kernel⟩ (by unfold rmOk; rw [hR]; exact ⟨by decide, by decide⟩)
  · exact crI_V (idx := 70) G (by decide +kernel) (MX7_passUnless N) (cw_of (ps := [854, 856, 9, 152, 857]) (by decide +kernel) (by decide +kernel)) ⟨by decide +kernel, by decide +kernel, by decide +kernel⟩ (by unfold rmOk; rw [hR]; exact ⟨by decide, by decide⟩)
  · exact crI_V (idx := 107) G (by decide +kernel) (MX7_readNear N) (cw_of (ps := [922, 924, 22, 152, 925]) (by decide +kernel) (by decide +kernel)) ⟨by decide +kernel, by decide +kernel, by decide +kernel⟩ (by unfold rmOk; rw [hR]; exact ⟨by decide, by decide⟩)
  · exact crI_V (idx := 70) G (by decide +kernel) (MX7_passUnless N) (cw_of (ps := [854, 856, 9, 152, 857]) (by decide +kernel) (by decide +kernel)) ⟨by decide +kernel, by decide +kernel, by decide +kernel⟩ (by unfold rmOk; rw [hR]; exact ⟨by decide, by decide⟩)
  · exact crI_V (idx := 110) G (by decide +kernel) (MX7_readSeed N) (cw_of (ps := [926, 928, 23, 152, 929]) (by decide +kernel) (by decide +kernel)) ⟨by decide +kernel, by decide +kernel, by decide +kernel⟩ (by unfold rmOk; rw [hR]; exact ⟨by decide, by decide⟩)
  · exact crI_V (idx := 54) G (by decide +kernel) (MX7_pass N) (cw_of (ps := [931, 933, 24, 152, 934]) (by decide +kernel) (by decide +kernel)) ⟨by decide +kernel, by decide +kernel, by decide +kernel⟩ (by unfold rmOk; rw [hR]; exact ⟨by decide, by decide⟩)
  · exact crI_V (idx := 113) G (by decide +kernel) (MX7_readLaw N) (cw_of (ps := [935, 937, 25, 152, 938]) (by decide +kernel) (by decide +kernel)) ⟨by decide +kernel, by decide +kernel, by decide +kernel⟩ (by unfold rmOk; rw [hR]; exact ⟨by decide, by decide⟩)
  · exact crI_V (idx := 59) G (by decide +kernel) (MX7_fail N) (cw_of (ps := [858, 860, 10, 152, 861]) (by decide +kernel) (by decide +kernel)) ⟨by decide +kernel, by decide +kernel, by decide +kernel⟩ (by unfold rmOk; rw [hR]; exact ⟨by decide, by decide⟩)
set_option maxRecDepth 100000 in
set_option maxHeartbeats 4000000 in
theorem MX7_readLine (N : Nat) : SndI yX7_readLine cX7_readLine 1 (some .boolean) 6 1 true (mX7_readLine N) := by
  refine SndI.ofZ tX7_readLine (by decide +kernel) rfl rfl ?_ ?_
  · intro as w x h
    obtain ⟨t1, rfl, h_1⟩ := xS1_some h
    obtain ⟨rfl, h_2⟩ := xN1_some h_1
    clear h h_1
    have h := h_2
    rw [callW_eq] at h
    exact ⟨fun _ => ⟨_, _, _, rfl, rfl, _, rfl, rfl⟩, rfl, Nat.le_of_ble_eq_true rfl⟩
  · intro X G hn hR as w r h hr
    have hC := crX7_readLine (N := N) G hR
    obtain ⟨t1, rfl, h_1⟩ := xS1_some h
    obtain ⟨rfl, h_2⟩ := xN1_some h_1
    clear h h_1
    have h := h_2
    rw [callW_eq] at h
    refine run_sound (r := r) (X := X) (cc := cX7_readLine) (own := RX7) (tab := tX7_readLine) G (by rw [hn]; exact kX7_readLine) (oI := (oF [(mX7_passUnless N), (mX7_readPart N), (mX7_readPerson N), (mX7_readParty N), (mX7_readWeather N), (mX7_readSlide N), (mX7_readNear N), (mX7_readSeed N), (mX7_pass N), (mX7_readLaw N), (mX7_fail N)])) (oL := (oF [])) (oV := (oF [])) (rI := retZ) (rL := (fun _ _ => none)) (rV := (fun _ => none))
      (K := (fun j ls st w => if j = 13 then (po1 st fun s0 st => pr1 st fun kk qq st => if kk = 11 ∧ qq = 0 then st0 st (callW (fX7_readLine_13 N s0) w) else none) else if j = 33 then (po1 st fun s0 st => pr1 st fun kk qq st => if kk = 11 ∧ qq = 0 then st0 st (callW (fX7_readLine_33 N s0) w) else none) else if j = 52 then (po1 st fun s0 st => pr1 st fun kk qq st => if kk = 11 ∧ qq = 0 then st0 st (callW (fX7_readLine_52 N s0) w) else none) else if j = 70 then (po1 st fun s0 st => pr1 st fun kk qq st => if kk = 11 ∧ qq = 0 then st0 st (callW (fX7_readLine_70 N s0) w) else none) else if j = 89 then (po1 st fun s0 st => pr1 st fun kk qq st => if kk = 11 ∧ qq = 0 then st0 st (callW (fX7_readLine_89 N s0) w) else none) else none)) hr (fun _ _ _ _ hx => by cases hx) (fun _ _ _ hx => by cases hx) hC (fun ls => lsb [some (.inr (.inr (11, 0)))] 0 ls) (keepsP_of rfl) ?_ 142 0 [some (.inr (.inr (11, 0)))] [] w ?_ h
    · intro j ls st w hfx h
      obtain ⟨e0, -⟩ : _ = _ ∧ True := hfx
      try dsimp only at h
      by_cases hj : j = 13
      · subst hj
        rw [if_pos rfl] at h
        obtain ⟨s0, st0, rfl, h_1⟩ := po1_some h
        obtain ⟨kkk1, s1, st1, rfl, h_2⟩ := pr1_some h_1
        obtain ⟨⟨rfl, rfl⟩, h_3⟩ := if_some _ h_2
        obtain ⟨rfl, h_4⟩ := st0_some h_3
        clear h h_1 h_2 h_3
        have h := h_4
        try rw [callW_eq] at h
        exact WW.le (a := [some (.inr (.inr (11, 0)))]) (by rw [hn]; rfl) (show _ = _ ∧ True from ⟨e0, trivial⟩) (sX7_readLine_13 G hn hC hr s0 w h)
      rw [if_neg hj] at h
      by_cases hj : j = 33
      · subst hj
        rw [if_pos rfl] at h
        obtain ⟨s0, st0, rfl, h_1⟩ := po1_some h
        obtain ⟨kkk1, s1, st1, rfl, h_2⟩ := pr1_some h_1
        obtain ⟨⟨rfl, rfl⟩, h_3⟩ := if_some _ h_2
        obtain ⟨rfl, h_4⟩ := st0_some h_3
        clear h h_1 h_2 h_3
        have h := h_4
        try rw [callW_eq] at h
        exact WW.le (a := [some (.inr (.inr (11, 0)))]) (by rw [hn]; rfl) (show _ = _ ∧ True from ⟨e0, trivial⟩) (sX7_readLine_33 G hn hC hr s0 w h)
      rw [if_neg hj] at h
      by_cases hj : j = 52
      · subst hj
        rw [if_pos rfl] at h
        obtain ⟨s0, st0, rfl, h_1⟩ := po1_some h
        obtain ⟨kkk1, s1, st1, rfl, h_2⟩ := pr1_some h_1
        obtain ⟨⟨rfl, rfl⟩, h_3⟩ := if_some _ h_2
        obtain ⟨rfl, h_4⟩ := st0_some h_3
        clear h h_1 h_2 h_3
        have h := h_4
        try rw [callW_eq] at h
        exact WW.le (a := [some (.inr (.inr (11, 0)))]) (by rw [hn]; rfl) (show _ = _ ∧ True from ⟨e0, trivial⟩) (sX7_readLine_52 G hn hC hr s0 w h)
      rw [if_neg hj] at h
      by_cases hj : j = 70
      · subst hj
        rw [if_pos rfl] at h
        obtain ⟨s0, st0, rfl, h_1⟩ := po1_some h
        obtain ⟨kkk1, s1, st1, rfl, h_2⟩ := pr1_some h_1
        obtain ⟨⟨rfl, rfl⟩, h_3⟩ := if_some _ h_2
        obtain ⟨rfl, h_4⟩ := st0_some h_3
        clear h h_1 h_2 h_3
        have h := h_4
        try rw [callW_eq] at h
        exact WW.le (a := [some (.inr (.inr (11, 0)))]) (by rw [hn]; rfl) (show _ = _ ∧ True from ⟨e0, trivial⟩) (sX7_readLine_70 G hn hC hr s0 w h)
      rw [if_neg hj] at h
      by_cases hj : j = 89
      · subst hj
        rw [if_pos rfl] at h
        obtain ⟨s0, st0, rfl, h_1⟩ := po1_some h
        obtain ⟨kkk1, s1, st1, rfl, h_2⟩ := pr1_some h_1
        obtain ⟨⟨rfl, rfl⟩, h_3⟩ := if_some _ h_2
        obtain ⟨rfl, h_4⟩ := st0_some h_3
        clear h h_1 h_2 h_3
        have h := h_4
        try rw [callW_eq] at h
        exact WW.le (a := [some (.inr (.inr (11, 0)))]) (by rw [hn]; rfl) (show _ = _ ∧ True from ⟨e0, trivial⟩) (sX7_readLine_89 G hn hC hr s0 w h)
      rw [if_neg hj] at h
      cases h
    · exact (show _ = _ ∧ True from ⟨rfl, trivial⟩)

-- MoorGuides$Sharing.areLed(LMoorGuides$Moor;II)Z
def tX8_areLed : List EN := [
  (0, .iconst 0, 0, 0, 0, 0, 0, []), (1, .istore 4, 0, 0, 0, 0, 0, []), (3, .iload 4, 3, 0, 0, 0, 0, []), (5, .aload_n 1, 0, 0, 0, 0, 0, []),
  (6, .getfield 40, 0, 4, 5, 0, 0, []), (9, .if_icmp .ge 38, 0, 26, 0, 0, 0, []), (12, .iload_n 2, 0, 0, 0, 0, 0, []), (13, .iload 4, 0, 0, 0, 0, 0, []),
  (15, .ishr, 0, 0, 0, 0, 0, []), (16, .iconst 1, 0, 0, 0, 1, 0, []), (17, .iand, 0, 0, 0, 0, 0, []), (18, .ifCond .eq 23, 0, 24, 0, 0, 0, []),
  (21, .aload_n 1, 0, 0, 0, 0, 0, []), (22, .iload 4, 0, 0, 0, 0, 0, []), (24, .aload_n 0, 0, 0, 0, 0, 0, []), (25, .getfield 20, 0, 8, 3, 0, 0, []),
  (28, .iload 4, 0, 0, 0, 0, 0, []), (30, .iaload, 0, 0, 0, 0, 0, []), (31, .iload_n 3, 0, 0, 0, 0, 0, []), (32, .ior, 0, 0, 0, 0, 0, []),
  (33, .invokevirtual 73, 0, 0, 3, 0, 0, []), (36, .ifCond .ne 5, 0, 24, 0, 0, 0, []), (39, .iconst 0, 0, 0, 0, 0, 0, []), (40, .ireturn, 0, 0, 0, 0, 0, []),
  (41, .iinc 4 1, 0, 0, 0, 1, 0, []), (44, .goto (-41), 0, 2, 0, 0, 0, []), (47, .iconst 1, 0, 0, 0, 1, 0, []), (48, .ireturn, 0, 0, 0, 0, 0, [])]
noncomputable def fX8_areLed_2 (N : Nat) (i1 : Nat) (a2 : Int32) (a3 : Int32) : Nat → Int32 → Wd → Option (Int32 × Wd)
  | 0, _, _ => none
  | n + 1, v4, w =>
    if v4 < (gI w 8 i1 5) then
      if ((a2 >>> (v4 &&& (31 : Int32))) &&& (1 : Int32)) = 0 then callW (fX8_areLed_2 N i1 a2 a3 n (v4 + (1 : Int32))) w else
      (ldI w 58 0 v4 8).bind fun x1 =>
      (callW (pX4_isLed N i1 v4 (x1 ||| a3)) w).bind fun r2 =>
      if r2.1 = 0 then some ((0 : Int32), r2.2) else
      callW (fX8_areLed_2 N i1 a2 a3 n (v4 + (1 : Int32))) r2.2
    else
    some ((1 : Int32), w)
noncomputable def pX8_areLed (N : Nat) (i1 : Nat) (a2 : Int32) (a3 : Int32) (w : Wd) : Option (Int32 × Wd) :=
  callW (fX8_areLed_2 N i1 a2 a3 N (0 : Int32)) w
noncomputable def mX8_areLed (N : Nat) (as : List AV) (w : Wd) : Option (Int32 × Wd) := xS1 12 as fun t => xR1 8 t fun i1 t => xI1 t fun a2 t => xI1 t fun a3 t => xN1 t (callW (pX8_areLed N i1 a2 a3) w)
set_option maxRecDepth 100000 in
set_option maxHeartbeats 4000000 in
theorem kX8_areLed : TK cX8_areLed RX8 5 tX8_areLed := ⟨by decide +kernel, wok_of [284, 615] (by decide +kernel) (by decide +kernel)⟩
set_option maxRecDepth 100000 in
set_option maxHeartbeats 4000000 in
theorem sX8_areLed_2 {N : Nat} {X : XT} (G : GX X cX8_areLed RX8) (hn : xnL X = 5) (hC : CRs X tX8_areLed (oF [(mX4_isLed N)]) (oF []) (oF [])) {r : Int32 × Wd} (hr : RTZ X cX8_areLed r) (i1 : Nat) (a2 : Int32) (a3 : Int32) : ∀ (n : Nat) (v4 : Int32) (w : Wd), fX8_areLed_2 N i1 a2 a3 n v4 w = some r → WW X (pcAt tX8_areLed 2) [some (.inr (.inr (12, 0))), some (.inr (.inr (8, i1))), some (.inl a2), some (.inl a3), some (.inl v4)] [] w := by
  intro n
  induction n with
  | zero => intro v4 w h; cases h
  | succ n ih =>
    intro v4 w h
    refine run_sound (r := r) (X := X) (cc := cX8_areLed) (own := RX8) (tab := tX8_areLed) G (by rw [hn]; exact kX8_areLed) (oI := (oF [(mX4_isLed N)])) (oL := (oF [])) (oV := (oF [])) (rI := retZ) (rL := (fun _ _ => none)) (rV := (fun _ => none))
      (K := (fun j ls st w => if j = 2 then (lgI ls 4 fun v4 => st0 st (callW (fX8_areLed_2 N i1 a2 a3 n v4) w)) else none)) hr (fun _ _ _ _ hx => by cases hx) (fun _ _ _ hx => by cases hx) hC (fun ls => lsb [some (.inr (.inr (12, 0))), some (.inr (.inr (8, i1))), some (.inl a2), some (.inl a3), none] 0 ls) (keepsP_of rfl) ?_ 30 2 [some (.inr (.inr (12, 0))), some (.inr (.inr (8, i1))), some (.inl a2), some (.inl a3), some (.inl v4)] [] w ?_ h
    · intro j ls st w hfx h
      obtain ⟨e0, e1, e2, e3, -⟩ : _ = _ ∧ _ = _ ∧ _ = _ ∧ _ = _ ∧ True := hfx
      try dsimp only at h
      by_cases hj : j = 2
      · subst hj
        rw [if_pos rfl] at h
        obtain ⟨v4, e4, h_1⟩ := lgI_some h
        obtain ⟨rfl, h_2⟩ := st0_some h_1
        clear h h_1
        have h := h_2
        try rw [callW_eq] at h
        exact WW.le (a := [some (.inr (.inr (12, 0))), some (.inr (.inr (8, i1))), some (.inl a2), some (.inl a3), some (.inl v4)]) (by rw [hn]; rfl) (show _ = _ ∧ _ = _ ∧ _ = _ ∧ _ = _ ∧ _ = _ ∧ True from ⟨e0, e1, e2, e3, e4, trivial⟩) (ih v4 w h)
      rw [if_neg hj] at h
      cases h
    · exact (show _ = _ ∧ _ = _ ∧ _ = _ ∧ _ = _ ∧ True from ⟨rfl, rfl, rfl, rfl, trivial⟩)
set_option maxRecDepth 100000 in
set_option maxHeartbeats 4000000 in
theorem crX8_areLed {N : Nat} {X : XT} (G : GX X cX8_areLed RX8) (hR : xR X = rmL 3) : CRs X tX8_areLed (oF [(mX4_isLed N)]) (oF []) (oF []) := by
  have hl : tX8_areLed.filter isInv = [(33, .invokevirtual 73, 0, 0, 3, 0, 0, [])] := rfl
  intro e he
  rw [hl] at he
  simp only [List.mem_cons, List.not_mem_nil, or_false] at he
  rcases he with rfl
  · exact crI_V (idx := 73) G (by decide +kernel) (MX4_isLed N) (cw_of (ps := [1238, 1239, 1240, 149, 1241]) (by decide +kernel) (by decide +kernel)) ⟨by decide +kernel, by decide +kernel, by decide +kernel⟩ (by unfold rmOk; rw [hR]; exact ⟨by decide, by decide⟩)
set_option maxRecDepth 100000 in
set_option maxHeartbeats 4000000 in
theorem MX8_areLed (N : Nat) : SndI yX8_areLed cX8_areLed 5 (some .boolean) 3 4 true (mX8_areLed N) := by
  refine SndI.ofZ tX8_areLed (by decide +kernel) rfl rfl ?_ ?_
  · intro as w x h
    obtain ⟨t1, rfl, h_1⟩ := xS1_some h
    obtain ⟨i1, t2, rfl, h_2⟩ := xR1_some h_1
    obtain ⟨a2, t3, rfl, h_3⟩ := xI1_some h_2
    obtain ⟨a3, t4, rfl, h_4⟩ := xI1_some h_3
    obtain ⟨rfl, h_5⟩ := xN1_some h_4
    clear h h_1 h_2 h_3 h_4
    have h := h_5
    rw [callW_eq] at h
    exact ⟨fun _ => ⟨_, _, _, rfl, rfl, _, rfl, rfl⟩, rfl, Nat.le_of_ble_eq_true rfl⟩
  · intro X G hn hR as w r h hr
    have hC := crX8_areLed (N := N) G hR
    obtain ⟨t1, rfl, h_1⟩ := xS1_some h
    obtain ⟨i1, t2, rfl, h_2⟩ := xR1_some h_1
    obtain ⟨a2, t3, rfl, h_3⟩ := xI1_some h_2
    obtain ⟨a3, t4, rfl, h_4⟩ := xI1_some h_3
    obtain ⟨rfl, h_5⟩ := xN1_some h_4
    clear h h_1 h_2 h_3 h_4
    have h := h_5
    rw [callW_eq] at h
    refine run_sound (r := r) (X := X) (cc := cX8_areLed) (own := RX8) (tab := tX8_areLed) G (by rw [hn]; exact kX8_areLed) (oI := (oF [(mX4_isLed N)])) (oL := (oF [])) (oV := (oF [])) (rI := retZ) (rL := (fun _ _ => none)) (rV := (fun _ => none))
      (K := (fun j ls st w => if j = 2 then (lgI ls 4 fun v4 => st0 st (callW (fX8_areLed_2 N i1 a2 a3 N v4) w)) else none)) hr (fun _ _ _ _ hx => by cases hx) (fun _ _ _ hx => by cases hx) hC (fun ls => lsb [some (.inr (.inr (12, 0))), some (.inr (.inr (8, i1))), some (.inl a2), some (.inl a3), none] 0 ls) (keepsP_of rfl) ?_ 30 0 [some (.inr (.inr (12, 0))), some (.inr (.inr (8, i1))), some (.inl a2), some (.inl a3), none] [] w ?_ h
    · intro j ls st w hfx h
      obtain ⟨e0, e1, e2, e3, -⟩ : _ = _ ∧ _ = _ ∧ _ = _ ∧ _ = _ ∧ True := hfx
      try dsimp only at h
      by_cases hj : j = 2
      · subst hj
        rw [if_pos rfl] at h
        obtain ⟨v4, e4, h_1⟩ := lgI_some h
        obtain ⟨rfl, h_2⟩ := st0_some h_1
        clear h h_1
        have h := h_2
        try rw [callW_eq] at h
        exact WW.le (a := [some (.inr (.inr (12, 0))), some (.inr (.inr (8, i1))), some (.inl a2), some (.inl a3), some (.inl v4)]) (by rw [hn]; rfl) (show _ = _ ∧ _ = _ ∧ _ = _ ∧ _ = _ ∧ _ = _ ∧ True from ⟨e0, e1, e2, e3, e4, trivial⟩) (sX8_areLed_2 G hn hC hr i1 a2 a3 N v4 w h)
      rw [if_neg hj] at h
      cases h
    · exact (show _ = _ ∧ _ = _ ∧ _ = _ ∧ _ = _ ∧ True from ⟨rfl, rfl, rfl, rfl, trivial⟩)
-- MoorGuides$Sharing.fewestParts(I)I
def tX8_fewestParts : List EN := [
  (0, .aload_n 0, 0, 0, 0, 0, 0, []), (1, .getfield 26, 0, 8, 0, 0, 0, []), (4, .getfield 34, 0, 9, 0, 0, 0, []), (7, .astore_n 2, 0, 0, 0, 0, 0, []),
  (8, .iconst 0, 0, 0, 0, 0, 0, []), (9, .istore_n 3, 0, 0, 0, 0, 0, []), (10, .iload_n 3, 7, 0, 0, 0, 0, []), (11, .aload_n 2, 0, 0, 0, 0, 0, []),
  (12, .getfield 40, 0, 4, 5, 0, 0, []), (15, .if_icmp .ge 40, 0, 31, 0, 0, 0, []), (18, .aload_n 0, 0, 0, 0, 0, 0, []), (19, .getfield 20, 0, 8, 3, 0, 0, []),
  (22, .iload_n 3, 0, 0, 0, 0, 0, []), (23, .iload_n 1, 0, 0, 0, 0, 0, []), (24, .iload_n 3, 0, 0, 0, 0, 0, []), (25, .ishr, 0, 0, 0, 0, 0, []),
  (26, .iconst 1, 0, 0, 0, 1, 0, []), (27, .iand, 0, 0, 0, 0, 0, []), (28, .ifCond .eq 19, 0, 27, 0, 0, 0, []), (31, .aload_n 0, 0, 0, 0, 0, 0, []),
  (32, .getfield 26, 0, 8, 0, 0, 0, []), (35, .aload_n 2, 0, 0, 0, 0, 0, []), (36, .getfield 70, 0, 4, 8, 0, 0, []), (39, .iload_n 3, 0, 0, 0, 0, 0, []),
  (40, .iaload, 0, 0, 0, 0, 0, []), (41, .invokevirtual 82, 0, 0, 2, 0, 0, []), (44, .goto 4, 0, 28, 0, 0, 0, []), (47, .iconst 0, 0, 0, 0, 0, 0, []),
  (48, .iastore, 0, 0, 0, 0, 0, []), (49, .iinc 3 1, 0, 0, 0, 1, 0, []), (52, .goto (-42), 0, 6, 0, 0, 0, []), (55, .bipush (-2), 32, 0, 0, (-2), 0, []),
  (57, .istore_n 3, 0, 0, 0, 0, 0, []), (58, .bipush 9, 0, 0, 0, 9, 0, []), (60, .istore 4, 0, 0, 0, 0, 0, []), (62, .iconst 0, 0, 0, 0, 0, 0, []),
  (63, .istore 5, 0, 0, 0, 0, 0, []), (65, .iload 5, 38, 0, 0, 0, 0, []), (67, .aload_n 2, 0, 0, 0, 0, 0, []), (68, .invokevirtual 86, 0, 1, 1, 0, 0, []),
  (71, .if_icmp .gt 40, 0, 58, 0, 0, 0, []), (74, .iload 5, 0, 0, 0, 0, 0, []), (76, .invokestatic 90, 0, 2, 1, 0, 0, []), (79, .iload 4, 0, 0, 0, 0, 0, []),
  (81, .if_icmp .ge 24, 0, 56, 0, 0, 0, []), (84, .aload_n 0, 0, 0, 0, 0, 0, []), (85, .aload_n 2, 0, 0, 0, 0, 0, []), (86, .iload_n 1, 0, 0, 0, 0, 0, []),
  (87, .iload 5, 0, 0, 0, 0, 0, []), (89, .invokevirtual 95, 0, 3, 4, 0, 0, []), (92, .ifCond .eq 13, 0, 56, 0, 0, 0, []), (95, .iload 5, 0, 0, 0, 0, 0, []),
  (97, .istore_n 3, 0, 0, 0, 0, 0, []), (98, .iload 5, 0, 0, 0, 0, 0, []), (100, .invokestatic 90, 0, 2, 1, 0, 0, []), (103, .istore 4, 0, 0, 0, 0, 0, []),
  (105, .iinc 5 1, 0, 0, 0, 1, 0, []), (108, .goto (-43), 0, 37, 0, 0, 0, []), (111, .iload_n 3, 0, 0, 0, 0, 0, []), (112, .ireturn, 0, 0, 0, 0, 0, [])]
noncomputable def fX8_fewestParts_37 (N : Nat) (a1 : Int32) : Nat → Nat → Int32 → Int32 → Int32 → Wd → Option (Int32 × Wd)
  | 0, _, _, _, _, _ => none
  | n + 1, q2, v3, v4, v5, w =>
    (callW (pX4_allParts N q2) w).bind fun r1 =>
    if r1.1 < v5 then some (v3, r1.2) else
    (callW (pJ6_bitCount_0f7a4 N v5) r1.2).bind fun r2 =>
    if r2.1 < v4 then
      (callW (pX8_areLed N q2 a1 v5) r2.2).bind fun r3 =>
      if r3.1 = 0 then callW (fX8_fewestParts_37 N a1 n q2 v3 v4 (v5 + (1 : Int32))) r3.2 else
      (callW (pJ6_bitCount_0f7a4 N v5) r3.2).bind fun r4 =>
      callW (fX8_fewestParts_37 N a1 n q2 v5 r4.1 (v5 + (1 : Int32))) r4.2
    else
    callW (fX8_fewestParts_37 N a1 n q2 v3 v4 (v5 + (1 : Int32))) r2.2
noncomputable def fX8_fewestParts_31 (N : Nat) (a1 : Int32) (q2 : Nat) (w : Wd) : Option (Int32 × Wd) :=
  callW (fX8_fewestParts_37 N a1 N q2 (-2 : Int32) (9 : Int32) (0 : Int32)) w
noncomputable def fX8_fewestParts_6 (N : Nat) (a1 : Int32) : Nat → (Nat → Wd → Option (Int32 × Wd)) → Nat → Int32 → Wd → Option (Int32 × Wd)
  | 0, _, _, _, _ => none
  | n + 1, k31, q2, v3, w =>
    if v3 < (gI w 8 q2 5) then
      if ((a1 >>> (v3 &&& (31 : Int32))) &&& (1 : Int32)) = 0 then
        (stI w 58 0 v3 8 (0 : Int32)).bind fun w1 =>
        callW (fX8_fewestParts_6 N a1 n k31 q2 (v3 + (1 : Int32))) w1
      else
      (ldI w 35 q2 v3 8).bind fun x2 =>
      (callW (pX9_knownByAny N 0 x2) w).bind fun r3 =>
      (stI r3.2 58 0 v3 8 r3.1).bind fun w4 =>
      callW (fX8_fewestParts_6 N a1 n k31 q2 (v3 + (1 : Int32))) w4
    else
    k31 q2 w
noncomputable def pX8_fewestParts (N : Nat) (a1 : Int32) (w : Wd) : Option (Int32 × Wd) :=
  callW (fX8_fewestParts_6 N a1 N (fX8_fewestParts_31 N a1) (gR w 13 0 0) (0 : Int32)) w
noncomputable def mX8_fewestParts (N : Nat) (as : List AV) (w : Wd) : Option (Int32 × Wd) := xS1 12 as fun t => xI1 t fun a1 t => xN1 t (callW (pX8_fewestParts N a1) w)
set_option maxRecDepth 100000 in
set_option maxHeartbeats 4000000 in
theorem kX8_fewestParts : TK cX8_fewestParts RX8 6 tX8_fewestParts := ⟨by decide +kernel, wok_of [612, 519, 284, 615, 612, 296] (by decide +kernel) (by decide +kernel)⟩
set_option maxRecDepth 100000 in
set_option maxHeartbeats 4000000 in
theorem sX8_fewestParts_37 {N : Nat} {X : XT} (G : GX X cX8_fewestParts RX8) (hn : xnL X = 6) (hC : CRs X tX8_fewestParts (oF [(mX9_knownByAny N), (mX4_allParts N), (mJ6_bitCount_0f7a4 N), (mX8_areLed N)]) (oF []) (oF [])) {r : Int32 × Wd} (hr : RTI X cX8_fewestParts r) (a1 : Int32) : ∀ (n : Nat) (q2 : Nat) (v3 : Int32) (v4 : Int32) (v5 : Int32) (w : Wd), fX8_fewestParts_37 N a1 n q2 v3 v4 v5 w = some r → WW X (pcAt tX8_fewestParts 37) [some (.inr (.inr (12, 0))), some (.inl a1), some (.inr (.inr (8, q2))), some (.inl v3), some (.inl v4), some (.inl v5)] [] w := by
  intro n
  induction n with
  | zero => intro q2 v3 v4 v5 w h; cases h
  | succ n ih =>
    intro q2 v3 v4 v5 w h
    refine run_sound (r := r) (X := X) (cc := cX8_fewestParts) (own := RX8) (tab := tX8_fewestParts) G (by rw [hn]; exact kX8_fewestParts) (oI := (oF [(mX9_knownByAny N), (mX4_allParts N), (mJ6_bitCount_0f7a4 N), (mX8_areLed N)])) (oL := (oF [])) (oV := (oF [])) (rI := (fun x w => some (x, w))) (rL := (fun _ _ => none)) (rV := (fun _ => none))
      (K := (fun j ls st w => if j = 37 then (lgR ls 2 fun kk q2 => if kk = 8 then lgI ls 3 fun v3 => lgI ls 4 fun v4 => lgI ls 5 fun v5 => st0 st (callW (fX8_fewestParts_37 N a1 n q2 v3 v4 v5) w) else none) else none)) (fun x w pc ls hx hd => hr x w pc ls (Option.some.inj hx) hd) (fun _ _ _ _ hx => by cases hx) (fun _ _ _ hx => by cases hx) hC (fun ls => lsb [some (.inr (.inr (12, 0))), some (.inl a1), none, none, none, none] 0 ls) (keepsP_of rfl) ?_ 62 37 [some (.inr (.inr (12, 0))), some (.inl a1), some (.inr (.inr (8, q2))), some (.inl v3), some (.inl v4), some (.inl v5)] [] w ?_ h
    · intro j ls st w hfx h
      obtain ⟨e0, e1, -⟩ : _ = _ ∧ _ = _ ∧ True := hfx
      try dsimp only at h
      by_cases hj : j = 37
      · subst hj
        rw [if_pos rfl] at h
        obtain ⟨kk2, q2, e2, h_1⟩ := lgR_some h
        obtain ⟨rfl, h_2⟩ := if_some _ h_1
        obtain ⟨v3, e3, h_3⟩ := lgI_some h_2
        obtain ⟨v4, e4, h_4⟩ := lgI_some h_3
        obtain ⟨v5, e5, h_5⟩ := lgI_some h_4
        obtain ⟨rfl, h_6⟩ := st0_some h_5
        clear h h_1 h_2 h_3 h_4 h_5
        have h := h_6
        try rw [callW_eq] at h
        exact WW.le (a := [some (.inr (.inr (12, 0))), some (.inl a1), some (.inr (.inr (8, q2))), some (.inl v3), some (.inl v4), some (.inl v5)]) (by rw [hn]; rfl) (show _ = _ ∧ _ = _ ∧ _ = _ ∧ _ = _ ∧ _ = _ ∧ _ = _ ∧ True from ⟨e0, e1, e2, e3, e4, e5, trivial⟩) (ih q2 v3 v4 v5 w h)
      rw [if_neg hj] at h
      cases h
    · exact (show _ = _ ∧ _ = _ ∧ True from ⟨rfl, rfl, trivial⟩)
set_option maxRecDepth 100000 in
set_option maxHeartbeats 4000000 in
theorem sX8_fewestParts_31 {N : Nat} {X : XT} (G : GX X cX8_fewestParts RX8) (hn : xnL X = 6) (hC : CRs X tX8_fewestParts (oF [(mX9_knownByAny N), (mX4_allParts N), (mJ6_bitCount_0f7a4 N), (mX8_areLed N)]) (oF []) (oF [])) {r : Int32 × Wd} (hr : RTI X cX8_fewestParts r) (a1 : Int32) : ∀ (q2 : Nat) (w : Wd), fX8_fewestParts_31 N a1 q2 w = some r → WW X (pcAt tX8_fewestParts 31) [some (.inr (.inr (12, 0))), some (.inl a1), some (.inr (.inr (8, q2))), none, none, none] [] w := by
  intro q2 w h
  refine run_sound (r := r) (X := X) (cc := cX8_fewestParts) (own := RX8) (tab := tX8_fewestParts) G (by rw [hn]; exact kX8_fewestParts) (oI := (oF [(mX9_knownByAny N), (mX4_allParts N), (mJ6_bitCount_0f7a4 N), (mX8_areLed N)])) (oL := (oF [])) (oV := (oF [])) (rI := (fun x w => some (x, w))) (rL := (fun _ _ => none)) (rV := (fun _ => none))
    (K := (fun j ls st w => if j = 37 then (lgR ls 2 fun kk q2 => if kk = 8 then lgI ls 3 fun v3 => lgI ls 4 fun v4 => lgI ls 5 fun v5 => st0 st (callW (fX8_fewestParts_37 N a1 N q2 v3 v4 v5) w) else none) else none)) (fun x w pc ls hx hd => hr x w pc ls (Option.some.inj hx) hd) (fun _ _ _ _ hx => by cases hx) (fun _ _ _ hx => by cases hx) hC (fun ls => lsb [some (.inr (.inr (12, 0))), some (.inl a1), none, none, none, none] 0 ls) (keepsP_of rfl) ?_ 62 31 [some (.inr (.inr (12, 0))), some (.inl a1), some (.inr (.inr (8, q2))), none, none, none] [] w ?_ h
  · intro j ls st w hfx h
    obtain ⟨e0, e1, -⟩ : _ = _ ∧ _ = _ ∧ True := hfx
    try dsimp only at h
    by_cases hj : j = 37
    · subst hj
      rw [if_pos rfl] at h
      obtain ⟨kk2, q2, e2, h_1⟩ := lgR_some h
      obtain ⟨rfl, h_2⟩ := if_some _ h_1
      obtain ⟨v3, e3, h_3⟩ := lgI_some h_2
      obtain ⟨v4, e4, h_4⟩ := lgI_some h_3
      obtain ⟨v5, e5, h_5⟩ := lgI_some h_4
      obtain ⟨rfl, h_6⟩ := st0_some h_5
      clear h h_1 h_2 h_3 h_4 h_5
      have h := h_6
      try rw [callW_eq] at h
      exact WW.le (a := [some (.inr (.inr (12, 0))), some (.inl a1), some (.inr (.inr (8, q2))), some (.inl v3), some (.inl v4), some (.inl v5)]) (by rw [hn]; rfl) (show _ = _ ∧ _ = _ ∧ _ = _ ∧ _ = _ ∧ _ = _ ∧ _ = _ ∧ True from ⟨e0, e1, e2, e3, e4, e5, trivial⟩) (sX8_fewestParts_37 G hn hC hr a1 N q2 v3 v4 v5 w h)
    rw [if_neg hj] at h
    cases h
  · exact (show _ = _ ∧ _ = _ ∧ True from ⟨rfl, rfl, trivial⟩)
set_option maxRecDepth 100000 in
set_option maxHeartbeats 4000000 in
theorem sX8_fewestParts_6 {N : Nat} {X : XT} (G : GX X cX8_fewestParts RX8) (hn : xnL X = 6) (hC : CRs X tX8_fewestParts (oF [(mX9_knownByAny N), (mX4_allParts N), (mJ6_bitCount_0f7a4 N), (mX8_areLed N)]) (oF []) (oF [])) {r : Int32 × Wd} (hr : RTI X cX8_fewestParts r) (a1 : Int32) : ∀ (n : Nat) (k31 : Nat → Wd → Option (Int32 × Wd)) (q2 : Nat) (v3 : Int32) (w : Wd), fX8_fewestParts_6 N a1 n k31 q2 v3 w = some r → (∀ (q2 : Nat) (w : Wd), k31 q2 w = some r → WW X (pcAt tX8_fewestParts 31) [some (.inr (.inr (12, 0))), some (.inl a1), some (.inr (.inr (8, q2))), none, none, none] [] w) → WW X (pcAt tX8_fewestParts 6) [some (.inr (.inr (12, 0))), some (.inl a1), some (.inr (.inr (8, q2))), some (.inl v3), none, none] [] w := by
  intro n
  induction n with
  | zero => intro k31 q2 v3 w h h31; cases h
  | succ n ih =>
    intro k31 q2 v3 w h h31
    refine run_sound (r := r) (X := X) (cc := cX8_fewestParts) (own := RX8) (tab := tX8_fewestParts) G (by rw [hn]; exact kX8_fewestParts) (oI := (oF [(mX9_knownByAny N), (mX4_allParts N), (mJ6_bitCount_0f7a4 N), (mX8_areLed N)])) (oL := (oF [])) (oV := (oF [])) (rI := (fun x w => some (x, w))) (rL := (fun _ _ => none)) (rV := (fun _ => none))
      (K := (fun j ls st w => if j = 6 then (lgR ls 2 fun kk q2 => if kk = 8 then lgI ls 3 fun v3 => st0 st (callW (fX8_fewestParts_6 N a1 n k31 q2 v3) w) else none) else if j = 31 then (lgR ls 2 fun kk q2 => if kk = 8 then st0 st (k31 q2 w) else none) else none)) (fun x w pc ls hx hd => hr x w pc ls (Option.some.inj hx) hd) (fun _ _ _ _ hx => by cases hx) (fun _ _ _ hx => by cases hx) hC (fun ls => lsb [some (.inr (.inr (12, 0))), some (.inl a1), none, none, none, none] 0 ls) (keepsP_of rfl) ?_ 62 6 [some (.inr (.inr (12, 0))), some (.inl a1), some (.inr (.inr (8, q2))), some (.inl v3), none, none] [] w ?_ h
    · intro j ls st w hfx h
      obtain ⟨e0, e1, -⟩ : _ = _ ∧ _ = _ ∧ True := hfx
      try dsimp only at h
      by_cases hj : j = 6
      · subst hj
        rw [if_pos rfl] at h
        obtain ⟨kk2, q2, e2, h_1⟩ := lgR_some h
        obtain ⟨rfl, h_2⟩ := if_some _ h_1
        obtain ⟨v3, e3, h_3⟩ := lgI_some h_2
        obtain ⟨rfl, h_4⟩ := st0_some h_3
        clear h h_1 h_2 h_3
        have h := h_4
        try rw [callW_eq] at h
        exact WW.le (a := [some (.inr (.inr (12, 0))), some (.inl a1), some (.inr (.inr (8, q2))), some (.inl v3), none, none]) (by rw [hn]; rfl) (show _ = _ ∧ _ = _ ∧ _ = _ ∧ _ = _ ∧ True from ⟨e0, e1, e2, e3, trivial⟩) (ih k31 q2 v3 w h h31)
      rw [if_neg hj] at h
      by_cases hj : j = 31
      · subst hj
        rw [if_pos rfl] at h
        obtain ⟨kk2, q2, e2, h_1⟩ := lgR_some h
        obtain ⟨rfl, h_2⟩ := if_some _ h_1
        obtain ⟨rfl, h_3⟩ := st0_some h_2
        clear h h_1 h_2
        have h := h_3
        try rw [callW_eq] at h
        exact WW.le (a := [some (.inr (.inr (12, 0))), some (.inl a1), some (.inr (.inr (8, q2))), none, none, none]) (by rw [hn]; rfl) (show _ = _ ∧ _ = _ ∧ _ = _ ∧ True from ⟨e0, e1, e2, trivial⟩) (h31 q2 w h)
      rw [if_neg hj] at h
      cases h
    · exact (show _ = _ ∧ _ = _ ∧ True from ⟨rfl, rfl, trivial⟩)
set_option maxRecDepth 100000 in
set_option maxHeartbeats 4000000 in
theorem crX8_fewestParts {N : Nat} {X : XT} (G : GX X cX8_fewestParts RX8) (hR : xR X = rmL 4) : CRs X tX8_fewestParts (oF [(mX9_knownByAny N), (mX4_allParts N), (mJ6_bitCount_0f7a4 N), (mX8_areLed N)]) (oF []) (oF []) := by
  have hl : tX8_fewestParts.filter isInv = [(41, .invokevirtual 82, 0, 0, 2, 0, 0, []), (68, .invokevirtual 86, 0, 1, 1, 0, 0, []), (76, .invokestatic 90, 0, 2, 1, 0, 0, []), (89, .invokevirtual 95, 0, 3, 4, 0, 0, []), (100, .invokestatic 90, 0, 2, 1, 0, 0, [])] := rfl
  intro e he
  rw [hl] at he
  simp only [List.mem_cons, List.not_mem_nil, or_false] at he
  rcases he with rfl | rfl | rfl | rfl | rfl
  · exact crI_V (idx := 82) G (by decide +kernel) (MX9_knownByAny N) (cw_of (ps := [1284, 1268, 1269, 158, 1270]) (by decide +kernel) (by decide +kernel)) ⟨by decide +kernel, by decide +kernel, by decide +kernel⟩ (by unfold rmOk; rw [hR]; exact ⟨by decide, by decide⟩)
  · exact crI_V (idx := 86) G (by decide +kernel) (MX4_allParts N) (cw_of (ps := [1285, 1046, 1047, 149, 1048]) (by decide +kernel) (by decide +kernel)) ⟨by decide +kernel, by decide +kernel, by decide +kernel⟩ (by unfold rmOk; rw [hR]; exact ⟨by decide, by decide⟩)
  · exact crI_S (idx := 90) G (by decide +kernel) (MJ6_bitCount_0f7a4 N) (cw_of (ps := [1286, 1071, 171, 1072]) (by decide +kernel) (by decide +kernel)) ⟨by decide +kernel, by decide +kernel, by decide +kernel⟩ (by unfold rmOk; rw [hR]; exact ⟨by decide, by decide⟩)
  · exact crI_V (idx := 95) G (by decide +kernel) (MX8_areLed N) (cw_of (ps := [1287, 1289, 56, 160, 1290]) (by decide +kernel) (by decide +kernel)) ⟨by decide +kernel, by decide +kernel, by decide +kernel⟩ (by unfold rmOk; rw [hR]; exact ⟨by decide, by decide⟩)
  · exact crI_S (idx := 90) G (by decide +kernel) (MJ6_bitCount_0f7a4 N) (cw_of (ps := [1286, 1071, 171, 1072]) (by decide +kernel) (by decide +kernel)) ⟨by decide +kernel, by decide +kernel, by decide +kernel⟩ (by unfold rmOk; rw [hR]; exact ⟨by decide, by decide⟩)
set_option maxRecDepth 100000 in
set_option maxHeartbeats 4000000 in
theorem MX8_fewestParts (N : Nat) : SndI yX8_fewestParts cX8_fewestParts 6 (some .int) 4 2 true (mX8_fewestParts N) := by
  refine SndI.of tX8_fewestParts (by decide +kernel) rfl rfl ?_ ?_
  · intro as w x h
    obtain ⟨t1, rfl, h_1⟩ := xS1_some h
    obtain ⟨a1, t2, rfl, h_2⟩ := xI1_some h_1
    obtain ⟨rfl, h_3⟩ := xN1_some h_2
    clear h h_1 h_2
    have h := h_3
    rw [callW_eq] at h
    exact ⟨fun _ => ⟨_, _, _, rfl, rfl, _, rfl, rfl⟩, rfl, Nat.le_of_ble_eq_true rfl⟩
  · intro X G hn hR as w r h hr
    have hC := crX8_fewestParts (N := N) G hR
    obtain ⟨t1, rfl, h_1⟩ := xS1_some h
    obtain ⟨a1, t2, rfl, h_2⟩ := xI1_some h_1
    obtain ⟨rfl, h_3⟩ := xN1_some h_2
    clear h h_1 h_2
    have h := h_3
    rw [callW_eq] at h
    refine run_sound (r := r) (X := X) (cc := cX8_fewestParts) (own := RX8) (tab := tX8_fewestParts) G (by rw [hn]; exact kX8_fewestParts) (oI := (oF [(mX9_knownByAny N), (mX4_allParts N), (mJ6_bitCount_0f7a4 N), (mX8_areLed N)])) (oL := (oF [])) (oV := (oF [])) (rI := (fun x w => some (x, w))) (rL := (fun _ _ => none)) (rV := (fun _ => none))
      (K := (fun j ls st w => if j = 6 then (lgR ls 2 fun kk q2 => if kk = 8 then lgI ls 3 fun v3 => st0 st (callW (fX8_fewestParts_6 N a1 N (fX8_fewestParts_31 N a1) q2 v3) w) else none) else none)) (fun x w pc ls hx hd => hr x w pc ls (Option.some.inj hx) hd) (fun _ _ _ _ hx => by cases hx) (fun _ _ _ hx => by cases hx) hC (fun ls => lsb [some (.inr (.inr (12, 0))), some (.inl a1), none, none, none, none] 0 ls) (keepsP_of rfl) ?_ 62 0 [some (.inr (.inr (12, 0))), some (.inl a1), none, none, none, none] [] w ?_ h
    · intro j ls st w hfx h
      obtain ⟨e0, e1, -⟩ : _ = _ ∧ _ = _ ∧ True := hfx
      try dsimp only at h
      by_cases hj : j = 6
      · subst hj
        rw [if_pos rfl] at h
        obtain ⟨kk2, q2, e2, h_1⟩ := lgR_some h
        obtain ⟨rfl, h_2⟩ := if_some _ h_1
        obtain ⟨v3, e3, h_3⟩ := lgI_some h_2
        obtain ⟨rfl, h_4⟩ := st0_some h_3
        clear h h_1 h_2 h_3
        have h := h_4
        try rw [callW_eq] at h
        exact WW.le (a := [some (.inr (.inr (12, 0))), some (.inl a1), some (.inr (.inr (8, q2))), some (.inl v3), none, none]) (by rw [hn]; rfl) (show _ = _ ∧ _ = _ ∧ _ = _ ∧ _ = _ ∧ True from ⟨e0, e1, e2, e3, trivial⟩) (sX8_fewestParts_6 G hn hC hr a1 N (fX8_fewestParts_31 N a1) q2 v3 w h (fun q2 w h => (sX8_fewestParts_31 G hn hC hr a1 q2 w h)))
      rw [if_neg hj] at h
      cases h
    · exact (show _ = _ ∧ _ = _ ∧ True from ⟨rfl, rfl, trivial⟩)
-- MoorGuides$Stand.addSlide(II)Z
def tX9_addSlide : List EN := [
  (0, .aload_n 0, 0, 0, 0, 0, 0, []), (1, .getfield 68, 0, 9, 7, 0, 0, []), (4, .bipush 12, 0, 0, 0, 12, 0, []), (6, .if_icmp .lt 5, 0, 6, 0, 0, 0, []),
  (9, .iconst 0, 0, 0, 0, 0, 0, []), (10, .ireturn, 0, 0, 0, 0, 0, []), (11, .aload_n 0, 0, 0, 0, 0, 0, []), (12, .getfield 23, 0, 9, 8, 0, 0, []),
  (15, .aload_n 0, 0, 0, 0, 0, 0, []), (16, .getfield 68, 0, 9, 7, 0, 0, []), (19, .iload_n 1, 0, 0, 0, 0, 0, []), (20, .iastore, 0, 0, 0, 0, 0, []),
  (21, .aload_n 0, 0, 0, 0, 0, 0, []), (22, .getfield 26, 0, 9, 9, 0, 0, []), (25, .aload_n 0, 0, 0, 0, 0, 0, []), (26, .getfield 68, 0, 9, 7, 0, 0, []),
  (29, .iload_n 2, 0, 0, 0, 0, 0, []), (30, .iastore, 0, 0, 0, 0, 0, []), (31, .aload_n 0, 0, 0, 0, 0, 0, []), (32, .dup, 0, 0, 0, 0, 0, []),
  (33, .getfield 68, 0, 9, 7, 0, 0, []), (36, .iconst 1, 0, 0, 0, 1, 0, []), (37, .iadd, 0, 0, 0, 0, 0, []), (38, .putfield 68, 0, 9, 7, 0, 0, []),
  (41, .iconst 1, 0, 0, 0, 1, 0, []), (42, .ireturn, 0, 0, 0, 0, 0, [])]
noncomputable def pX9_addSlide (N : Nat) (i0 : Nat) (a1 : Int32) (a2 : Int32) (w : Wd) : Option (Int32 × Wd) :=
  if (gI w 13 i0 7) < (12 : Int32) then
    (stI w 64 i0 (gI w 13 i0 7) 12 a1).bind fun w1 =>
    (stI w1 65 i0 (gI w1 13 i0 7) 12 a2).bind fun w2 =>
    some ((1 : Int32), (setI w2 13 i0 7 ((gI w2 13 i0 7) + (1 : Int32))))
  else
  some ((0 : Int32), w)
noncomputable def mX9_addSlide (N : Nat) (as : List AV) (w : Wd) : Option (Int32 × Wd) := xR1 13 as fun i0 t => xI1 t fun a1 t => xI1 t fun a2 t => xN1 t (callW (pX9_addSlide N i0 a1 a2) w)
set_option maxRecDepth 100000 in
set_option maxHeartbeats 4000000 in
theorem kX9_addSlide : TK cX9_addSlide RX9 3 tX9_addSlide := ⟨by decide +kernel, wok_of [538, 540, 538, 541, 538, 538, 538] (by decide +kernel) (by decide +kernel)⟩
set_option maxRecDepth 100000 in
set_option maxHeartbeats 4000000 in
theorem crX9_addSlide {N : Nat} {X : XT} (G : GX X cX9_addSlide RX9) (hR : xR X = rmL 1) : CRs X tX9_addSlide (oF []) (oF []) (oF []) := by
  have hl : tX9_addSlide.filter isInv = [] := rfl
  intro e he
  rw [hl] at he
  cases he
set_option maxRecDepth 100000 in
set_option maxHeartbeats 4000000 in
theorem MX9_addSlide (N : Nat) : SndI yX9_addSlide cX9_addSlide 3 (some .boolean) 1 3 true (mX9_addSlide N) := by
  refine SndI.ofZ tX9_addSlide (by decide +kernel) rfl rfl ?_ ?_
  · intro as w x h
    obtain ⟨i0, t1, rfl, h_1⟩ := xR1_some h
    obtain ⟨a1, t2, rfl, h_2⟩ := xI1_some h_1
    obtain ⟨a2, t3, rfl, h_3⟩ := xI1_some h_2
    obtain ⟨rfl, h_4⟩ := xN1_some h_3
    clear h h_1 h_2 h_3
    have h := h_4
    rw [callW_eq] at h
    exact ⟨fun _ => ⟨_, _, _, rfl, rfl, _, rfl, rfl⟩, rfl, Nat.le_of_ble_eq_true rfl⟩
  · intro X G hn hR as w r h hr
    have hC := crX9_addSlide (N := N) G hR
    obtain ⟨i0, t1, rfl, h_1⟩ := xR1_some h
    obtain ⟨a1, t2, rfl, h_2⟩ := xI1_some h_1
    obtain ⟨a2, t3, rfl, h_3⟩ := xI1_some h_2
    obtain ⟨rfl, h_4⟩ := xN1_some h_3
    clear h h_1 h_2 h_3
    have h := h_4
    rw [callW_eq] at h
    refine run_sound (r := r) (X := X) (cc := cX9_addSlide) (own := RX9) (tab := tX9_addSlide) G (by rw [hn]; exact kX9_addSlide) (oI := (oF [])) (oL := (oF [])) (oV := (oF [])) (rI := retZ) (rL := (fun _ _ => none)) (rV := (fun _ => none))
      (K := (fun j ls st w => none)) hr (fun _ _ _ _ hx => by cases hx) (fun _ _ _ hx => by cases hx) hC (fun ls => lsb [some (.inr (.inr (13, i0))), some (.inl a1), some (.inl a2)] 0 ls) (keepsP_of rfl) ?_ 28 0 [some (.inr (.inr (13, i0))), some (.inl a1), some (.inl a2)] [] w ?_ h
    · intro j ls st w hfx h
      obtain ⟨e0, e1, e2, -⟩ : _ = _ ∧ _ = _ ∧ _ = _ ∧ True := hfx
      try dsimp only at h
      cases h
    · exact (show _ = _ ∧ _ = _ ∧ _ = _ ∧ True from ⟨rfl, rfl, rfl, trivial⟩)
-- MoorGuides$Stand.begin(LMoorGuides$Moor;)V
def tX9_begin : List EN := [
  (0, .aload_n 0, 0, 0, 0, 0, 0, []), (1, .aload_n 1, 0, 0, 0, 0, 0, []), (2, .putfield 39, 0, 9, 0, 0, 0, []), (5, .aload_n 0, 0, 0, 0, 0, 0, []),
  (6, .iconst 0, 0, 0, 0, 0, 0, []), (7, .putfield 43, 0, 9, 1, 0, 0, []), (10, .aload_n 0, 0, 0, 0, 0, 0, []), (11, .aload_n 1, 0, 0, 0, 0, 0, []),
  (12, .getfield 47, 0, 4, 16, 0, 0, []), (15, .i2l, 0, 0, 0, 0, 0, []), (16, .putfield 52, 0, 9, 2, 0, 0, []), (19, .aload_n 0, 0, 0, 0, 0, 0, []),
  (20, .iconst 0, 0, 0, 0, 0, 0, []), (21, .putfield 56, 0, 9, 3, 0, 0, []), (24, .iconst 0, 0, 0, 0, 0, 0, []), (25, .istore_n 2, 0, 0, 0, 0, 0, []),
  (26, .iload_n 2, 17, 0, 0, 0, 0, []), (27, .bipush 6, 0, 0, 0, 6, 0, []), (29, .if_icmp .ge 67, 0, 57, 0, 0, 0, []), (32, .aload_n 0, 0, 0, 0, 0, 0, []),
  (33, .getfield 9, 0, 9, 4, 0, 0, []), (36, .iload_n 2, 0, 0, 0, 0, 0, []), (37, .iconst 0, 0, 0, 0, 0, 0, []), (38, .iastore, 0, 0, 0, 0, 0, []),
  (39, .aload_n 0, 0, 0, 0, 0, 0, []), (40, .getfield 20, 0, 9, 6, 0, 0, []), (43, .iload_n 2, 0, 0, 0, 0, 0, []), (44, .iconst (-1), 0, 0, 0, (-1), 0, []),
  (45, .iastore, 0, 0, 0, 0, 0, []), (46, .iconst 0, 0, 0, 0, 0, 0, []), (47, .istore_n 3, 0, 0, 0, 0, 0, []), (48, .iload_n 3, 32, 0, 0, 0, 0, []),
  (49, .bipush 8, 0, 0, 0, 8, 0, []), (51, .if_icmp .ge 39, 0, 55, 0, 0, 0, []), (54, .aload_n 0, 0, 0, 0, 0, 0, []), (55, .getfield 17, 0, 9, 5, 0, 0, []),
  (58, .iload_n 2, 0, 0, 0, 0, 0, []), (59, .aaload, 0, 0, 0, 0, 0, []), (60, .iload_n 3, 0, 0, 0, 0, 0, []), (61, .aload_n 1, 0, 0, 0, 0, 0, []),
  (62, .getfield 59, 0, 4, 4, 0, 0, []), (65, .getfield 63, 0, 6, 2, 0, 0, []), (68, .iload_n 2, 0, 0, 0, 0, 0, []), (69, .iaload, 0, 0, 0, 0, 0, []),
  (70, .iload_n 3, 0, 0, 0, 0, 0, []), (71, .ishr, 0, 0, 0, 0, 0, []), (72, .iconst 1, 0, 0, 0, 1, 0, []), (73, .iand, 0, 0, 0, 0, 0, []),
  (74, .ifCond .eq 7, 0, 51, 0, 0, 0, []), (77, .iconst (-1), 0, 0, 0, (-1), 0, []), (78, .goto 5, 0, 52, 0, 0, 0, []), (81, .bipush (-2), 0, 0, 0, (-2), 0, []),
  (83, .iastore, 0, 0, 0, 0, 0, []), (84, .iinc 3 1, 0, 0, 0, 1, 0, []), (87, .goto (-39), 0, 31, 0, 0, 0, []), (90, .iinc 2 1, 56, 0, 0, 1, 0, []),
  (93, .goto (-67), 0, 16, 0, 0, 0, []), (96, .aload_n 0, 58, 0, 0, 0, 0, []), (97, .iconst 0, 0, 0, 0, 0, 0, []), (98, .putfield 68, 0, 9, 7, 0, 0, []),
  (101, .iconst 0, 0, 0, 0, 0, 0, []), (102, .istore_n 2, 0, 0, 0, 0, 0, []), (103, .iload_n 2, 63, 0, 0, 0, 0, []), (104, .aload_n 1, 0, 0, 0, 0, 0, []),
  (105, .getfield 71, 0, 4, 12, 0, 0, []), (108, .if_icmp .ge 26, 0, 79, 0, 0, 0, []), (111, .aload_n 0, 0, 0, 0, 0, 0, []), (112, .aload_n 1, 0, 0, 0, 0, 0, []),
  (113, .getfield 72, 0, 4, 13, 0, 0, []), (116, .iload_n 2, 0, 0, 0, 0, 0, []), (117, .iaload, 0, 0, 0, 0, 0, []), (118, .aload_n 1, 0, 0, 0, 0, 0, []),
  (119, .getfield 73, 0, 4, 14, 0, 0, []), (122, .iload_n 2, 0, 0, 0, 0, 0, []), (123, .iaload, 0, 0, 0, 0, 0, []), (124, .invokevirtual 74, 0, 0, 3, 0, 0, []),
  (127, .pop, 0, 0, 0, 0, 0, []), (128, .iinc 2 1, 0, 0, 0, 1, 0, []), (131, .goto (-28), 0, 62, 0, 0, 0, []), (134, .return_, 0, 0, 0, 0, 0, [])]
noncomputable def fX9_begin_62 (N : Nat) (i0 : Nat) (i1 : Nat) : Nat → Int32 → Wd → Option (Wd)
  | 0, _, _ => none
  | n + 1, v2, w =>
    if v2 < (gI w 8 i1 12) then
      (ldI w 38 i1 v2 4).bind fun x1 =>
      (ldI w 39 i1 v2 4).bind fun x2 =>
      (callW (pX9_addSlide N i0 x1 x2) w).bind fun r3 =>
      callW (fX9_begin_62 N i0 i1 n (v2 + (1 : Int32))) r3.2
    else
    some w
noncomputable def fX9_begin_57 (N : Nat) (i0 : Nat) (i1 : Nat) (w : Wd) : Option (Wd) :=
  callW (fX9_begin_62 N i0 i1 N (0 : Int32)) (setI w 13 i0 7 (0 : Int32))
noncomputable def fX9_begin_55 (N : Nat) (i0 : Nat) (i1 : Nat) (k16 : Int32 → Wd → Option (Wd)) (v2 : Int32) (w : Wd) : Option (Wd) :=
  k16 (v2 + (1 : Int32)) w
noncomputable def fX9_begin_31 (N : Nat) (i0 : Nat) (i1 : Nat) : Nat → (Int32 → Wd → Option (Wd)) → Int32 → Int32 → Wd → Option (Wd)
  | 0, _, _, _, _ => none
  | n + 1, k55, v2, v3, w =>
    if v3 < (8 : Int32) then
      (ldR v2 6 i0).bind fun q1 =>
      (ldI w 49 i1 v2 6).bind fun x2 =>
      if ((x2 >>> (v3 &&& (31 : Int32))) &&& (1 : Int32)) = 0 then
        (stI w 62 q1 v3 8 (-2 : Int32)).bind fun w3 =>
        callW (fX9_begin_31 N i0 i1 n k55 v2 (v3 + (1 : Int32))) w3
      else
      (stI w 62 q1 v3 8 (-1 : Int32)).bind fun w4 =>
      callW (fX9_begin_31 N i0 i1 n k55 v2 (v3 + (1 : Int32))) w4
    else
    k55 v2 w
noncomputable def fX9_begin_16 (N : Nat) (i0 : Nat) (i1 : Nat) : Nat → (Wd → Option (Wd)) → Int32 → Wd → Option (Wd)
  | 0, _, _, _ => none
  | n + 1, k57, v2, w =>
    if v2 < (6 : Int32) then
      (stI w 60 i0 v2 6 (0 : Int32)).bind fun w1 =>
      (stI w1 63 i0 v2 6 (-1 : Int32)).bind fun w2 =>
      callW (fX9_begin_31 N i0 i1 N (fX9_begin_55 N i0 i1 (fX9_begin_16 N i0 i1 n k57)) v2 (0 : Int32)) w2
    else
    k57 w
noncomputable def pX9_begin (N : Nat) (i0 : Nat) (i1 : Nat) (w : Wd) : Option (Wd) :=
  callW (fX9_begin_16 N i0 i1 N (fX9_begin_57 N i0 i1) (0 : Int32)) (setI (setL (setI (setR w 13 i0 0 i1) 13 i0 1 (0 : Int32)) 13 i0 2 (gI (setI (setR w 13 i0 0 i1) 13 i0 1 (0 : Int32)) 8 i1 16).toInt64) 13 i0 3 (0 : Int32))
noncomputable def mX9_begin (N : Nat) (as : List AV) (w : Wd) : Option (Wd) := xR1 13 as fun i0 t => xR1 8 t fun i1 t => xN1 t (callW (pX9_begin N i0 i1) w)
set_option maxRecDepth 100000 in
set_option maxHeartbeats 4000000 in
theorem kX9_begin : TK cX9_begin RX9 4 tX9_begin := ⟨by decide +kernel, wok_of [516, 521, 315, 525, 527, 530, 535, 534, 279, 204, 538, 306, 309, 311] (by decide +kernel) (by decide +kernel)⟩
set_option maxRecDepth 100000 in
set_option maxHeartbeats 4000000 in
theorem sX9_begin_62 {N : Nat} {X : XT} (G : GX X cX9_begin RX9) (hn : xnL X = 4) (hC : CRs X tX9_begin (oF [(mX9_addSlide N)]) (oF []) (oF [])) {r : Wd} (hr : RTV X cX9_begin r) (i0 : Nat) (i1 : Nat) : ∀ (n : Nat) (v2 : Int32) (w : Wd), fX9_begin_62 N i0 i1 n v2 w = some r → WW X (pcAt tX9_begin 62) [some (.inr (.inr (13, i0))), some (.inr (.inr (8, i1))), some (.inl v2), none] [] w := by
  intro n
  induction n with
  | zero => intro v2 w h; cases h
  | succ n ih =>
    intro v2 w h
    refine run_sound (r := r) (X := X) (cc := cX9_begin) (own := RX9) (tab := tX9_begin) G (by rw [hn]; exact kX9_begin) (oI := (oF [(mX9_addSlide N)])) (oL := (oF [])) (oV := (oF [])) (rI := (fun _ _ => none)) (rL := (fun _ _ => none)) (rV := (fun w => some w))
      (K := (fun j ls st w => if j = 62 then (lgI ls 2 fun v2 => st0 st (callW (fX9_begin_62 N i0 i1 n v2) w)) else none)) (fun _ _ _ _ hx => by cases hx) (fun _ _ _ _ hx => by cases hx) (fun w pc ls hx hd => hr w pc ls (Option.some.inj hx) hd) hC (fun ls => lsb [some (.inr (.inr (13, i0))), some (.inr (.inr (8, i1))), none, none] 0 ls) (keepsP_of rfl) ?_ 82 62 [some (.inr (.inr (13, i0))), some (.inr (.inr (8, i1))), some (.inl v2), none] [] w ?_ h
    · intro j ls st w hfx h
      obtain ⟨e0, e1, -⟩ : _ = _ ∧ _ = _ ∧ True := hfx
      try dsimp only at h
      by_cases hj : j = 62
      · subst hj
        rw [if_pos rfl] at h
        obtain ⟨v2, e2, h_1⟩ := lgI_some h
        obtain ⟨rfl, h_2⟩ := st0_some h_1
        clear h h_1
        have h := h_2
        try rw [callW_eq] at h
        exact WW.le (a := [some (.inr (.inr (13, i0))), some (.inr (.inr (8, i1))), some (.inl v2), none]) (by rw [hn]; rfl) (show _ = _ ∧ _ = _ ∧ _ = _ ∧ True from ⟨e0, e1, e2, trivial⟩) (ih v2 w h)
      rw [if_neg hj] at h
      cases h
    · exact (show _ = _ ∧ _ = _ ∧ True from ⟨rfl, rfl, trivial⟩)
set_option maxRecDepth 100000 in
set_option maxHeartbeats 4000000 in
theorem sX9_begin_57 {N : Nat} {X : XT} (G : GX X cX9_begin RX9) (hn : xnL X = 4) (hC : CRs X tX9_begin (oF [(mX9_addSlide N)]) (oF []) (oF [])) {r : Wd} (hr : RTV X cX9_begin r) (i0 : Nat) (i1 : Nat) : ∀ (w : Wd), fX9_begin_57 N i0 i1 w = some r → WW X (pcAt tX9_begin 57) [some (.inr (.inr (13, i0))), some (.inr (.inr (8, i1))), none, none] [] w := by
  intro w h
  refine run_sound (r := r) (X := X) (cc := cX9_begin) (own := RX9) (tab := tX9_begin) G (by rw [hn]; exact kX9_begin) (oI := (oF [(mX9_addSlide N)])) (oL := (oF [])) (oV := (oF [])) (rI := (fun _ _ => none)) (rL := (fun _ _ => none)) (rV := (fun w => some w))
    (K := (fun j ls st w => if j = 62 then (lgI ls 2 fun v2 => st0 st (callW (fX9_begin_62 N i0 i1 N v2) w)) else none)) (fun _ _ _ _ hx => by cases hx) (fun _ _ _ _ hx => by cases hx) (fun w pc ls hx hd => hr w pc ls (Option.some.inj hx) hd) hC (fun ls => lsb [some (.inr (.inr (13, i0))), some (.inr (.inr (8, i1))), none, none] 0 ls) (keepsP_of rfl) ?_ 82 57 [some (.inr (.inr (13, i0))), some (.inr (.inr (8, i1))), none, none] [] w ?_ h
  · intro j ls st w hfx h
    obtain ⟨e0, e1, -⟩ : _ = _ ∧ _ = _ ∧ True := hfx
    try dsimp only at h
    by_cases hj : j = 62
    · subst hj
      rw [if_pos rfl] at h
      obtain ⟨v2, e2, h_1⟩ := lgI_some h
      obtain ⟨rfl, h_2⟩ := st0_some h_1
      clear h h_1
      have h := h_2
      try rw [callW_eq] at h
      exact WW.le (a := [some (.inr (.inr (13, i0))), some (.inr (.inr (8, i1))), some (.inl v2), none]) (by rw [hn]; rfl) (show _ = _ ∧ _ = _ ∧ _ = _ ∧ True from ⟨e0, e1, e2, trivial⟩) (sX9_begin_62 G hn hC hr i0 i1 N v2 w h)
    rw [if_neg hj] at h
    cases h
  · exact (show _ = _ ∧ _ = _ ∧ True from ⟨rfl, rfl, trivial⟩)
set_option maxRecDepth 100000 in
set_option maxHeartbeats 4000000 in
theorem sX9_begin_55 {N : Nat} {X : XT} (G : GX X cX9_begin RX9) (hn : xnL X = 4) (hC : CRs X tX9_begin (oF [(mX9_addSlide N)]) (oF []) (oF [])) {r : Wd} (hr : RTV X cX9_begin r) (i0 : Nat) (i1 : Nat) : ∀ (k16 : Int32 → Wd → Option (Wd)) (v2 : Int32) (w : Wd), fX9_begin_55 N i0 i1 k16 v2 w = some r → (∀ (v2 : Int32) (w : Wd), k16 v2 w = some r → WW X (pcAt tX9_begin 16) [some (.inr (.inr (13, i0))), some (.inr (.inr (8, i1))), some (.inl v2), none] [] w) → WW X (pcAt tX9_begin 55) [some (.inr (.inr (13, i0))), some (.inr (.inr (8, i1))), some (.inl v2), none] [] w := by
  intro k16 v2 w h h16
  refine run_sound (r := r) (X := X) (cc := cX9_begin) (own := RX9) (tab := tX9_begin) G (by rw [hn]; exact kX9_begin) (oI := (oF [(mX9_addSlide N)])) (oL := (oF [])) (oV := (oF [])) (rI := (fun _ _ => none)) (rL := (fun _ _ => none)) (rV := (fun w => some w))
    (K := (fun j ls st w => if j = 16 then (lgI ls 2 fun v2 => st0 st (k16 v2 w)) else none)) (fun _ _ _ _ hx => by cases hx) (fun _ _ _ _ hx => by cases hx) (fun w pc ls hx hd => hr w pc ls (Option.some.inj hx) hd) hC (fun ls => lsb [some (.inr (.inr (13, i0))), some (.inr (.inr (8, i1))), none, none] 0 ls) (keepsP_of rfl) ?_ 82 55 [some (.inr (.inr (13, i0))), some (.inr (.inr (8, i1))), some (.inl v2), none] [] w ?_ h
  · intro j ls st w hfx h
    obtain ⟨e0, e1, -⟩ : _ = _ ∧ _ = _ ∧ True := hfx
    try dsimp only at h
    by_cases hj : j = 16
    · subst hj
      rw [if_pos rfl] at h
      obtain ⟨v2, e2, h_1⟩ := lgI_some h
      obtain ⟨rfl, h_2⟩ := st0_some h_1
      clear h h_1
      have h := h_2
      try rw [callW_eq] at h
      exact WW.le (a := [some (.inr (.inr (13, i0))), some (.inr (.inr (8, i1))), some (.inl v2), none]) (by rw [hn]; rfl) (show _ = _ ∧ _ = _ ∧ _ = _ ∧ True from ⟨e0, e1, e2, trivial⟩) (h16 v2 w h)
    rw [if_neg hj] at h
    cases h
  · exact (show _ = _ ∧ _ = _ ∧ True from ⟨rfl, rfl, trivial⟩)
set_option maxRecDepth 100000 in
set_option maxHeartbeats 4000000 in
theorem sX9_begin_31 {N : Nat} {X : XT} (G : GX X cX9_begin RX9) (hn : xnL X = 4) (hC : CRs X tX9_begin (oF [(mX9_addSlide N)]) (oF []) (oF [])) {r : Wd} (hr : RTV X cX9_begin r) (i0 : Nat) (i1 : Nat) : ∀ (n : Nat) (k55 : Int32 → Wd → Option (Wd)) (v2 : Int32) (v3 : Int32) (w : Wd), fX9_begin_31 N i0 i1 n k55 v2 v3 w = some r → (∀ (v2 : Int32) (w : Wd), k55 v2 w = some r → WW X (pcAt tX9_begin 55) [some (.inr (.inr (13, i0))), some (.inr (.inr (8, i1))), some (.inl v2), none] [] w) → WW X (pcAt tX9_begin 31) [some (.inr (.inr (13, i0))), some (.inr (.inr (8, i1))), some (.inl v2), some (.inl v3)] [] w := by
  intro n
  induction n with
  | zero => intro k55 v2 v3 w h h55; cases h
  | succ n ih =>
    intro k55 v2 v3 w h h55
    refine run_sound (r := r) (X := X) (cc := cX9_begin) (own := RX9) (tab := tX9_begin) G (by rw [hn]; exact kX9_begin) (oI := (oF [(mX9_addSlide N)])) (oL := (oF [])) (oV := (oF [])) (rI := (fun _ _ => none)) (rL := (fun _ _ => none)) (rV := (fun w => some w))
      (K := (fun j ls st w => if j = 31 then (lgI ls 2 fun v2 => lgI ls 3 fun v3 => st0 st (callW (fX9_begin_31 N i0 i1 n k55 v2 v3) w)) else if j = 55 then (lgI ls 2 fun v2 => st0 st (k55 v2 w)) else none)) (fun _ _ _ _ hx => by cases hx) (fun _ _ _ _ hx => by cases hx) (fun w pc ls hx hd => hr w pc ls (Option.some.inj hx) hd) hC (fun ls => lsb [some (.inr (.inr (13, i0))), some (.inr (.inr (8, i1))), none, none] 0 ls) (keepsP_of rfl) ?_ 82 31 [some (.inr (.inr (13, i0))), some (.inr (.inr (8, i1))), some (.inl v2), some (.inl v3)] [] w ?_ h
    · intro j ls st w hfx h
      obtain ⟨e0, e1, -⟩ : _ = _ ∧ _ = _ ∧ True := hfx
      try dsimp only at h
      by_cases hj : j = 31
      · subst hj
        rw [if_pos rfl] at h
        obtain ⟨v2, e2, h_1⟩ := lgI_some h
        obtain ⟨v3, e3, h_2⟩ := lgI_some h_1
        obtain ⟨rfl, h_3⟩ := st0_some h_2
        clear h h_1 h_2
        have h := h_3
        try rw [callW_eq] at h
        exact WW.le (a := [some (.inr (.inr (13, i0))), some (.inr (.inr (8, i1))), some (.inl v2), some (.inl v3)]) (by rw [hn]; rfl) (show _ = _ ∧ _ = _ ∧ _ = _ ∧ _ = _ ∧ True from ⟨e0, e1, e2, e3, trivial⟩) (ih k55 v2 v3 w h h55)
      rw [if_neg hj] at h
      by_cases hj : j = 55
      · subst hj
        rw [if_pos rfl] at h
        obtain ⟨v2, e2, h_1⟩ := lgI_some h
        obtain ⟨rfl, h_2⟩ := st0_some h_1
        clear h h_1
        have h := h_2
        try rw [callW_eq] at h
        exact WW.le (a := [some (.inr (.inr (13, i0))), some (.inr (.inr (8, i1))), some (.inl v2), none]) (by rw [hn]; rfl) (show _ = _ ∧ _ = _ ∧ _ = _ ∧ True from ⟨e0, e1, e2, trivial⟩) (h55 v2 w h)
      rw [if_neg hj] at h
      cases h
    · exact (show _ = _ ∧ _ = _ ∧ True from ⟨rfl, rfl, trivial⟩)
set_option maxRecDepth 100000 in
set_option maxHeartbeats 4000000 in
theorem sX9_begin_16 {N : Nat} {X : XT} (G : GX X cX9_begin RX9) (hn : xnL X = 4) (hC : CRs X tX9_begin (oF [(mX9_addSlide N)]) (oF []) (oF [])) {r : Wd} (hr : RTV X cX9_begin r) (i0 : Nat) (i1 : Nat) : ∀ (n : Nat) (k57 : Wd → Option (Wd)) (v2 : Int32) (w : Wd), fX9_begin_16 N i0 i1 n k57 v2 w = some r → (∀ (w : Wd), k57 w = some r → WW X (pcAt tX9_begin 57) [some (.inr (.inr (13, i0))), some (.inr (.inr (8, i1))), none, none] [] w) → WW X (pcAt tX9_begin 16) [some (.inr (.inr (13, i0))), some (.inr (.inr (8, i1))), some (.inl v2), none] [] w := by
  intro n
  induction n with
  | zero => intro k57 v2 w h h57; cases h
  | succ n ih =>
    intro k57 v2 w h h57
    refine run_sound (r := r) (X := X) (cc := cX9_begin) (own := RX9) (tab := tX9_begin) G (by rw [hn]; exact kX9_begin) (oI := (oF [(mX9_addSlide N)])) (oL := (oF [])) (oV := (oF [])) (rI := (fun _ _ => none)) (rL := (fun _ _ => none)) (rV := (fun w => some w))
      (K := (fun j ls st w => if j = 31 then (lgI ls 2 fun v2 => lgI ls 3 fun v3 => st0 st (callW (fX9_begin_31 N i0 i1 N (fX9_begin_55 N i0 i1 (fX9_begin_16 N i0 i1 n k57)) v2 v3) w)) else if j = 57 then (st0 st (k57 w)) else none)) (fun _ _ _ _ hx => by cases hx) (fun _ _ _ _ hx => by cases hx) (fun w pc ls hx hd => hr w pc ls (Option.some.inj hx) hd) hC (fun ls => lsb [some (.inr (.inr (13, i0))), some (.inr (.inr (8, i1))), none, none] 0 ls) (keepsP_of rfl) ?_ 82 16 [some (.inr (.inr (13, i0))), some (.inr (.inr (8, i1))), some (.inl v2), none] [] w ?_ h
    · intro j ls st w hfx h
      obtain ⟨e0, e1, -⟩ : _ = _ ∧ _ = _ ∧ True := hfx
      try dsimp only at h
      by_cases hj : j = 31
      · subst hj
        rw [if_pos rfl] at h
        obtain ⟨v2, e2, h_1⟩ := lgI_some h
        obtain ⟨v3, e3, h_2⟩ := lgI_some h_1
        obtain ⟨rfl, h_3⟩ := st0_some h_2
        clear h h_1 h_2
        have h := h_3
        try rw [callW_eq] at h
        exact WW.le (a := [some (.inr (.inr (13, i0))), some (.inr (.inr (8, i1))), some (.inl v2), some (.inl v3)]) (by rw [hn]; rfl) (show _ = _ ∧ _ = _ ∧ _ = _ ∧ _ = _ ∧ True from ⟨e0, e1, e2, e3, trivial⟩) (sX9_begin_31 G hn hC hr i0 i1 N (fX9_begin_55 N i0 i1 (fX9_begin_16 N i0 i1 n k57)) v2 v3 w h (fun v2 w h => (sX9_begin_55 G hn hC hr i0 i1 (fX9_begin_16 N i0 i1 n k57) v2 w h (fun v2 w h => (ih k57 v2 w h h57)))))
      rw [if_neg hj] at h
      by_cases hj : j = 57
      · subst hj
        rw [if_pos rfl] at h
        obtain ⟨rfl, h_1⟩ := st0_some h
        clear h
        have h := h_1
        try rw [callW_eq] at h
        exact WW.le (a := [some (.inr (.inr (13, i0))), some (.inr (.inr (8, i1))), none, none]) (by rw [hn]; rfl) (show _ = _ ∧ _ = _ ∧ True from ⟨e0, e1, trivial⟩) (h57 w h)
      rw [if_neg hj] at h
      cases h
    · exact (show _ = _ ∧ _ = _ ∧ True from ⟨rfl, rfl, trivial⟩)
set_option maxRecDepth 100000 in
set_option maxHeartbeats 4000000 in
theorem crX9_begin {N : Nat} {X : XT} (G : GX X cX9_begin RX9) (hR : xR X = rmL 2) : CRs X tX9_begin (oF [(mX9_addSlide N)]) (oF []) (oF []) := by
  have hl : tX9_begin.filter isInv = [(124, .invokevirtual 74, 0, 0, 3, 0, 0, [])] := rfl
  intro e he
  rw [hl] at he
  simp only [List.mem_cons, List.not_mem_nil, or_false] at he
  rcases he with rfl
  · exact crI_V (idx := 74) G (by decide +kernel) (MX9_addSlide N) (cw_of (ps := [512, 513, 514, 158, 515]) (by decide +kernel) (by decide +kernel)) ⟨by decide +kernel, by decide +kernel, by decide +kernel⟩ (by unfold rmOk; rw [hR]; exact ⟨by decide, by decide⟩)
set_option maxRecDepth 100000 in
set_option maxHeartbeats 4000000 in
theorem MX9_begin (N : Nat) : SndV yX9_begin cX9_begin 4 none 2 2 true (mX9_begin N) := by
  refine SndV.of tX9_begin (by decide +kernel) rfl rfl ?_ ?_
  · intro as w x h
    obtain ⟨i0, t1, rfl, h_1⟩ := xR1_some h
    obtain ⟨i1, t2, rfl, h_2⟩ := xR1_some h_1
    obtain ⟨rfl, h_3⟩ := xN1_some h_2
    clear h h_1 h_2
    have h := h_3
    rw [callW_eq] at h
    exact ⟨fun _ => ⟨_, _, _, rfl, rfl, _, rfl, rfl⟩, rfl, Nat.le_of_ble_eq_true rfl⟩
  · intro X G hn hR as w r h hr
    have hC := crX9_begin (N := N) G hR
    obtain ⟨i0, t1, rfl, h_1⟩ := xR1_some h
    obtain ⟨i1, t2, rfl, h_2⟩ := xR1_some h_1
    obtain ⟨rfl, h_3⟩ := xN1_some h_2
    clear h h_1 h_2
    have h := h_3
    rw [callW_eq] at h
    refine run_sound (r := r) (X := X) (cc := cX9_begin) (own := RX9) (tab := tX9_begin) G (by rw [hn]; exact kX9_begin) (oI := (oF [(mX9_addSlide N)])) (oL := (oF [])) (oV := (oF [])) (rI := (fun _ _ => none)) (rL := (fun _ _ => none)) (rV := (fun w => some w))
      (K := (fun j ls st w => if j = 16 then (lgI ls 2 fun v2 => st0 st (callW (fX9_begin_16 N i0 i1 N (fX9_begin_57 N i0 i1) v2) w)) else none)) (fun _ _ _ _ hx => by cases hx) (fun _ _ _ _ hx => by cases hx) (fun w pc ls hx hd => hr w pc ls (Option.some.inj hx) hd) hC (fun ls => lsb [some (.inr (.inr (13, i0))), some (.inr (.inr (8, i1))), none, none] 0 ls) (keepsP_of rfl) ?_ 82 0 [some (.inr (.inr (13, i0))), some (.inr (.inr (8, i1))), none, none] [] w ?_ h
    · intro j ls st w hfx h
      obtain ⟨e0, e1, -⟩ : _ = _ ∧ _ = _ ∧ True := hfx
      try dsimp only at h
      by_cases hj : j = 16
      · subst hj
        rw [if_pos rfl] at h
        obtain ⟨v2, e2, h_1⟩ := lgI_some h
        obtain ⟨rfl, h_2⟩ := st0_some h_1
        clear h h_1
        have h := h_2
        try rw [callW_eq] at h
        exact WW.le (a := [some (.inr (.inr (13, i0))), some (.inr (.inr (8, i1))), some (.inl v2), none]) (by rw [hn]; rfl) (show _ = _ ∧ _ = _ ∧ _ = _ ∧ True from ⟨e0, e1, e2, trivial⟩) (sX9_begin_16 G hn hC hr i0 i1 N (fX9_begin_57 N i0 i1) v2 w h (fun w h => (sX9_begin_57 G hn hC hr i0 i1 w h)))
      rw [if_neg hj] at h
      cases h
    · exact (show _ = _ ∧ _ = _ ∧ True from ⟨rfl, rfl, trivial⟩)
-- MoorGuides$Stand.knowers(I)I
def tX9_knowers : List EN := [
  (0, .iconst 0, 0, 0, 0, 0, 0, []), (1, .istore_n 2, 0, 0, 0, 0, 0, []), (2, .iconst 0, 0, 0, 0, 0, 0, []), (3, .istore_n 3, 0, 0, 0, 0, 0, []),
  (4, .iload_n 3, 5, 0, 0, 0, 0, []), (5, .aload_n 0, 0, 0, 0, 0, 0, []), (6, .getfield 39, 0, 9, 0, 0, 0, []), (9, .getfield 59, 0, 4, 4, 0, 0, []),
  (12, .getfield 99, 0, 6, 0, 0, 0, []), (15, .if_icmp .ge 25, 0, 24, 0, 0, 0, []), (18, .iload_n 2, 0, 0, 0, 0, 0, []), (19, .aload_n 0, 0, 0, 0, 0, 0, []),
  (20, .iload_n 3, 0, 0, 0, 0, 0, []), (21, .aload_n 0, 0, 0, 0, 0, 0, []), (22, .getfield 43, 0, 9, 1, 0, 0, []), (25, .invokevirtual 102, 0, 0, 3, 0, 0, []),
  (28, .iload_n 1, 0, 0, 0, 0, 0, []), (29, .ishr, 0, 0, 0, 0, 0, []), (30, .iconst 1, 0, 0, 0, 1, 0, []), (31, .iand, 0, 0, 0, 0, 0, []),
  (32, .iadd, 0, 0, 0, 0, 0, []), (33, .istore_n 2, 0, 0, 0, 0, 0, []), (34, .iinc 3 1, 0, 0, 0, 1, 0, []), (37, .goto (-33), 0, 4, 0, 0, 0, []),
  (40, .iload_n 2, 0, 0, 0, 0, 0, []), (41, .ireturn, 0, 0, 0, 0, 0, [])]
noncomputable def fX9_knowers_4 (N : Nat) (i0 : Nat) (a1 : Int32) : Nat → Int32 → Int32 → Wd → Option (Int32 × Wd)
  | 0, _, _, _ => none
  | n + 1, v2, v3, w =>
    if v3 < (gI w 10 (gR w 13 i0 0) 0) then
      (callW (pX9_knownBits N i0 v3 (gI w 13 i0 1)) w).bind fun r1 =>
      callW (fX9_knowers_4 N i0 a1 n (v2 + ((r1.1 >>> (a1 &&& (31 : Int32))) &&& (1 : Int32))) (v3 + (1 : Int32))) r1.2
    else
    some (v2, w)
noncomputable def pX9_knowers (N : Nat) (i0 : Nat) (a1 : Int32) (w : Wd) : Option (Int32 × Wd) :=
  callW (fX9_knowers_4 N i0 a1 N (0 : Int32) (0 : Int32)) w
noncomputable def mX9_knowers (N : Nat) (as : List AV) (w : Wd) : Option (Int32 × Wd) := xR1 13 as fun i0 t => xI1 t fun a1 t => xN1 t (callW (pX9_knowers N i0 a1) w)
set_option maxRecDepth 100000 in
set_option maxHeartbeats 4000000 in
theorem kX9_knowers : TK cX9_knowers RX9 4 tX9_knowers := ⟨by decide +kernel, wok_of [516, 279, 199, 521] (by decide +kernel) (by decide +kernel)⟩
set_option maxRecDepth 100000 in
set_option maxHeartbeats 4000000 in
theorem sX9_knowers_4 {N : Nat} {X : XT} (G : GX X cX9_knowers RX9) (hn : xnL X = 4) (hC : CRs X tX9_knowers (oF [(mX9_knownBits N)]) (oF []) (oF [])) {r : Int32 × Wd} (hr : RTI X cX9_knowers r) (i0 : Nat) (a1 : Int32) : ∀ (n : Nat) (v2 : Int32) (v3 : Int32) (w : Wd), fX9_knowers_4 N i0 a1 n v2 v3 w = some r → WW X (pcAt tX9_knowers 4) [some (.inr (.inr (13, i0))), some (.inl a1), some (.inl v2), some (.inl v3)] [] w := by
  intro n
  induction n with
  | zero => intro v2 v3 w h; cases h
  | succ n ih =>
    intro v2 v3 w h
    refine run_sound (r := r) (X := X) (cc := cX9_knowers) (own := RX9) (tab := tX9_knowers) G (by rw [hn]; exact kX9_knowers) (oI := (oF [(mX9_knownBits N)])) (oL := (oF [])) (oV := (oF [])) (rI := (fun x w => some (x, w))) (rL := (fun _ _ => none)) (rV := (fun _ => none))
      (K := (fun j ls st w => if j = 4 then (lgI ls 2 fun v2 => lgI ls 3 fun v3 => st0 st (callW (fX9_knowers_4 N i0 a1 n v2 v3) w)) else none)) (fun x w pc ls hx hd => hr x w pc ls (Option.some.inj hx) hd) (fun _ _ _ _ hx => by cases hx) (fun _ _ _ hx => by cases hx) hC (fun ls => lsb [some (.inr (.inr (13, i0))), some (.inl a1), none, none] 0 ls) (keepsP_of rfl) ?_ 28 4 [some (.inr (.inr (13, i0))), some (.inl a1), some (.inl v2), some (.inl v3)] [] w ?_ h
    · intro j ls st w hfx h
      obtain ⟨e0, e1, -⟩ : _ = _ ∧ _ = _ ∧ True := hfx
      try dsimp only at h
      by_cases hj : j = 4
      · subst hj
        rw [if_pos rfl] at h
        obtain ⟨v2, e2, h_1⟩ := lgI_some h
        obtain ⟨v3, e3, h_2⟩ := lgI_some h_1
        obtain ⟨rfl, h_3⟩ := st0_some h_2
        clear h h_1 h_2
        have h := h_3
        try rw [callW_eq] at h
        exact WW.le (a := [some (.inr (.inr (13, i0))), some (.inl a1), some (.inl v2), some (.inl v3)]) (by rw [hn]; rfl) (show _ = _ ∧ _ = _ ∧ _ = _ ∧ _ = _ ∧ True from ⟨e0, e1, e2, e3, trivial⟩) (ih v2 v3 w h)
      rw [if_neg hj] at h
      cases h
    · exact (show _ = _ ∧ _ = _ ∧ True from ⟨rfl, rfl, trivial⟩)
set_option maxRecDepth 100000 in
set_option maxHeartbeats 4000000 in
theorem crX9_knowers {N : Nat} {X : XT} (G : GX X cX9_knowers RX9) (hR : xR X = rmL 3) : CRs X tX9_knowers (oF [(mX9_knownBits N)]) (oF []) (oF []) := by
  have hl : tX9_knowers.filter isInv = [(25, .invokevirtual 102, 0, 0, 3, 0, 0, [])] := rfl
  intro e he
  rw [hl] at he
  simp only [List.mem_cons, List.not_mem_nil, or_false] at he
  rcases he with rfl
  · exact crI_V (idx := 102) G (by decide +kernel) (MX9_knownBits N) (cw_of (ps := [1021, 1022, 1023, 158, 1024]) (by decide +kernel) (by decide +kernel)) ⟨by decide +kernel, by decide +kernel, by decide +kernel⟩ (by unfold rmOk; rw [hR]; exact ⟨by decide, by decide⟩)
set_option maxRecDepth 100000 in
set_option maxHeartbeats 4000000 in
theorem MX9_knowers (N : Nat) : SndI yX9_knowers cX9_knowers 4 (some .int) 3 2 true (mX9_knowers N) := by
  refine SndI.of tX9_knowers (by decide +kernel) rfl rfl ?_ ?_
  · intro as w x h
    obtain ⟨i0, t1, rfl, h_1⟩ := xR1_some h
    obtain ⟨a1, t2, rfl, h_2⟩ := xI1_some h_1
    obtain ⟨rfl, h_3⟩ := xN1_some h_2
    clear h h_1 h_2
    have h := h_3
    rw [callW_eq] at h
    exact ⟨fun _ => ⟨_, _, _, rfl, rfl, _, rfl, rfl⟩, rfl, Nat.le_of_ble_eq_true rfl⟩
  · intro X G hn hR as w r h hr
    have hC := crX9_knowers (N := N) G hR
    obtain ⟨i0, t1, rfl, h_1⟩ := xR1_some h
    obtain ⟨a1, t2, rfl, h_2⟩ := xI1_some h_1
    obtain ⟨rfl, h_3⟩ := xN1_some h_2
    clear h h_1 h_2
    have h := h_3
    rw [callW_eq] at h
    refine run_sound (r := r) (X := X) (cc := cX9_knowers) (own := RX9) (tab := tX9_knowers) G (by rw [hn]; exact kX9_knowers) (oI := (oF [(mX9_knownBits N)])) (oL := (oF [])) (oV := (oF [])) (rI := (fun x w => some (x, w))) (rL := (fun _ _ => none)) (rV := (fun _ => none))
      (K := (fun j ls st w => if j = 4 then (lgI ls 2 fun v2 => lgI ls 3 fun v3 => st0 st (callW (fX9_knowers_4 N i0 a1 N v2 v3) w)) else none)) (fun x w pc ls hx hd => hr x w pc ls (Option.some.inj hx) hd) (fun _ _ _ _ hx => by cases hx) (fun _ _ _ hx => by cases hx) hC (fun ls => lsb [some (.inr (.inr (13, i0))), some (.inl a1), none, none] 0 ls) (keepsP_of rfl) ?_ 28 0 [some (.inr (.inr (13, i0))), some (.inl a1), none, none] [] w ?_ h
    · intro j ls st w hfx h
      obtain ⟨e0, e1, -⟩ : _ = _ ∧ _ = _ ∧ True := hfx
      try dsimp only at h
      by_cases hj : j = 4
      · subst hj
        rw [if_pos rfl] at h
        obtain ⟨v2, e2, h_1⟩ := lgI_some h
        obtain ⟨v3, e3, h_2⟩ := lgI_some h_1
        obtain ⟨rfl, h_3⟩ := st0_some h_2
        clear h h_1 h_2
        have h := h_3
        try rw [callW_eq] at h
        exact WW.le (a := [some (.inr (.inr (13, i0))), some (.inl a1), some (.inl v2), some (.inl v3)]) (by rw [hn]; rfl) (show _ = _ ∧ _ = _ ∧ _ = _ ∧ _ = _ ∧ True from ⟨e0, e1, e2, e3, trivial⟩) (sX9_knowers_4 G hn hC hr i0 a1 N v2 v3 w h)
      rw [if_neg hj] at h
      cases h
    · exact (show _ = _ ∧ _ = _ ∧ True from ⟨rfl, rfl, trivial⟩)
-- MoorGuides$Stand.chanceTonight(II)I
def tX9_chanceTonight : List EN := [
  (0, .aload_n 0, 0, 0, 0, 0, 0, []), (1, .iload_n 1, 0, 0, 0, 0, 0, []), (2, .iload_n 2, 0, 0, 0, 0, 0, []), (3, .aload_n 0, 0, 0, 0, 0, 0, []),
  (4, .getfield 43, 0, 9, 1, 0, 0, []), (7, .aload_n 0, 0, 0, 0, 0, 0, []), (8, .iload_n 1, 0, 0, 0, 0, 0, []), (9, .iload_n 2, 0, 0, 0, 0, 0, []),
  (10, .invokevirtual 111, 0, 0, 3, 0, 0, []), (13, .aload_n 0, 0, 0, 0, 0, 0, []), (14, .getfield 9, 0, 9, 4, 0, 0, []), (17, .iload_n 1, 0, 0, 0, 0, 0, []),
  (18, .iaload, 0, 0, 0, 0, 0, []), (19, .invokevirtual 114, 0, 1, 6, 0, 0, []), (22, .ireturn, 0, 0, 0, 0, 0, [])]
noncomputable def pX9_chanceTonight (N : Nat) (i0 : Nat) (a1 : Int32) (a2 : Int32) (w : Wd) : Option (Int32 × Wd) :=
  (callW (pX9_aroundTonight N i0 a1 a2) w).bind fun r1 =>
  (ldI r1.2 60 i0 a1 6).bind fun x2 =>
  (callW (pX9_chanceOn N i0 a1 a2 (gI w 13 i0 1) r1.1 x2) r1.2).bind fun r3 =>
  some (r3.1, r3.2)
noncomputable def mX9_chanceTonight (N : Nat) (as : List AV) (w : Wd) : Option (Int32 × Wd) := xR1 13 as fun i0 t => xI1 t fun a1 t => xI1 t fun a2 t => xN1 t (callW (pX9_chanceTonight N i0 a1 a2) w)
set_option maxRecDepth 100000 in
set_option maxHeartbeats 4000000 in
theorem kX9_chanceTonight : TK cX9_chanceTonight RX9 3 tX9_chanceTonight := ⟨by decide +kernel, wok_of [521, 530] (by decide +kernel) (by decide +kernel)⟩
set_option maxRecDepth 100000 in
set_option maxHeartbeats 4000000 in
theorem crX9_chanceTonight {N : Nat} {X : XT} (G : GX X cX9_chanceTonight RX9) (hR : xR X = rmL 5) : CRs X tX9_chanceTonight (oF [(mX9_aroundTonight N), (mX9_chanceOn N)]) (oF []) (oF []) := by
  have hl : tX9_chanceTonight.filter isInv = [(10, .invokevirtual 111, 0, 0, 3, 0, 0, []), (19, .invokevirtual 114, 0, 1, 6, 0, 0, [])] := rfl
  intro e he
  rw [hl] at he
  simp only [List.mem_cons, List.not_mem_nil, or_false] at he
  rcases he with rfl | rfl
  · exact crI_V (idx := 111) G (by decide +kernel) (MX9_aroundTonight N) (cw_of (ps := [1066, 1068, 36, 158, 1069]) (by decide +kernel) (by decide +kernel)) ⟨by decide +kernel, by decide +kernel, by decide +kernel⟩ (by unfold rmOk; rw [hR]; exact ⟨by decide, by decide⟩)
  · exact crI_V (idx := 114) G (by decide +kernel) (MX9_chanceOn N) (cw_of (ps := [1076, 1077, 1078, 158, 1079]) (by decide +kernel) (by decide +kernel)) ⟨by decide +kernel, by decide +kernel, by decide +kernel⟩ (by unfold rmOk; rw [hR]; exact ⟨by decide, by decide⟩)
set_option maxRecDepth 100000 in
set_option maxHeartbeats 4000000 in
theorem MX9_chanceTonight (N : Nat) : SndI yX9_chanceTonight cX9_chanceTonight 3 (some .int) 5 3 true (mX9_chanceTonight N) := by
  refine SndI.of tX9_chanceTonight (by decide +kernel) rfl rfl ?_ ?_
  · intro as w x h
    obtain ⟨i0, t1, rfl, h_1⟩ := xR1_some h
    obtain ⟨a1, t2, rfl, h_2⟩ := xI1_some h_1
    obtain ⟨a2, t3, rfl, h_3⟩ := xI1_some h_2
    obtain ⟨rfl, h_4⟩ := xN1_some h_3
    clear h h_1 h_2 h_3
    have h := h_4
    rw [callW_eq] at h
    exact ⟨fun _ => ⟨_, _, _, rfl, rfl, _, rfl, rfl⟩, rfl, Nat.le_of_ble_eq_true rfl⟩
  · intro X G hn hR as w r h hr
    have hC := crX9_chanceTonight (N := N) G hR
    obtain ⟨i0, t1, rfl, h_1⟩ := xR1_some h
    obtain ⟨a1, t2, rfl, h_2⟩ := xI1_some h_1
    obtain ⟨a2, t3, rfl, h_3⟩ := xI1_some h_2
    obtain ⟨rfl, h_4⟩ := xN1_some h_3
    clear h h_1 h_2 h_3
    have h := h_4
    rw [callW_eq] at h
    refine run_sound (r := r) (X := X) (cc := cX9_chanceTonight) (own := RX9) (tab := tX9_chanceTonight) G (by rw [hn]; exact kX9_chanceTonight) (oI := (oF [(mX9_aroundTonight N), (mX9_chanceOn N)])) (oL := (oF [])) (oV := (oF [])) (rI := (fun x w => some (x, w))) (rL := (fun _ _ => none)) (rV := (fun _ => none))
      (K := (fun j ls st w => none)) (fun x w pc ls hx hd => hr x w pc ls (Option.some.inj hx) hd) (fun _ _ _ _ hx => by cases hx) (fun _ _ _ hx => by cases hx) hC (fun ls => lsb [some (.inr (.inr (13, i0))), some (.inl a1), some (.inl a2)] 0 ls) (keepsP_of rfl) ?_ 17 0 [some (.inr (.inr (13, i0))), some (.inl a1), some (.inl a2)] [] w ?_ h
    · intro j ls st w hfx h
      obtain ⟨e0, e1, e2, -⟩ : _ = _ ∧ _ = _ ∧ _ = _ ∧ True := hfx
      try dsimp only at h
      cases h
    · exact (show _ = _ ∧ _ = _ ∧ _ = _ ∧ True from ⟨rfl, rfl, rfl, trivial⟩)
-- MoorGuides.feedNumber(I)V
def tX11_feedNumber : List EN := [
  (0, .bipush 24, 0, 0, 0, 24, 0, []), (2, .istore_n 2, 0, 0, 0, 0, 0, []), (3, .iload_n 2, 3, 0, 0, 0, 0, []), (4, .ifCond .lt 42, 0, 25, 0, 0, 0, []),
  (7, .aload_n 0, 0, 0, 0, 0, 0, []), (8, .getfield 86, 0, 11, 1, 0, 0, []), (11, .sipush 900, 0, 0, 0, 900, 0, []), (14, .if_icmp .ge 32, 0, 25, 0, 0, 0, []),
  (17, .aload_n 0, 0, 0, 0, 0, 0, []), (18, .getfield 9, 0, 11, 0, 0, 0, []), (21, .aload_n 0, 0, 0, 0, 0, 0, []), (22, .getfield 86, 0, 11, 1, 0, 0, []),
  (25, .iload_n 1, 0, 0, 0, 0, 0, []), (26, .iload_n 2, 0, 0, 0, 0, 0, []), (27, .ishr, 0, 0, 0, 0, 0, []), (28, .i2b, 0, 0, 0, 0, 0, []),
  (29, .bastore, 0, 0, 0, 0, 0, []), (30, .aload_n 0, 0, 0, 0, 0, 0, []), (31, .dup, 0, 0, 0, 0, 0, []), (32, .getfield 86, 0, 11, 1, 0, 0, []),
  (35, .iconst 1, 0, 0, 0, 1, 0, []), (36, .iadd, 0, 0, 0, 0, 0, []), (37, .putfield 86, 0, 11, 1, 0, 0, []), (40, .iinc 2 (-8), 0, 0, 0, (-8), 0, []),
  (43, .goto (-40), 0, 2, 0, 0, 0, []), (46, .return_, 0, 0, 0, 0, 0, [])]
noncomputable def fX11_feedNumber_2 (N : Nat) (a1 : Int32) : Nat → Int32 → Wd → Option (Wd)
  | 0, _, _ => none
  | n + 1, v2, w =>
    if v2 < 0 then some w else
    if (gI w 15 0 1) < (900 : Int32) then
      (stI w 3 0 (gI w 15 0 1) 900 ((a1 >>> (v2 &&& (31 : Int32))).toInt8.toInt32).toInt8.toInt32).bind fun w1 =>
      callW (fX11_feedNumber_2 N a1 n (v2 + (-8 : Int32))) (setI w1 15 0 1 ((gI w1 15 0 1) + (1 : Int32)))
    else
    some w
noncomputable def pX11_feedNumber (N : Nat) (a1 : Int32) (w : Wd) : Option (Wd) :=
  callW (fX11_feedNumber_2 N a1 N (24 : Int32)) w
noncomputable def mX11_feedNumber (N : Nat) (as : List AV) (w : Wd) : Option (Wd) := xS1 15 as fun t => xI1 t fun a1 t => xN1 t (callW (pX11_feedNumber N a1) w)
set_option maxRecDepth 100000 in
set_option maxHeartbeats 4000000 in
theorem kX11_feedNumber : TK cX11_feedNumber RX11 3 tX11_feedNumber := ⟨by decide +kernel, wok_of [731, 730, 731, 731, 731] (by decide +kernel) (by decide +kernel)⟩
set_option maxRecDepth 100000 in
set_option maxHeartbeats 4000000 in
theorem sX11_feedNumber_2 {N : Nat} {X : XT} (G : GX X cX11_feedNumber RX11) (hn : xnL X = 3) (hC : CRs X tX11_feedNumber (oF []) (oF []) (oF [])) {r : Wd} (hr : RTV X cX11_feedNumber r) (a1 : Int32) : ∀ (n : Nat) (v2 : Int32) (w : Wd), fX11_feedNumber_2 N a1 n v2 w = some r → WW X (pcAt tX11_feedNumber 2) [some (.inr (.inr (15, 0))), some (.inl a1), some (.inl v2)] [] w := by
  intro n
  induction n with
  | zero => intro v2 w h; cases h
  | succ n ih =>
    intro v2 w h
    refine run_sound (r := r) (X := X) (cc := cX11_feedNumber) (own := RX11) (tab := tX11_feedNumber) G (by rw [hn]; exact kX11_feedNumber) (oI := (oF [])) (oL := (oF [])) (oV := (oF [])) (rI := (fun _ _ => none)) (rL := (fun _ _ => none)) (rV := (fun w => some w))
      (K := (fun j ls st w => if j = 2 then (lgI ls 2 fun v2 => st0 st (callW (fX11_feedNumber_2 N a1 n v2) w)) else none)) (fun _ _ _ _ hx => by cases hx) (fun _ _ _ _ hx => by cases hx) (fun w pc ls hx hd => hr w pc ls (Option.some.inj hx) hd) hC (fun ls => lsb [some (.inr (.inr (15, 0))), some (.inl a1), none] 0 ls) (keepsP_of rfl) ?_ 28 2 [some (.inr (.inr (15, 0))), some (.inl a1), some (.inl v2)] [] w ?_ h
    · intro j ls st w hfx h
      obtain ⟨e0, e1, -⟩ : _ = _ ∧ _ = _ ∧ True := hfx
      try dsimp only at h
      by_cases hj : j = 2
      · subst hj
        rw [if_pos rfl] at h
        obtain ⟨v2, e2, h_1⟩ := lgI_some h
        obtain ⟨rfl, h_2⟩ := st0_some h_1
        clear h h_1
        have h := h_2
        try rw [callW_eq] at h
        exact WW.le (a := [some (.inr (.inr (15, 0))), some (.inl a1), some (.inl v2)]) (by rw [hn]; rfl) (show _ = _ ∧ _ = _ ∧ _ = _ ∧ True from ⟨e0, e1, e2, trivial⟩) (ih v2 w h)
      rw [if_neg hj] at h
      cases h
    · exact (show _ = _ ∧ _ = _ ∧ True from ⟨rfl, rfl, trivial⟩)
set_option maxRecDepth 100000 in
set_option maxHeartbeats 4000000 in
theorem crX11_feedNumber {N : Nat} {X : XT} (G : GX X cX11_feedNumber RX11) (hR : xR X = rmL 1) : CRs X tX11_feedNumber (oF []) (oF []) (oF []) := by
  have hl : tX11_feedNumber.filter isInv = [] := rfl
  intro e he
  rw [hl] at he
  cases he
set_option maxRecDepth 100000 in
set_option maxHeartbeats 4000000 in
theorem MX11_feedNumber (N : Nat) : SndV yX11_feedNumber cX11_feedNumber 3 none 1 2 true (mX11_feedNumber N) := by
  refine SndV.of tX11_feedNumber (by decide +kernel) rfl rfl ?_ ?_
  · intro as w x h
    obtain ⟨t1, rfl, h_1⟩ := xS1_some h
    obtain ⟨a1, t2, rfl, h_2⟩ := xI1_some h_1
    obtain ⟨rfl, h_3⟩ := xN1_some h_2
    clear h h_1 h_2
    have h := h_3
    rw [callW_eq] at h
    exact ⟨fun _ => ⟨_, _, _, rfl, rfl, _, rfl, rfl⟩, rfl, Nat.le_of_ble_eq_true rfl⟩
  · intro X G hn hR as w r h hr
    have hC := crX11_feedNumber (N := N) G hR
    obtain ⟨t1, rfl, h_1⟩ := xS1_some h
    obtain ⟨a1, t2, rfl, h_2⟩ := xI1_some h_1
    obtain ⟨rfl, h_3⟩ := xN1_some h_2
    clear h h_1 h_2
    have h := h_3
    rw [callW_eq] at h
    refine run_sound (r := r) (X := X) (cc := cX11_feedNumber) (own := RX11) (tab := tX11_feedNumber) G (by rw [hn]; exact kX11_feedNumber) (oI := (oF [])) (oL := (oF [])) (oV := (oF [])) (rI := (fun _ _ => none)) (rL := (fun _ _ => none)) (rV := (fun w => some w))
      (K := (fun j ls st w => if j = 2 then (lgI ls 2 fun v2 => st0 st (callW (fX11_feedNumber_2 N a1 N v2) w)) else none)) (fun _ _ _ _ hx => by cases hx) (fun _ _ _ _ hx => by cases hx) (fun w pc ls hx hd => hr w pc ls (Option.some.inj hx) hd) hC (fun ls => lsb [some (.inr (.inr (15, 0))), some (.inl a1), none] 0 ls) (keepsP_of rfl) ?_ 28 0 [some (.inr (.inr (15, 0))), some (.inl a1), none] [] w ?_ h
    · intro j ls st w hfx h
      obtain ⟨e0, e1, -⟩ : _ = _ ∧ _ = _ ∧ True := hfx
      try dsimp only at h
      by_cases hj : j = 2
      · subst hj
        rw [if_pos rfl] at h
        obtain ⟨v2, e2, h_1⟩ := lgI_some h
        obtain ⟨rfl, h_2⟩ := st0_some h_1
        clear h h_1
        have h := h_2
        try rw [callW_eq] at h
        exact WW.le (a := [some (.inr (.inr (15, 0))), some (.inl a1), some (.inl v2)]) (by rw [hn]; rfl) (show _ = _ ∧ _ = _ ∧ _ = _ ∧ True from ⟨e0, e1, e2, trivial⟩) (sX11_feedNumber_2 G hn hC hr a1 N v2 w h)
      rw [if_neg hj] at h
      cases h
    · exact (show _ = _ ∧ _ = _ ∧ True from ⟨rfl, rfl, trivial⟩)
-- MoorGuides.feed(IIIII)I
def tX11_feed : List EN := [
  (0, .aload_n 0, 0, 0, 0, 0, 0, []), (1, .getfield 86, 0, 11, 1, 0, 0, []), (4, .bipush 20, 0, 0, 0, 20, 0, []), (6, .iadd, 0, 0, 0, 0, 0, []),
  (7, .sipush 900, 0, 0, 0, 900, 0, []), (10, .if_icmp .le 5, 0, 8, 0, 0, 0, []), (13, .iconst (-1), 0, 0, 0, (-1), 0, []), (14, .ireturn, 0, 0, 0, 0, 0, []),
  (15, .aload_n 0, 0, 0, 0, 0, 0, []), (16, .iload_n 1, 0, 0, 0, 0, 0, []), (17, .invokevirtual 90, 0, 0, 2, 0, 0, [(0, 0), (0, 0)]), (20, .aload_n 0, 0, 0, 0, 0, 0, []),
  (21, .iload_n 2, 0, 0, 0, 0, 0, []), (22, .invokevirtual 90, 0, 0, 2, 0, 0, [(0, 0), (0, 0)]), (25, .aload_n 0, 0, 0, 0, 0, 0, []), (26, .iload_n 3, 0, 0, 0, 0, 0, []),
  (27, .invokevirtual 90, 0, 0, 2, 0, 0, [(0, 0), (0, 0)]), (30, .aload_n 0, 0, 0, 0, 0, 0, []), (31, .iload 4, 0, 0, 0, 0, 0, []), (33, .invokevirtual 90, 0, 0, 2, 0, 0, [(0, 0), (0, 0)]),
  (36, .aload_n 0, 0, 0, 0, 0, 0, []), (37, .iload 5, 0, 0, 0, 0, 0, []), (39, .invokevirtual 90, 0, 0, 2, 0, 0, [(0, 0), (0, 0)]), (42, .aload_n 0, 0, 0, 0, 0, 0, []),
  (43, .getfield 86, 0, 11, 1, 0, 0, []), (46, .ireturn, 0, 0, 0, 0, 0, [])]
noncomputable def pX11_feed (N : Nat) (a1 : Int32) (a2 : Int32) (a3 : Int32) (a4 : Int32) (a5 : Int32) (w : Wd) : Option (Int32 × Wd) :=
  if (900 : Int32) < ((gI w 15 0 1) + (20 : Int32)) then some ((-1 : Int32), w) else
  (callW (pX11_feedNumber N a1) w).bind fun w1 =>
  (callW (pX11_feedNumber N a2) w1).bind fun w2 =>
  (callW (pX11_feedNumber N a3) w2).bind fun w3 =>
  (callW (pX11_feedNumber N a4) w3).bind fun w4 =>
  (callW (pX11_feedNumber N a5) w4).bind fun w5 =>
  some ((gI w5 15 0 1), w5)
noncomputable def mX11_feed (N : Nat) (as : List AV) (w : Wd) : Option (Int32 × Wd) := xS1 15 as fun t => xI1 t fun a1 t => xI1 t fun a2 t => xI1 t fun a3 t => xI1 t fun a4 t => xI1 t fun a5 t => xN1 t (callW (pX11_feed N a1 a2 a3 a4 a5) w)
set_option maxRecDepth 100000 in
set_option maxHeartbeats 4000000 in
theorem kX11_feed : TK cX11_feed RX11 6 tX11_feed := ⟨by decide +kernel, wok_of [731, 731] (by decide +kernel) (by decide +kernel)⟩
set_option maxRecDepth 100000 in
set_option maxHeartbeats 4000000 in
theorem crX11_feed {N : Nat} {X : XT} (G : GX X cX11_feed RX11) (hR : xR X = rmL 2) : CRs X tX11_feed (oF []) (oF []) (oF [(mX11_feedNumber N)]) := by
  have hl : tX11_feed.filter isInv = [(17, .invokevirtual 90, 0, 0, 2, 0, 0, [(0, 0), (0, 0)]), (22, .invokevirtual 90, 0, 0, 2, 0, 0, [(0, 0), (0, 0)]), (27, .invokevirtual 90, 0, 0, 2, 0, 0, [(0, 0), (0, 0)]), (33, .invokevirtual 90, 0, 0, 2, 0, 0, [(0, 0), (0, 0)]), (39, .invokevirtual 90, 0, 0, 2, 0, 0, [(0, 0), (0, 0)])] := rfl
  intro e he
  rw [hl] at he
  simp only [List.mem_cons, List.not_mem_nil, or_false] at he
  rcases he with rfl | rfl | rfl | rfl | rfl
  · exact crV_V (idx := 90) G (by decide +kernel) (MX11_feedNumber N) (cw_of (ps := [783, 785, 0, 148, 786]) (by decide +kernel) (by decide +kernel)) ⟨by decide +kernel, by decide +kernel, by decide +kernel⟩ (by unfold rmOk; rw [hR]; exact ⟨by decide, by decide⟩)
  · exact crV_V (idx := 90) G (by decide +kernel) (MX11_feedNumber N) (cw_of (ps := [783, 785, 0, 148, 786]) (by decide +kernel) (by decide +kernel)) ⟨by decide +kernel, by decide +kernel, by decide +kernel⟩ (by unfold rmOk; rw [hR]; exact ⟨by decide, by decide⟩)
  · exact crV_V (idx := 90) G (by decide +kernel) (MX11_feedNumber N) (cw_of (ps := [783, 785, 0, 148, 786]) (by decide +kernel) (by decide +kernel)) ⟨by decide +kernel, by decide +kernel, by decide +kernel⟩ (by unfold rmOk; rw [hR]; exact ⟨by decide, by decide⟩)
  · exact crV_V (idx := 90) G (by decide +kernel) (MX11_feedNumber N) (cw_of (ps := [783, 785, 0, 148, 786]) (by decide +kernel) (by decide +kernel)) ⟨by decide +kernel, by decide +kernel, by decide +kernel⟩ (by unfold rmOk; rw [hR]; exact ⟨by decide, by decide⟩)
  · exact crV_V (idx := 90) G (by decide +kernel) (MX11_feedNumber N) (cw_of (ps := [783, 785, 0, 148, 786]) (by decide +kernel) (by decide +kernel)) ⟨by decide +kernel, by decide +kernel, by decide +kernel⟩ (by unfold rmOk; rw [hR]; exact ⟨by decide, by decide⟩)
set_option maxRecDepth 100000 in
set_option maxHeartbeats 4000000 in
theorem MX11_feed (N : Nat) : SndI yX11_feed cX11_feed 6 (some .int) 2 6 true (mX11_feed N) := by
  refine SndI.of tX11_feed (by decide +kernel) rfl rfl ?_ ?_
  · intro as w x h
    obtain ⟨t1, rfl, h_1⟩ := xS1_some h
    obtain ⟨a1, t2, rfl, h_2⟩ := xI1_some h_1
    obtain ⟨a2, t3, rfl, h_3⟩ := xI1_some h_2
    obtain ⟨a3, t4, rfl, h_4⟩ := xI1_some h_3
    obtain ⟨a4, t5, rfl, h_5⟩ := xI1_some h_4
    obtain ⟨a5, t6, rfl, h_6⟩ := xI1_some h_5
    obtain ⟨rfl, h_7⟩ := xN1_some h_6
    clear h h_1 h_2 h_3 h_4 h_5 h_6
    have h := h_7
    rw [callW_eq] at h
    exact ⟨fun _ => ⟨_, _, _, rfl, rfl, _, rfl, rfl⟩, rfl, Nat.le_of_ble_eq_true rfl⟩
  · intro X G hn hR as w r h hr
    have hC := crX11_feed (N := N) G hR
    obtain ⟨t1, rfl, h_1⟩ := xS1_some h
    obtain ⟨a1, t2, rfl, h_2⟩ := xI1_some h_1
    obtain ⟨a2, t3, rfl, h_3⟩ := xI1_some h_2
    obtain ⟨a3, t4, rfl, h_4⟩ := xI1_some h_3
    obtain ⟨a4, t5, rfl, h_5⟩ := xI1_some h_4
    obtain ⟨a5, t6, rfl, h_6⟩ := xI1_some h_5
    obtain ⟨rfl, h_7⟩ := xN1_some h_6
    clear h h_1 h_2 h_3 h_4 h_5 h_6
    have h := h_7
    rw [callW_eq] at h
    refine run_sound (r := r) (X := X) (cc := cX11_feed) (own := RX11) (tab := tX11_feed) G (by rw [hn]; exact kX11_feed) (oI := (oF [])) (oL := (oF [])) (oV := (oF [(mX11_feedNumber N)])) (rI := (fun x w => some (x, w))) (rL := (fun _ _ => none)) (rV := (fun _ => none))
      (K := (fun j ls st w => none)) (fun x w pc ls hx hd => hr x w pc ls (Option.some.inj hx) hd) (fun _ _ _ _ hx => by cases hx) (fun _ _ _ hx => by cases hx) hC (fun ls => lsb [some (.inr (.inr (15, 0))), some (.inl a1), some (.inl a2), some (.inl a3), some (.inl a4), some (.inl a5)] 0 ls) (keepsP_of rfl) ?_ 28 0 [some (.inr (.inr (15, 0))), some (.inl a1), some (.inl a2), some (.inl a3), some (.inl a4), some (.inl a5)] [] w ?_ h
    · intro j ls st w hfx h
      obtain ⟨e0, e1, e2, e3, e4, e5, -⟩ : _ = _ ∧ _ = _ ∧ _ = _ ∧ _ = _ ∧ _ = _ ∧ _ = _ ∧ True := hfx
      try dsimp only at h
      cases h
    · exact (show _ = _ ∧ _ = _ ∧ _ = _ ∧ _ = _ ∧ _ = _ ∧ _ = _ ∧ True from ⟨rfl, rfl, rfl, rfl, rfl, rfl, trivial⟩)
-- MoorGuides.text(I)I
def tX11_text : List EN := [
  (0, .iload_n 1, 0, 0, 0, 0, 0, []), (1, .ifCond .lt 11, 0, 6, 0, 0, 0, []), (4, .iload_n 1, 0, 0, 0, 0, 0, []), (5, .aload_n 0, 0, 0, 0, 0, 0, []),
  (6, .getfield 86, 0, 11, 1, 0, 0, []), (9, .if_icmp .le 6, 0, 8, 0, 0, 0, []), (12, .bipush (-2), 0, 0, 0, (-2), 0, []), (14, .ireturn, 0, 0, 0, 0, 0, []),
  (15, .aload_n 0, 0, 0, 0, 0, 0, []), (16, .iconst 0, 0, 0, 0, 0, 0, []), (17, .putfield 86, 0, 11, 1, 0, 0, []), (20, .aload_n 0, 0, 0, 0, 0, 0, []),
  (21, .getfield 20, 0, 11, 3, 0, 0, []), (24, .invokevirtual 94, 0, 0, 1, 0, 0, [(0, 0), (0, 0)]), (27, .aload_n 0, 0, 0, 0, 0, 0, []), (28, .getfield 28, 0, 11, 4, 0, 0, []),
  (31, .aload_n 0, 0, 0, 0, 0, 0, []), (32, .getfield 9, 0, 11, 0, 0, 0, []), (35, .iload_n 1, 0, 0, 0, 0, 0, []), (36, .aload_n 0, 0, 0, 0, 0, 0, []),
  (37, .getfield 20, 0, 11, 3, 0, 0, []), (40, .invokevirtual 97, 0, 0, 4, 0, 0, []), (43, .ifCond .ne 5, 0, 25, 0, 0, 0, []), (46, .iconst (-1), 0, 0, 0, (-1), 0, []),
  (47, .ireturn, 0, 0, 0, 0, 0, []), (48, .aload_n 0, 0, 0, 0, 0, 0, []), (49, .getfield 16, 0, 11, 2, 0, 0, []), (52, .astore_n 2, 0, 0, 0, 0, 0, []),
  (53, .aload_n 0, 0, 0, 0, 0, 0, []), (54, .aload_n 0, 0, 0, 0, 0, 0, []), (55, .getfield 20, 0, 11, 3, 0, 0, []), (58, .putfield 16, 0, 11, 2, 0, 0, []),
  (61, .aload_n 0, 0, 0, 0, 0, 0, []), (62, .aload_n 2, 0, 0, 0, 0, 0, []), (63, .putfield 20, 0, 11, 3, 0, 0, []), (66, .aload_n 0, 0, 0, 0, 0, 0, []),
  (67, .getfield 35, 0, 11, 5, 0, 0, []), (70, .aload_n 0, 0, 0, 0, 0, 0, []), (71, .getfield 16, 0, 11, 2, 0, 0, []), (74, .invokevirtual 101, 0, 1, 2, 0, 0, [(0, 0), (0, 0)]),
  (77, .aload_n 0, 0, 0, 0, 0, 0, []), (78, .getfield 82, 0, 11, 15, 0, 0, []), (81, .invokevirtual 104, 0, 2, 1, 0, 0, [(0, 0), (0, 0)]), (84, .aload_n 0, 0, 0, 0, 0, 0, []),
  (85, .iconst 0, 0, 0, 0, 0, 0, []), (86, .putfield 105, 0, 11, 7, 0, 0, [(0, 0)]), (89, .aload_n 0, 0, 0, 0, 0, 0, []), (90, .iconst 0, 0, 0, 0, 0, 0, []),
  (91, .putfield 109, 0, 11, 8, 0, 0, []), (94, .aload_n 0, 0, 0, 0, 0, 0, []), (95, .getfield 68, 0, 11, 13, 0, 0, []), (98, .invokevirtual 112, 0, 3, 1, 0, 0, [(0, 0), (0, 0)]),
  (101, .aload_n 0, 0, 0, 0, 0, 0, []), (102, .getfield 28, 0, 11, 4, 0, 0, []), (105, .getfield 115, 0, 7, 7, 0, 0, []), (108, .ireturn, 0, 0, 0, 0, 0, [])]
noncomputable def pX11_text (N : Nat) (a1 : Int32) (w : Wd) : Option (Int32 × Wd) :=
  if a1 < 0 then some ((-2 : Int32), w) else
  if (gI w 15 0 1) < a1 then some ((-2 : Int32), w) else
  (callW (pX4_clear N (gR (setI w 15 0 1 (0 : Int32)) 15 0 3)) (setI w 15 0 1 (0 : Int32))).bind fun w1 =>
  (callW (pX7_readText N 0 a1 (gR w1 15 0 3)) w1).bind fun r2 =>
  if r2.1 = 0 then some ((-1 : Int32), r2.2) else
  (callW (pX9_begin N 0 (gR (setR (setR r2.2 15 0 2 (gR r2.2 15 0 3)) 15 0 3 (gR r2.2 15 0 2)) 15 0 2)) (setR (setR r2.2 15 0 2 (gR r2.2 15 0 3)) 15 0 3 (gR r2.2 15 0 2))).bind fun w3 =>
  (callW (pX0_clear N) w3).bind fun w4 =>
  (callW (pX5_drop N) (setI (setI w4 15 0 7 (0 : Int32)) 15 0 8 (0 : Int32))).bind fun w5 =>
  some ((gI w5 11 0 7), w5)
noncomputable def mX11_text (N : Nat) (as : List AV) (w : Wd) : Option (Int32 × Wd) := xS1 15 as fun t => xI1 t fun a1 t => xN1 t (callW (pX11_text N a1) w)
set_option maxRecDepth 100000 in
set_option maxHeartbeats 4000000 in
theorem kX11_text : TK cX11_text RX11 3 tX11_text := ⟨by decide +kernel, wok_of [731, 731, 733, 734, 730, 733, 732, 733, 732, 733, 735, 732, 745, 737, 738, 743, 734, 474] (by decide +kernel) (by decide +kernel)⟩
set_option maxRecDepth 100000 in
set_option maxHeartbeats 4000000 in
theorem crX11_text {N : Nat} {X : XT} (G : GX X cX11_text RX11) (hR : xR X = rmL 10) : CRs X tX11_text (oF [(mX7_readText N)]) (oF []) (oF [(mX4_clear N), (mX9_begin N), (mX0_clear N), (mX5_drop N)]) := by
  have hl : tX11_text.filter isInv = [(24, .invokevirtual 94, 0, 0, 1, 0, 0, [(0, 0), (0, 0)]), (40, .invokevirtual 97, 0, 0, 4, 0, 0, []), (74, .invokevirtual 101, 0, 1, 2, 0, 0, [(0, 0), (0, 0)]), (81, .invokevirtual 104, 0, 2, 1, 0, 0, [(0, 0), (0, 0)]), (98, .invokevirtual 112, 0, 3, 1, 0, 0, [(0, 0), (0, 0)])] := rfl
  intro e he
  rw [hl] at he
  simp only [List.mem_cons, List.not_mem_nil, or_false] at he
  rcases he with rfl | rfl | rfl | rfl | rfl
  · exact crV_V (idx := 94) G (by decide +kernel) (MX4_clear N) (cw_of (ps := [791, 792, 793, 149, 794]) (by decide +kernel) (by decide +kernel)) ⟨by decide +kernel, by decide +kernel, by decide +kernel⟩ (by unfold rmOk; rw [hR]; exact ⟨by decide, by decide⟩)
  · exact crI_V (idx := 97) G (by decide +kernel) (MX7_readText N) (cw_of (ps := [799, 800, 801, 152, 802]) (by decide +kernel) (by decide +kernel)) ⟨by decide +kernel, by decide +kernel, by decide +kernel⟩ (by unfold rmOk; rw [hR]; exact ⟨by decide, by decide⟩)
  · exact crV_V (idx := 101) G (by decide +kernel) (MX9_begin N) (cw_of (ps := [987, 509, 510, 158, 511]) (by decide +kernel) (by decide +kernel)) ⟨by decide +kernel, by decide +kernel, by decide +kernel⟩ (by unfold rmOk; rw [hR]; exact ⟨by decide, by decide⟩)
  · exact crV_V (idx := 104) G (by decide +kernel) (MX0_clear N) (cw_of (ps := [988, 989, 990, 163, 991]) (by decide +kernel) (by decide +kernel)) ⟨by decide +kernel, by decide +kernel, by decide +kernel⟩ (by unfold rmOk; rw [hR]; exact ⟨by decide, by decide⟩)
  · exact crV_V (idx := 112) G (by decide +kernel) (MX5_drop N) (cw_of (ps := [992, 993, 994, 161, 995]) (by decide +kernel) (by decide +kernel)) ⟨by decide +kernel, by decide +kernel, by decide +kernel⟩ (by unfold rmOk; rw [hR]; exact ⟨by decide, by decide⟩)
set_option maxRecDepth 100000 in
set_option maxHeartbeats 4000000 in
theorem MX11_text (N : Nat) : SndI yX11_text cX11_text 3 (some .int) 10 2 true (mX11_text N) := by
  refine SndI.of tX11_text (by decide +kernel) rfl rfl ?_ ?_
  · intro as w x h
    obtain ⟨t1, rfl, h_1⟩ := xS1_some h
    obtain ⟨a1, t2, rfl, h_2⟩ := xI1_some h_1
    obtain ⟨rfl, h_3⟩ := xN1_some h_2
    clear h h_1 h_2
    have h := h_3
    rw [callW_eq] at h
    exact ⟨fun _ => ⟨_, _, _, rfl, rfl, _, rfl, rfl⟩, rfl, Nat.le_of_ble_eq_true rfl⟩
  · intro X G hn hR as w r h hr
    have hC := crX11_text (N := N) G hR
    obtain ⟨t1, rfl, h_1⟩ := xS1_some h
    obtain ⟨a1, t2, rfl, h_2⟩ := xI1_some h_1
    obtain ⟨rfl, h_3⟩ := xN1_some h_2
    clear h h_1 h_2
    have h := h_3
    rw [callW_eq] at h
    refine run_sound (r := r) (X := X) (cc := cX11_text) (own := RX11) (tab := tX11_text) G (by rw [hn]; exact kX11_text) (oI := (oF [(mX7_readText N)])) (oL := (oF [])) (oV := (oF [(mX4_clear N), (mX9_begin N), (mX0_clear N), (mX5_drop N)])) (rI := (fun x w => some (x, w))) (rL := (fun _ _ => none)) (rV := (fun _ => none))
      (K := (fun j ls st w => none)) (fun x w pc ls hx hd => hr x w pc ls (Option.some.inj hx) hd) (fun _ _ _ _ hx => by cases hx) (fun _ _ _ hx => by cases hx) hC (fun ls => lsb [some (.inr (.inr (15, 0))), some (.inl a1), none] 0 ls) (keepsP_of rfl) ?_ 58 0 [some (.inr (.inr (15, 0))), some (.inl a1), none] [] w ?_ h
    · intro j ls st w hfx h
      obtain ⟨e0, e1, -⟩ : _ = _ ∧ _ = _ ∧ True := hfx
      try dsimp only at h
      cases h
    · exact (show _ = _ ∧ _ = _ ∧ True from ⟨rfl, rfl, trivial⟩)
-- MoorGuides.fault(I)I
def tX11_fault : List EN := [
  (0, .iload_n 1, 0, 0, 0, 0, 0, []), (1, .ifCond .ne 11, 0, 6, 0, 0, 0, []), (4, .aload_n 0, 0, 0, 0, 0, 0, []), (5, .getfield 28, 0, 11, 4, 0, 0, []),
  (8, .getfield 118, 0, 7, 8, 0, 0, []), (11, .ireturn, 0, 0, 0, 0, 0, []), (12, .iload_n 1, 0, 0, 0, 0, 0, []), (13, .iconst 1, 0, 0, 0, 1, 0, []),
  (14, .if_icmp .ne 13, 0, 13, 0, 0, 0, []), (17, .aload_n 0, 0, 0, 0, 0, 0, []), (18, .getfield 28, 0, 11, 4, 0, 0, []), (21, .getfield 121, 0, 7, 9, 0, 0, []),
  (24, .goto 4, 0, 14, 0, 0, 0, []), (27, .iconst (-1), 0, 0, 0, (-1), 0, []), (28, .ireturn, 0, 0, 0, 0, 0, [])]
noncomputable def pX11_fault (N : Nat) (a1 : Int32) (w : Wd) : Option (Int32 × Wd) :=
  if a1 = 0 then some ((gI w 11 0 8), w) else
  if a1 = (1 : Int32) then some ((gI w 11 0 9), w) else
  some ((-1 : Int32), w)
noncomputable def mX11_fault (N : Nat) (as : List AV) (w : Wd) : Option (Int32 × Wd) := xS1 15 as fun t => xI1 t fun a1 t => xN1 t (callW (pX11_fault N a1) w)
set_option maxRecDepth 100000 in
set_option maxHeartbeats 4000000 in
theorem kX11_fault : TK cX11_fault RX11 2 tX11_fault := ⟨by decide +kernel, wok_of [734, 476, 734, 478] (by decide +kernel) (by decide +kernel)⟩
set_option maxRecDepth 100000 in
set_option maxHeartbeats 4000000 in
theorem crX11_fault {N : Nat} {X : XT} (G : GX X cX11_fault RX11) (hR : xR X = rmL 1) : CRs X tX11_fault (oF []) (oF []) (oF []) := by
  have hl : tX11_fault.filter isInv = [] := rfl
  intro e he
  rw [hl] at he
  cases he
set_option maxRecDepth 100000 in
set_option maxHeartbeats 4000000 in
theorem MX11_fault (N : Nat) : SndI yX11_fault cX11_fault 2 (some .int) 1 2 true (mX11_fault N) := by
  refine SndI.of tX11_fault (by decide +kernel) rfl rfl ?_ ?_
  · intro as w x h
    obtain ⟨t1, rfl, h_1⟩ := xS1_some h
    obtain ⟨a1, t2, rfl, h_2⟩ := xI1_some h_1
    obtain ⟨rfl, h_3⟩ := xN1_some h_2
    clear h h_1 h_2
    have h := h_3
    rw [callW_eq] at h
    exact ⟨fun _ => ⟨_, _, _, rfl, rfl, _, rfl, rfl⟩, rfl, Nat.le_of_ble_eq_true rfl⟩
  · intro X G hn hR as w r h hr
    have hC := crX11_fault (N := N) G hR
    obtain ⟨t1, rfl, h_1⟩ := xS1_some h
    obtain ⟨a1, t2, rfl, h_2⟩ := xI1_some h_1
    obtain ⟨rfl, h_3⟩ := xN1_some h_2
    clear h h_1 h_2
    have h := h_3
    rw [callW_eq] at h
    refine run_sound (r := r) (X := X) (cc := cX11_fault) (own := RX11) (tab := tX11_fault) G (by rw [hn]; exact kX11_fault) (oI := (oF [])) (oL := (oF [])) (oV := (oF [])) (rI := (fun x w => some (x, w))) (rL := (fun _ _ => none)) (rV := (fun _ => none))
      (K := (fun j ls st w => none)) (fun x w pc ls hx hd => hr x w pc ls (Option.some.inj hx) hd) (fun _ _ _ _ hx => by cases hx) (fun _ _ _ hx => by cases hx) hC (fun ls => lsb [some (.inr (.inr (15, 0))), some (.inl a1)] 0 ls) (keepsP_of rfl) ?_ 17 0 [some (.inr (.inr (15, 0))), some (.inl a1)] [] w ?_ h
    · intro j ls st w hfx h
      obtain ⟨e0, e1, -⟩ : _ = _ ∧ _ = _ ∧ True := hfx
      try dsimp only at h
      cases h
    · exact (show _ = _ ∧ _ = _ ∧ True from ⟨rfl, rfl, trivial⟩)
-- MoorGuides.named(II)I
def tX11_named : List EN := [
  (0, .iload_n 1, 0, 0, 0, 0, 0, []), (1, .ifCond .ne 22, 0, 11, 0, 0, 0, []), (4, .aload_n 0, 0, 0, 0, 0, 0, []), (5, .getfield 16, 0, 11, 2, 0, 0, []),
  (8, .getfield 124, 0, 4, 1, 0, 0, []), (11, .aload_n 0, 0, 0, 0, 0, 0, []), (12, .getfield 16, 0, 11, 2, 0, 0, []), (15, .getfield 127, 0, 4, 0, 0, 0, []),
  (18, .iload_n 2, 0, 0, 0, 0, 0, []), (19, .invokestatic 130, 0, 0, 3, 0, 0, []), (22, .ireturn, 0, 0, 0, 0, 0, []), (23, .iload_n 1, 0, 0, 0, 0, 0, []),
  (24, .iconst 1, 0, 0, 0, 1, 0, []), (25, .if_icmp .ne 30, 0, 25, 0, 0, 0, []), (28, .aload_n 0, 0, 0, 0, 0, 0, []), (29, .getfield 16, 0, 11, 2, 0, 0, []),
  (32, .getfield 134, 0, 4, 4, 0, 0, []), (35, .getfield 138, 0, 6, 1, 0, 0, []), (38, .aload_n 0, 0, 0, 0, 0, 0, []), (39, .getfield 16, 0, 11, 2, 0, 0, []),
  (42, .getfield 134, 0, 4, 4, 0, 0, []), (45, .getfield 143, 0, 6, 0, 0, 0, []), (48, .iload_n 2, 0, 0, 0, 0, 0, []), (49, .invokestatic 130, 0, 0, 3, 0, 0, []),
  (52, .goto 4, 0, 26, 0, 0, 0, []), (55, .iconst (-1), 0, 0, 0, (-1), 0, []), (56, .ireturn, 0, 0, 0, 0, 0, [])]
noncomputable def pX11_named (N : Nat) (a1 : Int32) (a2 : Int32) (w : Wd) : Option (Int32 × Wd) :=
  if a1 = 0 then
    (callW (pX11_indexOf N 30 (gR w 15 0 2) (gI w 8 (gR w 15 0 2) 0) a2) w).bind fun r1 =>
    some (r1.1, r1.2)
  else
  if a1 = (1 : Int32) then
    (callW (pX11_indexOf N 48 (gR w 15 0 2) (gI w 10 (gR w 15 0 2) 0) a2) w).bind fun r2 =>
    some (r2.1, r2.2)
  else
  some ((-1 : Int32), w)
noncomputable def mX11_named (N : Nat) (as : List AV) (w : Wd) : Option (Int32 × Wd) := xS1 15 as fun t => xI1 t fun a1 t => xI1 t fun a2 t => xN1 t (callW (pX11_named N a1 a2) w)
set_option maxRecDepth 100000 in
set_option maxHeartbeats 4000000 in
theorem kX11_named : TK cX11_named RX11 3 tX11_named := ⟨by decide +kernel, wok_of [732, 265, 732, 261, 732, 281, 201, 732, 281, 197] (by decide +kernel) (by decide +kernel)⟩
set_option maxRecDepth 100000 in
set_option maxHeartbeats 4000000 in
theorem crX11_named {N : Nat} {X : XT} (G : GX X cX11_named RX11) (hR : xR X = rmL 2) : CRs X tX11_named (oF [(mX11_indexOf N)]) (oF []) (oF []) := by
  have hl : tX11_named.filter isInv = [(19, .invokestatic 130, 0, 0, 3, 0, 0, []), (49, .invokestatic 130, 0, 0, 3, 0, 0, [])] := rfl
  intro e he
  rw [hl] at he
  simp only [List.mem_cons, List.not_mem_nil, or_false] at he
  rcases he with rfl | rfl
  · exact crI_S (idx := 130) G (by decide +kernel) (MX11_indexOf N) (cw_of (ps := [1004, 872, 148, 873]) (by decide +kernel) (by decide +kernel)) ⟨by decide +kernel, by decide +kernel, by decide +kernel⟩ (by unfold rmOk; rw [hR]; exact ⟨by decide, by decide⟩)
  · exact crI_S (idx := 130) G (by decide +kernel) (MX11_indexOf N) (cw_of (ps := [1004, 872, 148, 873]) (by decide +kernel) (by decide +kernel)) ⟨by decide +kernel, by decide +kernel, by decide +kernel⟩ (by unfold rmOk; rw [hR]; exact ⟨by decide, by decide⟩)
set_option maxRecDepth 100000 in
set_option maxHeartbeats 4000000 in
theorem MX11_named (N : Nat) : SndI yX11_named cX11_named 3 (some .int) 2 3 true (mX11_named N) := by
  refine SndI.of tX11_named (by decide +kernel) rfl rfl ?_ ?_
  · intro as w x h
    obtain ⟨t1, rfl, h_1⟩ := xS1_some h
    obtain ⟨a1, t2, rfl, h_2⟩ := xI1_some h_1
    obtain ⟨a2, t3, rfl, h_3⟩ := xI1_some h_2
    obtain ⟨rfl, h_4⟩ := xN1_some h_3
    clear h h_1 h_2 h_3
    have h := h_4
    rw [callW_eq] at h
    exact ⟨fun _ => ⟨_, _, _, rfl, rfl, _, rfl, rfl⟩, rfl, Nat.le_of_ble_eq_true rfl⟩
  · intro X G hn hR as w r h hr
    have hC := crX11_named (N := N) G hR
    obtain ⟨t1, rfl, h_1⟩ := xS1_some h
    obtain ⟨a1, t2, rfl, h_2⟩ := xI1_some h_1
    obtain ⟨a2, t3, rfl, h_3⟩ := xI1_some h_2
    obtain ⟨rfl, h_4⟩ := xN1_some h_3
    clear h h_1 h_2 h_3
    have h := h_4
    rw [callW_eq] at h
    refine run_sound (r := r) (X := X) (cc := cX11_named) (own := RX11) (tab := tX11_named) G (by rw [hn]; exact kX11_named) (oI := (oF [(mX11_indexOf N)])) (oL := (oF [])) (oV := (oF [])) (rI := (fun x w => some (x, w))) (rL := (fun _ _ => none)) (rV := (fun _ => none))
      (K := (fun j ls st w => none)) (fun x w pc ls hx hd => hr x w pc ls (Option.some.inj hx) hd) (fun _ _ _ _ hx => by cases hx) (fun _ _ _ hx => by cases hx) hC (fun ls => lsb [some (.inr (.inr (15, 0))), some (.inl a1), some (.inl a2)] 0 ls) (keepsP_of rfl) ?_ 29 0 [some (.inr (.inr (15, 0))), some (.inl a1), some (.inl a2)] [] w ?_ h
    · intro j ls st w hfx h
      obtain ⟨e0, e1, e2, -⟩ : _ = _ ∧ _ = _ ∧ _ = _ ∧ True := hfx
      try dsimp only at h
      cases h
    · exact (show _ = _ ∧ _ = _ ∧ _ = _ ∧ True from ⟨rfl, rfl, rfl, trivial⟩)
-- MoorGuides.isPart(I)Z
def tX11_isPart : List EN := [
  (0, .iload_n 1, 0, 0, 0, 0, 0, []), (1, .ifCond .lt 18, 0, 9, 0, 0, 0, []), (4, .iload_n 1, 0, 0, 0, 0, 0, []), (5, .aload_n 0, 0, 0, 0, 0, 0, []),
  (6, .getfield 16, 0, 11, 2, 0, 0, []), (9, .getfield 127, 0, 4, 0, 0, 0, []), (12, .if_icmp .ge 7, 0, 9, 0, 0, 0, []), (15, .iconst 1, 0, 0, 0, 1, 0, []),
  (16, .goto 4, 0, 10, 0, 0, 0, []), (19, .iconst 0, 0, 0, 0, 0, 0, []), (20, .ireturn, 0, 0, 0, 0, 0, [])]
noncomputable def pX11_isPart (N : Nat) (a1 : Int32) (w : Wd) : Option (Int32 × Wd) :=
  if a1 < 0 then some ((0 : Int32), w) else
  if a1 < (gI w 8 (gR w 15 0 2) 0) then some ((1 : Int32), w) else
  some ((0 : Int32), w)
noncomputable def mX11_isPart (N : Nat) (as : List AV) (w : Wd) : Option (Int32 × Wd) := xS1 15 as fun t => xI1 t fun a1 t => xN1 t (callW (pX11_isPart N a1) w)
set_option maxRecDepth 100000 in
set_option maxHeartbeats 4000000 in
theorem kX11_isPart : TK cX11_isPart RX11 2 tX11_isPart := ⟨by decide +kernel, wok_of [732, 261] (by decide +kernel) (by decide +kernel)⟩
set_option maxRecDepth 100000 in
set_option maxHeartbeats 4000000 in
theorem crX11_isPart {N : Nat} {X : XT} (G : GX X cX11_isPart RX11) (hR : xR X = rmL 1) : CRs X tX11_isPart (oF []) (oF []) (oF []) := by
  have hl : tX11_isPart.filter isInv = [] := rfl
  intro e he
  rw [hl] at he
  cases he
set_option maxRecDepth 100000 in
set_option maxHeartbeats 4000000 in
theorem MX11_isPart (N : Nat) : SndI yX11_isPart cX11_isPart 2 (some .boolean) 1 2 true (mX11_isPart N) := by
  refine SndI.ofZ tX11_isPart (by decide +kernel) rfl rfl ?_ ?_
  · intro as w x h
    obtain ⟨t1, rfl, h_1⟩ := xS1_some h
    obtain ⟨a1, t2, rfl, h_2⟩ := xI1_some h_1
    obtain ⟨rfl, h_3⟩ := xN1_some h_2
    clear h h_1 h_2
    have h := h_3
    rw [callW_eq] at h
    exact ⟨fun _ => ⟨_, _, _, rfl, rfl, _, rfl, rfl⟩, rfl, Nat.le_of_ble_eq_true rfl⟩
  · intro X G hn hR as w r h hr
    have hC := crX11_isPart (N := N) G hR
    obtain ⟨t1, rfl, h_1⟩ := xS1_some h
    obtain ⟨a1, t2, rfl, h_2⟩ := xI1_some h_1
    obtain ⟨rfl, h_3⟩ := xN1_some h_2
    clear h h_1 h_2
    have h := h_3
    rw [callW_eq] at h
    refine run_sound (r := r) (X := X) (cc := cX11_isPart) (own := RX11) (tab := tX11_isPart) G (by rw [hn]; exact kX11_isPart) (oI := (oF [])) (oL := (oF [])) (oV := (oF [])) (rI := retZ) (rL := (fun _ _ => none)) (rV := (fun _ => none))
      (K := (fun j ls st w => none)) hr (fun _ _ _ _ hx => by cases hx) (fun _ _ _ hx => by cases hx) hC (fun ls => lsb [some (.inr (.inr (15, 0))), some (.inl a1)] 0 ls) (keepsP_of rfl) ?_ 13 0 [some (.inr (.inr (15, 0))), some (.inl a1)] [] w ?_ h
    · intro j ls st w hfx h
      obtain ⟨e0, e1, -⟩ : _ = _ ∧ _ = _ ∧ True := hfx
      try dsimp only at h
      cases h
    · exact (show _ = _ ∧ _ = _ ∧ True from ⟨rfl, rfl, trivial⟩)
-- MoorGuides.part(II)I
def tX11_part : List EN := [
  (0, .aload_n 0, 0, 0, 0, 0, 0, []), (1, .iload_n 1, 0, 0, 0, 0, 0, []), (2, .invokevirtual 185, 0, 0, 2, 0, 0, []), (5, .ifCond .ne 5, 0, 6, 0, 0, 0, []),
  (8, .iconst (-1), 0, 0, 0, (-1), 0, []), (9, .ireturn, 0, 0, 0, 0, 0, []), (10, .iload_n 2, 0, 0, 0, 0, 0, []), (11, .tableswitch 74 0 3 #[29, 39, 49, 65], 0, 33, 29, 0, 0, [(0, 8), (1, 14), (2, 20), (3, 28)]),
  (40, .aload_n 0, 0, 0, 0, 0, 0, []), (41, .getfield 16, 0, 11, 2, 0, 0, []), (44, .getfield 188, 0, 4, 2, 0, 0, []), (47, .iload_n 1, 0, 0, 0, 0, 0, []),
  (48, .iaload, 0, 0, 0, 0, 0, []), (49, .ireturn, 0, 0, 0, 0, 0, []), (50, .aload_n 0, 0, 0, 0, 0, 0, []), (51, .getfield 16, 0, 11, 2, 0, 0, []),
  (54, .getfield 191, 0, 4, 3, 0, 0, []), (57, .iload_n 1, 0, 0, 0, 0, 0, []), (58, .iaload, 0, 0, 0, 0, 0, []), (59, .ireturn, 0, 0, 0, 0, 0, []),
  (60, .aload_n 0, 0, 0, 0, 0, 0, []), (61, .getfield 16, 0, 11, 2, 0, 0, []), (64, .iload_n 1, 0, 0, 0, 0, 0, []), (65, .aload_n 0, 0, 0, 0, 0, 0, []),
  (66, .getfield 35, 0, 11, 5, 0, 0, []), (69, .getfield 157, 0, 9, 1, 0, 0, []), (72, .invokevirtual 194, 0, 1, 3, 0, 0, []), (75, .ireturn, 0, 0, 0, 0, 0, []),
  (76, .aload_n 0, 0, 0, 0, 0, 0, []), (77, .getfield 35, 0, 11, 5, 0, 0, []), (80, .iload_n 1, 0, 0, 0, 0, 0, []), (81, .invokevirtual 197, 0, 2, 2, 0, 0, []),
  (84, .ireturn, 0, 0, 0, 0, 0, []), (85, .iconst (-1), 0, 0, 0, (-1), 0, []), (86, .ireturn, 0, 0, 0, 0, 0, [])]
noncomputable def pX11_part (N : Nat) (a1 : Int32) (a2 : Int32) (w : Wd) : Option (Int32 × Wd) :=
  (callW (pX11_isPart N a1) w).bind fun r1 =>
  if r1.1 = 0 then some ((-1 : Int32), r1.2) else
  if a2 = (0 : Int32) then
    (ldI r1.2 31 (gR r1.2 15 0 2) a1 8).bind fun x2 =>
    some (x2, r1.2)
  else
  if a2 = (1 : Int32) then
    (ldI r1.2 32 (gR r1.2 15 0 2) a1 8).bind fun x3 =>
    some (x3, r1.2)
  else
  if a2 = (2 : Int32) then
    (callW (pX4_wantedOn N (gR r1.2 15 0 2) a1 (gI r1.2 13 0 1)) r1.2).bind fun r4 =>
    some (r4.1, r4.2)
  else
  if a2 = (3 : Int32) then
    (callW (pX9_knowers N 0 a1) r1.2).bind fun r5 =>
    some (r5.1, r5.2)
  else
  some ((-1 : Int32), r1.2)
noncomputable def mX11_part (N : Nat) (as : List AV) (w : Wd) : Option (Int32 × Wd) := xS1 15 as fun t => xI1 t fun a1 t => xI1 t fun a2 t => xN1 t (callW (pX11_part N a1 a2) w)
set_option maxRecDepth 100000 in
set_option maxHeartbeats 4000000 in
theorem kX11_part : TK cX11_part RX11 3 tX11_part := ⟨by decide +kernel, wok_of [732, 268, 732, 274, 732, 735, 524, 735] (by decide +kernel) (by decide +kernel)⟩
set_option maxRecDepth 100000 in
set_option maxHeartbeats 4000000 in
theorem crX11_part {N : Nat} {X : XT} (G : GX X cX11_part RX11) (hR : xR X = rmL 4) : CRs X tX11_part (oF [(mX11_isPart N), (mX4_wantedOn N), (mX9_knowers N)]) (oF []) (oF []) := by
  have hl : tX11_part.filter isInv = [(2, .invokevirtual 185, 0, 0, 2, 0, 0, []), (72, .invokevirtual 194, 0, 1, 3, 0, 0, []), (81, .invokevirtual 197, 0, 2, 2, 0, 0, [])] := rfl
  intro e he
  rw [hl] at he
  simp only [List.mem_cons, List.not_mem_nil, or_false] at he
  rcases he with rfl | rfl | rfl
  · exact crI_V (idx := 185) G (by decide +kernel) (MX11_isPart N) (cw_of (ps := [1009, 1011, 33, 148, 1012]) (by decide +kernel) (by decide +kernel)) ⟨by decide +kernel, by decide +kernel, by decide +kernel⟩ (by unfold rmOk; rw [hR]; exact ⟨by decide, by decide⟩)
  · exact crI_V (idx := 194) G (by decide +kernel) (MX4_wantedOn N) (cw_of (ps := [1013, 1014, 1015, 149, 1016]) (by decide +kernel) (by decide +kernel)) ⟨by decide +kernel, by decide +kernel, by decide +kernel⟩ (by unfold rmOk; rw [hR]; exact ⟨by decide, by decide⟩)
  · exact crI_V (idx := 197) G (by decide +kernel) (MX9_knowers N) (cw_of (ps := [1017, 1018, 1019, 158, 1020]) (by decide +kernel) (by decide +kernel)) ⟨by decide +kernel, by decide +kernel, by decide +kernel⟩ (by unfold rmOk; rw [hR]; exact ⟨by decide, by decide⟩)
set_option maxRecDepth 100000 in
set_option maxHeartbeats 4000000 in
theorem MX11_part (N : Nat) : SndI yX11_part cX11_part 3 (some .int) 4 3 true (mX11_part N) := by
  refine SndI.of tX11_part (by decide +kernel) rfl rfl ?_ ?_
  · intro as w x h
    obtain ⟨t1, rfl, h_1⟩ := xS1_some h
    obtain ⟨a1, t2, rfl, h_2⟩ := xI1_some h_1
    obtain ⟨a2, t3, rfl, h_3⟩ := xI1_some h_2
    obtain ⟨rfl, h_4⟩ := xN1_some h_3
    clear h h_1 h_2 h_3
    have h := h_4
    rw [callW_eq] at h
    exact ⟨fun _ => ⟨_, _, _, rfl, rfl, _, rfl, rfl⟩, rfl, Nat.le_of_ble_eq_true rfl⟩
  · intro X G hn hR as w r h hr
    have hC := crX11_part (N := N) G hR
    obtain ⟨t1, rfl, h_1⟩ := xS1_some h
    obtain ⟨a1, t2, rfl, h_2⟩ := xI1_some h_1
    obtain ⟨a2, t3, rfl, h_3⟩ := xI1_some h_2
    obtain ⟨rfl, h_4⟩ := xN1_some h_3
    clear h h_1 h_2 h_3
    have h := h_4
    rw [callW_eq] at h
    refine run_sound (r := r) (X := X) (cc := cX11_part) (own := RX11) (tab := tX11_part) G (by rw [hn]; exact kX11_part) (oI := (oF [(mX11_isPart N), (mX4_wantedOn N), (mX9_knowers N)])) (oL := (oF [])) (oV := (oF [])) (rI := (fun x w => some (x, w))) (rL := (fun _ _ => none)) (rV := (fun _ => none))
      (K := (fun j ls st w => none)) (fun x w pc ls hx hd => hr x w pc ls (Option.some.inj hx) hd) (fun _ _ _ _ hx => by cases hx) (fun _ _ _ hx => by cases hx) hC (fun ls => lsb [some (.inr (.inr (15, 0))), some (.inl a1), some (.inl a2)] 0 ls) (keepsP_of rfl) ?_ 37 0 [some (.inr (.inr (15, 0))), some (.inl a1), some (.inl a2)] [] w ?_ h
    · intro j ls st w hfx h
      obtain ⟨e0, e1, e2, -⟩ : _ = _ ∧ _ = _ ∧ _ = _ ∧ True := hfx
      try dsimp only at h
      cases h
    · exact (show _ = _ ∧ _ = _ ∧ _ = _ ∧ True from ⟨rfl, rfl, rfl, trivial⟩)
-- MoorGuides.isPerson(I)Z
def tX11_isPerson : List EN := [
  (0, .iload_n 1, 0, 0, 0, 0, 0, []), (1, .ifCond .lt 21, 0, 10, 0, 0, 0, []), (4, .iload_n 1, 0, 0, 0, 0, 0, []), (5, .aload_n 0, 0, 0, 0, 0, 0, []),
  (6, .getfield 16, 0, 11, 2, 0, 0, []), (9, .getfield 134, 0, 4, 4, 0, 0, []), (12, .getfield 143, 0, 6, 0, 0, 0, []), (15, .if_icmp .ge 7, 0, 10, 0, 0, 0, []),
  (18, .iconst 1, 0, 0, 0, 1, 0, []), (19, .goto 4, 0, 11, 0, 0, 0, []), (22, .iconst 0, 0, 0, 0, 0, 0, []), (23, .ireturn, 0, 0, 0, 0, 0, [])]
noncomputable def pX11_isPerson (N : Nat) (a1 : Int32) (w : Wd) : Option (Int32 × Wd) :=
  if a1 < 0 then some ((0 : Int32), w) else
  if a1 < (gI w 10 (gR w 15 0 2) 0) then some ((1 : Int32), w) else
  some ((0 : Int32), w)
noncomputable def mX11_isPerson (N : Nat) (as : List AV) (w : Wd) : Option (Int32 × Wd) := xS1 15 as fun t => xI1 t fun a1 t => xN1 t (callW (pX11_isPerson N a1) w)
set_option maxRecDepth 100000 in
set_option maxHeartbeats 4000000 in
theorem kX11_isPerson : TK cX11_isPerson RX11 2 tX11_isPerson := ⟨by decide +kernel, wok_of [732, 281, 197] (by decide +kernel) (by decide +kernel)⟩
set_option maxRecDepth 100000 in
set_option maxHeartbeats 4000000 in
theorem crX11_isPerson {N : Nat} {X : XT} (G : GX X cX11_isPerson RX11) (hR : xR X = rmL 1) : CRs X tX11_isPerson (oF []) (oF []) (oF []) := by
  have hl : tX11_isPerson.filter isInv = [] := rfl
  intro e he
  rw [hl] at he
  cases he
set_option maxRecDepth 100000 in
set_option maxHeartbeats 4000000 in
theorem MX11_isPerson (N : Nat) : SndI yX11_isPerson cX11_isPerson 2 (some .boolean) 1 2 true (mX11_isPerson N) := by
  refine SndI.ofZ tX11_isPerson (by decide +kernel) rfl rfl ?_ ?_
  · intro as w x h
    obtain ⟨t1, rfl, h_1⟩ := xS1_some h
    obtain ⟨a1, t2, rfl, h_2⟩ := xI1_some h_1
    obtain ⟨rfl, h_3⟩ := xN1_some h_2
    clear h h_1 h_2
    have h := h_3
    rw [callW_eq] at h
    exact ⟨fun _ => ⟨_, _, _, rfl, rfl, _, rfl, rfl⟩, rfl, Nat.le_of_ble_eq_true rfl⟩
  · intro X G hn hR as w r h hr
    have hC := crX11_isPerson (N := N) G hR
    obtain ⟨t1, rfl, h_1⟩ := xS1_some h
    obtain ⟨a1, t2, rfl, h_2⟩ := xI1_some h_1
    obtain ⟨rfl, h_3⟩ := xN1_some h_2
    clear h h_1 h_2
    have h := h_3
    rw [callW_eq] at h
    refine run_sound (r := r) (X := X) (cc := cX11_isPerson) (own := RX11) (tab := tX11_isPerson) G (by rw [hn]; exact kX11_isPerson) (oI := (oF [])) (oL := (oF [])) (oV := (oF [])) (rI := retZ) (rL := (fun _ _ => none)) (rV := (fun _ => none))
      (K := (fun j ls st w => none)) hr (fun _ _ _ _ hx => by cases hx) (fun _ _ _ hx => by cases hx) hC (fun ls => lsb [some (.inr (.inr (15, 0))), some (.inl a1)] 0 ls) (keepsP_of rfl) ?_ 14 0 [some (.inr (.inr (15, 0))), some (.inl a1)] [] w ?_ h
    · intro j ls st w hfx h
      obtain ⟨e0, e1, -⟩ : _ = _ ∧ _ = _ ∧ True := hfx
      try dsimp only at h
      cases h
    · exact (show _ = _ ∧ _ = _ ∧ True from ⟨rfl, rfl, trivial⟩)
-- MoorGuides.isNight(I)Z
def tX11_isNight : List EN := [
  (0, .iload_n 0, 0, 0, 0, 0, 0, []), (1, .ifCond .lt 14, 0, 7, 0, 0, 0, []), (4, .iload_n 0, 0, 0, 0, 0, 0, []), (5, .sipush 999, 0, 0, 0, 999, 0, []),
  (8, .if_icmp .gt 7, 0, 7, 0, 0, 0, []), (11, .iconst 1, 0, 0, 0, 1, 0, []), (12, .goto 4, 0, 8, 0, 0, 0, []), (15, .iconst 0, 0, 0, 0, 0, 0, []),
  (16, .ireturn, 0, 0, 0, 0, 0, [])]
noncomputable def pX11_isNight (N : Nat) (a0 : Int32) (w : Wd) : Option (Int32 × Wd) :=
  if a0 < 0 then some ((0 : Int32), w) else
  if (999 : Int32) < a0 then some ((0 : Int32), w) else
  some ((1 : Int32), w)
noncomputable def mX11_isNight (N : Nat) (as : List AV) (w : Wd) : Option (Int32 × Wd) := xI1 as fun a0 t => xN1 t (callW (pX11_isNight N a0) w)
set_option maxRecDepth 100000 in
set_option maxHeartbeats 4000000 in
theorem kX11_isNight : TK cX11_isNight RX11 1 tX11_isNight := ⟨by decide +kernel, wok_of [] (by decide +kernel) (by decide +kernel)⟩
set_option maxRecDepth 100000 in
set_option maxHeartbeats 4000000 in
theorem crX11_isNight {N : Nat} {X : XT} (G : GX X cX11_isNight RX11) (hR : xR X = rmL 1) : CRs X tX11_isNight (oF []) (oF []) (oF []) := by
  have hl : tX11_isNight.filter isInv = [] := rfl
  intro e he
  rw [hl] at he
  cases he
set_option maxRecDepth 100000 in
set_option maxHeartbeats 4000000 in
theorem MX11_isNight (N : Nat) : SndI yX11_isNight cX11_isNight 1 (some .boolean) 1 1 false (mX11_isNight N) := by
  refine SndI.ofZ tX11_isNight (by decide +kernel) rfl rfl ?_ ?_
  · intro as w x h
    obtain ⟨a0, t1, rfl, h_1⟩ := xI1_some h
    obtain ⟨rfl, h_2⟩ := xN1_some h_1
    clear h h_1
    have h := h_2
    rw [callW_eq] at h
    exact ⟨(fun z => by cases z), rfl, Nat.le_of_ble_eq_true rfl⟩
  · intro X G hn hR as w r h hr
    have hC := crX11_isNight (N := N) G hR
    obtain ⟨a0, t1, rfl, h_1⟩ := xI1_some h
    obtain ⟨rfl, h_2⟩ := xN1_some h_1
    clear h h_1
    have h := h_2
    rw [callW_eq] at h
    refine run_sound (r := r) (X := X) (cc := cX11_isNight) (own := RX11) (tab := tX11_isNight) G (by rw [hn]; exact kX11_isNight) (oI := (oF [])) (oL := (oF [])) (oV := (oF [])) (rI := retZ) (rL := (fun _ _ => none)) (rV := (fun _ => none))
      (K := (fun j ls st w => none)) hr (fun _ _ _ _ hx => by cases hx) (fun _ _ _ hx => by cases hx) hC (fun ls => lsb [some (.inl a0)] 0 ls) (keepsP_of rfl) ?_ 11 0 [some (.inl a0)] [] w ?_ h
    · intro j ls st w hfx h
      obtain ⟨e0, -⟩ : _ = _ ∧ True := hfx
      try dsimp only at h
      cases h
    · exact (show _ = _ ∧ True from ⟨rfl, trivial⟩)
-- MoorGuides.knows(III)I
def tX11_knows : List EN := [
  (0, .aload_n 0, 0, 0, 0, 0, 0, []), (1, .iload_n 1, 0, 0, 0, 0, 0, []), (2, .invokevirtual 146, 0, 0, 2, 0, 0, []), (5, .ifCond .eq 18, 0, 11, 0, 0, 0, []),
  (8, .aload_n 0, 0, 0, 0, 0, 0, []), (9, .iload_n 2, 0, 0, 0, 0, 0, []), (10, .invokevirtual 185, 0, 1, 2, 0, 0, []), (13, .ifCond .eq 10, 0, 11, 0, 0, 0, []),
  (16, .iload_n 3, 0, 0, 0, 0, 0, []), (17, .invokestatic 201, 0, 2, 1, 0, 0, []), (20, .ifCond .ne 5, 0, 13, 0, 0, 0, []), (23, .iconst (-1), 0, 0, 0, (-1), 0, []),
  (24, .ireturn, 0, 0, 0, 0, 0, []), (25, .aload_n 0, 0, 0, 0, 0, 0, []), (26, .getfield 35, 0, 11, 5, 0, 0, []), (29, .iload_n 1, 0, 0, 0, 0, 0, []),
  (30, .iload_n 3, 0, 0, 0, 0, 0, []), (31, .invokevirtual 167, 0, 3, 3, 0, 0, []), (34, .iload_n 2, 0, 0, 0, 0, 0, []), (35, .ishr, 0, 0, 0, 0, 0, []),
  (36, .iconst 1, 0, 0, 0, 1, 0, []), (37, .iand, 0, 0, 0, 0, 0, []), (38, .ireturn, 0, 0, 0, 0, 0, [])]
noncomputable def pX11_knows (N : Nat) (a1 : Int32) (a2 : Int32) (a3 : Int32) (w : Wd) : Option (Int32 × Wd) :=
  (callW (pX11_isPerson N a1) w).bind fun r1 =>
  if r1.1 = 0 then some ((-1 : Int32), r1.2) else
  (callW (pX11_isPart N a2) r1.2).bind fun r2 =>
  if r2.1 = 0 then some ((-1 : Int32), r2.2) else
  (callW (pX11_isNight N a3) r2.2).bind fun r3 =>
  if r3.1 = 0 then some ((-1 : Int32), r3.2) else
  (callW (pX9_knownBits N 0 a1 a3) r3.2).bind fun r4 =>
  some (((r4.1 >>> (a2 &&& (31 : Int32))) &&& (1 : Int32)), r4.2)
noncomputable def mX11_knows (N : Nat) (as : List AV) (w : Wd) : Option (Int32 × Wd) := xS1 15 as fun t => xI1 t fun a1 t => xI1 t fun a2 t => xI1 t fun a3 t => xN1 t (callW (pX11_knows N a1 a2 a3) w)
set_option maxRecDepth 100000 in
set_option maxHeartbeats 4000000 in
theorem kX11_knows : TK cX11_knows RX11 4 tX11_knows := ⟨by decide +kernel, wok_of [735] (by decide +kernel) (by decide +kernel)⟩
set_option maxRecDepth 100000 in
set_option maxHeartbeats 4000000 in
theorem crX11_knows {N : Nat} {X : XT} (G : GX X cX11_knows RX11) (hR : xR X = rmL 3) : CRs X tX11_knows (oF [(mX11_isPerson N), (mX11_isPart N), (mX11_isNight N), (mX9_knownBits N)]) (oF []) (oF []) := by
  have hl : tX11_knows.filter isInv = [(2, .invokevirtual 146, 0, 0, 2, 0, 0, []), (10, .invokevirtual 185, 0, 1, 2, 0, 0, []), (17, .invokestatic 201, 0, 2, 1, 0, 0, []), (31, .invokevirtual 167, 0, 3, 3, 0, 0, [])] := rfl
  intro e he
  rw [hl] at he
  simp only [List.mem_cons, List.not_mem_nil, or_false] at he
  rcases he with rfl | rfl | rfl | rfl
  · exact crI_V (idx := 146) G (by decide +kernel) (MX11_isPerson N) (cw_of (ps := [1033, 1035, 34, 148, 1036]) (by decide +kernel) (by decide +kernel)) ⟨by decide +kernel, by decide +kernel, by decide +kernel⟩ (by unfold rmOk; rw [hR]; exact ⟨by decide, by decide⟩)
  · exact crI_V (idx := 185) G (by decide +kernel) (MX11_isPart N) (cw_of (ps := [1009, 1011, 33, 148, 1012]) (by decide +kernel) (by decide +kernel)) ⟨by decide +kernel, by decide +kernel, by decide +kernel⟩ (by unfold rmOk; rw [hR]; exact ⟨by decide, by decide⟩)
  · exact crI_S (idx := 201) G (by decide +kernel) (MX11_isNight N) (cw_of (ps := [1037, 1038, 148, 1039]) (by decide +kernel) (by decide +kernel)) ⟨by decide +kernel, by decide +kernel, by decide +kernel⟩ (by unfold rmOk; rw [hR]; exact ⟨by decide, by decide⟩)
  · exact crI_V (idx := 167) G (by decide +kernel) (MX9_knownBits N) (cw_of (ps := [1040, 1022, 1023, 158, 1024]) (by decide +kernel) (by decide +kernel)) ⟨by decide +kernel, by decide +kernel, by decide +kernel⟩ (by unfold rmOk; rw [hR]; exact ⟨by decide, by decide⟩)
set_option maxRecDepth 100000 in
set_option maxHeartbeats 4000000 in
theorem MX11_knows (N : Nat) : SndI yX11_knows cX11_knows 4 (some .int) 3 4 true (mX11_knows N) := by
  refine SndI.of tX11_knows (by decide +kernel) rfl rfl ?_ ?_
  · intro as w x h
    obtain ⟨t1, rfl, h_1⟩ := xS1_some h
    obtain ⟨a1, t2, rfl, h_2⟩ := xI1_some h_1
    obtain ⟨a2, t3, rfl, h_3⟩ := xI1_some h_2
    obtain ⟨a3, t4, rfl, h_4⟩ := xI1_some h_3
    obtain ⟨rfl, h_5⟩ := xN1_some h_4
    clear h h_1 h_2 h_3 h_4
    have h := h_5
    rw [callW_eq] at h
    exact ⟨fun _ => ⟨_, _, _, rfl, rfl, _, rfl, rfl⟩, rfl, Nat.le_of_ble_eq_true rfl⟩
  · intro X G hn hR as w r h hr
    have hC := crX11_knows (N := N) G hR
    obtain ⟨t1, rfl, h_1⟩ := xS1_some h
    obtain ⟨a1, t2, rfl, h_2⟩ := xI1_some h_1
    obtain ⟨a2, t3, rfl, h_3⟩ := xI1_some h_2
    obtain ⟨a3, t4, rfl, h_4⟩ := xI1_some h_3
    obtain ⟨rfl, h_5⟩ := xN1_some h_4
    clear h h_1 h_2 h_3 h_4
    have h := h_5
    rw [callW_eq] at h
    refine run_sound (r := r) (X := X) (cc := cX11_knows) (own := RX11) (tab := tX11_knows) G (by rw [hn]; exact kX11_knows) (oI := (oF [(mX11_isPerson N), (mX11_isPart N), (mX11_isNight N), (mX9_knownBits N)])) (oL := (oF [])) (oV := (oF [])) (rI := (fun x w => some (x, w))) (rL := (fun _ _ => none)) (rV := (fun _ => none))
      (K := (fun j ls st w => none)) (fun x w pc ls hx hd => hr x w pc ls (Option.some.inj hx) hd) (fun _ _ _ _ hx => by cases hx) (fun _ _ _ hx => by cases hx) hC (fun ls => lsb [some (.inr (.inr (15, 0))), some (.inl a1), some (.inl a2), some (.inl a3)] 0 ls) (keepsP_of rfl) ?_ 25 0 [some (.inr (.inr (15, 0))), some (.inl a1), some (.inl a2), some (.inl a3)] [] w ?_ h
    · intro j ls st w hfx h
      obtain ⟨e0, e1, e2, e3, -⟩ : _ = _ ∧ _ = _ ∧ _ = _ ∧ _ = _ ∧ True := hfx
      try dsimp only at h
      cases h
    · exact (show _ = _ ∧ _ = _ ∧ _ = _ ∧ _ = _ ∧ True from ⟨rfl, rfl, rfl, rfl, trivial⟩)
-- MoorGuides.steps(II)I
def tX11_steps : List EN := [
  (0, .aload_n 0, 0, 0, 0, 0, 0, []), (1, .iload_n 1, 0, 0, 0, 0, 0, []), (2, .invokevirtual 185, 0, 0, 2, 0, 0, []), (5, .ifCond .eq 30, 0, 17, 0, 0, 0, []),
  (8, .aload_n 0, 0, 0, 0, 0, 0, []), (9, .iload_n 2, 0, 0, 0, 0, 0, []), (10, .invokevirtual 185, 0, 0, 2, 0, 0, []), (13, .ifCond .eq 22, 0, 17, 0, 0, 0, []),
  (16, .aload_n 0, 0, 0, 0, 0, 0, []), (17, .getfield 16, 0, 11, 2, 0, 0, []), (20, .iload_n 1, 0, 0, 0, 0, 0, []), (21, .iload_n 2, 0, 0, 0, 0, 0, []),
  (22, .aload_n 0, 0, 0, 0, 0, 0, []), (23, .getfield 16, 0, 11, 2, 0, 0, []), (26, .invokevirtual 204, 0, 1, 1, 0, 0, []), (29, .invokevirtual 208, 0, 2, 4, 0, 0, []),
  (32, .goto 4, 0, 18, 0, 0, 0, []), (35, .iconst (-1), 0, 0, 0, (-1), 0, []), (36, .ireturn, 0, 0, 0, 0, 0, [])]
noncomputable def pX11_steps (N : Nat) (a1 : Int32) (a2 : Int32) (w : Wd) : Option (Int32 × Wd) :=
  (callW (pX11_isPart N a1) w).bind fun r1 =>
  if r1.1 = 0 then some ((-1 : Int32), r1.2) else
  (callW (pX11_isPart N a2) r1.2).bind fun r2 =>
  if r2.1 = 0 then some ((-1 : Int32), r2.2) else
  (callW (pX4_allParts N (gR r2.2 15 0 2)) r2.2).bind fun r3 =>
  (callW (pX4_distance N (gR r2.2 15 0 2) a1 a2 r3.1) r3.2).bind fun r4 =>
  some (r4.1, r4.2)
noncomputable def mX11_steps (N : Nat) (as : List AV) (w : Wd) : Option (Int32 × Wd) := xS1 15 as fun t => xI1 t fun a1 t => xI1 t fun a2 t => xN1 t (callW (pX11_steps N a1 a2) w)
set_option maxRecDepth 100000 in
set_option maxHeartbeats 4000000 in
theorem kX11_steps : TK cX11_steps RX11 3 tX11_steps := ⟨by decide +kernel, wok_of [732, 732] (by decide +kernel) (by decide +kernel)⟩
set_option maxRecDepth 100000 in
set_option maxHeartbeats 4000000 in
theorem crX11_steps {N : Nat} {X : XT} (G : GX X cX11_steps RX11) (hR : xR X = rmL 2) : CRs X tX11_steps (oF [(mX11_isPart N), (mX4_allParts N), (mX4_distance N)]) (oF []) (oF []) := by
  have hl : tX11_steps.filter isInv = [(2, .invokevirtual 185, 0, 0, 2, 0, 0, []), (10, .invokevirtual 185, 0, 0, 2, 0, 0, []), (26, .invokevirtual 204, 0, 1, 1, 0, 0, []), (29, .invokevirtual 208, 0, 2, 4, 0, 0, [])] := rfl
  intro e he
  rw [hl] at he
  simp only [List.mem_cons, List.not_mem_nil, or_false] at he
  rcases he with rfl | rfl | rfl | rfl
  · exact crI_V (idx := 185) G (by decide +kernel) (MX11_isPart N) (cw_of (ps := [1009, 1011, 33, 148, 1012]) (by decide +kernel) (by decide +kernel)) ⟨by decide +kernel, by decide +kernel, by decide +kernel⟩ (by unfold rmOk; rw [hR]; exact ⟨by decide, by decide⟩)
  · exact crI_V (idx := 185) G (by decide +kernel) (MX11_isPart N) (cw_of (ps := [1009, 1011, 33, 148, 1012]) (by decide +kernel) (by decide +kernel)) ⟨by decide +kernel, by decide +kernel, by decide +kernel⟩ (by unfold rmOk; rw [hR]; exact ⟨by decide, by decide⟩)
  · exact crI_V (idx := 204) G (by decide +kernel) (MX4_allParts N) (cw_of (ps := [1045, 1046, 1047, 149, 1048]) (by decide +kernel) (by decide +kernel)) ⟨by decide +kernel, by decide +kernel, by decide +kernel⟩ (by unfold rmOk; rw [hR]; exact ⟨by decide, by decide⟩)
  · exact crI_V (idx := 208) G (by decide +kernel) (MX4_distance N) (cw_of (ps := [1049, 1050, 1051, 149, 1052]) (by decide +kernel) (by decide +kernel)) ⟨by decide +kernel, by decide +kernel, by decide +kernel⟩ (by unfold rmOk; rw [hR]; exact ⟨by decide, by decide⟩)
set_option maxRecDepth 100000 in
set_option maxHeartbeats 4000000 in
theorem MX11_steps (N : Nat) : SndI yX11_steps cX11_steps 3 (some .int) 2 3 true (mX11_steps N) := by
  refine SndI.of tX11_steps (by decide +kernel) rfl rfl ?_ ?_
  · intro as w x h
    obtain ⟨t1, rfl, h_1⟩ := xS1_some h
    obtain ⟨a1, t2, rfl, h_2⟩ := xI1_some h_1
    obtain ⟨a2, t3, rfl, h_3⟩ := xI1_some h_2
    obtain ⟨rfl, h_4⟩ := xN1_some h_3
    clear h h_1 h_2 h_3
    have h := h_4
    rw [callW_eq] at h
    exact ⟨fun _ => ⟨_, _, _, rfl, rfl, _, rfl, rfl⟩, rfl, Nat.le_of_ble_eq_true rfl⟩
  · intro X G hn hR as w r h hr
    have hC := crX11_steps (N := N) G hR
    obtain ⟨t1, rfl, h_1⟩ := xS1_some h
    obtain ⟨a1, t2, rfl, h_2⟩ := xI1_some h_1
    obtain ⟨a2, t3, rfl, h_3⟩ := xI1_some h_2
    obtain ⟨rfl, h_4⟩ := xN1_some h_3
    clear h h_1 h_2 h_3
    have h := h_4
    rw [callW_eq] at h
    refine run_sound (r := r) (X := X) (cc := cX11_steps) (own := RX11) (tab := tX11_steps) G (by rw [hn]; exact kX11_steps) (oI := (oF [(mX11_isPart N), (mX4_allParts N), (mX4_distance N)])) (oL := (oF [])) (oV := (oF [])) (rI := (fun x w => some (x, w))) (rL := (fun _ _ => none)) (rV := (fun _ => none))
      (K := (fun j ls st w => none)) (fun x w pc ls hx hd => hr x w pc ls (Option.some.inj hx) hd) (fun _ _ _ _ hx => by cases hx) (fun _ _ _ hx => by cases hx) hC (fun ls => lsb [some (.inr (.inr (15, 0))), some (.inl a1), some (.inl a2)] 0 ls) (keepsP_of rfl) ?_ 21 0 [some (.inr (.inr (15, 0))), some (.inl a1), some (.inl a2)] [] w ?_ h
    · intro j ls st w hfx h
      obtain ⟨e0, e1, e2, -⟩ : _ = _ ∧ _ = _ ∧ _ = _ ∧ True := hfx
      try dsimp only at h
      cases h
    · exact (show _ = _ ∧ _ = _ ∧ _ = _ ∧ True from ⟨rfl, rfl, rfl, trivial⟩)
-- MoorGuides.isThereTonight(I)Z
def tX11_isThereTonight : List EN := [
  (0, .aload_n 0, 0, 0, 0, 0, 0, []), (1, .iload_n 1, 0, 0, 0, 0, 0, []), (2, .invokevirtual 146, 0, 0, 2, 0, 0, []), (5, .ifCond .eq 25, 0, 14, 0, 0, 0, []),
  (8, .aload_n 0, 0, 0, 0, 0, 0, []), (9, .getfield 35, 0, 11, 5, 0, 0, []), (12, .iload_n 1, 0, 0, 0, 0, 0, []), (13, .aload_n 0, 0, 0, 0, 0, 0, []),
  (14, .getfield 35, 0, 11, 5, 0, 0, []), (17, .getfield 157, 0, 9, 1, 0, 0, []), (20, .invokevirtual 160, 0, 1, 3, 0, 0, []), (23, .ifCond .eq 7, 0, 14, 0, 0, 0, []),
  (26, .iconst 1, 0, 0, 0, 1, 0, []), (27, .goto 4, 0, 15, 0, 0, 0, []), (30, .iconst 0, 0, 0, 0, 0, 0, []), (31, .ireturn, 0, 0, 0, 0, 0, [])]
noncomputable def pX11_isThereTonight (N : Nat) (a1 : Int32) (w : Wd) : Option (Int32 × Wd) :=
  (callW (pX11_isPerson N a1) w).bind fun r1 =>
  if r1.1 = 0 then some ((0 : Int32), r1.2) else
  (callW (pX9_isThere N 0 a1 (gI r1.2 13 0 1)) r1.2).bind fun r2 =>
  if r2.1 = 0 then some ((0 : Int32), r2.2) else
  some ((1 : Int32), r2.2)
noncomputable def mX11_isThereTonight (N : Nat) (as : List AV) (w : Wd) : Option (Int32 × Wd) := xS1 15 as fun t => xI1 t fun a1 t => xN1 t (callW (pX11_isThereTonight N a1) w)
set_option maxRecDepth 100000 in
set_option maxHeartbeats 4000000 in
theorem kX11_isThereTonight : TK cX11_isThereTonight RX11 2 tX11_isThereTonight := ⟨by decide +kernel, wok_of [735, 735, 524] (by decide +kernel) (by decide +kernel)⟩
set_option maxRecDepth 100000 in
set_option maxHeartbeats 4000000 in
theorem crX11_isThereTonight {N : Nat} {X : XT} (G : GX X cX11_isThereTonight RX11) (hR : xR X = rmL 2) : CRs X tX11_isThereTonight (oF [(mX11_isPerson N), (mX9_isThere N)]) (oF []) (oF []) := by
  have hl : tX11_isThereTonight.filter isInv = [(2, .invokevirtual 146, 0, 0, 2, 0, 0, []), (20, .invokevirtual 160, 0, 1, 3, 0, 0, [])] := rfl
  intro e he
  rw [hl] at he
  simp only [List.mem_cons, List.not_mem_nil, or_false] at he
  rcases he with rfl | rfl
  · exact crI_V (idx := 146) G (by decide +kernel) (MX11_isPerson N) (cw_of (ps := [1033, 1035, 34, 148, 1036]) (by decide +kernel) (by decide +kernel)) ⟨by decide +kernel, by decide +kernel, by decide +kernel⟩ (by unfold rmOk; rw [hR]; exact ⟨by decide, by decide⟩)
  · exact crI_V (idx := 160) G (by decide +kernel) (MX9_isThere N) (cw_of (ps := [1061, 1026, 1027, 158, 1028]) (by decide +kernel) (by decide +kernel)) ⟨by decide +kernel, by decide +kernel, by decide +kernel⟩ (by unfold rmOk; rw [hR]; exact ⟨by decide, by decide⟩)
set_option maxRecDepth 100000 in
set_option maxHeartbeats 4000000 in
theorem MX11_isThereTonight (N : Nat) : SndI yX11_isThereTonight cX11_isThereTonight 2 (some .boolean) 2 2 true (mX11_isThereTonight N) := by
  refine SndI.ofZ tX11_isThereTonight (by decide +kernel) rfl rfl ?_ ?_
  · intro as w x h
    obtain ⟨t1, rfl, h_1⟩ := xS1_some h
    obtain ⟨a1, t2, rfl, h_2⟩ := xI1_some h_1
    obtain ⟨rfl, h_3⟩ := xN1_some h_2
    clear h h_1 h_2
    have h := h_3
    rw [callW_eq] at h
    exact ⟨fun _ => ⟨_, _, _, rfl, rfl, _, rfl, rfl⟩, rfl, Nat.le_of_ble_eq_true rfl⟩
  · intro X G hn hR as w r h hr
    have hC := crX11_isThereTonight (N := N) G hR
    obtain ⟨t1, rfl, h_1⟩ := xS1_some h
    obtain ⟨a1, t2, rfl, h_2⟩ := xI1_some h_1
    obtain ⟨rfl, h_3⟩ := xN1_some h_2
    clear h h_1 h_2
    have h := h_3
    rw [callW_eq] at h
    refine run_sound (r := r) (X := X) (cc := cX11_isThereTonight) (own := RX11) (tab := tX11_isThereTonight) G (by rw [hn]; exact kX11_isThereTonight) (oI := (oF [(mX11_isPerson N), (mX9_isThere N)])) (oL := (oF [])) (oV := (oF [])) (rI := retZ) (rL := (fun _ _ => none)) (rV := (fun _ => none))
      (K := (fun j ls st w => none)) hr (fun _ _ _ _ hx => by cases hx) (fun _ _ _ hx => by cases hx) hC (fun ls => lsb [some (.inr (.inr (15, 0))), some (.inl a1)] 0 ls) (keepsP_of rfl) ?_ 18 0 [some (.inr (.inr (15, 0))), some (.inl a1)] [] w ?_ h
    · intro j ls st w hfx h
      obtain ⟨e0, e1, -⟩ : _ = _ ∧ _ = _ ∧ True := hfx
      try dsimp only at h
      cases h
    · exact (show _ = _ ∧ _ = _ ∧ True from ⟨rfl, rfl, trivial⟩)
-- MoorGuides.chance(II)I
def tX11_chance : List EN := [
  (0, .aload_n 0, 0, 0, 0, 0, 0, []), (1, .iload_n 1, 0, 0, 0, 0, 0, []), (2, .invokevirtual 212, 0, 0, 2, 0, 0, []), (5, .ifCond .eq 23, 0, 14, 0, 0, 0, []),
  (8, .aload_n 0, 0, 0, 0, 0, 0, []), (9, .iload_n 2, 0, 0, 0, 0, 0, []), (10, .invokevirtual 185, 0, 1, 2, 0, 0, []), (13, .ifCond .eq 15, 0, 14, 0, 0, 0, []),
  (16, .aload_n 0, 0, 0, 0, 0, 0, []), (17, .getfield 35, 0, 11, 5, 0, 0, []), (20, .iload_n 1, 0, 0, 0, 0, 0, []), (21, .iload_n 2, 0, 0, 0, 0, 0, []),
  (22, .invokevirtual 215, 0, 2, 3, 0, 0, []), (25, .goto 4, 0, 15, 0, 0, 0, []), (28, .iconst (-1), 0, 0, 0, (-1), 0, []), (29, .ireturn, 0, 0, 0, 0, 0, [])]
noncomputable def pX11_chance (N : Nat) (a1 : Int32) (a2 : Int32) (w : Wd) : Option (Int32 × Wd) :=
  (callW (pX11_isThereTonight N a1) w).bind fun r1 =>
  if r1.1 = 0 then some ((-1 : Int32), r1.2) else
  (callW (pX11_isPart N a2) r1.2).bind fun r2 =>
  if r2.1 = 0 then some ((-1 : Int32), r2.2) else
  (callW (pX9_chanceTonight N 0 a1 a2) r2.2).bind fun r3 =>
  some (r3.1, r3.2)
noncomputable def mX11_chance (N : Nat) (as : List AV) (w : Wd) : Option (Int32 × Wd) := xS1 15 as fun t => xI1 t fun a1 t => xI1 t fun a2 t => xN1 t (callW (pX11_chance N a1 a2) w)
set_option maxRecDepth 100000 in
set_option maxHeartbeats 4000000 in
theorem kX11_chance : TK cX11_chance RX11 3 tX11_chance := ⟨by decide +kernel, wok_of [735] (by decide +kernel) (by decide +kernel)⟩
set_option maxRecDepth 100000 in
set_option maxHeartbeats 4000000 in
theorem crX11_chance {N : Nat} {X : XT} (G : GX X cX11_chance RX11) (hR : xR X = rmL 6) : CRs X tX11_chance (oF [(mX11_isThereTonight N), (mX11_isPart N), (mX9_chanceTonight N)]) (oF []) (oF []) := by
  have hl : tX11_chance.filter isInv = [(2, .invokevirtual 212, 0, 0, 2, 0, 0, []), (10, .invokevirtual 185, 0, 1, 2, 0, 0, []), (22, .invokevirtual 215, 0, 2, 3, 0, 0, [])] := rfl
  intro e he
  rw [hl] at he
  simp only [List.mem_cons, List.not_mem_nil, or_false] at he
  rcases he with rfl | rfl | rfl
  · exact crI_V (idx := 212) G (by decide +kernel) (MX11_isThereTonight N) (cw_of (ps := [1057, 1059, 35, 148, 1060]) (by decide +kernel) (by decide +kernel)) ⟨by decide +kernel, by decide +kernel, by decide +kernel⟩ (by unfold rmOk; rw [hR]; exact ⟨by decide, by decide⟩)
  · exact crI_V (idx := 185) G (by decide +kernel) (MX11_isPart N) (cw_of (ps := [1009, 1011, 33, 148, 1012]) (by decide +kernel) (by decide +kernel)) ⟨by decide +kernel, by decide +kernel, by decide +kernel⟩ (by unfold rmOk; rw [hR]; exact ⟨by decide, by decide⟩)
  · exact crI_V (idx := 215) G (by decide +kernel) (MX9_chanceTonight N) (cw_of (ps := [1062, 1063, 1064, 158, 1065]) (by decide +kernel) (by decide +kernel)) ⟨by decide +kernel, by decide +kernel, by decide +kernel⟩ (by unfold rmOk; rw [hR]; exact ⟨by decide, by decide⟩)
set_option maxRecDepth 100000 in
set_option maxHeartbeats 4000000 in
theorem MX11_chance (N : Nat) : SndI yX11_chance cX11_chance 3 (some .int) 6 3 true (mX11_chance N) := by
  refine SndI.of tX11_chance (by decide +kernel) rfl rfl ?_ ?_
  · intro as w x h
    obtain ⟨t1, rfl, h_1⟩ := xS1_some h
    obtain ⟨a1, t2, rfl, h_2⟩ := xI1_some h_1
    obtain ⟨a2, t3, rfl, h_3⟩ := xI1_some h_2
    obtain ⟨rfl, h_4⟩ := xN1_some h_3
    clear h h_1 h_2 h_3
    have h := h_4
    rw [callW_eq] at h
    exact ⟨fun _ => ⟨_, _, _, rfl, rfl, _, rfl, rfl⟩, rfl, Nat.le_of_ble_eq_true rfl⟩
  · intro X G hn hR as w r h hr
    have hC := crX11_chance (N := N) G hR
    obtain ⟨t1, rfl, h_1⟩ := xS1_some h
    obtain ⟨a1, t2, rfl, h_2⟩ := xI1_some h_1
    obtain ⟨a2, t3, rfl, h_3⟩ := xI1_some h_2
    obtain ⟨rfl, h_4⟩ := xN1_some h_3
    clear h h_1 h_2 h_3
    have h := h_4
    rw [callW_eq] at h
    refine run_sound (r := r) (X := X) (cc := cX11_chance) (own := RX11) (tab := tX11_chance) G (by rw [hn]; exact kX11_chance) (oI := (oF [(mX11_isThereTonight N), (mX11_isPart N), (mX9_chanceTonight N)])) (oL := (oF [])) (oV := (oF [])) (rI := (fun x w => some (x, w))) (rL := (fun _ _ => none)) (rV := (fun _ => none))
      (K := (fun j ls st w => none)) (fun x w pc ls hx hd => hr x w pc ls (Option.some.inj hx) hd) (fun _ _ _ _ hx => by cases hx) (fun _ _ _ hx => by cases hx) hC (fun ls => lsb [some (.inr (.inr (15, 0))), some (.inl a1), some (.inl a2)] 0 ls) (keepsP_of rfl) ?_ 18 0 [some (.inr (.inr (15, 0))), some (.inl a1), some (.inl a2)] [] w ?_ h
    · intro j ls st w hfx h
      obtain ⟨e0, e1, e2, -⟩ : _ = _ ∧ _ = _ ∧ _ = _ ∧ True := hfx
      try dsimp only at h
      cases h
    · exact (show _ = _ ∧ _ = _ ∧ _ = _ ∧ True from ⟨rfl, rfl, rfl, trivial⟩)
-- MoorGuides.law(III)J
def tX11_law : List EN := [
  (0, .iload_n 1, 0, 0, 0, 0, 0, []), (1, .ifCond .lt 24, 0, 13, 0, 0, 0, []), (4, .iload_n 1, 0, 0, 0, 0, 0, []), (5, .iconst 1, 0, 0, 0, 1, 0, []),
  (6, .if_icmp .gt 19, 0, 13, 0, 0, 0, []), (9, .aload_n 0, 0, 0, 0, 0, 0, []), (10, .iload_n 2, 0, 0, 0, 0, 0, []), (11, .invokevirtual 212, 0, 0, 2, 0, 0, []),
  (14, .ifCond .eq 11, 0, 13, 0, 0, 0, []), (17, .aload_n 0, 0, 0, 0, 0, 0, []), (18, .iload_n 3, 0, 0, 0, 0, 0, []), (19, .invokevirtual 185, 0, 1, 2, 0, 0, []),
  (22, .ifCond .ne 7, 0, 15, 0, 0, 0, []), (25, .ldc2_w 220, 0, 0, 0, 0, (-9223372036854775808), []), (28, .lreturn, 0, 0, 0, 0, 0, []), (29, .aload_n 0, 0, 0, 0, 0, 0, []),
  (30, .getfield 35, 0, 11, 5, 0, 0, []), (33, .iload_n 1, 0, 0, 0, 0, 0, []), (34, .ifCond .ne 13, 0, 23, 0, 0, 0, []), (37, .aload_n 0, 0, 0, 0, 0, 0, []),
  (38, .getfield 16, 0, 11, 2, 0, 0, []), (41, .getfield 222, 0, 4, 18, 0, 0, []), (44, .goto 10, 0, 26, 0, 0, 0, []), (47, .aload_n 0, 0, 0, 0, 0, 0, []),
  (48, .getfield 16, 0, 11, 2, 0, 0, []), (51, .getfield 226, 0, 4, 19, 0, 0, []), (54, .iload_n 2, 0, 0, 0, 0, 0, []), (55, .iload_n 3, 0, 0, 0, 0, 0, []),
  (56, .invokevirtual 229, 0, 0, 4, 0, 0, [(0, 0)]), (59, .lreturn, 0, 0, 0, 0, 0, [])]
noncomputable def pX11_law (N : Nat) (a1 : Int32) (a2 : Int32) (a3 : Int32) (w : Wd) : Option (Int64 × Wd) :=
  if a1 < 0 then some ((-9223372036854775808 : Int64), w) else
  if (1 : Int32) < a1 then some ((-9223372036854775808 : Int64), w) else
  (callW (pX11_isThereTonight N a2) w).bind fun r1 =>
  if r1.1 = 0 then some ((-9223372036854775808 : Int64), r1.2) else
  (callW (pX11_isPart N a3) r1.2).bind fun r2 =>
  if r2.1 = 0 then some ((-9223372036854775808 : Int64), r2.2) else
  if a1 = 0 then
    (callW (pX9_lawTonight N 0 (2 * (gR r2.2 15 0 2) + 0) a2 a3) r2.2).bind fun r3 =>
    some (r3.1, r3.2)
  else
  (callW (pX9_lawTonight N 0 (2 * (gR r2.2 15 0 2) + 1) a2 a3) r2.2).bind fun r4 =>
  some (r4.1, r4.2)
noncomputable def mX11_law (N : Nat) (as : List AV) (w : Wd) : Option (Int64 × Wd) := xS1 15 as fun t => xI1 t fun a1 t => xI1 t fun a2 t => xI1 t fun a3 t => xN1 t (callW (pX11_law N a1 a2 a3) w)
set_option maxRecDepth 100000 in
set_option maxHeartbeats 4000000 in
theorem kX11_law : TK cX11_law RX11 4 tX11_law := ⟨by decide +kernel, wok_of [1112, 735, 732, 320, 732, 325] (by decide +kernel) (by decide +kernel)⟩
set_option maxRecDepth 100000 in
set_option maxHeartbeats 4000000 in
theorem crX11_law {N : Nat} {X : XT} (G : GX X cX11_law RX11) (hR : xR X = rmL 5) : CRs X tX11_law (oF [(mX11_isThereTonight N), (mX11_isPart N)]) (oF [(mX9_lawTonight N)]) (oF []) := by
  have hl : tX11_law.filter isInv = [(11, .invokevirtual 212, 0, 0, 2, 0, 0, []), (19, .invokevirtual 185, 0, 1, 2, 0, 0, []), (56, .invokevirtual 229, 0, 0, 4, 0, 0, [(0, 0)])] := rfl
  intro e he
  rw [hl] at he
  simp only [List.mem_cons, List.not_mem_nil, or_false] at he
  rcases he with rfl | rfl | rfl
  · exact crI_V (idx := 212) G (by decide +kernel) (MX11_isThereTonight N) (cw_of (ps := [1057, 1059, 35, 148, 1060]) (by decide +kernel) (by decide +kernel)) ⟨by decide +kernel, by decide +kernel, by decide +kernel⟩ (by unfold rmOk; rw [hR]; exact ⟨by decide, by decide⟩)
  · exact crI_V (idx := 185) G (by decide +kernel) (MX11_isPart N) (cw_of (ps := [1009, 1011, 33, 148, 1012]) (by decide +kernel) (by decide +kernel)) ⟨by decide +kernel, by decide +kernel, by decide +kernel⟩ (by unfold rmOk; rw [hR]; exact ⟨by decide, by decide⟩)
  · exact crL_V (idx := 229) G (by decide +kernel) (MX9_lawTonight N) (cw_of (ps := [1113, 1114, 1115, 158, 1116]) (by decide +kernel) (by decide +kernel)) ⟨by decide +kernel, by decide +kernel, by decide +kernel⟩ (by unfold rmOk; rw [hR]; exact ⟨by decide, by decide⟩)
set_option maxRecDepth 100000 in
set_option maxHeartbeats 4000000 in
theorem MX11_law (N : Nat) : SndL yX11_law cX11_law 4 (some .long) 5 4 true (mX11_law N) := by
  refine SndL.of tX11_law (by decide +kernel) rfl rfl ?_ ?_
  · intro as w x h
    obtain ⟨t1, rfl, h_1⟩ := xS1_some h
    obtain ⟨a1, t2, rfl, h_2⟩ := xI1_some h_1
    obtain ⟨a2, t3, rfl, h_3⟩ := xI1_some h_2
    obtain ⟨a3, t4, rfl, h_4⟩ := xI1_some h_3
    obtain ⟨rfl, h_5⟩ := xN1_some h_4
    clear h h_1 h_2 h_3 h_4
    have h := h_5
    rw [callW_eq] at h
    exact ⟨fun _ => ⟨_, _, _, rfl, rfl, _, rfl, rfl⟩, rfl, Nat.le_of_ble_eq_true rfl⟩
  · intro X G hn hR as w r h hr
    have hC := crX11_law (N := N) G hR
    obtain ⟨t1, rfl, h_1⟩ := xS1_some h
    obtain ⟨a1, t2, rfl, h_2⟩ := xI1_some h_1
    obtain ⟨a2, t3, rfl, h_3⟩ := xI1_some h_2
    obtain ⟨a3, t4, rfl, h_4⟩ := xI1_some h_3
    obtain ⟨rfl, h_5⟩ := xN1_some h_4
    clear h h_1 h_2 h_3 h_4
    have h := h_5
    rw [callW_eq] at h
    refine run_sound (r := r) (X := X) (cc := cX11_law) (own := RX11) (tab := tX11_law) G (by rw [hn]; exact kX11_law) (oI := (oF [(mX11_isThereTonight N), (mX11_isPart N)])) (oL := (oF [(mX9_lawTonight N)])) (oV := (oF [])) (rI := (fun _ _ => none)) (rL := (fun x w => some (x, w))) (rV := (fun _ => none))
      (K := (fun j ls st w => none)) (fun _ _ _ _ hx => by cases hx) (fun x w pc ls hx hd => hr x w pc ls (Option.some.inj hx) hd) (fun _ _ _ hx => by cases hx) hC (fun ls => lsb [some (.inr (.inr (15, 0))), some (.inl a1), some (.inl a2), some (.inl a3)] 0 ls) (keepsP_of rfl) ?_ 32 0 [some (.inr (.inr (15, 0))), some (.inl a1), some (.inl a2), some (.inl a3)] [] w ?_ h
    · intro j ls st w hfx h
      obtain ⟨e0, e1, e2, e3, -⟩ : _ = _ ∧ _ = _ ∧ _ = _ ∧ _ = _ ∧ True := hfx
      try dsimp only at h
      cases h
    · exact (show _ = _ ∧ _ = _ ∧ _ = _ ∧ _ = _ ∧ True from ⟨rfl, rfl, rfl, rfl, trivial⟩)
-- MoorGuides.remember(II)V
def tX11_remember : List EN := [
  (0, .aload_n 0, 0, 0, 0, 0, 0, []), (1, .getfield 109, 0, 11, 8, 0, 0, []), (4, .bipush 20, 0, 0, 0, 20, 0, []), (6, .if_icmp .ne 47, 0, 28, 0, 0, 0, []),
  (9, .aload_n 0, 0, 0, 0, 0, 0, []), (10, .dup, 0, 0, 0, 0, 0, []), (11, .getfield 109, 0, 11, 8, 0, 0, []), (14, .iconst 1, 0, 0, 0, 1, 0, []),
  (15, .isub, 0, 0, 0, 0, 0, []), (16, .putfield 109, 0, 11, 8, 0, 0, []), (19, .aload_n 0, 0, 0, 0, 0, 0, []), (20, .getfield 42, 0, 11, 9, 0, 0, []),
  (23, .iconst 1, 0, 0, 0, 1, 0, []), (24, .aload_n 0, 0, 0, 0, 0, 0, []), (25, .getfield 42, 0, 11, 9, 0, 0, []), (28, .iconst 0, 0, 0, 0, 0, 0, []),
  (29, .aload_n 0, 0, 0, 0, 0, 0, []), (30, .getfield 109, 0, 11, 8, 0, 0, []), (33, .invokestatic 360, 0, 0, 5, 0, 0, [(0, 0), (0, 0), (0, 0)]), (36, .aload_n 0, 0, 0, 0, 0, 0, []),
  (37, .getfield 46, 0, 11, 10, 0, 0, []), (40, .iconst 1, 0, 0, 0, 1, 0, []), (41, .aload_n 0, 0, 0, 0, 0, 0, []), (42, .getfield 46, 0, 11, 10, 0, 0, []),
  (45, .iconst 0, 0, 0, 0, 0, 0, []), (46, .aload_n 0, 0, 0, 0, 0, 0, []), (47, .getfield 109, 0, 11, 8, 0, 0, []), (50, .invokestatic 360, 0, 0, 5, 0, 0, [(0, 0), (0, 0), (0, 0)]),
  (53, .aload_n 0, 29, 0, 0, 0, 0, []), (54, .getfield 42, 0, 11, 9, 0, 0, []), (57, .aload_n 0, 0, 0, 0, 0, 0, []), (58, .getfield 109, 0, 11, 8, 0, 0, []),
  (61, .iload_n 1, 0, 0, 0, 0, 0, []), (62, .iastore, 0, 0, 0, 0, 0, []), (63, .aload_n 0, 0, 0, 0, 0, 0, []), (64, .getfield 46, 0, 11, 10, 0, 0, []),
  (67, .aload_n 0, 0, 0, 0, 0, 0, []), (68, .getfield 109, 0, 11, 8, 0, 0, []), (71, .iload_n 2, 0, 0, 0, 0, 0, []), (72, .iastore, 0, 0, 0, 0, 0, []),
  (73, .aload_n 0, 0, 0, 0, 0, 0, []), (74, .dup, 0, 0, 0, 0, 0, []), (75, .getfield 109, 0, 11, 8, 0, 0, []), (78, .iconst 1, 0, 0, 0, 1, 0, []),
  (79, .iadd, 0, 0, 0, 0, 0, []), (80, .putfield 109, 0, 11, 8, 0, 0, []), (83, .return_, 0, 0, 0, 0, 0, [])]
noncomputable def fX11_remember_28 (N : Nat) (a1 : Int32) (a2 : Int32) (w : Wd) : Option (Wd) :=
  (stI w 71 0 (gI w 15 0 8) 20 a1).bind fun w1 =>
  (stI w1 72 0 (gI w1 15 0 8) 20 a2).bind fun w2 =>
  some (setI w2 15 0 8 ((gI w2 15 0 8) + (1 : Int32)))
noncomputable def pX11_remember (N : Nat) (a1 : Int32) (a2 : Int32) (w : Wd) : Option (Wd) :=
  if (gI w 15 0 8) = (20 : Int32) then
    (cpI (setI w 15 0 8 ((gI w 15 0 8) - (1 : Int32))) 71 0 (1 : Int32) 20 71 0 (0 : Int32) 20 (gI (setI w 15 0 8 ((gI w 15 0 8) - (1 : Int32))) 15 0 8)).bind fun w1 =>
    (cpI w1 72 0 (1 : Int32) 20 72 0 (0 : Int32) 20 (gI w1 15 0 8)).bind fun w2 =>
    callW (fX11_remember_28 N a1 a2) w2
  else
  callW (fX11_remember_28 N a1 a2) w
noncomputable def mX11_remember (N : Nat) (as : List AV) (w : Wd) : Option (Wd) := xS1 15 as fun t => xI1 t fun a1 t => xI1 t fun a2 t => xN1 t (callW (pX11_remember N a1 a2) w)
set_option maxRecDepth 100000 in
set_option maxHeartbeats 4000000 in
theorem kX11_remember : TK cX11_remember RX11 3 tX11_remember := ⟨by decide +kernel, wok_of [738, 738, 738, 739, 739, 738, 1125, 1127, 1126, 172, 740, 740, 738, 1125, 1127, 1126, 172, 739, 738, 740, 738, 738, 738] (by decide +kernel) (by decide +kernel)⟩
set_option maxRecDepth 100000 in
set_option maxHeartbeats 4000000 in
theorem sX11_remember_28 {N : Nat} {X : XT} (G : GX X cX11_remember RX11) (hn : xnL X = 3) (hC : CRs X tX11_remember (oF []) (oF []) (oF [])) {r : Wd} (hr : RTV X cX11_remember r) (a1 : Int32) (a2 : Int32) : ∀ (w : Wd), fX11_remember_28 N a1 a2 w = some r → WW X (pcAt tX11_remember 28) [some (.inr (.inr (15, 0))), some (.inl a1), some (.inl a2)] [] w := by
  intro w h
  refine run_sound (r := r) (X := X) (cc := cX11_remember) (own := RX11) (tab := tX11_remember) G (by rw [hn]; exact kX11_remember) (oI := (oF [])) (oL := (oF [])) (oV := (oF [])) (rI := (fun _ _ => none)) (rL := (fun _ _ => none)) (rV := (fun w => some w))
    (K := (fun j ls st w => none)) (fun _ _ _ _ hx => by cases hx) (fun _ _ _ _ hx => by cases hx) (fun w pc ls hx hd => hr w pc ls (Option.some.inj hx) hd) hC (fun ls => lsb [some (.inr (.inr (15, 0))), some (.inl a1), some (.inl a2)] 0 ls) (keepsP_of rfl) ?_ 49 28 [some (.inr (.inr (15, 0))), some (.inl a1), some (.inl a2)] [] w ?_ h
  · intro j ls st w hfx h
    obtain ⟨e0, e1, e2, -⟩ : _ = _ ∧ _ = _ ∧ _ = _ ∧ True := hfx
    try dsimp only at h
    cases h
  · exact (show _ = _ ∧ _ = _ ∧ _ = _ ∧ True from ⟨rfl, rfl, rfl, trivial⟩)
set_option maxRecDepth 100000 in
set_option maxHeartbeats 4000000 in
theorem crX11_remember {N : Nat} {X : XT} (G : GX X cX11_remember RX11) (hR : xR X = rmL 1) : CRs X tX11_remember (oF []) (oF []) (oF []) := by
  have hl : tX11_remember.filter isInv = [(33, .invokestatic 360, 0, 0, 5, 0, 0, [(0, 0), (0, 0), (0, 0)]), (50, .invokestatic 360, 0, 0, 5, 0, 0, [(0, 0), (0, 0), (0, 0)])] := rfl
  intro e he
  rw [hl] at he
  simp only [List.mem_cons, List.not_mem_nil, or_false] at he
  rcases he with rfl | rfl
  · trivial
  · trivial
set_option maxRecDepth 100000 in
set_option maxHeartbeats 4000000 in
theorem MX11_remember (N : Nat) : SndV yX11_remember cX11_remember 3 none 1 3 true (mX11_remember N) := by
  refine SndV.of tX11_remember (by decide +kernel) rfl rfl ?_ ?_
  · intro as w x h
    obtain ⟨t1, rfl, h_1⟩ := xS1_some h
    obtain ⟨a1, t2, rfl, h_2⟩ := xI1_some h_1
    obtain ⟨a2, t3, rfl, h_3⟩ := xI1_some h_2
    obtain ⟨rfl, h_4⟩ := xN1_some h_3
    clear h h_1 h_2 h_3
    have h := h_4
    rw [callW_eq] at h
    exact ⟨fun _ => ⟨_, _, _, rfl, rfl, _, rfl, rfl⟩, rfl, Nat.le_of_ble_eq_true rfl⟩
  · intro X G hn hR as w r h hr
    have hC := crX11_remember (N := N) G hR
    obtain ⟨t1, rfl, h_1⟩ := xS1_some h
    obtain ⟨a1, t2, rfl, h_2⟩ := xI1_some h_1
    obtain ⟨a2, t3, rfl, h_3⟩ := xI1_some h_2
    obtain ⟨rfl, h_4⟩ := xN1_some h_3
    clear h h_1 h_2 h_3
    have h := h_4
    rw [callW_eq] at h
    refine run_sound (r := r) (X := X) (cc := cX11_remember) (own := RX11) (tab := tX11_remember) G (by rw [hn]; exact kX11_remember) (oI := (oF [])) (oL := (oF [])) (oV := (oF [])) (rI := (fun _ _ => none)) (rL := (fun _ _ => none)) (rV := (fun w => some w))
      (K := (fun j ls st w => if j = 28 then (st0 st (callW (fX11_remember_28 N a1 a2) w)) else none)) (fun _ _ _ _ hx => by cases hx) (fun _ _ _ _ hx => by cases hx) (fun w pc ls hx hd => hr w pc ls (Option.some.inj hx) hd) hC (fun ls => lsb [some (.inr (.inr (15, 0))), some (.inl a1), some (.inl a2)] 0 ls) (keepsP_of rfl) ?_ 49 0 [some (.inr (.inr (15, 0))), some (.inl a1), some (.inl a2)] [] w ?_ h
    · intro j ls st w hfx h
      obtain ⟨e0, e1, e2, -⟩ : _ = _ ∧ _ = _ ∧ _ = _ ∧ True := hfx
      try dsimp only at h
      by_cases hj : j = 28
      · subst hj
        rw [if_pos rfl] at h
        obtain ⟨rfl, h_1⟩ := st0_some h
        clear h
        have h := h_1
        try rw [callW_eq] at h
        exact WW.le (a := [some (.inr (.inr (15, 0))), some (.inl a1), some (.inl a2)]) (by rw [hn]; rfl) (show _ = _ ∧ _ = _ ∧ _ = _ ∧ True from ⟨e0, e1, e2, trivial⟩) (sX11_remember_28 G hn hC hr a1 a2 w h)
      rw [if_neg hj] at h
      cases h
    · exact (show _ = _ ∧ _ = _ ∧ _ = _ ∧ True from ⟨rfl, rfl, rfl, trivial⟩)
-- MoorGuides.lose(II)Z
def tX11_lose : List EN := [
  (0, .aload_n 0, 0, 0, 0, 0, 0, []), (1, .iload_n 1, 0, 0, 0, 0, 0, []), (2, .invokevirtual 212, 0, 0, 2, 0, 0, []), (5, .ifCond .eq 16, 0, 11, 0, 0, 0, []),
  (8, .iload_n 2, 0, 0, 0, 0, 0, []), (9, .iconst (-1), 0, 0, 0, (-1), 0, []), (10, .if_icmp .eq 13, 0, 13, 0, 0, 0, []), (13, .aload_n 0, 0, 0, 0, 0, 0, []),
  (14, .iload_n 2, 0, 0, 0, 0, 0, []), (15, .invokevirtual 185, 0, 1, 2, 0, 0, []), (18, .ifCond .ne 5, 0, 13, 0, 0, 0, []), (21, .iconst 0, 0, 0, 0, 0, 0, []),
  (22, .ireturn, 0, 0, 0, 0, 0, []), (23, .aload_n 0, 14, 0, 0, 0, 0, []), (24, .iload_n 1, 0, 0, 0, 0, 0, []), (25, .aload_n 0, 0, 0, 0, 0, 0, []),
  (26, .getfield 35, 0, 11, 5, 0, 0, []), (29, .getfield 177, 0, 9, 6, 0, 0, []), (32, .iload_n 1, 0, 0, 0, 0, 0, []), (33, .iaload, 0, 0, 0, 0, 0, []),
  (34, .invokevirtual 233, 0, 0, 3, 0, 0, [(0, 0), (0, 0)]), (37, .aload_n 0, 0, 0, 0, 0, 0, []), (38, .getfield 35, 0, 11, 5, 0, 0, []), (41, .getfield 177, 0, 9, 6, 0, 0, []),
  (44, .iload_n 1, 0, 0, 0, 0, 0, []), (45, .iload_n 2, 0, 0, 0, 0, 0, []), (46, .iastore, 0, 0, 0, 0, 0, []), (47, .iconst 1, 0, 0, 0, 1, 0, []),
  (48, .ireturn, 0, 0, 0, 0, 0, [])]
noncomputable def fX11_lose_13 (N : Nat) (a1 : Int32) (a2 : Int32) (w : Wd) : Option (Int32 × Wd) :=
  (ldI w 63 0 a1 6).bind fun x1 =>
  (callW (pX11_remember N a1 x1) w).bind fun w2 =>
  (stI w2 63 0 a1 6 a2).bind fun w3 =>
  some ((1 : Int32), w3)
noncomputable def pX11_lose (N : Nat) (a1 : Int32) (a2 : Int32) (w : Wd) : Option (Int32 × Wd) :=
  (callW (pX11_isThereTonight N a1) w).bind fun r1 =>
  if r1.1 = 0 then some ((0 : Int32), r1.2) else
  if a2 = (-1 : Int32) then callW (fX11_lose_13 N a1 a2) r1.2 else
  (callW (pX11_isPart N a2) r1.2).bind fun r2 =>
  if r2.1 = 0 then some ((0 : Int32), r2.2) else
  callW (fX11_lose_13 N a1 a2) r2.2
noncomputable def mX11_lose (N : Nat) (as : List AV) (w : Wd) : Option (Int32 × Wd) := xS1 15 as fun t => xI1 t fun a1 t => xI1 t fun a2 t => xN1 t (callW (pX11_lose N a1 a2) w)
set_option maxRecDepth 100000 in
set_option maxHeartbeats 4000000 in
theorem kX11_lose : TK cX11_lose RX11 3 tX11_lose := ⟨by decide +kernel, wok_of [735, 537, 735, 537] (by decide +kernel) (by decide +kernel)⟩
set_option maxRecDepth 100000 in
set_option maxHeartbeats 4000000 in
theorem sX11_lose_13 {N : Nat} {X : XT} (G : GX X cX11_lose RX11) (hn : xnL X = 3) (hC : CRs X tX11_lose (oF [(mX11_isThereTonight N), (mX11_isPart N)]) (oF []) (oF [(mX11_remember N)])) {r : Int32 × Wd} (hr : RTZ X cX11_lose r) (a1 : Int32) (a2 : Int32) : ∀ (w : Wd), fX11_lose_13 N a1 a2 w = some r → WW X (pcAt tX11_lose 13) [some (.inr (.inr (15, 0))), some (.inl a1), some (.inl a2)] [] w := by
  intro w h
  refine run_sound (r := r) (X := X) (cc := cX11_lose) (own := RX11) (tab := tX11_lose) G (by rw [hn]; exact kX11_lose) (oI := (oF [(mX11_isThereTonight N), (mX11_isPart N)])) (oL := (oF [])) (oV := (oF [(mX11_remember N)])) (rI := retZ) (rL := (fun _ _ => none)) (rV := (fun _ => none))
    (K := (fun j ls st w => none)) hr (fun _ _ _ _ hx => by cases hx) (fun _ _ _ hx => by cases hx) hC (fun ls => lsb [some (.inr (.inr (15, 0))), some (.inl a1), some (.inl a2)] 0 ls) (keepsP_of rfl) ?_ 31 13 [some (.inr (.inr (15, 0))), some (.inl a1), some (.inl a2)] [] w ?_ h
  · intro j ls st w hfx h
    obtain ⟨e0, e1, e2, -⟩ : _ = _ ∧ _ = _ ∧ _ = _ ∧ True := hfx
    try dsimp only at h
    cases h
  · exact (show _ = _ ∧ _ = _ ∧ _ = _ ∧ True from ⟨rfl, rfl, rfl, trivial⟩)
set_option maxRecDepth 100000 in
set_option maxHeartbeats 4000000 in
theorem crX11_lose {N : Nat} {X : XT} (G : GX X cX11_lose RX11) (hR : xR X = rmL 3) : CRs X tX11_lose (oF [(mX11_isThereTonight N), (mX11_isPart N)]) (oF []) (oF [(mX11_remember N)]) := by
  have hl : tX11_lose.filter isInv = [(2, .invokevirtual 212, 0, 0, 2, 0, 0, []), (15, .invokevirtual 185, 0, 1, 2, 0, 0, []), (34, .invokevirtual 233, 0, 0, 3, 0, 0, [(0, 0), (0, 0)])] := rfl
  intro e he
  rw [hl] at he
  simp only [List.mem_cons, List.not_mem_nil, or_false] at he
  rcases he with rfl | rfl | rfl
  · exact crI_V (idx := 212) G (by decide +kernel) (MX11_isThereTonight N) (cw_of (ps := [1057, 1059, 35, 148, 1060]) (by decide +kernel) (by decide +kernel)) ⟨by decide +kernel, by decide +kernel, by decide +kernel⟩ (by unfold rmOk; rw [hR]; exact ⟨by decide, by decide⟩)
  · exact crI_V (idx := 185) G (by decide +kernel) (MX11_isPart N) (cw_of (ps := [1009, 1011, 33, 148, 1012]) (by decide +kernel) (by decide +kernel)) ⟨by decide +kernel, by decide +kernel, by decide +kernel⟩ (by unfold rmOk; rw [hR]; exact ⟨by decide, by decide⟩)
  · exact crV_V (idx := 233) G (by decide +kernel) (MX11_remember N) (cw_of (ps := [1121, 1123, 38, 148, 1124]) (by decide +kernel) (by decide +kernel)) ⟨by decide +kernel, by decide +kernel, by decide +kernel⟩ (by unfold rmOk; rw [hR]; exact ⟨by decide, by decide⟩)
set_option maxRecDepth 100000 in
set_option maxHeartbeats 4000000 in
theorem MX11_lose (N : Nat) : SndI yX11_lose cX11_lose 3 (some .boolean) 3 3 true (mX11_lose N) := by
  refine SndI.ofZ tX11_lose (by decide +kernel) rfl rfl ?_ ?_
  · intro as w x h
    obtain ⟨t1, rfl, h_1⟩ := xS1_some h
    obtain ⟨a1, t2, rfl, h_2⟩ := xI1_some h_1
    obtain ⟨a2, t3, rfl, h_3⟩ := xI1_some h_2
    obtain ⟨rfl, h_4⟩ := xN1_some h_3
    clear h h_1 h_2 h_3
    have h := h_4
    rw [callW_eq] at h
    exact ⟨fun _ => ⟨_, _, _, rfl, rfl, _, rfl, rfl⟩, rfl, Nat.le_of_ble_eq_true rfl⟩
  · intro X G hn hR as w r h hr
    have hC := crX11_lose (N := N) G hR
    obtain ⟨t1, rfl, h_1⟩ := xS1_some h
    obtain ⟨a1, t2, rfl, h_2⟩ := xI1_some h_1
    obtain ⟨a2, t3, rfl, h_3⟩ := xI1_some h_2
    obtain ⟨rfl, h_4⟩ := xN1_some h_3
    clear h h_1 h_2 h_3
    have h := h_4
    rw [callW_eq] at h
    refine run_sound (r := r) (X := X) (cc := cX11_lose) (own := RX11) (tab := tX11_lose) G (by rw [hn]; exact kX11_lose) (oI := (oF [(mX11_isThereTonight N), (mX11_isPart N)])) (oL := (oF [])) (oV := (oF [(mX11_remember N)])) (rI := retZ) (rL := (fun _ _ => none)) (rV := (fun _ => none))
      (K := (fun j ls st w => if j = 13 then (st0 st (callW (fX11_lose_13 N a1 a2) w)) else none)) hr (fun _ _ _ _ hx => by cases hx) (fun _ _ _ hx => by cases hx) hC (fun ls => lsb [some (.inr (.inr (15, 0))), some (.inl a1), some (.inl a2)] 0 ls) (keepsP_of rfl) ?_ 31 0 [some (.inr (.inr (15, 0))), some (.inl a1), some (.inl a2)] [] w ?_ h
    · intro j ls st w hfx h
      obtain ⟨e0, e1, e2, -⟩ : _ = _ ∧ _ = _ ∧ _ = _ ∧ True := hfx
      try dsimp only at h
      by_cases hj : j = 13
      · subst hj
        rw [if_pos rfl] at h
        obtain ⟨rfl, h_1⟩ := st0_some h
        clear h
        have h := h_1
        try rw [callW_eq] at h
        exact WW.le (a := [some (.inr (.inr (15, 0))), some (.inl a1), some (.inl a2)]) (by rw [hn]; rfl) (show _ = _ ∧ _ = _ ∧ _ = _ ∧ True from ⟨e0, e1, e2, trivial⟩) (sX11_lose_13 G hn hC hr a1 a2 w h)
      rw [if_neg hj] at h
      cases h
    · exact (show _ = _ ∧ _ = _ ∧ _ = _ ∧ True from ⟨rfl, rfl, rfl, trivial⟩)
-- MoorGuides.nights(I)I
def tX11_nights : List EN := [
  (0, .iload_n 1, 0, 0, 0, 0, 0, []), (1, .ifCond .lt 25, 0, 12, 0, 0, 0, []), (4, .iload_n 1, 0, 0, 0, 0, 0, []), (5, .sipush 200, 0, 0, 0, 200, 0, []),
  (8, .if_icmp .gt 18, 0, 12, 0, 0, 0, []), (11, .aload_n 0, 0, 0, 0, 0, 0, []), (12, .getfield 35, 0, 11, 5, 0, 0, []), (15, .getfield 157, 0, 9, 1, 0, 0, []),
  (18, .iload_n 1, 0, 0, 0, 0, 0, []), (19, .iadd, 0, 0, 0, 0, 0, []), (20, .sipush 1000, 0, 0, 0, 1000, 0, []), (23, .if_icmp .le 5, 0, 14, 0, 0, 0, []),
  (26, .iconst (-1), 0, 0, 0, (-1), 0, []), (27, .ireturn, 0, 0, 0, 0, 0, []), (28, .iconst 0, 0, 0, 0, 0, 0, []), (29, .istore_n 2, 0, 0, 0, 0, 0, []),
  (30, .iload_n 2, 17, 0, 0, 0, 0, []), (31, .iload_n 1, 0, 0, 0, 0, 0, []), (32, .if_icmp .ge 16, 0, 24, 0, 0, 0, []), (35, .aload_n 0, 0, 0, 0, 0, 0, []),
  (36, .getfield 35, 0, 11, 5, 0, 0, []), (39, .invokevirtual 237, 0, 0, 1, 0, 0, [(0, 0), (0, 0)]), (42, .iinc 2 1, 0, 0, 0, 1, 0, []), (45, .goto (-15), 0, 16, 0, 0, 0, []),
  (48, .iload_n 1, 25, 0, 0, 0, 0, []), (49, .ifCond .le 15, 0, 32, 0, 0, 0, []), (52, .aload_n 0, 0, 0, 0, 0, 0, []), (53, .iconst 0, 0, 0, 0, 0, 0, []),
  (54, .putfield 109, 0, 11, 8, 0, 0, []), (57, .aload_n 0, 0, 0, 0, 0, 0, []), (58, .getfield 68, 0, 11, 13, 0, 0, []), (61, .invokevirtual 112, 0, 1, 1, 0, 0, [(0, 0), (0, 0)]),
  (64, .aload_n 0, 0, 0, 0, 0, 0, []), (65, .getfield 35, 0, 11, 5, 0, 0, []), (68, .getfield 157, 0, 9, 1, 0, 0, []), (71, .ireturn, 0, 0, 0, 0, 0, [])]
noncomputable def fX11_nights_24 (N : Nat) (a1 : Int32) (w : Wd) : Option (Int32 × Wd) :=
  if 0 < a1 then
    (callW (pX5_drop N) (setI w 15 0 8 (0 : Int32))).bind fun w1 =>
    some ((gI w1 13 0 1), w1)
  else
  some ((gI w 13 0 1), w)
noncomputable def fX11_nights_16 (N : Nat) (a1 : Int32) : Nat → (Wd → Option (Int32 × Wd)) → Int32 → Wd → Option (Int32 × Wd)
  | 0, _, _, _ => none
  | n + 1, k24, v2, w =>
    if v2 < a1 then
      (callW (pX9_goBy N 0) w).bind fun w1 =>
      callW (fX11_nights_16 N a1 n k24 (v2 + (1 : Int32))) w1
    else
    k24 w
noncomputable def pX11_nights (N : Nat) (a1 : Int32) (w : Wd) : Option (Int32 × Wd) :=
  if a1 < 0 then some ((-1 : Int32), w) else
  if (200 : Int32) < a1 then some ((-1 : Int32), w) else
  if (1000 : Int32) < ((gI w 13 0 1) + a1) then some ((-1 : Int32), w) else
  callW (fX11_nights_16 N a1 N (fX11_nights_24 N a1) (0 : Int32)) w
noncomputable def mX11_nights (N : Nat) (as : List AV) (w : Wd) : Option (Int32 × Wd) := xS1 15 as fun t => xI1 t fun a1 t => xN1 t (callW (pX11_nights N a1) w)
set_option maxRecDepth 100000 in
set_option maxHeartbeats 4000000 in
theorem kX11_nights : TK cX11_nights RX11 3 tX11_nights := ⟨by decide +kernel, wok_of [735, 524, 735, 738, 743, 735, 524] (by decide +kernel) (by decide +kernel)⟩
set_option maxRecDepth 100000 in
set_option maxHeartbeats 4000000 in
theorem sX11_nights_24 {N : Nat} {X : XT} (G : GX X cX11_nights RX11) (hn : xnL X = 3) (hC : CRs X tX11_nights (oF []) (oF []) (oF [(mX9_goBy N), (mX5_drop N)])) {r : Int32 × Wd} (hr : RTI X cX11_nights r) (a1 : Int32) : ∀ (w : Wd), fX11_nights_24 N a1 w = some r → WW X (pcAt tX11_nights 24) [some (.inr (.inr (15, 0))), some (.inl a1), none] [] w := by
  intro w h
  refine run_sound (r := r) (X := X) (cc := cX11_nights) (own := RX11) (tab := tX11_nights) G (by rw [hn]; exact kX11_nights) (oI := (oF [])) (oL := (oF [])) (oV := (oF [(mX9_goBy N), (mX5_drop N)])) (rI := (fun x w => some (x, w))) (rL := (fun _ _ => none)) (rV := (fun _ => none))
    (K := (fun j ls st w => none)) (fun x w pc ls hx hd => hr x w pc ls (Option.some.inj hx) hd) (fun _ _ _ _ hx => by cases hx) (fun _ _ _ hx => by cases hx) hC (fun ls => lsb [some (.inr (.inr (15, 0))), some (.inl a1), none] 0 ls) (keepsP_of rfl) ?_ 38 24 [some (.inr (.inr (15, 0))), some (.inl a1), none] [] w ?_ h
  · intro j ls st w hfx h
    obtain ⟨e0, e1, -⟩ : _ = _ ∧ _ = _ ∧ True := hfx
    try dsimp only at h
    cases h
  · exact (show _ = _ ∧ _ = _ ∧ True from ⟨rfl, rfl, trivial⟩)
set_option maxRecDepth 100000 in
set_option maxHeartbeats 4000000 in
theorem sX11_nights_16 {N : Nat} {X : XT} (G : GX X cX11_nights RX11) (hn : xnL X = 3) (hC : CRs X tX11_nights (oF []) (oF []) (oF [(mX9_goBy N), (mX5_drop N)])) {r : Int32 × Wd} (hr : RTI X cX11_nights r) (a1 : Int32) : ∀ (n : Nat) (k24 : Wd → Option (Int32 × Wd)) (v2 : Int32) (w : Wd), fX11_nights_16 N a1 n k24 v2 w = some r → (∀ (w : Wd), k24 w = some r → WW X (pcAt tX11_nights 24) [some (.inr (.inr (15, 0))), some (.inl a1), none] [] w) → WW X (pcAt tX11_nights 16) [some (.inr (.inr (15, 0))), some (.inl a1), some (.inl v2)] [] w := by
  intro n
  induction n with
  | zero => intro k24 v2 w h h24; cases h
  | succ n ih =>
    intro k24 v2 w h h24
    refine run_sound (r := r) (X := X) (cc := cX11_nights) (own := RX11) (tab := tX11_nights) G (by rw [hn]; exact kX11_nights) (oI := (oF [])) (oL := (oF [])) (oV := (oF [(mX9_goBy N), (mX5_drop N)])) (rI := (fun x w => some (x, w))) (rL := (fun _ _ => none)) (rV := (fun _ => none))
      (K := (fun j ls st w => if j = 16 then (lgI ls 2 fun v2 => st0 st (callW (fX11_nights_16 N a1 n k24 v2) w)) else if j = 24 then (st0 st (k24 w)) else none)) (fun x w pc ls hx hd => hr x w pc ls (Option.some.inj hx) hd) (fun _ _ _ _ hx => by cases hx) (fun _ _ _ hx => by cases hx) hC (fun ls => lsb [some (.inr (.inr (15, 0))), some (.inl a1), none] 0 ls) (keepsP_of rfl) ?_ 38 16 [some (.inr (.inr (15, 0))), some (.inl a1), some (.inl v2)] [] w ?_ h
    · intro j ls st w hfx h
      obtain ⟨e0, e1, -⟩ : _ = _ ∧ _ = _ ∧ True := hfx
      try dsimp only at h
      by_cases hj : j = 16
      · subst hj
        rw [if_pos rfl] at h
        obtain ⟨v2, e2, h_1⟩ := lgI_some h
        obtain ⟨rfl, h_2⟩ := st0_some h_1
        clear h h_1
        have h := h_2
        try rw [callW_eq] at h
        exact WW.le (a := [some (.inr (.inr (15, 0))), some (.inl a1), some (.inl v2)]) (by rw [hn]; rfl) (show _ = _ ∧ _ = _ ∧ _ = _ ∧ True from ⟨e0, e1, e2, trivial⟩) (ih k24 v2 w h h24)
      rw [if_neg hj] at h
      by_cases hj : j = 24
      · subst hj
        rw [if_pos rfl] at h
        obtain ⟨rfl, h_1⟩ := st0_some h
        clear h
        have h := h_1
        try rw [callW_eq] at h
        exact WW.le (a := [some (.inr (.inr (15, 0))), some (.inl a1), none]) (by rw [hn]; rfl) (show _ = _ ∧ _ = _ ∧ True from ⟨e0, e1, trivial⟩) (h24 w h)
      rw [if_neg hj] at h
      cases h
    · exact (show _ = _ ∧ _ = _ ∧ True from ⟨rfl, rfl, trivial⟩)
set_option maxRecDepth 100000 in
set_option maxHeartbeats 4000000 in
theorem crX11_nights {N : Nat} {X : XT} (G : GX X cX11_nights RX11) (hR : xR X = rmL 7) : CRs X tX11_nights (oF []) (oF []) (oF [(mX9_goBy N), (mX5_drop N)]) := by
  have hl : tX11_nights.filter isInv = [(39, .invokevirtual 237, 0, 0, 1, 0, 0, [(0, 0), (0, 0)]), (61, .invokevirtual 112, 0, 1, 1, 0, 0, [(0, 0), (0, 0)])] := rfl
  intro e he
  rw [hl] at he
  simp only [List.mem_cons, List.not_mem_nil, or_false] at he
  rcases he with rfl | rfl
  · exact crV_V (idx := 237) G (by decide +kernel) (MX9_goBy N) (cw_of (ps := [1132, 1133, 1134, 158, 1135]) (by decide +kernel) (by decide +kernel)) ⟨by decide +kernel, by decide +kernel, by decide +kernel⟩ (by unfold rmOk; rw [hR]; exact ⟨by decide, by decide⟩)
  · exact crV_V (idx := 112) G (by decide +kernel) (MX5_drop N) (cw_of (ps := [992, 993, 994, 161, 995]) (by decide +kernel) (by decide +kernel)) ⟨by decide +kernel, by decide +kernel, by decide +kernel⟩ (by unfold rmOk; rw [hR]; exact ⟨by decide, by decide⟩)
set_option maxRecDepth 100000 in
set_option maxHeartbeats 4000000 in
theorem MX11_nights (N : Nat) : SndI yX11_nights cX11_nights 3 (some .int) 7 2 true (mX11_nights N) := by
  refine SndI.of tX11_nights (by decide +kernel) rfl rfl ?_ ?_
  · intro as w x h
    obtain ⟨t1, rfl, h_1⟩ := xS1_some h
    obtain ⟨a1, t2, rfl, h_2⟩ := xI1_some h_1
    obtain ⟨rfl, h_3⟩ := xN1_some h_2
    clear h h_1 h_2
    have h := h_3
    rw [callW_eq] at h
    exact ⟨fun _ => ⟨_, _, _, rfl, rfl, _, rfl, rfl⟩, rfl, Nat.le_of_ble_eq_true rfl⟩
  · intro X G hn hR as w r h hr
    have hC := crX11_nights (N := N) G hR
    obtain ⟨t1, rfl, h_1⟩ := xS1_some h
    obtain ⟨a1, t2, rfl, h_2⟩ := xI1_some h_1
    obtain ⟨rfl, h_3⟩ := xN1_some h_2
    clear h h_1 h_2
    have h := h_3
    rw [callW_eq] at h
    refine run_sound (r := r) (X := X) (cc := cX11_nights) (own := RX11) (tab := tX11_nights) G (by rw [hn]; exact kX11_nights) (oI := (oF [])) (oL := (oF [])) (oV := (oF [(mX9_goBy N), (mX5_drop N)])) (rI := (fun x w => some (x, w))) (rL := (fun _ _ => none)) (rV := (fun _ => none))
      (K := (fun j ls st w => if j = 16 then (lgI ls 2 fun v2 => st0 st (callW (fX11_nights_16 N a1 N (fX11_nights_24 N a1) v2) w)) else none)) (fun x w pc ls hx hd => hr x w pc ls (Option.some.inj hx) hd) (fun _ _ _ _ hx => by cases hx) (fun _ _ _ hx => by cases hx) hC (fun ls => lsb [some (.inr (.inr (15, 0))), some (.inl a1), none] 0 ls) (keepsP_of rfl) ?_ 38 0 [some (.inr (.inr (15, 0))), some (.inl a1), none] [] w ?_ h
    · intro j ls st w hfx h
      obtain ⟨e0, e1, -⟩ : _ = _ ∧ _ = _ ∧ True := hfx
      try dsimp only at h
      by_cases hj : j = 16
      · subst hj
        rw [if_pos rfl] at h
        obtain ⟨v2, e2, h_1⟩ := lgI_some h
        obtain ⟨rfl, h_2⟩ := st0_some h_1
        clear h h_1
        have h := h_2
        try rw [callW_eq] at h
        exact WW.le (a := [some (.inr (.inr (15, 0))), some (.inl a1), some (.inl v2)]) (by rw [hn]; rfl) (show _ = _ ∧ _ = _ ∧ _ = _ ∧ True from ⟨e0, e1, e2, trivial⟩) (sX11_nights_16 G hn hC hr a1 N (fX11_nights_24 N a1) v2 w h (fun w h => (sX11_nights_24 G hn hC hr a1 w h)))
      rw [if_neg hj] at h
      cases h
    · exact (show _ = _ ∧ _ = _ ∧ True from ⟨rfl, rfl, trivial⟩)
-- MoorGuides.isParty(I)Z
def tX11_isParty : List EN := [
  (0, .iload_n 1, 0, 0, 0, 0, 0, []), (1, .ifCond .lt 18, 0, 9, 0, 0, 0, []), (4, .iload_n 1, 0, 0, 0, 0, 0, []), (5, .aload_n 0, 0, 0, 0, 0, 0, []),
  (6, .getfield 16, 0, 11, 2, 0, 0, []), (9, .getfield 278, 0, 4, 5, 0, 0, []), (12, .if_icmp .ge 7, 0, 9, 0, 0, 0, []), (15, .iconst 1, 0, 0, 0, 1, 0, []),
  (16, .goto 4, 0, 10, 0, 0, 0, []), (19, .iconst 0, 0, 0, 0, 0, 0, []), (20, .ireturn, 0, 0, 0, 0, 0, [])]
noncomputable def pX11_isParty (N : Nat) (a1 : Int32) (w : Wd) : Option (Int32 × Wd) :=
  if a1 < 0 then some ((0 : Int32), w) else
  if a1 < (gI w 8 (gR w 15 0 2) 5) then some ((1 : Int32), w) else
  some ((0 : Int32), w)
noncomputable def mX11_isParty (N : Nat) (as : List AV) (w : Wd) : Option (Int32 × Wd) := xS1 15 as fun t => xI1 t fun a1 t => xN1 t (callW (pX11_isParty N a1) w)
set_option maxRecDepth 100000 in
set_option maxHeartbeats 4000000 in
theorem kX11_isParty : TK cX11_isParty RX11 2 tX11_isParty := ⟨by decide +kernel, wok_of [732, 287] (by decide +kernel) (by decide +kernel)⟩
set_option maxRecDepth 100000 in
set_option maxHeartbeats 4000000 in
theorem crX11_isParty {N : Nat} {X : XT} (G : GX X cX11_isParty RX11) (hR : xR X = rmL 1) : CRs X tX11_isParty (oF []) (oF []) (oF []) := by
  have hl : tX11_isParty.filter isInv = [] := rfl
  intro e he
  rw [hl] at he
  cases he
set_option maxRecDepth 100000 in
set_option maxHeartbeats 4000000 in
theorem MX11_isParty (N : Nat) : SndI yX11_isParty cX11_isParty 2 (some .boolean) 1 2 true (mX11_isParty N) := by
  refine SndI.ofZ tX11_isParty (by decide +kernel) rfl rfl ?_ ?_
  · intro as w x h
    obtain ⟨t1, rfl, h_1⟩ := xS1_some h
    obtain ⟨a1, t2, rfl, h_2⟩ := xI1_some h_1
    obtain ⟨rfl, h_3⟩ := xN1_some h_2
    clear h h_1 h_2
    have h := h_3
    rw [callW_eq] at h
    exact ⟨fun _ => ⟨_, _, _, rfl, rfl, _, rfl, rfl⟩, rfl, Nat.le_of_ble_eq_true rfl⟩
  · intro X G hn hR as w r h hr
    have hC := crX11_isParty (N := N) G hR
    obtain ⟨t1, rfl, h_1⟩ := xS1_some h
    obtain ⟨a1, t2, rfl, h_2⟩ := xI1_some h_1
    obtain ⟨rfl, h_3⟩ := xN1_some h_2
    clear h h_1 h_2
    have h := h_3
    rw [callW_eq] at h
    refine run_sound (r := r) (X := X) (cc := cX11_isParty) (own := RX11) (tab := tX11_isParty) G (by rw [hn]; exact kX11_isParty) (oI := (oF [])) (oL := (oF [])) (oV := (oF [])) (rI := retZ) (rL := (fun _ _ => none)) (rV := (fun _ => none))
      (K := (fun j ls st w => none)) hr (fun _ _ _ _ hx => by cases hx) (fun _ _ _ hx => by cases hx) hC (fun ls => lsb [some (.inr (.inr (15, 0))), some (.inl a1)] 0 ls) (keepsP_of rfl) ?_ 13 0 [some (.inr (.inr (15, 0))), some (.inl a1)] [] w ?_ h
    · intro j ls st w hfx h
      obtain ⟨e0, e1, -⟩ : _ = _ ∧ _ = _ ∧ True := hfx
      try dsimp only at h
      cases h
    · exact (show _ = _ ∧ _ = _ ∧ True from ⟨rfl, rfl, trivial⟩)

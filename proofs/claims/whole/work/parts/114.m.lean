-- MoorGuidesModel.goesBy(II)V
def tX12_goesBy : List EN := [
  (0, .iconst 0, 0, 0, 0, 0, 0, []), (1, .istore_n 3, 0, 0, 0, 0, 0, []), (2, .iload_n 3, 3, 0, 0, 0, 0, []), (3, .aload_n 0, 0, 0, 0, 0, 0, []),
  (4, .getfield 298, 0, 12, 13, 0, 0, []), (7, .if_icmp .ge 51, 0, 36, 0, 0, 0, []), (10, .aload_n 0, 0, 0, 0, 0, 0, []), (11, .getfield 127, 0, 12, 76, 0, 0, []),
  (14, .iload_n 3, 0, 0, 0, 0, 0, []), (15, .aload_n 0, 0, 0, 0, 0, 0, []), (16, .getfield 112, 0, 12, 70, 0, 0, []), (19, .bipush 6, 0, 0, 0, 6, 0, []),
  (21, .iload_n 1, 0, 0, 0, 0, 0, []), (22, .imul, 0, 0, 0, 0, 0, []), (23, .iload_n 3, 0, 0, 0, 0, 0, []), (24, .iadd, 0, 0, 0, 0, 0, []),
  (25, .iaload, 0, 0, 0, 0, 0, []), (26, .ifCond .ge 7, 0, 20, 0, 0, 0, []), (29, .iconst (-1), 0, 0, 0, (-1), 0, []), (30, .goto 21, 0, 33, 0, 0, 0, []),
  (33, .aload_n 0, 0, 0, 0, 0, 0, []), (34, .iload_n 1, 0, 0, 0, 0, 0, []), (35, .iload_n 3, 0, 0, 0, 0, 0, []), (36, .aload_n 0, 0, 0, 0, 0, 0, []),
  (37, .getfield 112, 0, 12, 70, 0, 0, []), (40, .bipush 6, 0, 0, 0, 6, 0, []), (42, .iload_n 1, 0, 0, 0, 0, 0, []), (43, .imul, 0, 0, 0, 0, 0, []),
  (44, .iload_n 3, 0, 0, 0, 0, 0, []), (45, .iadd, 0, 0, 0, 0, 0, []), (46, .iaload, 0, 0, 0, 0, 0, []), (47, .iload_n 2, 0, 0, 0, 0, 0, []),
  (48, .invokevirtual 498, 0, 0, 5, 0, 0, []), (51, .iastore, 0, 0, 0, 0, 0, []), (52, .iinc 3 1, 0, 0, 0, 1, 0, []), (55, .goto (-53), 0, 2, 0, 0, 0, []),
  (58, .iconst 0, 37, 0, 0, 0, 0, []), (59, .istore_n 3, 0, 0, 0, 0, 0, []), (60, .iload_n 3, 39, 0, 0, 0, 0, []), (61, .aload_n 0, 0, 0, 0, 0, 0, []),
  (62, .getfield 298, 0, 12, 13, 0, 0, []), (65, .if_icmp .ge 151, 0, 134, 0, 0, 0, []), (68, .aload_n 0, 0, 0, 0, 0, 0, []), (69, .getfield 127, 0, 12, 76, 0, 0, []),
  (72, .iload_n 3, 0, 0, 0, 0, 0, []), (73, .iaload, 0, 0, 0, 0, 0, []), (74, .ifCond .ge 6, 0, 48, 0, 0, 0, []), (77, .goto 133, 0, 132, 0, 0, 0, []),
  (80, .aload_n 0, 0, 0, 0, 0, 0, []), (81, .getfield 115, 0, 12, 71, 0, 0, []), (84, .iload_n 1, 0, 0, 0, 0, 0, []), (85, .aload_n 0, 0, 0, 0, 0, 0, []),
  (86, .getfield 115, 0, 12, 71, 0, 0, []), (89, .iload_n 1, 0, 0, 0, 0, 0, []), (90, .laload, 0, 0, 0, 0, 0, []), (91, .ldc2_w 507, 0, 0, 0, 0, 1103515245, []),
  (94, .lmul, 0, 0, 0, 0, 0, []), (95, .ldc2_w 509, 0, 0, 0, 0, 12345, []), (98, .ladd, 0, 0, 0, 0, 0, []), (99, .ldc2_w 511, 0, 0, 0, 0, 2147483647, []),
  (102, .land, 0, 0, 0, 0, 0, []), (103, .lastore, 0, 0, 0, 0, 0, []), (104, .aload_n 0, 0, 0, 0, 0, 0, []), (105, .getfield 115, 0, 12, 71, 0, 0, []),
  (108, .iload_n 1, 0, 0, 0, 0, 0, []), (109, .laload, 0, 0, 0, 0, 0, []), (110, .ldc2_w 513, 0, 0, 0, 0, 65536, []), (113, .ldiv, 0, 0, 0, 0, 0, []),
  (114, .ldc2_w 496, 0, 0, 0, 0, 100, []), (117, .lrem, 0, 0, 0, 0, 0, []), (118, .aload_n 0, 0, 0, 0, 0, 0, []), (119, .getfield 127, 0, 12, 76, 0, 0, []),
  (122, .iload_n 3, 0, 0, 0, 0, 0, []), (123, .iaload, 0, 0, 0, 0, 0, []), (124, .i2l, 0, 0, 0, 0, 0, []), (125, .lcmp, 0, 0, 0, 0, 0, []),
  (126, .ifCond .lt 18, 0, 87, 0, 0, 0, []), (129, .aload_n 0, 0, 0, 0, 0, 0, []), (130, .getfield 106, 0, 12, 68, 0, 0, []), (133, .bipush 6, 0, 0, 0, 6, 0, []),
  (135, .iload_n 1, 0, 0, 0, 0, 0, []), (136, .imul, 0, 0, 0, 0, 0, []), (137, .iload_n 3, 0, 0, 0, 0, 0, []), (138, .iadd, 0, 0, 0, 0, 0, []),
  (139, .iconst 1, 0, 0, 0, 1, 0, []), (140, .bastore, 0, 0, 0, 0, 0, []), (141, .goto 69, 0, 132, 0, 0, 0, []), (144, .aload_n 0, 0, 0, 0, 0, 0, []),
  (145, .getfield 109, 0, 12, 69, 0, 0, []), (148, .bipush 6, 0, 0, 0, 6, 0, []), (150, .iload_n 1, 0, 0, 0, 0, 0, []), (151, .imul, 0, 0, 0, 0, 0, []),
  (152, .iload_n 3, 0, 0, 0, 0, 0, []), (153, .iadd, 0, 0, 0, 0, 0, []), (154, .dup2, 0, 0, 0, 0, 0, []), (155, .iaload, 0, 0, 0, 0, 0, []),
  (156, .iconst 1, 0, 0, 0, 1, 0, []), (157, .iadd, 0, 0, 0, 0, 0, []), (158, .iastore, 0, 0, 0, 0, 0, []), (159, .aload_n 0, 0, 0, 0, 0, 0, []),
  (160, .iload_n 1, 0, 0, 0, 0, 0, []), (161, .iload_n 3, 0, 0, 0, 0, 0, []), (162, .invokevirtual 515, 0, 1, 3, 0, 0, []), (165, .ifCond .eq 6, 0, 105, 0, 0, 0, []),
  (168, .goto 42, 0, 132, 0, 0, 0, []), (171, .bipush 48, 0, 0, 0, 48, 0, []), (173, .iload_n 1, 0, 0, 0, 0, 0, []), (174, .imul, 0, 0, 0, 0, 0, []),
  (175, .bipush 8, 0, 0, 0, 8, 0, []), (177, .iload_n 3, 0, 0, 0, 0, 0, []), (178, .imul, 0, 0, 0, 0, 0, []), (179, .iadd, 0, 0, 0, 0, 0, []),
  (180, .aload_n 0, 0, 0, 0, 0, 0, []), (181, .getfield 112, 0, 12, 70, 0, 0, []), (184, .bipush 6, 0, 0, 0, 6, 0, []), (186, .iload_n 1, 0, 0, 0, 0, 0, []),
  (187, .imul, 0, 0, 0, 0, 0, []), (188, .iload_n 3, 0, 0, 0, 0, 0, []), (189, .iadd, 0, 0, 0, 0, 0, []), (190, .iaload, 0, 0, 0, 0, 0, []),
  (191, .iadd, 0, 0, 0, 0, 0, []), (192, .istore 4, 0, 0, 0, 0, 0, []), (194, .aload_n 0, 0, 0, 0, 0, 0, []), (195, .getfield 100, 0, 12, 66, 0, 0, []),
  (198, .iload 4, 0, 0, 0, 0, 0, []), (200, .iload_n 2, 0, 0, 0, 0, 0, []), (201, .iastore, 0, 0, 0, 0, 0, []), (202, .aload_n 0, 0, 0, 0, 0, 0, []),
  (203, .getfield 103, 0, 12, 67, 0, 0, []), (206, .iload 4, 0, 0, 0, 0, 0, []), (208, .iconst 0, 0, 0, 0, 0, 0, []), (209, .bastore, 0, 0, 0, 0, 0, []),
  (210, .iinc 3 1, 0, 0, 0, 1, 0, []), (213, .goto (-153), 0, 38, 0, 0, 0, []), (216, .iconst 0, 135, 0, 0, 0, 0, []), (217, .istore_n 3, 0, 0, 0, 0, 0, []),
  (218, .iload_n 3, 137, 0, 0, 0, 0, []), (219, .aload_n 0, 0, 0, 0, 0, 0, []), (220, .getfield 298, 0, 12, 13, 0, 0, []), (223, .if_icmp .ge 21, 0, 151, 0, 0, 0, []),
  (226, .aload_n 0, 0, 0, 0, 0, 0, []), (227, .getfield 112, 0, 12, 70, 0, 0, []), (230, .bipush 6, 0, 0, 0, 6, 0, []), (232, .iload_n 1, 0, 0, 0, 0, 0, []),
  (233, .imul, 0, 0, 0, 0, 0, []), (234, .iload_n 3, 0, 0, 0, 0, 0, []), (235, .iadd, 0, 0, 0, 0, 0, []), (236, .iconst (-1), 0, 0, 0, (-1), 0, []),
  (237, .iastore, 0, 0, 0, 0, 0, []), (238, .iinc 3 1, 0, 0, 0, 1, 0, []), (241, .goto (-23), 0, 136, 0, 0, 0, []), (244, .return_, 0, 0, 0, 0, 0, [])]
noncomputable def fX12_goesBy_136 (N : Nat) (a1 : Int32) : Nat → Int32 → Wd → Option (Wd)
  | 0, _, _ => none
  | n + 1, v3, w =>
    if v3 < (gI w 16 0 13) then
      (stI w 105 0 (((6 : Int32) * a1) + v3) 12 (-1 : Int32)).bind fun w1 =>
      callW (fX12_goesBy_136 N a1 n (v3 + (1 : Int32))) w1
    else
    some w
noncomputable def fX12_goesBy_134 (N : Nat) (a1 : Int32) (w : Wd) : Option (Wd) :=
  callW (fX12_goesBy_136 N a1 N (0 : Int32)) w
noncomputable def fX12_goesBy_38 (N : Nat) (a1 : Int32) (a2 : Int32) : Nat → (Wd → Option (Wd)) → Int32 → Wd → Option (Wd)
  | 0, _, _, _ => none
  | n + 1, k134, v3, w =>
    if v3 < (gI w 16 0 13) then
      (ldI w 110 0 v3 6).bind fun x1 =>
      if x1 < 0 then callW (fX12_goesBy_38 N a1 a2 n k134 (v3 + (1 : Int32))) w else
      (ldL w 106 0 a1 2).bind fun x2 =>
      (stL w 106 0 a1 2 (((x2 * (1103515245 : Int64)) + (12345 : Int64)) &&& (2147483647 : Int64))).bind fun w3 =>
      (ldL w3 106 0 a1 2).bind fun x4 =>
      (ldI w3 110 0 v3 6).bind fun x5 =>
      if (lg_cmp ((x4 / (65536 : Int64)) - (x4 / (65536 : Int64)) / (100 : Int64) * (100 : Int64)) x5.toInt64) < 0 then
        (ldI w3 104 0 (((6 : Int32) * a1) + v3) 12).bind fun x6 =>
        (stI w3 104 0 (((6 : Int32) * a1) + v3) 12 (x6 + (1 : Int32))).bind fun w7 =>
        (callW (pX12_isSpoilt N a1 v3) w7).bind fun r8 =>
        if r8.1 = 0 then
          (ldI r8.2 105 0 (((6 : Int32) * a1) + v3) 12).bind fun x9 =>
          (stI r8.2 101 0 ((((48 : Int32) * a1) + ((8 : Int32) * v3)) + x9) 96 a2).bind fun w10 =>
          (stI w10 102 0 ((((48 : Int32) * a1) + ((8 : Int32) * v3)) + x9) 96 ((0 : Int32) &&& 1)).bind fun w11 =>
          callW (fX12_goesBy_38 N a1 a2 n k134 (v3 + (1 : Int32))) w11
        else
        callW (fX12_goesBy_38 N a1 a2 n k134 (v3 + (1 : Int32))) r8.2
      else
      (stI w3 103 0 (((6 : Int32) * a1) + v3) 12 ((1 : Int32) &&& 1)).bind fun w12 =>
      callW (fX12_goesBy_38 N a1 a2 n k134 (v3 + (1 : Int32))) w12
    else
    k134 w
noncomputable def fX12_goesBy_36 (N : Nat) (a1 : Int32) (a2 : Int32) (w : Wd) : Option (Wd) :=
  callW (fX12_goesBy_38 N a1 a2 N (fX12_goesBy_134 N a1) (0 : Int32)) w
noncomputable def fX12_goesBy_2 (N : Nat) (a1 : Int32) (a2 : Int32) : Nat → (Wd → Option (Wd)) → Int32 → Wd → Option (Wd)
  | 0, _, _, _ => none
  | n + 1, k36, v3, w =>
    if v3 < (gI w 16 0 13) then
      (ldI w 105 0 (((6 : Int32) * a1) + v3) 12).bind fun x1 =>
      if x1 < 0 then
        (stI w 110 0 v3 6 (-1 : Int32)).bind fun w2 =>
        callW (fX12_goesBy_2 N a1 a2 n k36 (v3 + (1 : Int32))) w2
      else
      (ldI w 105 0 (((6 : Int32) * a1) + v3) 12).bind fun x3 =>
      (callW (pX12_chanceOf N a1 v3 x3 a2) w).bind fun r4 =>
      (stI r4.2 110 0 v3 6 r4.1).bind fun w5 =>
      callW (fX12_goesBy_2 N a1 a2 n k36 (v3 + (1 : Int32))) w5
    else
    k36 w
noncomputable def pX12_goesBy (N : Nat) (a1 : Int32) (a2 : Int32) (w : Wd) : Option (Wd) :=
  callW (fX12_goesBy_2 N a1 a2 N (fX12_goesBy_36 N a1 a2) (0 : Int32)) w
noncomputable def mX12_goesBy (N : Nat) (as : List AV) (w : Wd) : Option (Wd) := xS1 16 as fun t => xI1 t fun a1 t => xI1 t fun a2 t => xN1 t (callW (pX12_goesBy N a1 a2) w)
set_option maxRecDepth 100000 in
set_option maxHeartbeats 4000000 in
theorem kX12_goesBy : TK cX12_goesBy RX12 5 tX12_goesBy := ⟨by decide +kernel, wok_of [1613, 1676, 1670, 1670, 1613, 1676, 1671, 1671, 2177, 2178, 2179, 1671, 2180, 2155, 1676, 1668, 1669, 1670, 1666, 1667, 1613, 1670] (by decide +kernel) (by decide +kernel)⟩
set_option maxRecDepth 100000 in
set_option maxHeartbeats 4000000 in
theorem sX12_goesBy_136 {N : Nat} {X : XT} (G : GX X cX12_goesBy RX12) (hn : xnL X = 5) (hC : CRs X tX12_goesBy (oF [(mX12_chanceOf N), (mX12_isSpoilt N)]) (oF []) (oF [])) {r : Wd} (hr : RTV X cX12_goesBy r) (a1 : Int32) (a2 : Int32) : ∀ (n : Nat) (v3 : Int32) (w : Wd), fX12_goesBy_136 N a1 n v3 w = some r → WW X (pcAt tX12_goesBy 136) [some (.inr (.inr (16, 0))), some (.inl a1), some (.inl a2), some (.inl v3), none] [] w := by
  intro n
  induction n with
  | zero => intro v3 w h; cases h
  | succ n ih =>
    intro v3 w h
    refine run_sound (r := r) (X := X) (cc := cX12_goesBy) (own := RX12) (tab := tX12_goesBy) G (by rw [hn]; exact kX12_goesBy) (oI := (oF [(mX12_chanceOf N), (mX12_isSpoilt N)])) (oL := (oF [])) (oV := (oF [])) (rI := (fun _ _ => none)) (rL := (fun _ _ => none)) (rV := (fun w => some w))
      (K := (fun j ls st w => if j = 136 then (lgI ls 3 fun v3 => st0 st (callW (fX12_goesBy_136 N a1 n v3) w)) else none)) (fun _ _ _ _ hx => by cases hx) (fun _ _ _ _ hx => by cases hx) (fun w pc ls hx hd => hr w pc ls (Option.some.inj hx) hd) hC (fun ls => lsb [some (.inr (.inr (16, 0))), some (.inl a1), some (.inl a2), none, none] 0 ls) (keepsP_of rfl) ?_ 154 136 [some (.inr (.inr (16, 0))), some (.inl a1), some (.inl a2), some (.inl v3), none] [] w ?_ h
    · intro j ls st w hfx h
      obtain ⟨e0, e1, e2, -⟩ : _ = _ ∧ _ = _ ∧ _ = _ ∧ True := hfx
      try dsimp only at h
      by_cases hj : j = 136
      · subst hj
        rw [if_pos rfl] at h
        obtain ⟨v3, e3, h_1⟩ := lgI_some h
        obtain ⟨rfl, h_2⟩ := st0_some h_1
        clear h h_1
        have h := h_2
        try rw [callW_eq] at h
        exact WW.le (a := [some (.inr (.inr (16, 0))), some (.inl a1), some (.inl a2), some (.inl v3), none]) (by rw [hn]; rfl) (show _ = _ ∧ _ = _ ∧ _ = _ ∧ _ = _ ∧ True from ⟨e0, e1, e2, e3, trivial⟩) (ih v3 w h)
      rw [if_neg hj] at h
      cases h
    · exact (show _ = _ ∧ _ = _ ∧ _ = _ ∧ True from ⟨rfl, rfl, rfl, trivial⟩)
set_option maxRecDepth 100000 in
set_option maxHeartbeats 4000000 in
theorem sX12_goesBy_134 {N : Nat} {X : XT} (G : GX X cX12_goesBy RX12) (hn : xnL X = 5) (hC : CRs X tX12_goesBy (oF [(mX12_chanceOf N), (mX12_isSpoilt N)]) (oF []) (oF [])) {r : Wd} (hr : RTV X cX12_goesBy r) (a1 : Int32) (a2 : Int32) : ∀ (w : Wd), fX12_goesBy_134 N a1 w = some r → WW X (pcAt tX12_goesBy 134) [some (.inr (.inr (16, 0))), some (.inl a1), some (.inl a2), none, none] [] w := by
  intro w h
  refine run_sound (r := r) (X := X) (cc := cX12_goesBy) (own := RX12) (tab := tX12_goesBy) G (by rw [hn]; exact kX12_goesBy) (oI := (oF [(mX12_chanceOf N), (mX12_isSpoilt N)])) (oL := (oF [])) (oV := (oF [])) (rI := (fun _ _ => none)) (rL := (fun _ _ => none)) (rV := (fun w => some w))
    (K := (fun j ls st w => if j = 136 then (lgI ls 3 fun v3 => st0 st (callW (fX12_goesBy_136 N a1 N v3) w)) else none)) (fun _ _ _ _ hx => by cases hx) (fun _ _ _ _ hx => by cases hx) (fun w pc ls hx hd => hr w pc ls (Option.some.inj hx) hd) hC (fun ls => lsb [some (.inr (.inr (16, 0))), some (.inl a1), some (.inl a2), none, none] 0 ls) (keepsP_of rfl) ?_ 154 134 [some (.inr (.inr (16, 0))), some (.inl a1), some (.inl a2), none, none] [] w ?_ h
  · intro j ls st w hfx h
    obtain ⟨e0, e1, e2, -⟩ : _ = _ ∧ _ = _ ∧ _ = _ ∧ True := hfx
    try dsimp only at h
    by_cases hj : j = 136
    · subst hj
      rw [if_pos rfl] at h
      obtain ⟨v3, e3, h_1⟩ := lgI_some h
      obtain ⟨rfl, h_2⟩ := st0_some h_1
      clear h h_1
      have h := h_2
      try rw [callW_eq] at h
      exact WW.le (a := [some (.inr (.inr (16, 0))), some (.inl a1), some (.inl a2), some (.inl v3), none]) (by rw [hn]; rfl) (show _ = _ ∧ _ = _ ∧ _ = _ ∧ _ = _ ∧ True from ⟨e0, e1, e2, e3, trivial⟩) (sX12_goesBy_136 G hn hC hr a1 a2 N v3 w h)
    rw [if_neg hj] at h
    cases h
  · exact (show _ = _ ∧ _ = _ ∧ _ = _ ∧ True from ⟨rfl, rfl, rfl, trivial⟩)
set_option maxRecDepth 100000 in
set_option maxHeartbeats 4000000 in
theorem sX12_goesBy_38 {N : Nat} {X : XT} (G : GX X cX12_goesBy RX12) (hn : xnL X = 5) (hC : CRs X tX12_goesBy (oF [(mX12_chanceOf N), (mX12_isSpoilt N)]) (oF []) (oF [])) {r : Wd} (hr : RTV X cX12_goesBy r) (a1 : Int32) (a2 : Int32) : ∀ (n : Nat) (k134 : Wd → Option (Wd)) (v3 : Int32) (w : Wd), fX12_goesBy_38 N a1 a2 n k134 v3 w = some r → (∀ (w : Wd), k134 w = some r → WW X (pcAt tX12_goesBy 134) [some (.inr (.inr (16, 0))), some (.inl a1), some (.inl a2), none, none] [] w) → WW X (pcAt tX12_goesBy 38) [some (.inr (.inr (16, 0))), some (.inl a1), some (.inl a2), some (.inl v3), none] [] w := by
  intro n
  induction n with
  | zero => intro k134 v3 w h h134; cases h
  | succ n ih =>
    intro k134 v3 w h h134
    refine run_sound (r := r) (X := X) (cc := cX12_goesBy) (own := RX12) (tab := tX12_goesBy) G (by rw [hn]; exact kX12_goesBy) (oI := (oF [(mX12_chanceOf N), (mX12_isSpoilt N)])) (oL := (oF [])) (oV := (oF [])) (rI := (fun _ _ => none)) (rL := (fun _ _ => none)) (rV := (fun w => some w))
      (K := (fun j ls st w => if j = 38 then (lgI ls 3 fun v3 => st0 st (callW (fX12_goesBy_38 N a1 a2 n k134 v3) w)) else if j = 134 then (st0 st (k134 w)) else none)) (fun _ _ _ _ hx => by cases hx) (fun _ _ _ _ hx => by cases hx) (fun w pc ls hx hd => hr w pc ls (Option.some.inj hx) hd) hC (fun ls => lsb [some (.inr (.inr (16, 0))), some (.inl a1), some (.inl a2), none, none] 0 ls) (keepsP_of rfl) ?_ 154 38 [some (.inr (.inr (16, 0))), some (.inl a1), some (.inl a2), some (.inl v3), none] [] w ?_ h
    · intro j ls st w hfx h
      obtain ⟨e0, e1, e2, -⟩ : _ = _ ∧ _ = _ ∧ _ = _ ∧ True := hfx
      try dsimp only at h
      by_cases hj : j = 38
      · subst hj
        rw [if_pos rfl] at h
        obtain ⟨v3, e3, h_1⟩ := lgI_some h
        obtain ⟨rfl, h_2⟩ := st0_some h_1
        clear h h_1
        have h := h_2
        try rw [callW_eq] at h
        exact WW.le (a := [some (.inr (.inr (16, 0))), some (.inl a1), some (.inl a2), some (.inl v3), none]) (by rw [hn]; rfl) (show _ = _ ∧ _ = _ ∧ _ = _ ∧ _ = _ ∧ True from ⟨e0, e1, e2, e3, trivial⟩) (ih k134 v3 w h h134)
      rw [if_neg hj] at h
      by_cases hj : j = 134
      · subst hj
        rw [if_pos rfl] at h
        obtain ⟨rfl, h_1⟩ := st0_some h
        clear h
        have h := h_1
        try rw [callW_eq] at h
        exact WW.le (a := [some (.inr (.inr (16, 0))), some (.inl a1), some (.inl a2), none, none]) (by rw [hn]; rfl) (show _ = _ ∧ _ = _ ∧ _ = _ ∧ True from ⟨e0, e1, e2, trivial⟩) (h134 w h)
      rw [if_neg hj] at h
      cases h
    · exact (show _ = _ ∧ _ = _ ∧ _ = _ ∧ True from ⟨rfl, rfl, rfl, trivial⟩)
set_option maxRecDepth 100000 in
set_option maxHeartbeats 4000000 in
theorem sX12_goesBy_36 {N : Nat} {X : XT} (G : GX X cX12_goesBy RX12) (hn : xnL X = 5) (hC : CRs X tX12_goesBy (oF [(mX12_chanceOf N), (mX12_isSpoilt N)]) (oF []) (oF [])) {r : Wd} (hr : RTV X cX12_goesBy r) (a1 : Int32) (a2 : Int32) : ∀ (w : Wd), fX12_goesBy_36 N a1 a2 w = some r → WW X (pcAt tX12_goesBy 36) [some (.inr (.inr (16, 0))), some (.inl a1), some (.inl a2), none, none] [] w := by
  intro w h
  refine run_sound (r := r) (X := X) (cc := cX12_goesBy) (own := RX12) (tab := tX12_goesBy) G (by rw [hn]; exact kX12_goesBy) (oI := (oF [(mX12_chanceOf N), (mX12_isSpoilt N)])) (oL := (oF [])) (oV := (oF [])) (rI := (fun _ _ => none)) (rL := (fun _ _ => none)) (rV := (fun w => some w))
    (K := (fun j ls st w => if j = 38 then (lgI ls 3 fun v3 => st0 st (callW (fX12_goesBy_38 N a1 a2 N (fX12_goesBy_134 N a1) v3) w)) else none)) (fun _ _ _ _ hx => by cases hx) (fun _ _ _ _ hx => by cases hx) (fun w pc ls hx hd => hr w pc ls (Option.some.inj hx) hd) hC (fun ls => lsb [some (.inr (.inr (16, 0))), some (.inl a1), some (.inl a2), none, none] 0 ls) (keepsP_of rfl) ?_ 154 36 [some (.inr (.inr (16, 0))), some (.inl a1), some (.inl a2), none, none] [] w ?_ h
  · intro j ls st w hfx h
    obtain ⟨e0, e1, e2, -⟩ : _ = _ ∧ _ = _ ∧ _ = _ ∧ True := hfx
    try dsimp only at h
    by_cases hj : j = 38
    · subst hj
      rw [if_pos rfl] at h
      obtain ⟨v3, e3, h_1⟩ := lgI_some h
      obtain ⟨rfl, h_2⟩ := st0_some h_1
      clear h h_1
      have h := h_2
      try rw [callW_eq] at h
      exact WW.le (a := [some (.inr (.inr (16, 0))), some (.inl a1), some (.inl a2), some (.inl v3), none]) (by rw [hn]; rfl) (show _ = _ ∧ _ = _ ∧ _ = _ ∧ _ = _ ∧ True from ⟨e0, e1, e2, e3, trivial⟩) (sX12_goesBy_38 G hn hC hr a1 a2 N (fX12_goesBy_134 N a1) v3 w h (fun w h => (sX12_goesBy_134 G hn hC hr a1 a2 w h)))
    rw [if_neg hj] at h
    cases h
  · exact (show _ = _ ∧ _ = _ ∧ _ = _ ∧ True from ⟨rfl, rfl, rfl, trivial⟩)
set_option maxRecDepth 100000 in
set_option maxHeartbeats 4000000 in
theorem sX12_goesBy_2 {N : Nat} {X : XT} (G : GX X cX12_goesBy RX12) (hn : xnL X = 5) (hC : CRs X tX12_goesBy (oF [(mX12_chanceOf N), (mX12_isSpoilt N)]) (oF []) (oF [])) {r : Wd} (hr : RTV X cX12_goesBy r) (a1 : Int32) (a2 : Int32) : ∀ (n : Nat) (k36 : Wd → Option (Wd)) (v3 : Int32) (w : Wd), fX12_goesBy_2 N a1 a2 n k36 v3 w = some r → (∀ (w : Wd), k36 w = some r → WW X (pcAt tX12_goesBy 36) [some (.inr (.inr (16, 0))), some (.inl a1), some (.inl a2), none, none] [] w) → WW X (pcAt tX12_goesBy 2) [some (.inr (.inr (16, 0))), some (.inl a1), some (.inl a2), some (.inl v3), none] [] w := by
  intro n
  induction n with
  | zero => intro k36 v3 w h h36; cases h
  | succ n ih =>
    intro k36 v3 w h h36
    refine run_sound (r := r) (X := X) (cc := cX12_goesBy) (own := RX12) (tab := tX12_goesBy) G (by rw [hn]; exact kX12_goesBy) (oI := (oF [(mX12_chanceOf N), (mX12_isSpoilt N)])) (oL := (oF [])) (oV := (oF [])) (rI := (fun _ _ => none)) (rL := (fun _ _ => none)) (rV := (fun w => some w))
      (K := (fun j ls st w => if j = 2 then (lgI ls 3 fun v3 => st0 st (callW (fX12_goesBy_2 N a1 a2 n k36 v3) w)) else if j = 36 then (st0 st (k36 w)) else none)) (fun _ _ _ _ hx => by cases hx) (fun _ _ _ _ hx => by cases hx) (fun w pc ls hx hd => hr w pc ls (Option.some.inj hx) hd) hC (fun ls => lsb [some (.inr (.inr (16, 0))), some (.inl a1), some (.inl a2), none, none] 0 ls) (keepsP_of rfl) ?_ 154 2 [some (.inr (.inr (16, 0))), some (.inl a1), some (.inl a2), some (.inl v3), none] [] w ?_ h
    · intro j ls st w hfx h
      obtain ⟨e0, e1, e2, -⟩ : _ = _ ∧ _ = _ ∧ _ = _ ∧ True := hfx
      try dsimp only at h
      by_cases hj : j = 2
      · subst hj
        rw [if_pos rfl] at h
        obtain ⟨v3, e3, h_1⟩ := lgI_some h
        obtain ⟨rfl, h_2⟩ := st0_some h_1
        clear h h_1
        have h := h_2
        try rw [callW_eq] at h
        exact WW.le (a := [some (.inr (.inr (16, 0))), some (.inl a1), some (.inl a2), some (.inl v3), none]) (by rw [hn]; rfl) (show _ = _ ∧ _ = _ ∧ _ = _ ∧ _ = _ ∧ True from ⟨e0, e1, e2, e3, trivial⟩) (ih k36 v3 w h h36)
      rw [if_neg hj] at h
      by_cases hj : j = 36
      · subst hj
        rw [if_pos rfl] at h
        obtain ⟨rfl, h_1⟩ := st0_some h
        clear h
        have h := h_1
        try rw [callW_eq] at h
        exact WW.le (a := [some (.inr (.inr (16, 0))), some (.inl a1), some (.inl a2), none, none]) (by rw [hn]; rfl) (show _ = _ ∧ _ = _ ∧ _ = _ ∧ True from ⟨e0, e1, e2, trivial⟩) (h36 w h)
      rw [if_neg hj] at h
      cases h
    · exact (show _ = _ ∧ _ = _ ∧ _ = _ ∧ True from ⟨rfl, rfl, rfl, trivial⟩)
set_option maxRecDepth 100000 in
set_option maxHeartbeats 4000000 in
theorem crX12_goesBy {N : Nat} {X : XT} (G : GX X cX12_goesBy RX12) (hR : xR X = rmL 6) : CRs X tX12_goesBy (oF [(mX12_chanceOf N), (mX12_isSpoilt N)]) (oF []) (oF []) := by
  have hl : tX12_goesBy.filter isInv = [(48, .invokevirtual 498, 0, 0, 5, 0, 0, []), (162, .invokevirtual 515, 0, 1, 3, 0, 0, [])] := rfl
  intro e he
  rw [hl] at he
  simp only [List.mem_cons, List.not_mem_nil, or_false] at he
  rcases he with rfl | rfl
  · exact crI_V (idx := 498) G (by decide +kernel) (MX12_chanceOf N) (cw_of (ps := [2127, 2129, 113, 164, 2130]) (by decide +kernel) (by decide +kernel)) ⟨by decide +kernel, by decide +kernel, by decide +kernel⟩ (by unfold rmOk; rw [hR]; exact ⟨by decide, by decide⟩)
  · exact crI_V (idx := 515) G (by decide +kernel) (MX12_isSpoilt N) (cw_of (ps := [2181, 2183, 120, 164, 2184]) (by decide +kernel) (by decide +kernel)) ⟨by decide +kernel, by decide +kernel, by decide +kernel⟩ (by unfold rmOk; rw [hR]; exact ⟨by decide, by decide⟩)
set_option maxRecDepth 100000 in
set_option maxHeartbeats 4000000 in
theorem MX12_goesBy (N : Nat) : SndV yX12_goesBy cX12_goesBy 5 none 6 3 true (mX12_goesBy N) := by
  refine SndV.of tX12_goesBy (by decide +kernel) rfl rfl ?_ ?_
  · intro as w x h
    obtain ⟨t1, rfl, h_1⟩ := xS1_some h
    obtain ⟨a1, t2, rfl, h_2⟩ := xI1_some h_1
    obtain ⟨a2, t3, rfl, h_3⟩ := xI1_some h_2
    obtain ⟨rfl, h_4⟩ := xN1_some h_3
    clear h h_1 h_2 h_3
    have h := h_4
    rw [callW_eq] at h
    exact ⟨fun _ => ⟨_, _, _, rfl, rfl, _, rfl, rfl⟩, rfl, Nat.le_of_ble_eq_true rfl⟩
  · intro X G hn hR as w r h hr
    have hC := crX12_goesBy (N := N) G hR
    obtain ⟨t1, rfl, h_1⟩ := xS1_some h
    obtain ⟨a1, t2, rfl, h_2⟩ := xI1_some h_1
    obtain ⟨a2, t3, rfl, h_3⟩ := xI1_some h_2
    obtain ⟨rfl, h_4⟩ := xN1_some h_3
    clear h h_1 h_2 h_3
    have h := h_4
    rw [callW_eq] at h
    refine run_sound (r := r) (X := X) (cc := cX12_goesBy) (own := RX12) (tab := tX12_goesBy) G (by rw [hn]; exact kX12_goesBy) (oI := (oF [(mX12_chanceOf N), (mX12_isSpoilt N)])) (oL := (oF [])) (oV := (oF [])) (rI := (fun _ _ => none)) (rL := (fun _ _ => none)) (rV := (fun w => some w))
      (K := (fun j ls st w => if j = 2 then (lgI ls 3 fun v3 => st0 st (callW (fX12_goesBy_2 N a1 a2 N (fX12_goesBy_36 N a1 a2) v3) w)) else none)) (fun _ _ _ _ hx => by cases hx) (fun _ _ _ _ hx => by cases hx) (fun w pc ls hx hd => hr w pc ls (Option.some.inj hx) hd) hC (fun ls => lsb [some (.inr (.inr (16, 0))), some (.inl a1), some (.inl a2), none, none] 0 ls) (keepsP_of rfl) ?_ 154 0 [some (.inr (.inr (16, 0))), some (.inl a1), some (.inl a2), none, none] [] w ?_ h
    · intro j ls st w hfx h
      obtain ⟨e0, e1, e2, -⟩ : _ = _ ∧ _ = _ ∧ _ = _ ∧ True := hfx
      try dsimp only at h
      by_cases hj : j = 2
      · subst hj
        rw [if_pos rfl] at h
        obtain ⟨v3, e3, h_1⟩ := lgI_some h
        obtain ⟨rfl, h_2⟩ := st0_some h_1
        clear h h_1
        have h := h_2
        try rw [callW_eq] at h
        exact WW.le (a := [some (.inr (.inr (16, 0))), some (.inl a1), some (.inl a2), some (.inl v3), none]) (by rw [hn]; rfl) (show _ = _ ∧ _ = _ ∧ _ = _ ∧ _ = _ ∧ True from ⟨e0, e1, e2, e3, trivial⟩) (sX12_goesBy_2 G hn hC hr a1 a2 N (fX12_goesBy_36 N a1 a2) v3 w h (fun w h => (sX12_goesBy_36 G hn hC hr a1 a2 w h)))
      rw [if_neg hj] at h
      cases h
    · exact (show _ = _ ∧ _ = _ ∧ _ = _ ∧ True from ⟨rfl, rfl, rfl, trivial⟩)
-- MoorGuidesModel.nights(I)I
def tX12_nights : List EN := [
  (0, .aload_n 0, 0, 0, 0, 0, 0, []), (1, .iconst 0, 0, 0, 0, 0, 0, []), (2, .putfield 196, 0, 12, 2, 0, 0, []), (5, .iload_n 1, 0, 0, 0, 0, 0, []),
  (6, .iconst 0, 0, 0, 0, 0, 0, []), (7, .sipush 200, 0, 0, 0, 200, 0, []), (10, .invokestatic 241, 0, 0, 3, 0, 0, []), (13, .ifCond .eq 15, 0, 14, 0, 0, 0, []),
  (16, .aload_n 0, 0, 0, 0, 0, 0, []), (17, .getfield 438, 0, 12, 64, 0, 0, []), (20, .iload_n 1, 0, 0, 0, 0, 0, []), (21, .iadd, 0, 0, 0, 0, 0, []),
  (22, .sipush 1000, 0, 0, 0, 1000, 0, []), (25, .if_icmp .le 5, 0, 16, 0, 0, 0, []), (28, .iconst (-1), 0, 0, 0, (-1), 0, []), (29, .ireturn, 0, 0, 0, 0, 0, []),
  (30, .iconst 0, 0, 0, 0, 0, 0, []), (31, .istore_n 2, 0, 0, 0, 0, 0, []), (32, .iload_n 2, 19, 0, 0, 0, 0, []), (33, .iload_n 1, 0, 0, 0, 0, 0, []),
  (34, .if_icmp .ge 28, 0, 34, 0, 0, 0, []), (37, .aload_n 0, 0, 0, 0, 0, 0, []), (38, .iconst 0, 0, 0, 0, 0, 0, []), (39, .aload_n 0, 0, 0, 0, 0, 0, []),
  (40, .getfield 438, 0, 12, 64, 0, 0, []), (43, .invokevirtual 518, 0, 0, 3, 0, 0, [(0, 0), (0, 0)]), (46, .aload_n 0, 0, 0, 0, 0, 0, []), (47, .dup, 0, 0, 0, 0, 0, []),
  (48, .getfield 438, 0, 12, 64, 0, 0, []), (51, .iconst 1, 0, 0, 0, 1, 0, []), (52, .iadd, 0, 0, 0, 0, 0, []), (53, .putfield 438, 0, 12, 64, 0, 0, []),
  (56, .iinc 2 1, 0, 0, 0, 1, 0, []), (59, .goto (-27), 0, 18, 0, 0, 0, []), (62, .aload_n 0, 35, 0, 0, 0, 0, []), (63, .iload_n 1, 0, 0, 0, 0, 0, []),
  (64, .ifCond .le 7, 0, 39, 0, 0, 0, []), (67, .iconst 0, 0, 0, 0, 0, 0, []), (68, .goto 7, 0, 41, 0, 0, 0, []), (71, .aload_n 0, 0, 0, 0, 0, 0, []),
  (72, .getfield 447, 0, 12, 74, 0, 0, []), (75, .putfield 447, 0, 12, 74, 0, 0, []), (78, .aload_n 0, 0, 0, 0, 0, 0, []), (79, .getfield 438, 0, 12, 64, 0, 0, []),
  (82, .ireturn, 0, 0, 0, 0, 0, [])]
noncomputable def fX12_nights_34 (N : Nat) (a1 : Int32) (w : Wd) : Option (Int32 × Wd) :=
  if 0 < a1 then some ((gI (setI w 16 0 74 (0 : Int32)) 16 0 64), (setI w 16 0 74 (0 : Int32))) else
  some ((gI (setI w 16 0 74 (gI w 16 0 74)) 16 0 64), (setI w 16 0 74 (gI w 16 0 74)))
noncomputable def fX12_nights_18 (N : Nat) (a1 : Int32) : Nat → (Wd → Option (Int32 × Wd)) → Int32 → Wd → Option (Int32 × Wd)
  | 0, _, _, _ => none
  | n + 1, k34, v2, w =>
    if v2 < a1 then
      (callW (pX12_goesBy N (0 : Int32) (gI w 16 0 64)) w).bind fun w1 =>
      callW (fX12_nights_18 N a1 n k34 (v2 + (1 : Int32))) (setI w1 16 0 64 ((gI w1 16 0 64) + (1 : Int32)))
    else
    k34 w
noncomputable def pX12_nights (N : Nat) (a1 : Int32) (w : Wd) : Option (Int32 × Wd) :=
  (callW (pX12_isIn N a1 (0 : Int32) (200 : Int32)) (setI w 16 0 2 (0 : Int32))).bind fun r1 =>
  if r1.1 = 0 then some ((-1 : Int32), r1.2) else
  if (1000 : Int32) < ((gI r1.2 16 0 64) + a1) then some ((-1 : Int32), r1.2) else
  callW (fX12_nights_18 N a1 N (fX12_nights_34 N a1) (0 : Int32)) r1.2
noncomputable def mX12_nights (N : Nat) (as : List AV) (w : Wd) : Option (Int32 × Wd) := xS1 16 as fun t => xI1 t fun a1 t => xN1 t (callW (pX12_nights N a1) w)
set_option maxRecDepth 100000 in
set_option maxHeartbeats 4000000 in
theorem kX12_nights : TK cX12_nights RX12 3 tX12_nights := ⟨by decide +kernel, wok_of [1602, 1664, 1664, 1664, 1664, 1674, 1674, 1664] (by decide +kernel) (by decide +kernel)⟩
set_option maxRecDepth 100000 in
set_option maxHeartbeats 4000000 in
theorem sX12_nights_34 {N : Nat} {X : XT} (G : GX X cX12_nights RX12) (hn : xnL X = 3) (hC : CRs X tX12_nights (oF [(mX12_isIn N)]) (oF []) (oF [(mX12_goesBy N)])) {r : Int32 × Wd} (hr : RTI X cX12_nights r) (a1 : Int32) : ∀ (w : Wd), fX12_nights_34 N a1 w = some r → WW X (pcAt tX12_nights 34) [some (.inr (.inr (16, 0))), some (.inl a1), none] [] w := by
  intro w h
  refine run_sound (r := r) (X := X) (cc := cX12_nights) (own := RX12) (tab := tX12_nights) G (by rw [hn]; exact kX12_nights) (oI := (oF [(mX12_isIn N)])) (oL := (oF [])) (oV := (oF [(mX12_goesBy N)])) (rI := (fun x w => some (x, w))) (rL := (fun _ _ => none)) (rV := (fun _ => none))
    (K := (fun j ls st w => none)) (fun x w pc ls hx hd => hr x w pc ls (Option.some.inj hx) hd) (fun _ _ _ _ hx => by cases hx) (fun _ _ _ hx => by cases hx) hC (fun ls => lsb [some (.inr (.inr (16, 0))), some (.inl a1), none] 0 ls) (keepsP_of rfl) ?_ 47 34 [some (.inr (.inr (16, 0))), some (.inl a1), none] [] w ?_ h
  · intro j ls st w hfx h
    obtain ⟨e0, e1, -⟩ : _ = _ ∧ _ = _ ∧ True := hfx
    try dsimp only at h
    cases h
  · exact (show _ = _ ∧ _ = _ ∧ True from ⟨rfl, rfl, trivial⟩)
set_option maxRecDepth 100000 in
set_option maxHeartbeats 4000000 in
theorem sX12_nights_18 {N : Nat} {X : XT} (G : GX X cX12_nights RX12) (hn : xnL X = 3) (hC : CRs X tX12_nights (oF [(mX12_isIn N)]) (oF []) (oF [(mX12_goesBy N)])) {r : Int32 × Wd} (hr : RTI X cX12_nights r) (a1 : Int32) : ∀ (n : Nat) (k34 : Wd → Option (Int32 × Wd)) (v2 : Int32) (w : Wd), fX12_nights_18 N a1 n k34 v2 w = some r → (∀ (w : Wd), k34 w = some r → WW X (pcAt tX12_nights 34) [some (.inr (.inr (16, 0))), some (.inl a1), none] [] w) → WW X (pcAt tX12_nights 18) [some (.inr (.inr (16, 0))), some (.inl a1), some (.inl v2)] [] w := by
  intro n
  induction n with
  | zero => intro k34 v2 w h h34; cases h
  | succ n ih =>
    intro k34 v2 w h h34
    refine run_sound (r := r) (X := X) (cc := cX12_nights) (own := RX12) (tab := tX12_nights) G (by rw [hn]; exact kX12_nights) (oI := (oF [(mX12_isIn N)])) (oL := (oF [])) (oV := (oF [(mX12_goesBy N)])) (rI := (fun x w => some (x, w))) (rL := (fun _ _ => none)) (rV := (fun _ => none))
      (K := (fun j ls st w => if j = 18 then (lgI ls 2 fun v2 => st0 st (callW (fX12_nights_18 N a1 n k34 v2) w)) else if j = 34 then (st0 st (k34 w)) else none)) (fun x w pc ls hx hd => hr x w pc ls (Option.some.inj hx) hd) (fun _ _ _ _ hx => by cases hx) (fun _ _ _ hx => by cases hx) hC (fun ls => lsb [some (.inr (.inr (16, 0))), some (.inl a1), none] 0 ls) (keepsP_of rfl) ?_ 47 18 [some (.inr (.inr (16, 0))), some (.inl a1), some (.inl v2)] [] w ?_ h
    · intro j ls st w hfx h
      obtain ⟨e0, e1, -⟩ : _ = _ ∧ _ = _ ∧ True := hfx
      try dsimp only at h
      by_cases hj : j = 18
      · subst hj
        rw [if_pos rfl] at h
        obtain ⟨v2, e2, h_1⟩ := lgI_some h
        obtain ⟨rfl, h_2⟩ := st0_some h_1
        clear h h_1
        have h := h_2
        try rw [callW_eq] at h
        exact WW.le (a := [some (.inr (.inr (16, 0))), some (.inl a1), some (.inl v2)]) (by rw [hn]; rfl) (show _ = _ ∧ _ = _ ∧ _ = _ ∧ True from ⟨e0, e1, e2, trivial⟩) (ih k34 v2 w h h34)
      rw [if_neg hj] at h
      by_cases hj : j = 34
      · subst hj
        rw [if_pos rfl] at h
        obtain ⟨rfl, h_1⟩ := st0_some h
        clear h
        have h := h_1
        try rw [callW_eq] at h
        exact WW.le (a := [some (.inr (.inr (16, 0))), some (.inl a1), none]) (by rw [hn]; rfl) (show _ = _ ∧ _ = _ ∧ True from ⟨e0, e1, trivial⟩) (h34 w h)
      rw [if_neg hj] at h
      cases h
    · exact (show _ = _ ∧ _ = _ ∧ True from ⟨rfl, rfl, trivial⟩)
set_option maxRecDepth 100000 in
set_option maxHeartbeats 4000000 in
theorem crX12_nights {N : Nat} {X : XT} (G : GX X cX12_nights RX12) (hR : xR X = rmL 7) : CRs X tX12_nights (oF [(mX12_isIn N)]) (oF []) (oF [(mX12_goesBy N)]) := by
  have hl : tX12_nights.filter isInv = [(10, .invokestatic 241, 0, 0, 3, 0, 0, []), (43, .invokevirtual 518, 0, 0, 3, 0, 0, [(0, 0), (0, 0)])] := rfl
  intro e he
  rw [hl] at he
  simp only [List.mem_cons, List.not_mem_nil, or_false] at he
  rcases he with rfl | rfl
  · exact crI_S (idx := 241) G (by decide +kernel) (MX12_isIn N) (cw_of (ps := [1986, 1987, 164, 1988]) (by decide +kernel) (by decide +kernel)) ⟨by decide +kernel, by decide +kernel, by decide +kernel⟩ (by unfold rmOk; rw [hR]; exact ⟨by decide, by decide⟩)
  · exact crV_V (idx := 518) G (by decide +kernel) (MX12_goesBy N) (cw_of (ps := [2173, 2175, 119, 164, 2176]) (by decide +kernel) (by decide +kernel)) ⟨by decide +kernel, by decide +kernel, by decide +kernel⟩ (by unfold rmOk; rw [hR]; exact ⟨by decide, by decide⟩)
set_option maxRecDepth 100000 in
set_option maxHeartbeats 4000000 in
theorem MX12_nights (N : Nat) : SndI yX12_nights cX12_nights 3 (some .int) 7 2 true (mX12_nights N) := by
  refine SndI.of tX12_nights (by decide +kernel) rfl rfl ?_ ?_
  · intro as w x h
    obtain ⟨t1, rfl, h_1⟩ := xS1_some h
    obtain ⟨a1, t2, rfl, h_2⟩ := xI1_some h_1
    obtain ⟨rfl, h_3⟩ := xN1_some h_2
    clear h h_1 h_2
    have h := h_3
    rw [callW_eq] at h
    exact ⟨fun _ => ⟨_, _, _, rfl, rfl, _, rfl, rfl⟩, rfl, Nat.le_of_ble_eq_true rfl⟩
  · intro X G hn hR as w r h hr
    have hC := crX12_nights (N := N) G hR
    obtain ⟨t1, rfl, h_1⟩ := xS1_some h
    obtain ⟨a1, t2, rfl, h_2⟩ := xI1_some h_1
    obtain ⟨rfl, h_3⟩ := xN1_some h_2
    clear h h_1 h_2
    have h := h_3
    rw [callW_eq] at h
    refine run_sound (r := r) (X := X) (cc := cX12_nights) (own := RX12) (tab := tX12_nights) G (by rw [hn]; exact kX12_nights) (oI := (oF [(mX12_isIn N)])) (oL := (oF [])) (oV := (oF [(mX12_goesBy N)])) (rI := (fun x w => some (x, w))) (rL := (fun _ _ => none)) (rV := (fun _ => none))
      (K := (fun j ls st w => if j = 18 then (lgI ls 2 fun v2 => st0 st (callW (fX12_nights_18 N a1 N (fX12_nights_34 N a1) v2) w)) else none)) (fun x w pc ls hx hd => hr x w pc ls (Option.some.inj hx) hd) (fun _ _ _ _ hx => by cases hx) (fun _ _ _ hx => by cases hx) hC (fun ls => lsb [some (.inr (.inr (16, 0))), some (.inl a1), none] 0 ls) (keepsP_of rfl) ?_ 47 0 [some (.inr (.inr (16, 0))), some (.inl a1), none] [] w ?_ h
    · intro j ls st w hfx h
      obtain ⟨e0, e1, -⟩ : _ = _ ∧ _ = _ ∧ True := hfx
      try dsimp only at h
      by_cases hj : j = 18
      · subst hj
        rw [if_pos rfl] at h
        obtain ⟨v2, e2, h_1⟩ := lgI_some h
        obtain ⟨rfl, h_2⟩ := st0_some h_1
        clear h h_1
        have h := h_2
        try rw [callW_eq] at h
        exact WW.le (a := [some (.inr (.inr (16, 0))), some (.inl a1), some (.inl v2)]) (by rw [hn]; rfl) (show _ = _ ∧ _ = _ ∧ _ = _ ∧ True from ⟨e0, e1, e2, trivial⟩) (sX12_nights_18 G hn hC hr a1 N (fX12_nights_34 N a1) v2 w h (fun w h => (sX12_nights_34 G hn hC hr a1 w h)))
      rw [if_neg hj] at h
      cases h
    · exact (show _ = _ ∧ _ = _ ∧ True from ⟨rfl, rfl, trivial⟩)
-- MoorGuidesModel.layKnown(III)V
def tX12_layKnown : List EN := [
  (0, .iconst 0, 0, 0, 0, 0, 0, []), (1, .istore 4, 0, 0, 0, 0, 0, []), (3, .iload 4, 3, 0, 0, 0, 0, []), (5, .bipush 6, 0, 0, 0, 6, 0, []),
  (7, .if_icmp .ge 37, 0, 22, 0, 0, 0, []), (10, .aload_n 0, 0, 0, 0, 0, 0, []), (11, .getfield 130, 0, 12, 77, 0, 0, []), (14, .iload 4, 0, 0, 0, 0, 0, []),
  (16, .iload 4, 0, 0, 0, 0, 0, []), (18, .aload_n 0, 0, 0, 0, 0, 0, []), (19, .getfield 298, 0, 12, 13, 0, 0, []), (22, .if_icmp .ge 14, 0, 18, 0, 0, 0, []),
  (25, .aload_n 0, 0, 0, 0, 0, 0, []), (26, .iload_n 1, 0, 0, 0, 0, 0, []), (27, .iload 4, 0, 0, 0, 0, 0, []), (29, .iload_n 2, 0, 0, 0, 0, 0, []),
  (30, .invokevirtual 469, 0, 0, 4, 0, 0, []), (33, .goto 4, 0, 19, 0, 0, 0, []), (36, .iconst 0, 0, 0, 0, 0, 0, []), (37, .iastore, 0, 0, 0, 0, 0, []),
  (38, .iinc 4 1, 0, 0, 0, 1, 0, []), (41, .goto (-38), 0, 2, 0, 0, 0, []), (44, .aload_n 0, 23, 0, 0, 0, 0, []), (45, .getfield 130, 0, 12, 77, 0, 0, []),
  (48, .bipush 6, 0, 0, 0, 6, 0, []), (50, .iload_n 3, 0, 0, 0, 0, 0, []), (51, .iastore, 0, 0, 0, 0, 0, []), (52, .return_, 0, 0, 0, 0, 0, [])]
noncomputable def fX12_layKnown_22 (N : Nat) (a3 : Int32) (w : Wd) : Option (Wd) :=
  (stI w 111 0 (6 : Int32) 7 a3).bind fun w1 =>
  some w1
noncomputable def fX12_layKnown_2 (N : Nat) (a1 : Int32) (a2 : Int32) (a3 : Int32) : Nat → (Wd → Option (Wd)) → Int32 → Wd → Option (Wd)
  | 0, _, _, _ => none
  | n + 1, k22, v4, w =>
    if v4 < (6 : Int32) then
      if v4 < (gI w 16 0 13) then
        (callW (pX12_knownBy N a1 v4 a2) w).bind fun r1 =>
        (stI r1.2 111 0 v4 7 r1.1).bind fun w2 =>
        callW (fX12_layKnown_2 N a1 a2 a3 n k22 (v4 + (1 : Int32))) w2
      else
      (stI w 111 0 v4 7 (0 : Int32)).bind fun w3 =>
      callW (fX12_layKnown_2 N a1 a2 a3 n k22 (v4 + (1 : Int32))) w3
    else
    k22 w
noncomputable def pX12_layKnown (N : Nat) (a1 : Int32) (a2 : Int32) (a3 : Int32) (w : Wd) : Option (Wd) :=
  callW (fX12_layKnown_2 N a1 a2 a3 N (fX12_layKnown_22 N a3) (0 : Int32)) w
noncomputable def mX12_layKnown (N : Nat) (as : List AV) (w : Wd) : Option (Wd) := xS1 16 as fun t => xI1 t fun a1 t => xI1 t fun a2 t => xI1 t fun a3 t => xN1 t (callW (pX12_layKnown N a1 a2 a3) w)
set_option maxRecDepth 100000 in
set_option maxHeartbeats 4000000 in
theorem kX12_layKnown : TK cX12_layKnown RX12 5 tX12_layKnown := ⟨by decide +kernel, wok_of [1677, 1613, 1677] (by decide +kernel) (by decide +kernel)⟩
set_option maxRecDepth 100000 in
set_option maxHeartbeats 4000000 in
theorem sX12_layKnown_22 {N : Nat} {X : XT} (G : GX X cX12_layKnown RX12) (hn : xnL X = 5) (hC : CRs X tX12_layKnown (oF [(mX12_knownBy N)]) (oF []) (oF [])) {r : Wd} (hr : RTV X cX12_layKnown r) (a1 : Int32) (a2 : Int32) (a3 : Int32) : ∀ (w : Wd), fX12_layKnown_22 N a3 w = some r → WW X (pcAt tX12_layKnown 22) [some (.inr (.inr (16, 0))), some (.inl a1), some (.inl a2), some (.inl a3), none] [] w := by
  intro w h
  refine run_sound (r := r) (X := X) (cc := cX12_layKnown) (own := RX12) (tab := tX12_layKnown) G (by rw [hn]; exact kX12_layKnown) (oI := (oF [(mX12_knownBy N)])) (oL := (oF [])) (oV := (oF [])) (rI := (fun _ _ => none)) (rL := (fun _ _ => none)) (rV := (fun w => some w))
    (K := (fun j ls st w => none)) (fun _ _ _ _ hx => by cases hx) (fun _ _ _ _ hx => by cases hx) (fun w pc ls hx hd => hr w pc ls (Option.some.inj hx) hd) hC (fun ls => lsb [some (.inr (.inr (16, 0))), some (.inl a1), some (.inl a2), some (.inl a3), none] 0 ls) (keepsP_of rfl) ?_ 30 22 [some (.inr (.inr (16, 0))), some (.inl a1), some (.inl a2), some (.inl a3), none] [] w ?_ h
  · intro j ls st w hfx h
    obtain ⟨e0, e1, e2, e3, -⟩ : _ = _ ∧ _ = _ ∧ _ = _ ∧ _ = _ ∧ True := hfx
    try dsimp only at h
    cases h
  · exact (show _ = _ ∧ _ = _ ∧ _ = _ ∧ _ = _ ∧ True from ⟨rfl, rfl, rfl, rfl, trivial⟩)
set_option maxRecDepth 100000 in
set_option maxHeartbeats 4000000 in
theorem sX12_layKnown_2 {N : Nat} {X : XT} (G : GX X cX12_layKnown RX12) (hn : xnL X = 5) (hC : CRs X tX12_layKnown (oF [(mX12_knownBy N)]) (oF []) (oF [])) {r : Wd} (hr : RTV X cX12_layKnown r) (a1 : Int32) (a2 : Int32) (a3 : Int32) : ∀ (n : Nat) (k22 : Wd → Option (Wd)) (v4 : Int32) (w : Wd), fX12_layKnown_2 N a1 a2 a3 n k22 v4 w = some r → (∀ (w : Wd), k22 w = some r → WW X (pcAt tX12_layKnown 22) [some (.inr (.inr (16, 0))), some (.inl a1), some (.inl a2), some (.inl a3), none] [] w) → WW X (pcAt tX12_layKnown 2) [some (.inr (.inr (16, 0))), some (.inl a1), some (.inl a2), some (.inl a3), some (.inl v4)] [] w := by
  intro n
  induction n with
  | zero => intro k22 v4 w h h22; cases h
  | succ n ih =>
    intro k22 v4 w h h22
    refine run_sound (r := r) (X := X) (cc := cX12_layKnown) (own := RX12) (tab := tX12_layKnown) G (by rw [hn]; exact kX12_layKnown) (oI := (oF [(mX12_knownBy N)])) (oL := (oF [])) (oV := (oF [])) (rI := (fun _ _ => none)) (rL := (fun _ _ => none)) (rV := (fun w => some w))
      (K := (fun j ls st w => if j = 2 then (lgI ls 4 fun v4 => st0 st (callW (fX12_layKnown_2 N a1 a2 a3 n k22 v4) w)) else if j = 22 then (st0 st (k22 w)) else none)) (fun _ _ _ _ hx => by cases hx) (fun _ _ _ _ hx => by cases hx) (fun w pc ls hx hd => hr w pc ls (Option.some.inj hx) hd) hC (fun ls => lsb [some (.inr (.inr (16, 0))), some (.inl a1), some (.inl a2), some (.inl a3), none] 0 ls) (keepsP_of rfl) ?_ 30 2 [some (.inr (.inr (16, 0))), some (.inl a1), some (.inl a2), some (.inl a3), some (.inl v4)] [] w ?_ h
    · intro j ls st w hfx h
      obtain ⟨e0, e1, e2, e3, -⟩ : _ = _ ∧ _ = _ ∧ _ = _ ∧ _ = _ ∧ True := hfx
      try dsimp only at h
      by_cases hj : j = 2
      · subst hj
        rw [if_pos rfl] at h
        obtain ⟨v4, e4, h_1⟩ := lgI_some h
        obtain ⟨rfl, h_2⟩ := st0_some h_1
        clear h h_1
        have h := h_2
        try rw [callW_eq] at h
        exact WW.le (a := [some (.inr (.inr (16, 0))), some (.inl a1), some (.inl a2), some (.inl a3), some (.inl v4)]) (by rw [hn]; rfl) (show _ = _ ∧ _ = _ ∧ _ = _ ∧ _ = _ ∧ _ = _ ∧ True from ⟨e0, e1, e2, e3, e4, trivial⟩) (ih k22 v4 w h h22)
      rw [if_neg hj] at h
      by_cases hj : j = 22
      · subst hj
        rw [if_pos rfl] at h
        obtain ⟨rfl, h_1⟩ := st0_some h
        clear h
        have h := h_1
        try rw [callW_eq] at h
        exact WW.le (a := [some (.inr (.inr (16, 0))), some (.inl a1), some (.inl a2), some (.inl a3), none]) (by rw [hn]; rfl) (show _ = _ ∧ _ = _ ∧ _ = _ ∧ _ = _ ∧ True from ⟨e0, e1, e2, e3, trivial⟩) (h22 w h)
      rw [if_neg hj] at h
      cases h
    · exact (show _ = _ ∧ _ = _ ∧ _ = _ ∧ _ = _ ∧ True from ⟨rfl, rfl, rfl, rfl, trivial⟩)
set_option maxRecDepth 100000 in
set_option maxHeartbeats 4000000 in
theorem crX12_layKnown {N : Nat} {X : XT} (G : GX X cX12_layKnown RX12) (hR : xR X = rmL 4) : CRs X tX12_layKnown (oF [(mX12_knownBy N)]) (oF []) (oF []) := by
  have hl : tX12_layKnown.filter isInv = [(30, .invokevirtual 469, 0, 0, 4, 0, 0, [])] := rfl
  intro e he
  rw [hl] at he
  simp only [List.mem_cons, List.not_mem_nil, or_false] at he
  rcases he with rfl
  · exact crI_V (idx := 469) G (by decide +kernel) (MX12_knownBy N) (cw_of (ps := [2092, 2094, 109, 164, 2095]) (by decide +kernel) (by decide +kernel)) ⟨by decide +kernel, by decide +kernel, by decide +kernel⟩ (by unfold rmOk; rw [hR]; exact ⟨by decide, by decide⟩)
set_option maxRecDepth 100000 in
set_option maxHeartbeats 4000000 in
theorem MX12_layKnown (N : Nat) : SndV yX12_layKnown cX12_layKnown 5 none 4 4 true (mX12_layKnown N) := by
  refine SndV.of tX12_layKnown (by decide +kernel) rfl rfl ?_ ?_
  · intro as w x h
    obtain ⟨t1, rfl, h_1⟩ := xS1_some h
    obtain ⟨a1, t2, rfl, h_2⟩ := xI1_some h_1
    obtain ⟨a2, t3, rfl, h_3⟩ := xI1_some h_2
    obtain ⟨a3, t4, rfl, h_4⟩ := xI1_some h_3
    obtain ⟨rfl, h_5⟩ := xN1_some h_4
    clear h h_1 h_2 h_3 h_4
    have h := h_5
    rw [callW_eq] at h
    exact ⟨fun _ => ⟨_, _, _, rfl, rfl, _, rfl, rfl⟩, rfl, Nat.le_of_ble_eq_true rfl⟩
  · intro X G hn hR as w r h hr
    have hC := crX12_layKnown (N := N) G hR
    obtain ⟨t1, rfl, h_1⟩ := xS1_some h
    obtain ⟨a1, t2, rfl, h_2⟩ := xI1_some h_1
    obtain ⟨a2, t3, rfl, h_3⟩ := xI1_some h_2
    obtain ⟨a3, t4, rfl, h_4⟩ := xI1_some h_3
    obtain ⟨rfl, h_5⟩ := xN1_some h_4
    clear h h_1 h_2 h_3 h_4
    have h := h_5
    rw [callW_eq] at h
    refine run_sound (r := r) (X := X) (cc := cX12_layKnown) (own := RX12) (tab := tX12_layKnown) G (by rw [hn]; exact kX12_layKnown) (oI := (oF [(mX12_knownBy N)])) (oL := (oF [])) (oV := (oF [])) (rI := (fun _ _ => none)) (rL := (fun _ _ => none)) (rV := (fun w => some w))
      (K := (fun j ls st w => if j = 2 then (lgI ls 4 fun v4 => st0 st (callW (fX12_layKnown_2 N a1 a2 a3 N (fX12_layKnown_22 N a3) v4) w)) else none)) (fun _ _ _ _ hx => by cases hx) (fun _ _ _ _ hx => by cases hx) (fun w pc ls hx hd => hr w pc ls (Option.some.inj hx) hd) hC (fun ls => lsb [some (.inr (.inr (16, 0))), some (.inl a1), some (.inl a2), some (.inl a3), none] 0 ls) (keepsP_of rfl) ?_ 30 0 [some (.inr (.inr (16, 0))), some (.inl a1), some (.inl a2), some (.inl a3), none] [] w ?_ h
    · intro j ls st w hfx h
      obtain ⟨e0, e1, e2, e3, -⟩ : _ = _ ∧ _ = _ ∧ _ = _ ∧ _ = _ ∧ True := hfx
      try dsimp only at h
      by_cases hj : j = 2
      · subst hj
        rw [if_pos rfl] at h
        obtain ⟨v4, e4, h_1⟩ := lgI_some h
        obtain ⟨rfl, h_2⟩ := st0_some h_1
        clear h h_1
        have h := h_2
        try rw [callW_eq] at h
        exact WW.le (a := [some (.inr (.inr (16, 0))), some (.inl a1), some (.inl a2), some (.inl a3), some (.inl v4)]) (by rw [hn]; rfl) (show _ = _ ∧ _ = _ ∧ _ = _ ∧ _ = _ ∧ _ = _ ∧ True from ⟨e0, e1, e2, e3, e4, trivial⟩) (sX12_layKnown_2 G hn hC hr a1 a2 a3 N (fX12_layKnown_22 N a3) v4 w h (fun w h => (sX12_layKnown_22 G hn hC hr a1 a2 a3 w h)))
      rw [if_neg hj] at h
      cases h
    · exact (show _ = _ ∧ _ = _ ∧ _ = _ ∧ _ = _ ∧ True from ⟨rfl, rfl, rfl, rfl, trivial⟩)
-- MoorGuidesModel.bestOn(I)I
def tX12_bestOn : List EN := [
  (0, .aload_n 0, 0, 0, 0, 0, 0, []), (1, .getfield 133, 0, 12, 78, 0, 0, []), (4, .iload_n 1, 0, 0, 0, 0, 0, []), (5, .iaload, 0, 0, 0, 0, 0, []),
  (6, .istore_n 2, 0, 0, 0, 0, 0, []), (7, .iconst 0, 0, 0, 0, 0, 0, []), (8, .istore_n 3, 0, 0, 0, 0, 0, []), (9, .iload_n 3, 8, 0, 0, 0, 0, []),
  (10, .bipush 56, 0, 0, 0, 56, 0, []), (12, .if_icmp .ge 83, 0, 55, 0, 0, 0, []), (15, .iload_n 3, 0, 0, 0, 0, 0, []), (16, .bipush 7, 0, 0, 0, 7, 0, []),
  (18, .idiv, 0, 0, 0, 0, 0, []), (19, .aload_n 0, 0, 0, 0, 0, 0, []), (20, .getfield 295, 0, 12, 12, 0, 0, []), (23, .if_icmp .ge 66, 0, 53, 0, 0, 0, []),
  (26, .aload_n 0, 0, 0, 0, 0, 0, []), (27, .getfield 26, 0, 12, 33, 0, 0, []), (30, .iload_n 1, 0, 0, 0, 0, 0, []), (31, .bipush 7, 0, 0, 0, 7, 0, []),
  (33, .idiv, 0, 0, 0, 0, 0, []), (34, .iaload, 0, 0, 0, 0, 0, []), (35, .iload_n 3, 0, 0, 0, 0, 0, []), (36, .bipush 7, 0, 0, 0, 7, 0, []),
  (38, .idiv, 0, 0, 0, 0, 0, []), (39, .invokestatic 341, 0, 0, 2, 0, 0, []), (42, .ifCond .ne 6, 0, 28, 0, 0, 0, []), (45, .goto 44, 0, 53, 0, 0, 0, []),
  (48, .aload_n 0, 0, 0, 0, 0, 0, []), (49, .getfield 133, 0, 12, 78, 0, 0, []), (52, .iload_n 3, 0, 0, 0, 0, 0, []), (53, .iaload, 0, 0, 0, 0, 0, []),
  (54, .iconst 1, 0, 0, 0, 1, 0, []), (55, .iadd, 0, 0, 0, 0, 0, []), (56, .iload_n 3, 0, 0, 0, 0, 0, []), (57, .bipush 7, 0, 0, 0, 7, 0, []),
  (59, .irem, 0, 0, 0, 0, 0, []), (60, .iload_n 1, 0, 0, 0, 0, 0, []), (61, .bipush 7, 0, 0, 0, 7, 0, []), (63, .irem, 0, 0, 0, 0, 0, []),
  (64, .if_icmp .ne 7, 0, 43, 0, 0, 0, []), (67, .iconst 0, 0, 0, 0, 0, 0, []), (68, .goto 5, 0, 44, 0, 0, 0, []), (71, .bipush 100, 0, 0, 0, 100, 0, []),
  (73, .iadd, 45, 0, 0, 0, 0, []), (74, .istore 4, 0, 0, 0, 0, 0, []), (76, .iload 4, 0, 0, 0, 0, 0, []), (78, .iload_n 2, 0, 0, 0, 0, 0, []),
  (79, .if_icmp .ge 8, 0, 51, 0, 0, 0, []), (82, .iload 4, 0, 0, 0, 0, 0, []), (84, .goto 4, 0, 52, 0, 0, 0, []), (87, .iload_n 2, 0, 0, 0, 0, 0, []),
  (88, .istore_n 2, 0, 0, 0, 0, 0, []), (89, .iinc 3 1, 0, 0, 0, 1, 0, []), (92, .goto (-83), 0, 7, 0, 0, 0, []), (95, .iload_n 2, 0, 0, 0, 0, 0, []),
  (96, .ireturn, 0, 0, 0, 0, 0, [])]
noncomputable def fX12_bestOn_44 (N : Nat) (a1 : Int32) (k7 : Int32 → Int32 → Wd → Option (Int32 × Wd)) (v2 : Int32) (v3 : Int32) (s0 : Int32) (s1 : Int32) (w : Wd) : Option (Int32 × Wd) :=
  if (s1 + s0) < v2 then k7 (s1 + s0) (v3 + (1 : Int32)) w else
  k7 v2 (v3 + (1 : Int32)) w
noncomputable def fX12_bestOn_7 (N : Nat) (a1 : Int32) : Nat → Int32 → Int32 → Wd → Option (Int32 × Wd)
  | 0, _, _, _ => none
  | n + 1, v2, v3, w =>
    if v3 < (56 : Int32) then
      if (v3 / (7 : Int32)) < (gI w 16 0 12) then
        (ldI w 77 0 (a1 / (7 : Int32)) 16).bind fun x1 =>
        (callW (pX12_isOf N x1 (v3 / (7 : Int32))) w).bind fun r2 =>
        if r2.1 = 0 then callW (fX12_bestOn_7 N a1 n v2 (v3 + (1 : Int32))) r2.2 else
        (ldI r2.2 112 0 v3 56).bind fun x3 =>
        if (v3 - v3 / (7 : Int32) * (7 : Int32)) = (a1 - a1 / (7 : Int32) * (7 : Int32)) then callW (fX12_bestOn_44 N a1 (fX12_bestOn_7 N a1 n) v2 v3 (0 : Int32) (x3 + (1 : Int32))) r2.2 else
        callW (fX12_bestOn_44 N a1 (fX12_bestOn_7 N a1 n) v2 v3 (100 : Int32) (x3 + (1 : Int32))) r2.2
      else
      callW (fX12_bestOn_7 N a1 n v2 (v3 + (1 : Int32))) w
    else
    some (v2, w)
noncomputable def pX12_bestOn (N : Nat) (a1 : Int32) (w : Wd) : Option (Int32 × Wd) :=
  (ldI w 112 0 a1 56).bind fun x1 =>
  callW (fX12_bestOn_7 N a1 N x1 (0 : Int32)) w
noncomputable def mX12_bestOn (N : Nat) (as : List AV) (w : Wd) : Option (Int32 × Wd) := xS1 16 as fun t => xI1 t fun a1 t => xN1 t (callW (pX12_bestOn N a1) w)
set_option maxRecDepth 100000 in
set_option maxHeartbeats 4000000 in
theorem kX12_bestOn : TK cX12_bestOn RX12 5 tX12_bestOn := ⟨by decide +kernel, wok_of [1678, 1612, 1633, 1678] (by decide +kernel) (by decide +kernel)⟩
set_option maxRecDepth 100000 in
set_option maxHeartbeats 4000000 in
theorem sX12_bestOn_44 {N : Nat} {X : XT} (G : GX X cX12_bestOn RX12) (hn : xnL X = 5) (hC : CRs X tX12_bestOn (oF [(mX12_isOf N)]) (oF []) (oF [])) {r : Int32 × Wd} (hr : RTI X cX12_bestOn r) (a1 : Int32) : ∀ (k7 : Int32 → Int32 → Wd → Option (Int32 × Wd)) (v2 : Int32) (v3 : Int32) (s0 : Int32) (s1 : Int32) (w : Wd), fX12_bestOn_44 N a1 k7 v2 v3 s0 s1 w = some r → (∀ (v2 : Int32) (v3 : Int32) (w : Wd), k7 v2 v3 w = some r → WW X (pcAt tX12_bestOn 7) [some (.inr (.inr (16, 0))), some (.inl a1), some (.inl v2), some (.inl v3), none] [] w) → WW X (pcAt tX12_bestOn 44) [some (.inr (.inr (16, 0))), some (.inl a1), some (.inl v2), some (.inl v3), none] [.inl s0, .inl s1] w := by
  intro k7 v2 v3 s0 s1 w h h7
  refine run_sound (r := r) (X := X) (cc := cX12_bestOn) (own := RX12) (tab := tX12_bestOn) G (by rw [hn]; exact kX12_bestOn) (oI := (oF [(mX12_isOf N)])) (oL := (oF [])) (oV := (oF [])) (rI := (fun x w => some (x, w))) (rL := (fun _ _ => none)) (rV := (fun _ => none))
    (K := (fun j ls st w => if j = 7 then (lgI ls 2 fun v2 => lgI ls 3 fun v3 => st0 st (k7 v2 v3 w)) else none)) (fun x w pc ls hx hd => hr x w pc ls (Option.some.inj hx) hd) (fun _ _ _ _ hx => by cases hx) (fun _ _ _ hx => by cases hx) hC (fun ls => lsb [some (.inr (.inr (16, 0))), some (.inl a1), none, none, none] 0 ls) (keepsP_of rfl) ?_ 59 44 [some (.inr (.inr (16, 0))), some (.inl a1), some (.inl v2), some (.inl v3), none] [.inl s0, .inl s1] w ?_ h
  · intro j ls st w hfx h
    obtain ⟨e0, e1, -⟩ : _ = _ ∧ _ = _ ∧ True := hfx
    try dsimp only at h
    by_cases hj : j = 7
    · subst hj
      rw [if_pos rfl] at h
      obtain ⟨v2, e2, h_1⟩ := lgI_some h
      obtain ⟨v3, e3, h_2⟩ := lgI_some h_1
      obtain ⟨rfl, h_3⟩ := st0_some h_2
      clear h h_1 h_2
      have h := h_3
      try rw [callW_eq] at h
      exact WW.le (a := [some (.inr (.inr (16, 0))), some (.inl a1), some (.inl v2), some (.inl v3), none]) (by rw [hn]; rfl) (show _ = _ ∧ _ = _ ∧ _ = _ ∧ _ = _ ∧ True from ⟨e0, e1, e2, e3, trivial⟩) (h7 v2 v3 w h)
    rw [if_neg hj] at h
    cases h
  · exact (show _ = _ ∧ _ = _ ∧ True from ⟨rfl, rfl, trivial⟩)
set_option maxRecDepth 100000 in
set_option maxHeartbeats 4000000 in
theorem sX12_bestOn_7 {N : Nat} {X : XT} (G : GX X cX12_bestOn RX12) (hn : xnL X = 5) (hC : CRs X tX12_bestOn (oF [(mX12_isOf N)]) (oF []) (oF [])) {r : Int32 × Wd} (hr : RTI X cX12_bestOn r) (a1 : Int32) : ∀ (n : Nat) (v2 : Int32) (v3 : Int32) (w : Wd), fX12_bestOn_7 N a1 n v2 v3 w = some r → WW X (pcAt tX12_bestOn 7) [some (.inr (.inr (16, 0))), some (.inl a1), some (.inl v2), some (.inl v3), none] [] w := by
  intro n
  induction n with
  | zero => intro v2 v3 w h; cases h
  | succ n ih =>
    intro v2 v3 w h
    refine run_sound (r := r) (X := X) (cc := cX12_bestOn) (own := RX12) (tab := tX12_bestOn) G (by rw [hn]; exact kX12_bestOn) (oI := (oF [(mX12_isOf N)])) (oL := (oF [])) (oV := (oF [])) (rI := (fun x w => some (x, w))) (rL := (fun _ _ => none)) (rV := (fun _ => none))
      (K := (fun j ls st w => if j = 7 then (lgI ls 2 fun v2 => lgI ls 3 fun v3 => st0 st (callW (fX12_bestOn_7 N a1 n v2 v3) w)) else if j = 44 then (lgI ls 2 fun v2 => lgI ls 3 fun v3 => po1 st fun s0 st => po1 st fun s1 st => st0 st (callW (fX12_bestOn_44 N a1 (fX12_bestOn_7 N a1 n) v2 v3 s0 s1) w)) else none)) (fun x w pc ls hx hd => hr x w pc ls (Option.some.inj hx) hd) (fun _ _ _ _ hx => by cases hx) (fun _ _ _ hx => by cases hx) hC (fun ls => lsb [some (.inr (.inr (16, 0))), some (.inl a1), none, none, none] 0 ls) (keepsP_of rfl) ?_ 59 7 [some (.inr (.inr (16, 0))), some (.inl a1), some (.inl v2), some (.inl v3), none] [] w ?_ h
    · intro j ls st w hfx h
      obtain ⟨e0, e1, -⟩ : _ = _ ∧ _ = _ ∧ True := hfx
      try dsimp only at h
      by_cases hj : j = 7
      · subst hj
        rw [if_pos rfl] at h
        obtain ⟨v2, e2, h_1⟩ := lgI_some h
        obtain ⟨v3, e3, h_2⟩ := lgI_some h_1
        obtain ⟨rfl, h_3⟩ := st0_some h_2
        clear h h_1 h_2
        have h := h_3
        try rw [callW_eq] at h
        exact WW.le (a := [some (.inr (.inr (16, 0))), some (.inl a1), some (.inl v2), some (.inl v3), none]) (by rw [hn]; rfl) (show _ = _ ∧ _ = _ ∧ _ = _ ∧ _ = _ ∧ True from ⟨e0, e1, e2, e3, trivial⟩) (ih v2 v3 w h)
      rw [if_neg hj] at h
      by_cases hj : j = 44
      · subst hj
        rw [if_pos rfl] at h
        obtain ⟨v2, e2, h_1⟩ := lgI_some h
        obtain ⟨v3, e3, h_2⟩ := lgI_some h_1
        obtain ⟨s0, st0, rfl, h_3⟩ := po1_some h_2
        obtain ⟨s1, st1, rfl, h_4⟩ := po1_some h_3
        obtain ⟨rfl, h_5⟩ := st0_some h_4
        clear h h_1 h_2 h_3 h_4
        have h := h_5
        try rw [callW_eq] at h
        exact WW.le (a := [some (.inr (.inr (16, 0))), some (.inl a1), some (.inl v2), some (.inl v3), none]) (by rw [hn]; rfl) (show _ = _ ∧ _ = _ ∧ _ = _ ∧ _ = _ ∧ True from ⟨e0, e1, e2, e3, trivial⟩) (sX12_bestOn_44 G hn hC hr a1 (fX12_bestOn_7 N a1 n) v2 v3 s0 s1 w h (fun v2 v3 w h => (ih v2 v3 w h)))
      rw [if_neg hj] at h
      cases h
    · exact (show _ = _ ∧ _ = _ ∧ True from ⟨rfl, rfl, trivial⟩)
set_option maxRecDepth 100000 in
set_option maxHeartbeats 4000000 in
theorem crX12_bestOn {N : Nat} {X : XT} (G : GX X cX12_bestOn RX12) (hR : xR X = rmL 2) : CRs X tX12_bestOn (oF [(mX12_isOf N)]) (oF []) (oF []) := by
  have hl : tX12_bestOn.filter isInv = [(39, .invokestatic 341, 0, 0, 2, 0, 0, [])] := rfl
  intro e he
  rw [hl] at he
  simp only [List.mem_cons, List.not_mem_nil, or_false] at he
  rcases he with rfl
  · exact crI_S (idx := 341) G (by decide +kernel) (MX12_isOf N) (cw_of (ps := [1589, 1590, 164, 1591]) (by decide +kernel) (by decide +kernel)) ⟨by decide +kernel, by decide +kernel, by decide +kernel⟩ (by unfold rmOk; rw [hR]; exact ⟨by decide, by decide⟩)
set_option maxRecDepth 100000 in
set_option maxHeartbeats 4000000 in
theorem MX12_bestOn (N : Nat) : SndI yX12_bestOn cX12_bestOn 5 (some .int) 2 2 true (mX12_bestOn N) := by
  refine SndI.of tX12_bestOn (by decide +kernel) rfl rfl ?_ ?_
  · intro as w x h
    obtain ⟨t1, rfl, h_1⟩ := xS1_some h
    obtain ⟨a1, t2, rfl, h_2⟩ := xI1_some h_1
    obtain ⟨rfl, h_3⟩ := xN1_some h_2
    clear h h_1 h_2
    have h := h_3
    rw [callW_eq] at h
    exact ⟨fun _ => ⟨_, _, _, rfl, rfl, _, rfl, rfl⟩, rfl, Nat.le_of_ble_eq_true rfl⟩
  · intro X G hn hR as w r h hr
    have hC := crX12_bestOn (N := N) G hR
    obtain ⟨t1, rfl, h_1⟩ := xS1_some h
    obtain ⟨a1, t2, rfl, h_2⟩ := xI1_some h_1
    obtain ⟨rfl, h_3⟩ := xN1_some h_2
    clear h h_1 h_2
    have h := h_3
    rw [callW_eq] at h
    refine run_sound (r := r) (X := X) (cc := cX12_bestOn) (own := RX12) (tab := tX12_bestOn) G (by rw [hn]; exact kX12_bestOn) (oI := (oF [(mX12_isOf N)])) (oL := (oF [])) (oV := (oF [])) (rI := (fun x w => some (x, w))) (rL := (fun _ _ => none)) (rV := (fun _ => none))
      (K := (fun j ls st w => if j = 7 then (lgI ls 2 fun v2 => lgI ls 3 fun v3 => st0 st (callW (fX12_bestOn_7 N a1 N v2 v3) w)) else none)) (fun x w pc ls hx hd => hr x w pc ls (Option.some.inj hx) hd) (fun _ _ _ _ hx => by cases hx) (fun _ _ _ hx => by cases hx) hC (fun ls => lsb [some (.inr (.inr (16, 0))), some (.inl a1), none, none, none] 0 ls) (keepsP_of rfl) ?_ 59 0 [some (.inr (.inr (16, 0))), some (.inl a1), none, none, none] [] w ?_ h
    · intro j ls st w hfx h
      obtain ⟨e0, e1, -⟩ : _ = _ ∧ _ = _ ∧ True := hfx
      try dsimp only at h
      by_cases hj : j = 7
      · subst hj
        rw [if_pos rfl] at h
        obtain ⟨v2, e2, h_1⟩ := lgI_some h
        obtain ⟨v3, e3, h_2⟩ := lgI_some h_1
        obtain ⟨rfl, h_3⟩ := st0_some h_2
        clear h h_1 h_2
        have h := h_3
        try rw [callW_eq] at h
        exact WW.le (a := [some (.inr (.inr (16, 0))), some (.inl a1), some (.inl v2), some (.inl v3), none]) (by rw [hn]; rfl) (show _ = _ ∧ _ = _ ∧ _ = _ ∧ _ = _ ∧ True from ⟨e0, e1, e2, e3, trivial⟩) (sX12_bestOn_7 G hn hC hr a1 N v2 v3 w h)
      rw [if_neg hj] at h
      cases h
    · exact (show _ = _ ∧ _ = _ ∧ True from ⟨rfl, rfl, trivial⟩)
-- MoorGuidesModel.layStill(I)V
def tX12_layStill : List EN := [
  (0, .iconst 0, 0, 0, 0, 0, 0, []), (1, .istore_n 2, 0, 0, 0, 0, 0, []), (2, .iload_n 2, 3, 0, 0, 0, 0, []), (3, .bipush 56, 0, 0, 0, 56, 0, []),
  (5, .if_icmp .ge 45, 0, 28, 0, 0, 0, []), (8, .aload_n 0, 0, 0, 0, 0, 0, []), (9, .getfield 133, 0, 12, 78, 0, 0, []), (12, .iload_n 2, 0, 0, 0, 0, 0, []),
  (13, .iload_n 2, 0, 0, 0, 0, 0, []), (14, .bipush 7, 0, 0, 0, 7, 0, []), (16, .idiv, 0, 0, 0, 0, 0, []), (17, .iload_n 1, 0, 0, 0, 0, 0, []),
  (18, .if_icmp .ne 23, 0, 24, 0, 0, 0, []), (21, .aload_n 0, 0, 0, 0, 0, 0, []), (22, .getfield 130, 0, 12, 77, 0, 0, []), (25, .iload_n 2, 0, 0, 0, 0, 0, []),
  (26, .bipush 7, 0, 0, 0, 7, 0, []), (28, .irem, 0, 0, 0, 0, 0, []), (29, .iaload, 0, 0, 0, 0, 0, []), (30, .iload_n 1, 0, 0, 0, 0, 0, []),
  (31, .invokestatic 341, 0, 0, 2, 0, 0, []), (34, .ifCond .eq 7, 0, 24, 0, 0, 0, []), (37, .iconst 1, 0, 0, 0, 1, 0, []), (38, .goto 5, 0, 25, 0, 0, 0, []),
  (41, .ldc 234, 0, 0, 0, 99999, 0, []), (43, .iastore, 0, 0, 0, 0, 0, []), (44, .iinc 2 1, 0, 0, 0, 1, 0, []), (47, .goto (-45), 0, 2, 0, 0, 0, []),
  (50, .iconst 1, 29, 0, 0, 1, 0, []), (51, .istore_n 2, 0, 0, 0, 0, 0, []), (52, .iload_n 2, 31, 0, 0, 0, 0, []), (53, .ifCond .eq 113, 0, 92, 0, 0, 0, []),
  (56, .iconst 0, 0, 0, 0, 0, 0, []), (57, .istore_n 2, 0, 0, 0, 0, 0, []), (58, .iconst 0, 0, 0, 0, 0, 0, []), (59, .istore_n 3, 0, 0, 0, 0, 0, []),
  (60, .iload_n 3, 37, 0, 0, 0, 0, []), (61, .bipush 56, 0, 0, 0, 56, 0, []), (63, .if_icmp .ge 100, 0, 91, 0, 0, 0, []), (66, .iload_n 3, 0, 0, 0, 0, 0, []),
  (67, .bipush 7, 0, 0, 0, 7, 0, []), (69, .idiv, 0, 0, 0, 0, 0, []), (70, .istore 4, 0, 0, 0, 0, 0, []), (72, .iload 4, 0, 0, 0, 0, 0, []),
  (74, .aload_n 0, 0, 0, 0, 0, 0, []), (75, .getfield 295, 0, 12, 12, 0, 0, []), (78, .if_icmp .ge 79, 0, 89, 0, 0, 0, []), (81, .aload_n 0, 0, 0, 0, 0, 0, []),
  (82, .getfield 130, 0, 12, 77, 0, 0, []), (85, .iload_n 3, 0, 0, 0, 0, 0, []), (86, .bipush 7, 0, 0, 0, 7, 0, []), (88, .irem, 0, 0, 0, 0, 0, []),
  (89, .iaload, 0, 0, 0, 0, 0, []), (90, .iload 4, 0, 0, 0, 0, 0, []), (92, .invokestatic 341, 0, 0, 2, 0, 0, []), (95, .ifCond .ne 6, 0, 57, 0, 0, 0, []),
  (98, .goto 59, 0, 89, 0, 0, 0, []), (101, .aload_n 0, 0, 0, 0, 0, 0, []), (102, .iload_n 3, 0, 0, 0, 0, 0, []), (103, .invokevirtual 522, 0, 1, 2, 0, 0, []),
  (106, .istore 5, 0, 0, 0, 0, 0, []), (108, .iload_n 2, 0, 0, 0, 0, 0, []), (109, .ifCond .ne 14, 0, 69, 0, 0, 0, []), (112, .iload 5, 0, 0, 0, 0, 0, []),
  (114, .aload_n 0, 0, 0, 0, 0, 0, []), (115, .getfield 133, 0, 12, 78, 0, 0, []), (118, .iload_n 3, 0, 0, 0, 0, 0, []), (119, .iaload, 0, 0, 0, 0, 0, []),
  (120, .if_icmp .ge 7, 0, 71, 0, 0, 0, []), (123, .iconst 1, 70, 0, 0, 1, 0, []), (124, .goto 4, 0, 72, 0, 0, 0, []), (127, .iconst 0, 0, 0, 0, 0, 0, []),
  (128, .istore_n 2, 73, 0, 0, 0, 0, []), (129, .aload_n 0, 0, 0, 0, 0, 0, []), (130, .getfield 133, 0, 12, 78, 0, 0, []), (133, .iload_n 3, 0, 0, 0, 0, 0, []),
  (134, .iload 5, 0, 0, 0, 0, 0, []), (136, .aload_n 0, 0, 0, 0, 0, 0, []), (137, .getfield 133, 0, 12, 78, 0, 0, []), (140, .iload_n 3, 0, 0, 0, 0, 0, []),
  (141, .iaload, 0, 0, 0, 0, 0, []), (142, .if_icmp .ge 8, 0, 84, 0, 0, 0, []), (145, .iload 5, 0, 0, 0, 0, 0, []), (147, .goto 9, 0, 88, 0, 0, 0, []),
  (150, .aload_n 0, 0, 0, 0, 0, 0, []), (151, .getfield 133, 0, 12, 78, 0, 0, []), (154, .iload_n 3, 0, 0, 0, 0, 0, []), (155, .iaload, 0, 0, 0, 0, 0, []),
  (156, .iastore, 0, 0, 0, 0, 0, []), (157, .iinc 3 1, 0, 0, 0, 1, 0, []), (160, .goto (-100), 0, 36, 0, 0, 0, []), (163, .goto (-111), 92, 30, 0, 0, 0, []),
  (166, .return_, 0, 0, 0, 0, 0, [])]
noncomputable def fX12_layStill_91 (N : Nat) (k30 : Int32 → Wd → Option (Wd)) (v2 : Int32) (w : Wd) : Option (Wd) :=
  k30 v2 w
noncomputable def fX12_layStill_72 (N : Nat) (k36 : Int32 → Int32 → Wd → Option (Wd)) (v3 : Int32) (v5 : Int32) (s0 : Int32) (w : Wd) : Option (Wd) :=
  (ldI w 112 0 v3 56).bind fun x1 =>
  if v5 < x1 then
    (stI w 112 0 v3 56 v5).bind fun w2 =>
    k36 s0 (v3 + (1 : Int32)) w2
  else
  (ldI w 112 0 v3 56).bind fun x3 =>
  (stI w 112 0 v3 56 x3).bind fun w4 =>
  k36 s0 (v3 + (1 : Int32)) w4
noncomputable def fX12_layStill_69 (N : Nat) (k36 : Int32 → Int32 → Wd → Option (Wd)) (v3 : Int32) (v5 : Int32) (w : Wd) : Option (Wd) :=
  callW (fX12_layStill_72 N k36 v3 v5 (1 : Int32)) w
noncomputable def fX12_layStill_36 (N : Nat) : Nat → (Int32 → Wd → Option (Wd)) → Int32 → Int32 → Wd → Option (Wd)
  | 0, _, _, _, _ => none
  | n + 1, k91, v2, v3, w =>
    if v3 < (56 : Int32) then
      if (v3 / (7 : Int32)) < (gI w 16 0 12) then
        (ldI w 111 0 (v3 - v3 / (7 : Int32) * (7 : Int32)) 7).bind fun x1 =>
        (callW (pX12_isOf N x1 (v3 / (7 : Int32))) w).bind fun r2 =>
        if r2.1 = 0 then callW (fX12_layStill_36 N n k91 v2 (v3 + (1 : Int32))) r2.2 else
        (callW (pX12_bestOn N v3) r2.2).bind fun r3 =>
        if v2 = 0 then
          (ldI r3.2 112 0 v3 56).bind fun x4 =>
          if r3.1 < x4 then callW (fX12_layStill_69 N (fX12_layStill_36 N n k91) v3 r3.1) r3.2 else
          callW (fX12_layStill_72 N (fX12_layStill_36 N n k91) v3 r3.1 (0 : Int32)) r3.2
        else
        callW (fX12_layStill_69 N (fX12_layStill_36 N n k91) v3 r3.1) r3.2
      else
      callW (fX12_layStill_36 N n k91 v2 (v3 + (1 : Int32))) w
    else
    k91 v2 w
noncomputable def fX12_layStill_30 (N : Nat) : Nat → Int32 → Wd → Option (Wd)
  | 0, _, _ => none
  | n + 1, v2, w =>
    if v2 = 0 then some w else
    callW (fX12_layStill_36 N N (fX12_layStill_91 N (fX12_layStill_30 N n)) (0 : Int32) (0 : Int32)) w
noncomputable def fX12_layStill_28 (N : Nat) (w : Wd) : Option (Wd) :=
  callW (fX12_layStill_30 N N (1 : Int32)) w
noncomputable def fX12_layStill_2 (N : Nat) (a1 : Int32) : Nat → (Wd → Option (Wd)) → Int32 → Wd → Option (Wd)
  | 0, _, _, _ => none
  | n + 1, k28, v2, w =>
    if v2 < (56 : Int32) then
      if (v2 / (7 : Int32)) = a1 then
        (ldI w 111 0 (v2 - v2 / (7 : Int32) * (7 : Int32)) 7).bind fun x1 =>
        (callW (pX12_isOf N x1 a1) w).bind fun r2 =>
        if r2.1 = 0 then
          (stI r2.2 112 0 v2 56 (99999 : Int32)).bind fun w3 =>
          callW (fX12_layStill_2 N a1 n k28 (v2 + (1 : Int32))) w3
        else
        (stI r2.2 112 0 v2 56 (1 : Int32)).bind fun w4 =>
        callW (fX12_layStill_2 N a1 n k28 (v2 + (1 : Int32))) w4
      else
      (stI w 112 0 v2 56 (99999 : Int32)).bind fun w5 =>
      callW (fX12_layStill_2 N a1 n k28 (v2 + (1 : Int32))) w5
    else
    k28 w
noncomputable def pX12_layStill (N : Nat) (a1 : Int32) (w : Wd) : Option (Wd) :=
  callW (fX12_layStill_2 N a1 N (fX12_layStill_28 N) (0 : Int32)) w
noncomputable def mX12_layStill (N : Nat) (as : List AV) (w : Wd) : Option (Wd) := xS1 16 as fun t => xI1 t fun a1 t => xN1 t (callW (pX12_layStill N a1) w)
set_option maxRecDepth 100000 in
set_option maxHeartbeats 4000000 in
theorem kX12_layStill : TK cX12_layStill RX12 6 tX12_layStill := ⟨by decide +kernel, wok_of [1678, 1677, 1958, 1612, 1677, 1678, 1678, 1678, 1678] (by decide +kernel) (by decide +kernel)⟩
set_option maxRecDepth 100000 in
set_option maxHeartbeats 4000000 in
theorem sX12_layStill_91 {N : Nat} {X : XT} (G : GX X cX12_layStill RX12) (hn : xnL X = 6) (hC : CRs X tX12_layStill (oF [(mX12_isOf N), (mX12_bestOn N)]) (oF []) (oF [])) {r : Wd} (hr : RTV X cX12_layStill r) (a1 : Int32) : ∀ (k30 : Int32 → Wd → Option (Wd)) (v2 : Int32) (w : Wd), fX12_layStill_91 N k30 v2 w = some r → (∀ (v2 : Int32) (w : Wd), k30 v2 w = some r → WW X (pcAt tX12_layStill 30) [some (.inr (.inr (16, 0))), some (.inl a1), some (.inl v2), none, none, none] [] w) → WW X (pcAt tX12_layStill 91) [some (.inr (.inr (16, 0))), some (.inl a1), some (.inl v2), none, none, none] [] w := by
  intro k30 v2 w h h30
  refine run_sound (r := r) (X := X) (cc := cX12_layStill) (own := RX12) (tab := tX12_layStill) G (by rw [hn]; exact kX12_layStill) (oI := (oF [(mX12_isOf N), (mX12_bestOn N)])) (oL := (oF [])) (oV := (oF [])) (rI := (fun _ _ => none)) (rL := (fun _ _ => none)) (rV := (fun w => some w))
    (K := (fun j ls st w => if j = 30 then (lgI ls 2 fun v2 => st0 st (k30 v2 w)) else none)) (fun _ _ _ _ hx => by cases hx) (fun _ _ _ _ hx => by cases hx) (fun w pc ls hx hd => hr w pc ls (Option.some.inj hx) hd) hC (fun ls => lsb [some (.inr (.inr (16, 0))), some (.inl a1), none, none, none, none] 0 ls) (keepsP_of rfl) ?_ 95 91 [some (.inr (.inr (16, 0))), some (.inl a1), some (.inl v2), none, none, none] [] w ?_ h
  · intro j ls st w hfx h
    obtain ⟨e0, e1, -⟩ : _ = _ ∧ _ = _ ∧ True := hfx
    try dsimp only at h
    by_cases hj : j = 30
    · subst hj
      rw [if_pos rfl] at h
      obtain ⟨v2, e2, h_1⟩ := lgI_some h
      obtain ⟨rfl, h_2⟩ := st0_some h_1
      clear h h_1
      have h := h_2
      try rw [callW_eq] at h
      exact WW.le (a := [some (.inr (.inr (16, 0))), some (.inl a1), some (.inl v2), none, none, none]) (by rw [hn]; rfl) (show _ = _ ∧ _ = _ ∧ _ = _ ∧ True from ⟨e0, e1, e2, trivial⟩) (h30 v2 w h)
    rw [if_neg hj] at h
    cases h
  · exact (show _ = _ ∧ _ = _ ∧ True from ⟨rfl, rfl, trivial⟩)
set_option maxRecDepth 100000 in
set_option maxHeartbeats 4000000 in
theorem sX12_layStill_72 {N : Nat} {X : XT} (G : GX X cX12_layStill RX12) (hn : xnL X = 6) (hC : CRs X tX12_layStill (oF [(mX12_isOf N), (mX12_bestOn N)]) (oF []) (oF [])) {r : Wd} (hr : RTV X cX12_layStill r) (a1 : Int32) : ∀ (k36 : Int32 → Int32 → Wd → Option (Wd)) (v3 : Int32) (v5 : Int32) (s0 : Int32) (w : Wd), fX12_layStill_72 N k36 v3 v5 s0 w = some r → (∀ (v2 : Int32) (v3 : Int32) (w : Wd), k36 v2 v3 w = some r → WW X (pcAt tX12_layStill 36) [some (.inr (.inr (16, 0))), some (.inl a1), some (.inl v2), some (.inl v3), none, none] [] w) → WW X (pcAt tX12_layStill 72) [some (.inr (.inr (16, 0))), some (.inl a1), none, some (.inl v3), none, some (.inl v5)] [.inl s0] w := by
  intro k36 v3 v5 s0 w h h36
  refine run_sound (r := r) (X := X) (cc := cX12_layStill) (own := RX12) (tab := tX12_layStill) G (by rw [hn]; exact kX12_layStill) (oI := (oF [(mX12_isOf N), (mX12_bestOn N)])) (oL := (oF [])) (oV := (oF [])) (rI := (fun _ _ => none)) (rL := (fun _ _ => none)) (rV := (fun w => some w))
    (K := (fun j ls st w => if j = 36 then (lgI ls 2 fun v2 => lgI ls 3 fun v3 => st0 st (k36 v2 v3 w)) else none)) (fun _ _ _ _ hx => by cases hx) (fun _ _ _ _ hx => by cases hx) (fun w pc ls hx hd => hr w pc ls (Option.some.inj hx) hd) hC (fun ls => lsb [some (.inr (.inr (16, 0))), some (.inl a1), none, none, none, none] 0 ls) (keepsP_of rfl) ?_ 95 72 [some (.inr (.inr (16, 0))), some (.inl a1), none, some (.inl v3), none, some (.inl v5)] [.inl s0] w ?_ h
  · intro j ls st w hfx h
    obtain ⟨e0, e1, -⟩ : _ = _ ∧ _ = _ ∧ True := hfx
    try dsimp only at h
    by_cases hj : j = 36
    · subst hj
      rw [if_pos rfl] at h
      obtain ⟨v2, e2, h_1⟩ := lgI_some h
      obtain ⟨v3, e3, h_2⟩ := lgI_some h_1
      obtain ⟨rfl, h_3⟩ := st0_some h_2
      clear h h_1 h_2
      have h := h_3
      try rw [callW_eq] at h
      exact WW.le (a := [some (.inr (.inr (16, 0))), some (.inl a1), some (.inl v2), some (.inl v3), none, none]) (by rw [hn]; rfl) (show _ = _ ∧ _ = _ ∧ _ = _ ∧ _ = _ ∧ True from ⟨e0, e1, e2, e3, trivial⟩) (h36 v2 v3 w h)
    rw [if_neg hj] at h
    cases h
  · exact (show _ = _ ∧ _ = _ ∧ True from ⟨rfl, rfl, trivial⟩)
set_option maxRecDepth 100000 in
set_option maxHeartbeats 4000000 in
theorem sX12_layStill_69 {N : Nat} {X : XT} (G : GX X cX12_layStill RX12) (hn : xnL X = 6) (hC : CRs X tX12_layStill (oF [(mX12_isOf N), (mX12_bestOn N)]) (oF []) (oF [])) {r : Wd} (hr : RTV X cX12_layStill r) (a1 : Int32) : ∀ (k36 : Int32 → Int32 → Wd → Option (Wd)) (v3 : Int32) (v5 : Int32) (w : Wd), fX12_layStill_69 N k36 v3 v5 w = some r → (∀ (v2 : Int32) (v3 : Int32) (w : Wd), k36 v2 v3 w = some r → WW X (pcAt tX12_layStill 36) [some (.inr (.inr (16, 0))), some (.inl a1), some (.inl v2), some (.inl v3), none, none] [] w) → WW X (pcAt tX12_layStill 69) [some (.inr (.inr (16, 0))), some (.inl a1), none, some (.inl v3), none, some (.inl v5)] [] w := by
  intro k36 v3 v5 w h h36
  refine run_sound (r := r) (X := X) (cc := cX12_layStill) (own := RX12) (tab := tX12_layStill) G (by rw [hn]; exact kX12_layStill) (oI := (oF [(mX12_isOf N), (mX12_bestOn N)])) (oL := (oF [])) (oV := (oF [])) (rI := (fun _ _ => none)) (rL := (fun _ _ => none)) (rV := (fun w => some w))
    (K := (fun j ls st w => if j = 72 then (lgI ls 3 fun v3 => lgI ls 5 fun v5 => po1 st fun s0 st => st0 st (callW (fX12_layStill_72 N k36 v3 v5 s0) w)) else none)) (fun _ _ _ _ hx => by cases hx) (fun _ _ _ _ hx => by cases hx) (fun w pc ls hx hd => hr w pc ls (Option.some.inj hx) hd) hC (fun ls => lsb [some (.inr (.inr (16, 0))), some (.inl a1), none, none, none, none] 0 ls) (keepsP_of rfl) ?_ 95 69 [some (.inr (.inr (16, 0))), some (.inl a1), none, some (.inl v3), none, some (.inl v5)] [] w ?_ h
  · intro j ls st w hfx h
    obtain ⟨e0, e1, -⟩ : _ = _ ∧ _ = _ ∧ True := hfx
    try dsimp only at h
    by_cases hj : j = 72
    · subst hj
      rw [if_pos rfl] at h
      obtain ⟨v3, e3, h_1⟩ := lgI_some h
      obtain ⟨v5, e5, h_2⟩ := lgI_some h_1
      obtain ⟨s0, st0, rfl, h_3⟩ := po1_some h_2
      obtain ⟨rfl, h_4⟩ := st0_some h_3
      clear h h_1 h_2 h_3
      have h := h_4
      try rw [callW_eq] at h
      exact WW.le (a := [some (.inr (.inr (16, 0))), some (.inl a1), none, some (.inl v3), none, some (.inl v5)]) (by rw [hn]; rfl) (show _ = _ ∧ _ = _ ∧ _ = _ ∧ _ = _ ∧ True from ⟨e0, e1, e3, e5, trivial⟩) (sX12_layStill_72 G hn hC hr a1 k36 v3 v5 s0 w h (fun v2 v3 w h => (h36 v2 v3 w h)))
    rw [if_neg hj] at h
    cases h
  · exact (show _ = _ ∧ _ = _ ∧ True from ⟨rfl, rfl, trivial⟩)
set_option maxRecDepth 100000 in
set_option maxHeartbeats 4000000 in
theorem sX12_layStill_36 {N : Nat} {X : XT} (G : GX X cX12_layStill RX12) (hn : xnL X = 6) (hC : CRs X tX12_layStill (oF [(mX12_isOf N), (mX12_bestOn N)]) (oF []) (oF [])) {r : Wd} (hr : RTV X cX12_layStill r) (a1 : Int32) : ∀ (n : Nat) (k91 : Int32 → Wd → Option (Wd)) (v2 : Int32) (v3 : Int32) (w : Wd), fX12_layStill_36 N n k91 v2 v3 w = some r → (∀ (v2 : Int32) (w : Wd), k91 v2 w = some r → WW X (pcAt tX12_layStill 91) [some (.inr (.inr (16, 0))), some (.inl a1), some (.inl v2), none, none, none] [] w) → WW X (pcAt tX12_layStill 36) [some (.inr (.inr (16, 0))), some (.inl a1), some (.inl v2), some (.inl v3), none, none] [] w := by
  intro n
  induction n with
  | zero => intro k91 v2 v3 w h h91; cases h
  | succ n ih =>
    intro k91 v2 v3 w h h91
    refine run_sound (r := r) (X := X) (cc := cX12_layStill) (own := RX12) (tab := tX12_layStill) G (by rw [hn]; exact kX12_layStill) (oI := (oF [(mX12_isOf N), (mX12_bestOn N)])) (oL := (oF [])) (oV := (oF [])) (rI := (fun _ _ => none)) (rL := (fun _ _ => none)) (rV := (fun w => some w))
      (K := (fun j ls st w => if j = 36 then (lgI ls 2 fun v2 => lgI ls 3 fun v3 => st0 st (callW (fX12_layStill_36 N n k91 v2 v3) w)) else if j = 69 then (lgI ls 3 fun v3 => lgI ls 5 fun v5 => st0 st (callW (fX12_layStill_69 N (fX12_layStill_36 N n k91) v3 v5) w)) else if j = 72 then (lgI ls 3 fun v3 => lgI ls 5 fun v5 => po1 st fun s0 st => st0 st (callW (fX12_layStill_72 N (fX12_layStill_36 N n k91) v3 v5 s0) w)) else if j = 91 then (lgI ls 2 fun v2 => st0 st (k91 v2 w)) else none)) (fun _ _ _ _ hx => by cases hx) (fun _ _ _ _ hx => by cases hx) (fun w pc ls hx hd => hr w pc ls (Option.some.inj hx) hd) hC (fun ls => lsb [some (.inr (.inr (16, 0))), some (.inl a1), none, none, none, none] 0 ls) (keepsP_of rfl) ?_ 95 36 [some (.inr (.inr (16, 0))), some (.inl a1), some (.inl v2), some (.inl v3), none, none] [] w ?_ h
    · intro j ls st w hfx h
      obtain ⟨e0, e1, -⟩ : _ = _ ∧ _ = _ ∧ True := hfx
      try dsimp only at h
      by_cases hj : j = 36
      · subst hj
        rw [if_pos rfl] at h
        obtain ⟨v2, e2, h_1⟩ := lgI_some h
        obtain ⟨v3, e3, h_2⟩ := lgI_some h_1
        obtain ⟨rfl, h_3⟩ := st0_some h_2
        clear h h_1 h_2
        have h := h_3
        try rw [callW_eq] at h
        exact WW.le (a := [some (.inr (.inr (16, 0))), some (.inl a1), some (.inl v2), some (.inl v3), none, none]) (by rw [hn]; rfl) (show _ = _ ∧ _ = _ ∧ _ = _ ∧ _ = _ ∧ True from ⟨e0, e1, e2, e3, trivial⟩) (ih k91 v2 v3 w h h91)
      rw [if_neg hj] at h
      by_cases hj : j = 69
      · subst hj
        rw [if_pos rfl] at h
        obtain ⟨v3, e3, h_1⟩ := lgI_some h
        obtain ⟨v5, e5, h_2⟩ := lgI_some h_1
        obtain ⟨rfl, h_3⟩ := st0_some h_2
        clear h h_1 h_2
        have h := h_3
        try rw [callW_eq] at h
        exact WW.le (a := [some (.inr (.inr (16, 0))), some (.inl a1), none, some (.inl v3), none, some (.inl v5)]) (by rw [hn]; rfl) (show _ = _ ∧ _ = _ ∧ _ = _ ∧ _ = _ ∧ True from ⟨e0, e1, e3, e5, trivial⟩) (sX12_layStill_69 G hn hC hr a1 (fX12_layStill_36 N n k91) v3 v5 w h (fun v2 v3 w h => (ih k91 v2 v3 w h h91)))
      rw [if_neg hj] at h
      by_cases hj : j = 72
      · subst hj
        rw [if_pos rfl] at h
        obtain ⟨v3, e3, h_1⟩ := lgI_some h
        obtain ⟨v5, e5, h_2⟩ := lgI_some h_1
        obtain ⟨s0, st0, rfl, h_3⟩ := po1_some h_2
        obtain ⟨rfl, h_4⟩ := st0_some h_3
        clear h h_1 h_2 h_3
        have h := h_4
        try rw [callW_eq] at h
        exact WW.le (a := [some (.inr (.inr (16, 0))), some (.inl a1), none, some (.inl v3), none, some (.inl v5)]) (by rw [hn]; rfl) (show _ = _ ∧ _ = _ ∧ _ = _ ∧ _ = _ ∧ True from ⟨e0, e1, e3, e5, trivial⟩) (sX12_layStill_72 G hn hC hr a1 (fX12_layStill_36 N n k91) v3 v5 s0 w h (fun v2 v3 w h => (ih k91 v2 v3 w h h91)))
      rw [if_neg hj] at h
      by_cases hj : j = 91
      · subst hj
        rw [if_pos rfl] at h
        obtain ⟨v2, e2, h_1⟩ := lgI_some h
        obtain ⟨rfl, h_2⟩ := st0_some h_1
        clear h h_1
        have h := h_2
        try rw [callW_eq] at h
        exact WW.le (a := [some (.inr (.inr (16, 0))), some (.inl a1), some (.inl v2), none, none, none]) (by rw [hn]; rfl) (show _ = _ ∧ _ = _ ∧ _ = _ ∧ True from ⟨e0, e1, e2, trivial⟩) (h91 v2 w h)
      rw [if_neg hj] at h
      cases h
    · exact (show _ = _ ∧ _ = _ ∧ True from ⟨rfl, rfl, trivial⟩)
set_option maxRecDepth 100000 in
set_option maxHeartbeats 4000000 in
theorem sX12_layStill_30 {N : Nat} {X : XT} (G : GX X cX12_layStill RX12) (hn : xnL X = 6) (hC : CRs X tX12_layStill (oF [(mX12_isOf N), (mX12_bestOn N)]) (oF []) (oF [])) {r : Wd} (hr : RTV X cX12_layStill r) (a1 : Int32) : ∀ (n : Nat) (v2 : Int32) (w : Wd), fX12_layStill_30 N n v2 w = some r → WW X (pcAt tX12_layStill 30) [some (.inr (.inr (16, 0))), some (.inl a1), some (.inl v2), none, none, none] [] w := by
  intro n
  induction n with
  | zero => intro v2 w h; cases h
  | succ n ih =>
    intro v2 w h
    refine run_sound (r := r) (X := X) (cc := cX12_layStill) (own := RX12) (tab := tX12_layStill) G (by rw [hn]; exact kX12_layStill) (oI := (oF [(mX12_isOf N), (mX12_bestOn N)])) (oL := (oF [])) (oV := (oF [])) (rI := (fun _ _ => none)) (rL := (fun _ _ => none)) (rV := (fun w => some w))
      (K := (fun j ls st w => if j = 36 then (lgI ls 2 fun v2 => lgI ls 3 fun v3 => st0 st (callW (fX12_layStill_36 N N (fX12_layStill_91 N (fX12_layStill_30 N n)) v2 v3) w)) else none)) (fun _ _ _ _ hx => by cases hx) (fun _ _ _ _ hx => by cases hx) (fun w pc ls hx hd => hr w pc ls (Option.some.inj hx) hd) hC (fun ls => lsb [some (.inr (.inr (16, 0))), some (.inl a1), none, none, none, none] 0 ls) (keepsP_of rfl) ?_ 95 30 [some (.inr (.inr (16, 0))), some (.inl a1), some (.inl v2), none, none, none] [] w ?_ h
    · intro j ls st w hfx h
      obtain ⟨e0, e1, -⟩ : _ = _ ∧ _ = _ ∧ True := hfx
      try dsimp only at h
      by_cases hj : j = 36
      · subst hj
        rw [if_pos rfl] at h
        obtain ⟨v2, e2, h_1⟩ := lgI_some h
        obtain ⟨v3, e3, h_2⟩ := lgI_some h_1
        obtain ⟨rfl, h_3⟩ := st0_some h_2
        clear h h_1 h_2
        have h := h_3
        try rw [callW_eq] at h
        exact WW.le (a := [some (.inr (.inr (16, 0))), some (.inl a1), some (.inl v2), some (.inl v3), none, none]) (by rw [hn]; rfl) (show _ = _ ∧ _ = _ ∧ _ = _ ∧ _ = _ ∧ True from ⟨e0, e1, e2, e3, trivial⟩) (sX12_layStill_36 G hn hC hr a1 N (fX12_layStill_91 N (fX12_layStill_30 N n)) v2 v3 w h (fun v2 w h => (sX12_layStill_91 G hn hC hr a1 (fX12_layStill_30 N n) v2 w h (fun v2 w h => (ih v2 w h)))))
      rw [if_neg hj] at h
      cases h
    · exact (show _ = _ ∧ _ = _ ∧ True from ⟨rfl, rfl, trivial⟩)
set_option maxRecDepth 100000 in
set_option maxHeartbeats 4000000 in
theorem sX12_layStill_28 {N : Nat} {X : XT} (G : GX X cX12_layStill RX12) (hn : xnL X = 6) (hC : CRs X tX12_layStill (oF [(mX12_isOf N), (mX12_bestOn N)]) (oF []) (oF [])) {r : Wd} (hr : RTV X cX12_layStill r) (a1 : Int32) : ∀ (w : Wd), fX12_layStill_28 N w = some r → WW X (pcAt tX12_layStill 28) [some (.inr (.inr (16, 0))), some (.inl a1), none, none, none, none] [] w := by
  intro w h
  refine run_sound (r := r) (X := X) (cc := cX12_layStill) (own := RX12) (tab := tX12_layStill) G (by rw [hn]; exact kX12_layStill) (oI := (oF [(mX12_isOf N), (mX12_bestOn N)])) (oL := (oF [])) (oV := (oF [])) (rI := (fun _ _ => none)) (rL := (fun _ _ => none)) (rV := (fun w => some w))
    (K := (fun j ls st w => if j = 30 then (lgI ls 2 fun v2 => st0 st (callW (fX12_layStill_30 N N v2) w)) else none)) (fun _ _ _ _ hx => by cases hx) (fun _ _ _ _ hx => by cases hx) (fun w pc ls hx hd => hr w pc ls (Option.some.inj hx) hd) hC (fun ls => lsb [some (.inr (.inr (16, 0))), some (.inl a1), none, none, none, none] 0 ls) (keepsP_of rfl) ?_ 95 28 [some (.inr (.inr (16, 0))), some (.inl a1), none, none, none, none] [] w ?_ h
  · intro j ls st w hfx h
    obtain ⟨e0, e1, -⟩ : _ = _ ∧ _ = _ ∧ True := hfx
    try dsimp only at h
    by_cases hj : j = 30
    · subst hj
      rw [if_pos rfl] at h
      obtain ⟨v2, e2, h_1⟩ := lgI_some h
      obtain ⟨rfl, h_2⟩ := st0_some h_1
      clear h h_1
      have h := h_2
      try rw [callW_eq] at h
      exact WW.le (a := [some (.inr (.inr (16, 0))), some (.inl a1), some (.inl v2), none, none, none]) (by rw [hn]; rfl) (show _ = _ ∧ _ = _ ∧ _ = _ ∧ True from ⟨e0, e1, e2, trivial⟩) (sX12_layStill_30 G hn hC hr a1 N v2 w h)
    rw [if_neg hj] at h
    cases h
  · exact (show _ = _ ∧ _ = _ ∧ True from ⟨rfl, rfl, trivial⟩)
set_option maxRecDepth 100000 in
set_option maxHeartbeats 4000000 in
theorem sX12_layStill_2 {N : Nat} {X : XT} (G : GX X cX12_layStill RX12) (hn : xnL X = 6) (hC : CRs X tX12_layStill (oF [(mX12_isOf N), (mX12_bestOn N)]) (oF []) (oF [])) {r : Wd} (hr : RTV X cX12_layStill r) (a1 : Int32) : ∀ (n : Nat) (k28 : Wd → Option (Wd)) (v2 : Int32) (w : Wd), fX12_layStill_2 N a1 n k28 v2 w = some r → (∀ (w : Wd), k28 w = some r → WW X (pcAt tX12_layStill 28) [some (.inr (.inr (16, 0))), some (.inl a1), none, none, none, none] [] w) → WW X (pcAt tX12_layStill 2) [some (.inr (.inr (16, 0))), some (.inl a1), some (.inl v2), none, none, none] [] w := by
  intro n
  induction n with
  | zero => intro k28 v2 w h h28; cases h
  | succ n ih =>
    intro k28 v2 w h h28
    refine run_sound (r := r) (X := X) (cc := cX12_layStill) (own := RX12) (tab := tX12_layStill) G (by rw [hn]; exact kX12_layStill) (oI := (oF [(mX12_isOf N), (mX12_bestOn N)])) (oL := (oF [])) (oV := (oF [])) (rI := (fun _ _ => none)) (rL := (fun _ _ => none)) (rV := (fun w => some w))
      (K := (fun j ls st w => if j = 2 then (lgI ls 2 fun v2 => st0 st (callW (fX12_layStill_2 N a1 n k28 v2) w)) else if j = 28 then (st0 st (k28 w)) else none)) (fun _ _ _ _ hx => by cases hx) (fun _ _ _ _ hx => by cases hx) (fun w pc ls hx hd => hr w pc ls (Option.some.inj hx) hd) hC (fun ls => lsb [some (.inr (.inr (16, 0))), some (.inl a1), none, none, none, none] 0 ls) (keepsP_of rfl) ?_ 95 2 [some (.inr (.inr (16, 0))), some (.inl a1), some (.inl v2), none, none, none] [] w ?_ h
    · intro j ls st w hfx h
      obtain ⟨e0, e1, -⟩ : _ = _ ∧ _ = _ ∧ True := hfx
      try dsimp only at h
      by_cases hj : j = 2
      · subst hj
        rw [if_pos rfl] at h
        obtain ⟨v2, e2, h_1⟩ := lgI_some h
        obtain ⟨rfl, h_2⟩ := st0_some h_1
        clear h h_1
        have h := h_2
        try rw [callW_eq] at h
        exact WW.le (a := [some (.inr (.inr (16, 0))), some (.inl a1), some (.inl v2), none, none, none]) (by rw [hn]; rfl) (show _ = _ ∧ _ = _ ∧ _ = _ ∧ True from ⟨e0, e1, e2, trivial⟩) (ih k28 v2 w h h28)
      rw [if_neg hj] at h
      by_cases hj : j = 28
      · subst hj
        rw [if_pos rfl] at h
        obtain ⟨rfl, h_1⟩ := st0_some h
        clear h
        have h := h_1
        try rw [callW_eq] at h
        exact WW.le (a := [some (.inr (.inr (16, 0))), some (.inl a1), none, none, none, none]) (by rw [hn]; rfl) (show _ = _ ∧ _ = _ ∧ True from ⟨e0, e1, trivial⟩) (h28 w h)
      rw [if_neg hj] at h
      cases h
    · exact (show _ = _ ∧ _ = _ ∧ True from ⟨rfl, rfl, trivial⟩)
set_option maxRecDepth 100000 in
set_option maxHeartbeats 4000000 in
theorem crX12_layStill {N : Nat} {X : XT} (G : GX X cX12_layStill RX12) (hR : xR X = rmL 3) : CRs X tX12_layStill (oF [(mX12_isOf N), (mX12_bestOn N)]) (oF []) (oF []) := by
  have hl : tX12_layStill.filter isInv = [(31, .invokestatic 341, 0, 0, 2, 0, 0, []), (92, .invokestatic 341, 0, 0, 2, 0, 0, []), (103, .invokevirtual 522, 0, 1, 2, 0, 0, [])] := rfl
  intro e he
  rw [hl] at he
  simp only [List.mem_cons, List.not_mem_nil, or_false] at he
  rcases he with rfl | rfl | rfl
  · exact crI_S (idx := 341) G (by decide +kernel) (MX12_isOf N) (cw_of (ps := [1589, 1590, 164, 1591]) (by decide +kernel) (by decide +kernel)) ⟨by decide +kernel, by decide +kernel, by decide +kernel⟩ (by unfold rmOk; rw [hR]; exact ⟨by decide, by decide⟩)
  · exact crI_S (idx := 341) G (by decide +kernel) (MX12_isOf N) (cw_of (ps := [1589, 1590, 164, 1591]) (by decide +kernel) (by decide +kernel)) ⟨by decide +kernel, by decide +kernel, by decide +kernel⟩ (by unfold rmOk; rw [hR]; exact ⟨by decide, by decide⟩)
  · exact crI_V (idx := 522) G (by decide +kernel) (MX12_bestOn N) (cw_of (ps := [2205, 2207, 125, 164, 2208]) (by decide +kernel) (by decide +kernel)) ⟨by decide +kernel, by decide +kernel, by decide +kernel⟩ (by unfold rmOk; rw [hR]; exact ⟨by decide, by decide⟩)
set_option maxRecDepth 100000 in
set_option maxHeartbeats 4000000 in
theorem MX12_layStill (N : Nat) : SndV yX12_layStill cX12_layStill 6 none 3 2 true (mX12_layStill N) := by
  refine SndV.of tX12_layStill (by decide +kernel) rfl rfl ?_ ?_
  · intro as w x h
    obtain ⟨t1, rfl, h_1⟩ := xS1_some h
    obtain ⟨a1, t2, rfl, h_2⟩ := xI1_some h_1
    obtain ⟨rfl, h_3⟩ := xN1_some h_2
    clear h h_1 h_2
    have h := h_3
    rw [callW_eq] at h
    exact ⟨fun _ => ⟨_, _, _, rfl, rfl, _, rfl, rfl⟩, rfl, Nat.le_of_ble_eq_true rfl⟩
  · intro X G hn hR as w r h hr
    have hC := crX12_layStill (N := N) G hR
    obtain ⟨t1, rfl, h_1⟩ := xS1_some h
    obtain ⟨a1, t2, rfl, h_2⟩ := xI1_some h_1
    obtain ⟨rfl, h_3⟩ := xN1_some h_2
    clear h h_1 h_2
    have h := h_3
    rw [callW_eq] at h
    refine run_sound (r := r) (X := X) (cc := cX12_layStill) (own := RX12) (tab := tX12_layStill) G (by rw [hn]; exact kX12_layStill) (oI := (oF [(mX12_isOf N), (mX12_bestOn N)])) (oL := (oF [])) (oV := (oF [])) (rI := (fun _ _ => none)) (rL := (fun _ _ => none)) (rV := (fun w => some w))
      (K := (fun j ls st w => if j = 2 then (lgI ls 2 fun v2 => st0 st (callW (fX12_layStill_2 N a1 N (fX12_layStill_28 N) v2) w)) else none)) (fun _ _ _ _ hx => by cases hx) (fun _ _ _ _ hx => by cases hx) (fun w pc ls hx hd => hr w pc ls (Option.some.inj hx) hd) hC (fun ls => lsb [some (.inr (.inr (16, 0))), some (.inl a1), none, none, none, none] 0 ls) (keepsP_of rfl) ?_ 95 0 [some (.inr (.inr (16, 0))), some (.inl a1), none, none, none, none] [] w ?_ h
    · intro j ls st w hfx h
      obtain ⟨e0, e1, -⟩ : _ = _ ∧ _ = _ ∧ True := hfx
      try dsimp only at h
      by_cases hj : j = 2
      · subst hj
        rw [if_pos rfl] at h
        obtain ⟨v2, e2, h_1⟩ := lgI_some h
        obtain ⟨rfl, h_2⟩ := st0_some h_1
        clear h h_1
        have h := h_2
        try rw [callW_eq] at h
        exact WW.le (a := [some (.inr (.inr (16, 0))), some (.inl a1), some (.inl v2), none, none, none]) (by rw [hn]; rfl) (show _ = _ ∧ _ = _ ∧ _ = _ ∧ True from ⟨e0, e1, e2, trivial⟩) (sX12_layStill_2 G hn hC hr a1 N (fX12_layStill_28 N) v2 w h (fun w h => (sX12_layStill_28 G hn hC hr a1 w h)))
      rw [if_neg hj] at h
      cases h
    · exact (show _ = _ ∧ _ = _ ∧ True from ⟨rfl, rfl, trivial⟩)
-- MoorGuidesModel.leastOf(I)I
def tX12_leastOf : List EN := [
  (0, .aload_n 0, 0, 0, 0, 0, 0, []), (1, .aload_n 0, 0, 0, 0, 0, 0, []), (2, .getfield 50, 0, 12, 41, 0, 0, []), (5, .iload_n 1, 0, 0, 0, 0, 0, []),
  (6, .iaload, 0, 0, 0, 0, 0, []), (7, .invokevirtual 525, 0, 0, 2, 0, 0, [(0, 0), (0, 0)]), (10, .ldc 234, 0, 0, 0, 99999, 0, []), (12, .istore_n 2, 0, 0, 0, 0, 0, []),
  (13, .iconst 0, 0, 0, 0, 0, 0, []), (14, .istore_n 3, 0, 0, 0, 0, 0, []), (15, .iload_n 3, 11, 0, 0, 0, 0, []), (16, .bipush 7, 0, 0, 0, 7, 0, []),
  (18, .if_icmp .ge 50, 0, 42, 0, 0, 0, []), (21, .aload_n 0, 0, 0, 0, 0, 0, []), (22, .getfield 133, 0, 12, 78, 0, 0, []), (25, .bipush 7, 0, 0, 0, 7, 0, []),
  (27, .aload_n 0, 0, 0, 0, 0, 0, []), (28, .getfield 47, 0, 12, 40, 0, 0, []), (31, .iload_n 1, 0, 0, 0, 0, 0, []), (32, .iaload, 0, 0, 0, 0, 0, []),
  (33, .imul, 0, 0, 0, 0, 0, []), (34, .iload_n 3, 0, 0, 0, 0, 0, []), (35, .iadd, 0, 0, 0, 0, 0, []), (36, .iaload, 0, 0, 0, 0, 0, []),
  (37, .iload_n 2, 0, 0, 0, 0, 0, []), (38, .if_icmp .ge 22, 0, 38, 0, 0, 0, []), (41, .aload_n 0, 0, 0, 0, 0, 0, []), (42, .getfield 133, 0, 12, 78, 0, 0, []),
  (45, .bipush 7, 0, 0, 0, 7, 0, []), (47, .aload_n 0, 0, 0, 0, 0, 0, []), (48, .getfield 47, 0, 12, 40, 0, 0, []), (51, .iload_n 1, 0, 0, 0, 0, 0, []),
  (52, .iaload, 0, 0, 0, 0, 0, []), (53, .imul, 0, 0, 0, 0, 0, []), (54, .iload_n 3, 0, 0, 0, 0, 0, []), (55, .iadd, 0, 0, 0, 0, 0, []),
  (56, .iaload, 0, 0, 0, 0, 0, []), (57, .goto 4, 0, 39, 0, 0, 0, []), (60, .iload_n 2, 0, 0, 0, 0, 0, []), (61, .istore_n 2, 0, 0, 0, 0, 0, []),
  (62, .iinc 3 1, 0, 0, 0, 1, 0, []), (65, .goto (-50), 0, 10, 0, 0, 0, []), (68, .iload_n 2, 0, 0, 0, 0, 0, []), (69, .ireturn, 0, 0, 0, 0, 0, [])]
noncomputable def fX12_leastOf_10 (N : Nat) (a1 : Int32) : Nat → Int32 → Int32 → Wd → Option (Int32 × Wd)
  | 0, _, _, _ => none
  | n + 1, v2, v3, w =>
    if v3 < (7 : Int32) then
      (ldI w 84 0 a1 16).bind fun x1 =>
      (ldI w 112 0 (((7 : Int32) * x1) + v3) 56).bind fun x2 =>
      if x2 < v2 then
        (ldI w 84 0 a1 16).bind fun x3 =>
        (ldI w 112 0 (((7 : Int32) * x3) + v3) 56).bind fun x4 =>
        callW (fX12_leastOf_10 N a1 n x4 (v3 + (1 : Int32))) w
      else
      callW (fX12_leastOf_10 N a1 n v2 (v3 + (1 : Int32))) w
    else
    some (v2, w)
noncomputable def pX12_leastOf (N : Nat) (a1 : Int32) (w : Wd) : Option (Int32 × Wd) :=
  (ldI w 85 0 a1 16).bind fun x1 =>
  (callW (pX12_layStill N x1) w).bind fun w2 =>
  callW (fX12_leastOf_10 N a1 N (99999 : Int32) (0 : Int32)) w2
noncomputable def mX12_leastOf (N : Nat) (as : List AV) (w : Wd) : Option (Int32 × Wd) := xS1 16 as fun t => xI1 t fun a1 t => xN1 t (callW (pX12_leastOf N a1) w)
set_option maxRecDepth 100000 in
set_option maxHeartbeats 4000000 in
theorem kX12_leastOf : TK cX12_leastOf RX12 4 tX12_leastOf := ⟨by decide +kernel, wok_of [1641, 1958, 1678, 1640, 1678, 1640] (by decide +kernel) (by decide +kernel)⟩
set_option maxRecDepth 100000 in
set_option maxHeartbeats 4000000 in
theorem sX12_leastOf_10 {N : Nat} {X : XT} (G : GX X cX12_leastOf RX12) (hn : xnL X = 4) (hC : CRs X tX12_leastOf (oF []) (oF []) (oF [(mX12_layStill N)])) {r : Int32 × Wd} (hr : RTI X cX12_leastOf r) (a1 : Int32) : ∀ (n : Nat) (v2 : Int32) (v3 : Int32) (w : Wd), fX12_leastOf_10 N a1 n v2 v3 w = some r → WW X (pcAt tX12_leastOf 10) [some (.inr (.inr (16, 0))), some (.inl a1), some (.inl v2), some (.inl v3)] [] w := by
  intro n
  induction n with
  | zero => intro v2 v3 w h; cases h
  | succ n ih =>
    intro v2 v3 w h
    refine run_sound (r := r) (X := X) (cc := cX12_leastOf) (own := RX12) (tab := tX12_leastOf) G (by rw [hn]; exact kX12_leastOf) (oI := (oF [])) (oL := (oF [])) (oV := (oF [(mX12_layStill N)])) (rI := (fun x w => some (x, w))) (rL := (fun _ _ => none)) (rV := (fun _ => none))
      (K := (fun j ls st w => if j = 10 then (lgI ls 2 fun v2 => lgI ls 3 fun v3 => st0 st (callW (fX12_leastOf_10 N a1 n v2 v3) w)) else none)) (fun x w pc ls hx hd => hr x w pc ls (Option.some.inj hx) hd) (fun _ _ _ _ hx => by cases hx) (fun _ _ _ hx => by cases hx) hC (fun ls => lsb [some (.inr (.inr (16, 0))), some (.inl a1), none, none] 0 ls) (keepsP_of rfl) ?_ 46 10 [some (.inr (.inr (16, 0))), some (.inl a1), some (.inl v2), some (.inl v3)] [] w ?_ h
    · intro j ls st w hfx h
      obtain ⟨e0, e1, -⟩ : _ = _ ∧ _ = _ ∧ True := hfx
      try dsimp only at h
      by_cases hj : j = 10
      · subst hj
        rw [if_pos rfl] at h
        obtain ⟨v2, e2, h_1⟩ := lgI_some h
        obtain ⟨v3, e3, h_2⟩ := lgI_some h_1
        obtain ⟨rfl, h_3⟩ := st0_some h_2
        clear h h_1 h_2
        have h := h_3
        try rw [callW_eq] at h
        exact WW.le (a := [some (.inr (.inr (16, 0))), some (.inl a1), some (.inl v2), some (.inl v3)]) (by rw [hn]; rfl) (show _ = _ ∧ _ = _ ∧ _ = _ ∧ _ = _ ∧ True from ⟨e0, e1, e2, e3, trivial⟩) (ih v2 v3 w h)
      rw [if_neg hj] at h
      cases h
    · exact (show _ = _ ∧ _ = _ ∧ True from ⟨rfl, rfl, trivial⟩)
set_option maxRecDepth 100000 in
set_option maxHeartbeats 4000000 in
theorem crX12_leastOf {N : Nat} {X : XT} (G : GX X cX12_leastOf RX12) (hR : xR X = rmL 4) : CRs X tX12_leastOf (oF []) (oF []) (oF [(mX12_layStill N)]) := by
  have hl : tX12_leastOf.filter isInv = [(7, .invokevirtual 525, 0, 0, 2, 0, 0, [(0, 0), (0, 0)])] := rfl
  intro e he
  rw [hl] at he
  simp only [List.mem_cons, List.not_mem_nil, or_false] at he
  rcases he with rfl
  · exact crV_V (idx := 525) G (by decide +kernel) (MX12_layStill N) (cw_of (ps := [2201, 2203, 124, 164, 2204]) (by decide +kernel) (by decide +kernel)) ⟨by decide +kernel, by decide +kernel, by decide +kernel⟩ (by unfold rmOk; rw [hR]; exact ⟨by decide, by decide⟩)
set_option maxRecDepth 100000 in
set_option maxHeartbeats 4000000 in
theorem MX12_leastOf (N : Nat) : SndI yX12_leastOf cX12_leastOf 4 (some .int) 4 2 true (mX12_leastOf N) := by
  refine SndI.of tX12_leastOf (by decide +kernel) rfl rfl ?_ ?_
  · intro as w x h
    obtain ⟨t1, rfl, h_1⟩ := xS1_some h
    obtain ⟨a1, t2, rfl, h_2⟩ := xI1_some h_1
    obtain ⟨rfl, h_3⟩ := xN1_some h_2
    clear h h_1 h_2
    have h := h_3
    rw [callW_eq] at h
    exact ⟨fun _ => ⟨_, _, _, rfl, rfl, _, rfl, rfl⟩, rfl, Nat.le_of_ble_eq_true rfl⟩
  · intro X G hn hR as w r h hr
    have hC := crX12_leastOf (N := N) G hR
    obtain ⟨t1, rfl, h_1⟩ := xS1_some h
    obtain ⟨a1, t2, rfl, h_2⟩ := xI1_some h_1
    obtain ⟨rfl, h_3⟩ := xN1_some h_2
    clear h h_1 h_2
    have h := h_3
    rw [callW_eq] at h
    refine run_sound (r := r) (X := X) (cc := cX12_leastOf) (own := RX12) (tab := tX12_leastOf) G (by rw [hn]; exact kX12_leastOf) (oI := (oF [])) (oL := (oF [])) (oV := (oF [(mX12_layStill N)])) (rI := (fun x w => some (x, w))) (rL := (fun _ _ => none)) (rV := (fun _ => none))
      (K := (fun j ls st w => if j = 10 then (lgI ls 2 fun v2 => lgI ls 3 fun v3 => st0 st (callW (fX12_leastOf_10 N a1 N v2 v3) w)) else none)) (fun x w pc ls hx hd => hr x w pc ls (Option.some.inj hx) hd) (fun _ _ _ _ hx => by cases hx) (fun _ _ _ hx => by cases hx) hC (fun ls => lsb [some (.inr (.inr (16, 0))), some (.inl a1), none, none] 0 ls) (keepsP_of rfl) ?_ 46 0 [some (.inr (.inr (16, 0))), some (.inl a1), none, none] [] w ?_ h
    · intro j ls st w hfx h
      obtain ⟨e0, e1, -⟩ : _ = _ ∧ _ = _ ∧ True := hfx
      try dsimp only at h
      by_cases hj : j = 10
      · subst hj
        rw [if_pos rfl] at h
        obtain ⟨v2, e2, h_1⟩ := lgI_some h
        obtain ⟨v3, e3, h_2⟩ := lgI_some h_1
        obtain ⟨rfl, h_3⟩ := st0_some h_2
        clear h h_1 h_2
        have h := h_3
        try rw [callW_eq] at h
        exact WW.le (a := [some (.inr (.inr (16, 0))), some (.inl a1), some (.inl v2), some (.inl v3)]) (by rw [hn]; rfl) (show _ = _ ∧ _ = _ ∧ _ = _ ∧ _ = _ ∧ True from ⟨e0, e1, e2, e3, trivial⟩) (sX12_leastOf_10 G hn hC hr a1 N v2 v3 w h)
      rw [if_neg hj] at h
      cases h
    · exact (show _ = _ ∧ _ = _ ∧ True from ⟨rfl, rfl, trivial⟩)
-- MoorGuidesModel.isLed(I)Z
def tX12_isLed : List EN := [
  (0, .aload_n 0, 0, 0, 0, 0, 0, []), (1, .iload_n 1, 0, 0, 0, 0, 0, []), (2, .invokevirtual 528, 0, 0, 2, 0, 0, []), (5, .ldc 234, 0, 0, 0, 99999, 0, []),
  (7, .if_icmp .ge 7, 0, 7, 0, 0, 0, []), (10, .iconst 1, 0, 0, 0, 1, 0, []), (11, .goto 4, 0, 8, 0, 0, 0, []), (14, .iconst 0, 0, 0, 0, 0, 0, []),
  (15, .ireturn, 0, 0, 0, 0, 0, [])]
noncomputable def pX12_isLed (N : Nat) (a1 : Int32) (w : Wd) : Option (Int32 × Wd) :=
  (callW (pX12_leastOf N a1) w).bind fun r1 =>
  if r1.1 < (99999 : Int32) then some ((1 : Int32), r1.2) else
  some ((0 : Int32), r1.2)
noncomputable def mX12_isLed (N : Nat) (as : List AV) (w : Wd) : Option (Int32 × Wd) := xS1 16 as fun t => xI1 t fun a1 t => xN1 t (callW (pX12_isLed N a1) w)
set_option maxRecDepth 100000 in
set_option maxHeartbeats 4000000 in
theorem kX12_isLed : TK cX12_isLed RX12 2 tX12_isLed := ⟨by decide +kernel, wok_of [1958] (by decide +kernel) (by decide +kernel)⟩
set_option maxRecDepth 100000 in
set_option maxHeartbeats 4000000 in
theorem crX12_isLed {N : Nat} {X : XT} (G : GX X cX12_isLed RX12) (hR : xR X = rmL 5) : CRs X tX12_isLed (oF [(mX12_leastOf N)]) (oF []) (oF []) := by
  have hl : tX12_isLed.filter isInv = [(2, .invokevirtual 528, 0, 0, 2, 0, 0, [])] := rfl
  intro e he
  rw [hl] at he
  simp only [List.mem_cons, List.not_mem_nil, or_false] at he
  rcases he with rfl
  · exact crI_V (idx := 528) G (by decide +kernel) (MX12_leastOf N) (cw_of (ps := [2197, 2199, 123, 164, 2200]) (by decide +kernel) (by decide +kernel)) ⟨by decide +kernel, by decide +kernel, by decide +kernel⟩ (by unfold rmOk; rw [hR]; exact ⟨by decide, by decide⟩)
set_option maxRecDepth 100000 in
set_option maxHeartbeats 4000000 in
theorem MX12_isLed (N : Nat) : SndI yX12_isLed cX12_isLed 2 (some .boolean) 5 2 true (mX12_isLed N) := by
  refine SndI.ofZ tX12_isLed (by decide +kernel) rfl rfl ?_ ?_
  · intro as w x h
    obtain ⟨t1, rfl, h_1⟩ := xS1_some h
    obtain ⟨a1, t2, rfl, h_2⟩ := xI1_some h_1
    obtain ⟨rfl, h_3⟩ := xN1_some h_2
    clear h h_1 h_2
    have h := h_3
    rw [callW_eq] at h
    exact ⟨fun _ => ⟨_, _, _, rfl, rfl, _, rfl, rfl⟩, rfl, Nat.le_of_ble_eq_true rfl⟩
  · intro X G hn hR as w r h hr
    have hC := crX12_isLed (N := N) G hR
    obtain ⟨t1, rfl, h_1⟩ := xS1_some h
    obtain ⟨a1, t2, rfl, h_2⟩ := xI1_some h_1
    obtain ⟨rfl, h_3⟩ := xN1_some h_2
    clear h h_1 h_2
    have h := h_3
    rw [callW_eq] at h
    refine run_sound (r := r) (X := X) (cc := cX12_isLed) (own := RX12) (tab := tX12_isLed) G (by rw [hn]; exact kX12_isLed) (oI := (oF [(mX12_leastOf N)])) (oL := (oF [])) (oV := (oF [])) (rI := retZ) (rL := (fun _ _ => none)) (rV := (fun _ => none))
      (K := (fun j ls st w => none)) hr (fun _ _ _ _ hx => by cases hx) (fun _ _ _ hx => by cases hx) hC (fun ls => lsb [some (.inr (.inr (16, 0))), some (.inl a1)] 0 ls) (keepsP_of rfl) ?_ 11 0 [some (.inr (.inr (16, 0))), some (.inl a1)] [] w ?_ h
    · intro j ls st w hfx h
      obtain ⟨e0, e1, -⟩ : _ = _ ∧ _ = _ ∧ True := hfx
      try dsimp only at h
      cases h
    · exact (show _ = _ ∧ _ = _ ∧ True from ⟨rfl, rfl, trivial⟩)
-- MoorGuidesModel.goesOn(IIII)Z
def tX12_goesOn : List EN := [
  (0, .aload_n 0, 0, 0, 0, 0, 0, []), (1, .getfield 26, 0, 12, 33, 0, 0, []), (4, .iload_n 2, 0, 0, 0, 0, 0, []), (5, .iaload, 0, 0, 0, 0, 0, []),
  (6, .iload_n 3, 0, 0, 0, 0, 0, []), (7, .invokestatic 341, 0, 0, 2, 0, 0, []), (10, .ifCond .ne 5, 0, 9, 0, 0, 0, []), (13, .iconst 0, 0, 0, 0, 0, 0, []),
  (14, .ireturn, 0, 0, 0, 0, 0, []), (15, .iconst 0, 0, 0, 0, 0, 0, []), (16, .istore 5, 0, 0, 0, 0, 0, []), (18, .iload 5, 12, 0, 0, 0, 0, []),
  (20, .bipush 7, 0, 0, 0, 7, 0, []), (22, .if_icmp .ge 109, 0, 72, 0, 0, 0, []), (25, .aload_n 0, 0, 0, 0, 0, 0, []), (26, .getfield 133, 0, 12, 78, 0, 0, []),
  (29, .bipush 7, 0, 0, 0, 7, 0, []), (31, .iload_n 2, 0, 0, 0, 0, 0, []), (32, .imul, 0, 0, 0, 0, 0, []), (33, .iload 5, 0, 0, 0, 0, 0, []),
  (35, .iadd, 0, 0, 0, 0, 0, []), (36, .iaload, 0, 0, 0, 0, 0, []), (37, .istore 6, 0, 0, 0, 0, 0, []), (39, .aload_n 0, 0, 0, 0, 0, 0, []),
  (40, .getfield 145, 0, 12, 84, 0, 0, []), (43, .iload 5, 0, 0, 0, 0, 0, []), (45, .iaload, 0, 0, 0, 0, 0, []), (46, .bipush 90, 0, 0, 0, 90, 0, []),
  (48, .if_icmp .gt 77, 0, 70, 0, 0, 0, []), (51, .bipush 100, 0, 0, 0, 100, 0, []), (53, .aload_n 0, 0, 0, 0, 0, 0, []), (54, .getfield 145, 0, 12, 84, 0, 0, []),
  (57, .iload 5, 0, 0, 0, 0, 0, []), (59, .iaload, 0, 0, 0, 0, 0, []), (60, .imul, 0, 0, 0, 0, 0, []), (61, .iload_n 1, 0, 0, 0, 0, 0, []),
  (62, .iadd, 0, 0, 0, 0, 0, []), (63, .iload 6, 0, 0, 0, 0, 0, []), (65, .iadd, 0, 0, 0, 0, 0, []), (66, .iload 4, 0, 0, 0, 0, 0, []),
  (68, .if_icmp .eq 6, 0, 42, 0, 0, 0, []), (71, .goto 54, 0, 70, 0, 0, 0, []), (74, .iconst 0, 0, 0, 0, 0, 0, []), (75, .istore 7, 0, 0, 0, 0, 0, []),
  (77, .iload 7, 45, 0, 0, 0, 0, []), (79, .bipush 7, 0, 0, 0, 7, 0, []), (81, .if_icmp .ge 44, 0, 70, 0, 0, 0, []), (84, .aload_n 0, 0, 0, 0, 0, 0, []),
  (85, .getfield 133, 0, 12, 78, 0, 0, []), (88, .bipush 7, 0, 0, 0, 7, 0, []), (90, .iload_n 3, 0, 0, 0, 0, 0, []), (91, .imul, 0, 0, 0, 0, 0, []),
  (92, .iload 7, 0, 0, 0, 0, 0, []), (94, .iadd, 0, 0, 0, 0, 0, []), (95, .iaload, 0, 0, 0, 0, 0, []), (96, .iconst 1, 0, 0, 0, 1, 0, []),
  (97, .iadd, 0, 0, 0, 0, 0, []), (98, .iload 5, 0, 0, 0, 0, 0, []), (100, .iload 7, 0, 0, 0, 0, 0, []), (102, .if_icmp .ne 7, 0, 62, 0, 0, 0, []),
  (105, .iconst 0, 0, 0, 0, 0, 0, []), (106, .goto 5, 0, 63, 0, 0, 0, []), (109, .bipush 100, 0, 0, 0, 100, 0, []), (111, .iadd, 0, 0, 0, 0, 0, []),
  (112, .iload 6, 0, 0, 0, 0, 0, []), (114, .if_icmp .ne 5, 0, 68, 0, 0, 0, []), (117, .iconst 1, 0, 0, 0, 1, 0, []), (118, .ireturn, 0, 0, 0, 0, 0, []),
  (119, .iinc 7 1, 0, 0, 0, 1, 0, []), (122, .goto (-45), 0, 44, 0, 0, 0, []), (125, .iinc 5 1, 71, 0, 0, 1, 0, []), (128, .goto (-110), 0, 11, 0, 0, 0, []),
  (131, .iconst 0, 0, 0, 0, 0, 0, []), (132, .ireturn, 0, 0, 0, 0, 0, [])]
noncomputable def fX12_goesOn_70 (N : Nat) (a1 : Int32) (a2 : Int32) (a3 : Int32) (a4 : Int32) (k11 : Int32 → Wd → Option (Int32 × Wd)) (v5 : Int32) (w : Wd) : Option (Int32 × Wd) :=
  k11 (v5 + (1 : Int32)) w
noncomputable def fX12_goesOn_44 (N : Nat) (a1 : Int32) (a2 : Int32) (a3 : Int32) (a4 : Int32) : Nat → (Int32 → Wd → Option (Int32 × Wd)) → Int32 → Int32 → Int32 → Wd → Option (Int32 × Wd)
  | 0, _, _, _, _, _ => none
  | n + 1, k70, v5, v6, v7, w =>
    if v7 < (7 : Int32) then
      (ldI w 112 0 (((7 : Int32) * a3) + v7) 56).bind fun x1 =>
      if v5 = v7 then
        if ((x1 + (1 : Int32)) + (0 : Int32)) = v6 then some ((1 : Int32), w) else
        callW (fX12_goesOn_44 N a1 a2 a3 a4 n k70 v5 v6 (v7 + (1 : Int32))) w
      else
      if ((x1 + (1 : Int32)) + (100 : Int32)) = v6 then some ((1 : Int32), w) else
      callW (fX12_goesOn_44 N a1 a2 a3 a4 n k70 v5 v6 (v7 + (1 : Int32))) w
    else
    k70 v5 w
noncomputable def fX12_goesOn_11 (N : Nat) (a1 : Int32) (a2 : Int32) (a3 : Int32) (a4 : Int32) : Nat → Int32 → Wd → Option (Int32 × Wd)
  | 0, _, _ => none
  | n + 1, v5, w =>
    if v5 < (7 : Int32) then
      (ldI w 112 0 (((7 : Int32) * a2) + v5) 56).bind fun x1 =>
      (ldI w 116 0 v5 7).bind fun x2 =>
      if (90 : Int32) < x2 then callW (fX12_goesOn_70 N a1 a2 a3 a4 (fX12_goesOn_11 N a1 a2 a3 a4 n) v5) w else
      (ldI w 116 0 v5 7).bind fun x3 =>
      if ((((100 : Int32) * x3) + a1) + x1) = a4 then
        callW (fX12_goesOn_44 N a1 a2 a3 a4 N (fX12_goesOn_70 N a1 a2 a3 a4 (fX12_goesOn_11 N a1 a2 a3 a4 n)) v5 x1 (0 : Int32)) w
      else
      callW (fX12_goesOn_70 N a1 a2 a3 a4 (fX12_goesOn_11 N a1 a2 a3 a4 n) v5) w
    else
    some ((0 : Int32), w)
noncomputable def pX12_goesOn (N : Nat) (a1 : Int32) (a2 : Int32) (a3 : Int32) (a4 : Int32) (w : Wd) : Option (Int32 × Wd) :=
  (ldI w 77 0 a2 16).bind fun x1 =>
  (callW (pX12_isOf N x1 a3) w).bind fun r2 =>
  if r2.1 = 0 then some ((0 : Int32), r2.2) else
  callW (fX12_goesOn_11 N a1 a2 a3 a4 N (0 : Int32)) r2.2
noncomputable def mX12_goesOn (N : Nat) (as : List AV) (w : Wd) : Option (Int32 × Wd) := xS1 16 as fun t => xI1 t fun a1 t => xI1 t fun a2 t => xI1 t fun a3 t => xI1 t fun a4 t => xN1 t (callW (pX12_goesOn N a1 a2 a3 a4) w)
set_option maxRecDepth 100000 in
set_option maxHeartbeats 4000000 in
theorem kX12_goesOn : TK cX12_goesOn RX12 8 tX12_goesOn := ⟨by decide +kernel, wok_of [1633, 1678, 1684, 1684, 1678] (by decide +kernel) (by decide +kernel)⟩
set_option maxRecDepth 100000 in
set_option maxHeartbeats 4000000 in
theorem sX12_goesOn_70 {N : Nat} {X : XT} (G : GX X cX12_goesOn RX12) (hn : xnL X = 8) (hC : CRs X tX12_goesOn (oF [(mX12_isOf N)]) (oF []) (oF [])) {r : Int32 × Wd} (hr : RTZ X cX12_goesOn r) (a1 : Int32) (a2 : Int32) (a3 : Int32) (a4 : Int32) : ∀ (k11 : Int32 → Wd → Option (Int32 × Wd)) (v5 : Int32) (w : Wd), fX12_goesOn_70 N a1 a2 a3 a4 k11 v5 w = some r → (∀ (v5 : Int32) (w : Wd), k11 v5 w = some r → WW X (pcAt tX12_goesOn 11) [some (.inr (.inr (16, 0))), some (.inl a1), some (.inl a2), some (.inl a3), some (.inl a4), some (.inl v5), none, none] [] w) → WW X (pcAt tX12_goesOn 70) [some (.inr (.inr (16, 0))), some (.inl a1), some (.inl a2), some (.inl a3), some (.inl a4), some (.inl v5), none, none] [] w := by
  intro k11 v5 w h h11
  refine run_sound (r := r) (X := X) (cc := cX12_goesOn) (own := RX12) (tab := tX12_goesOn) G (by rw [hn]; exact kX12_goesOn) (oI := (oF [(mX12_isOf N)])) (oL := (oF [])) (oV := (oF [])) (rI := retZ) (rL := (fun _ _ => none)) (rV := (fun _ => none))
    (K := (fun j ls st w => if j = 11 then (lgI ls 5 fun v5 => st0 st (k11 v5 w)) else none)) hr (fun _ _ _ _ hx => by cases hx) (fun _ _ _ hx => by cases hx) hC (fun ls => lsb [some (.inr (.inr (16, 0))), some (.inl a1), some (.inl a2), some (.inl a3), some (.inl a4), none, none, none] 0 ls) (keepsP_of rfl) ?_ 76 70 [some (.inr (.inr (16, 0))), some (.inl a1), some (.inl a2), some (.inl a3), some (.inl a4), some (.inl v5), none, none] [] w ?_ h
  · intro j ls st w hfx h
    obtain ⟨e0, e1, e2, e3, e4, -⟩ : _ = _ ∧ _ = _ ∧ _ = _ ∧ _ = _ ∧ _ = _ ∧ True := hfx
    try dsimp only at h
    by_cases hj : j = 11
    · subst hj
      rw [if_pos rfl] at h
      obtain ⟨v5, e5, h_1⟩ := lgI_some h
      obtain ⟨rfl, h_2⟩ := st0_some h_1
      clear h h_1
      have h := h_2
      try rw [callW_eq] at h
      exact WW.le (a := [some (.inr (.inr (16, 0))), some (.inl a1), some (.inl a2), some (.inl a3), some (.inl a4), some (.inl v5), none, none]) (by rw [hn]; rfl) (show _ = _ ∧ _ = _ ∧ _ = _ ∧ _ = _ ∧ _ = _ ∧ _ = _ ∧ True from ⟨e0, e1, e2, e3, e4, e5, trivial⟩) (h11 v5 w h)
    rw [if_neg hj] at h
    cases h
  · exact (show _ = _ ∧ _ = _ ∧ _ = _ ∧ _ = _ ∧ _ = _ ∧ True from ⟨rfl, rfl, rfl, rfl, rfl, trivial⟩)
set_option maxRecDepth 100000 in
set_option maxHeartbeats 4000000 in
theorem sX12_goesOn_44 {N : Nat} {X : XT} (G : GX X cX12_goesOn RX12) (hn : xnL X = 8) (hC : CRs X tX12_goesOn (oF [(mX12_isOf N)]) (oF []) (oF [])) {r : Int32 × Wd} (hr : RTZ X cX12_goesOn r) (a1 : Int32) (a2 : Int32) (a3 : Int32) (a4 : Int32) : ∀ (n : Nat) (k70 : Int32 → Wd → Option (Int32 × Wd)) (v5 : Int32) (v6 : Int32) (v7 : Int32) (w : Wd), fX12_goesOn_44 N a1 a2 a3 a4 n k70 v5 v6 v7 w = some r → (∀ (v5 : Int32) (w : Wd), k70 v5 w = some r → WW X (pcAt tX12_goesOn 70) [some (.inr (.inr (16, 0))), some (.inl a1), some (.inl a2), some (.inl a3), some (.inl a4), some (.inl v5), none, none] [] w) → WW X (pcAt tX12_goesOn 44) [some (.inr (.inr (16, 0))), some (.inl a1), some (.inl a2), some (.inl a3), some (.inl a4), some (.inl v5), some (.inl v6), some (.inl v7)] [] w := by
  intro n
  induction n with
  | zero => intro k70 v5 v6 v7 w h h70; cases h
  | succ n ih =>
    intro k70 v5 v6 v7 w h h70
    refine run_sound (r := r) (X := X) (cc := cX12_goesOn) (own := RX12) (tab := tX12_goesOn) G (by rw [hn]; exact kX12_goesOn) (oI := (oF [(mX12_isOf N)])) (oL := (oF [])) (oV := (oF [])) (rI := retZ) (rL := (fun _ _ => none)) (rV := (fun _ => none))
      (K := (fun j ls st w => if j = 44 then (lgI ls 5 fun v5 => lgI ls 6 fun v6 => lgI ls 7 fun v7 => st0 st (callW (fX12_goesOn_44 N a1 a2 a3 a4 n k70 v5 v6 v7) w)) else if j = 70 then (lgI ls 5 fun v5 => st0 st (k70 v5 w)) else none)) hr (fun _ _ _ _ hx => by cases hx) (fun _ _ _ hx => by cases hx) hC (fun ls => lsb [some (.inr (.inr (16, 0))), some (.inl a1), some (.inl a2), some (.inl a3), some (.inl a4), none, none, none] 0 ls) (keepsP_of rfl) ?_ 76 44 [some (.inr (.inr (16, 0))), some (.inl a1), some (.inl a2), some (.inl a3), some (.inl a4), some (.inl v5), some (.inl v6), some (.inl v7)] [] w ?_ h
    · intro j ls st w hfx h
      obtain ⟨e0, e1, e2, e3, e4, -⟩ : _ = _ ∧ _ = _ ∧ _ = _ ∧ _ = _ ∧ _ = _ ∧ True := hfx
      try dsimp only at h
      by_cases hj : j = 44
      · subst hj
        rw [if_pos rfl] at h
        obtain ⟨v5, e5, h_1⟩ := lgI_some h
        obtain ⟨v6, e6, h_2⟩ := lgI_some h_1
        obtain ⟨v7, e7, h_3⟩ := lgI_some h_2
        obtain ⟨rfl, h_4⟩ := st0_some h_3
        clear h h_1 h_2 h_3
        have h := h_4
        try rw [callW_eq] at h
        exact WW.le (a := [some (.inr (.inr (16, 0))), some (.inl a1), some (.inl a2), some (.inl a3), some (.inl a4), some (.inl v5), some (.inl v6), some (.inl v7)]) (by rw [hn]; rfl) (show _ = _ ∧ _ = _ ∧ _ = _ ∧ _ = _ ∧ _ = _ ∧ _ = _ ∧ _ = _ ∧ _ = _ ∧ True from ⟨e0, e1, e2, e3, e4, e5, e6, e7, trivial⟩) (ih k70 v5 v6 v7 w h h70)
      rw [if_neg hj] at h
      by_cases hj : j = 70
      · subst hj
        rw [if_pos rfl] at h
        obtain ⟨v5, e5, h_1⟩ := lgI_some h
        obtain ⟨rfl, h_2⟩ := st0_some h_1
        clear h h_1
        have h := h_2
        try rw [callW_eq] at h
        exact WW.le (a := [some (.inr (.inr (16, 0))), some (.inl a1), some (.inl a2), some (.inl a3), some (.inl a4), some (.inl v5), none, none]) (by rw [hn]; rfl) (show _ = _ ∧ _ = _ ∧ _ = _ ∧ _ = _ ∧ _ = _ ∧ _ = _ ∧ True from ⟨e0, e1, e2, e3, e4, e5, trivial⟩) (h70 v5 w h)
      rw [if_neg hj] at h
      cases h
    · exact (show _ = _ ∧ _ = _ ∧ _ = _ ∧ _ = _ ∧ _ = _ ∧ True from ⟨rfl, rfl, rfl, rfl, rfl, trivial⟩)
set_option maxRecDepth 100000 in
set_option maxHeartbeats 4000000 in
theorem sX12_goesOn_11 {N : Nat} {X : XT} (G : GX X cX12_goesOn RX12) (hn : xnL X = 8) (hC : CRs X tX12_goesOn (oF [(mX12_isOf N)]) (oF []) (oF [])) {r : Int32 × Wd} (hr : RTZ X cX12_goesOn r) (a1 : Int32) (a2 : Int32) (a3 : Int32) (a4 : Int32) : ∀ (n : Nat) (v5 : Int32) (w : Wd), fX12_goesOn_11 N a1 a2 a3 a4 n v5 w = some r → WW X (pcAt tX12_goesOn 11) [some (.inr (.inr (16, 0))), some (.inl a1), some (.inl a2), some (.inl a3), some (.inl a4), some (.inl v5), none, none] [] w := by
  intro n
  induction n with
  | zero => intro v5 w h; cases h
  | succ n ih =>
    intro v5 w h
    refine run_sound (r := r) (X := X) (cc := cX12_goesOn) (own := RX12) (tab := tX12_goesOn) G (by rw [hn]; exact kX12_goesOn) (oI := (oF [(mX12_isOf N)])) (oL := (oF [])) (oV := (oF [])) (rI := retZ) (rL := (fun _ _ => none)) (rV := (fun _ => none))
      (K := (fun j ls st w => if j = 44 then (lgI ls 5 fun v5 => lgI ls 6 fun v6 => lgI ls 7 fun v7 => st0 st (callW (fX12_goesOn_44 N a1 a2 a3 a4 N (fX12_goesOn_70 N a1 a2 a3 a4 (fX12_goesOn_11 N a1 a2 a3 a4 n)) v5 v6 v7) w)) else if j = 70 then (lgI ls 5 fun v5 => st0 st (callW (fX12_goesOn_70 N a1 a2 a3 a4 (fX12_goesOn_11 N a1 a2 a3 a4 n) v5) w)) else none)) hr (fun _ _ _ _ hx => by cases hx) (fun _ _ _ hx => by cases hx) hC (fun ls => lsb [some (.inr (.inr (16, 0))), some (.inl a1), some (.inl a2), some (.inl a3), some (.inl a4), none, none, none] 0 ls) (keepsP_of rfl) ?_ 76 11 [some (.inr (.inr (16, 0))), some (.inl a1), some (.inl a2), some (.inl a3), some (.inl a4), some (.inl v5), none, none] [] w ?_ h
    · intro j ls st w hfx h
      obtain ⟨e0, e1, e2, e3, e4, -⟩ : _ = _ ∧ _ = _ ∧ _ = _ ∧ _ = _ ∧ _ = _ ∧ True := hfx
      try dsimp only at h
      by_cases hj : j = 44
      · subst hj
        rw [if_pos rfl] at h
        obtain ⟨v5, e5, h_1⟩ := lgI_some h
        obtain ⟨v6, e6, h_2⟩ := lgI_some h_1
        obtain ⟨v7, e7, h_3⟩ := lgI_some h_2
        obtain ⟨rfl, h_4⟩ := st0_some h_3
        clear h h_1 h_2 h_3
        have h := h_4
        try rw [callW_eq] at h
        exact WW.le (a := [some (.inr (.inr (16, 0))), some (.inl a1), some (.inl a2), some (.inl a3), some (.inl a4), some (.inl v5), some (.inl v6), some (.inl v7)]) (by rw [hn]; rfl) (show _ = _ ∧ _ = _ ∧ _ = _ ∧ _ = _ ∧ _ = _ ∧ _ = _ ∧ _ = _ ∧ _ = _ ∧ True from ⟨e0, e1, e2, e3, e4, e5, e6, e7, trivial⟩) (sX12_goesOn_44 G hn hC hr a1 a2 a3 a4 N (fX12_goesOn_70 N a1 a2 a3 a4 (fX12_goesOn_11 N a1 a2 a3 a4 n)) v5 v6 v7 w h (fun v5 w h => (sX12_goesOn_70 G hn hC hr a1 a2 a3 a4 (fX12_goesOn_11 N a1 a2 a3 a4 n) v5 w h (fun v5 w h => (ih v5 w h)))))
      rw [if_neg hj] at h
      by_cases hj : j = 70
      · subst hj
        rw [if_pos rfl] at h
        obtain ⟨v5, e5, h_1⟩ := lgI_some h
        obtain ⟨rfl, h_2⟩ := st0_some h_1
        clear h h_1
        have h := h_2
        try rw [callW_eq] at h
        exact WW.le (a := [some (.inr (.inr (16, 0))), some (.inl a1), some (.inl a2), some (.inl a3), some (.inl a4), some (.inl v5), none, none]) (by rw [hn]; rfl) (show _ = _ ∧ _ = _ ∧ _ = _ ∧ _ = _ ∧ _ = _ ∧ _ = _ ∧ True from ⟨e0, e1, e2, e3, e4, e5, trivial⟩) (sX12_goesOn_70 G hn hC hr a1 a2 a3 a4 (fX12_goesOn_11 N a1 a2 a3 a4 n) v5 w h (fun v5 w h => (ih v5 w h)))
      rw [if_neg hj] at h
      cases h
    · exact (show _ = _ ∧ _ = _ ∧ _ = _ ∧ _ = _ ∧ _ = _ ∧ True from ⟨rfl, rfl, rfl, rfl, rfl, trivial⟩)
set_option maxRecDepth 100000 in
set_option maxHeartbeats 4000000 in
theorem crX12_goesOn {N : Nat} {X : XT} (G : GX X cX12_goesOn RX12) (hR : xR X = rmL 2) : CRs X tX12_goesOn (oF [(mX12_isOf N)]) (oF []) (oF []) := by
  have hl : tX12_goesOn.filter isInv = [(7, .invokestatic 341, 0, 0, 2, 0, 0, [])] := rfl
  intro e he
  rw [hl] at he
  simp only [List.mem_cons, List.not_mem_nil, or_false] at he
  rcases he with rfl
  · exact crI_S (idx := 341) G (by decide +kernel) (MX12_isOf N) (cw_of (ps := [1589, 1590, 164, 1591]) (by decide +kernel) (by decide +kernel)) ⟨by decide +kernel, by decide +kernel, by decide +kernel⟩ (by unfold rmOk; rw [hR]; exact ⟨by decide, by decide⟩)
set_option maxRecDepth 100000 in
set_option maxHeartbeats 4000000 in
theorem MX12_goesOn (N : Nat) : SndI yX12_goesOn cX12_goesOn 8 (some .boolean) 2 5 true (mX12_goesOn N) := by
  refine SndI.ofZ tX12_goesOn (by decide +kernel) rfl rfl ?_ ?_
  · intro as w x h
    obtain ⟨t1, rfl, h_1⟩ := xS1_some h
    obtain ⟨a1, t2, rfl, h_2⟩ := xI1_some h_1
    obtain ⟨a2, t3, rfl, h_3⟩ := xI1_some h_2
    obtain ⟨a3, t4, rfl, h_4⟩ := xI1_some h_3
    obtain ⟨a4, t5, rfl, h_5⟩ := xI1_some h_4
    obtain ⟨rfl, h_6⟩ := xN1_some h_5
    clear h h_1 h_2 h_3 h_4 h_5
    have h := h_6
    rw [callW_eq] at h
    exact ⟨fun _ => ⟨_, _, _, rfl, rfl, _, rfl, rfl⟩, rfl, Nat.le_of_ble_eq_true rfl⟩
  · intro X G hn hR as w r h hr
    have hC := crX12_goesOn (N := N) G hR
    obtain ⟨t1, rfl, h_1⟩ := xS1_some h
    obtain ⟨a1, t2, rfl, h_2⟩ := xI1_some h_1
    obtain ⟨a2, t3, rfl, h_3⟩ := xI1_some h_2
    obtain ⟨a3, t4, rfl, h_4⟩ := xI1_some h_3
    obtain ⟨a4, t5, rfl, h_5⟩ := xI1_some h_4
    obtain ⟨rfl, h_6⟩ := xN1_some h_5
    clear h h_1 h_2 h_3 h_4 h_5
    have h := h_6
    rw [callW_eq] at h
    refine run_sound (r := r) (X := X) (cc := cX12_goesOn) (own := RX12) (tab := tX12_goesOn) G (by rw [hn]; exact kX12_goesOn) (oI := (oF [(mX12_isOf N)])) (oL := (oF [])) (oV := (oF [])) (rI := retZ) (rL := (fun _ _ => none)) (rV := (fun _ => none))
      (K := (fun j ls st w => if j = 11 then (lgI ls 5 fun v5 => st0 st (callW (fX12_goesOn_11 N a1 a2 a3 a4 N v5) w)) else none)) hr (fun _ _ _ _ hx => by cases hx) (fun _ _ _ hx => by cases hx) hC (fun ls => lsb [some (.inr (.inr (16, 0))), some (.inl a1), some (.inl a2), some (.inl a3), some (.inl a4), none, none, none] 0 ls) (keepsP_of rfl) ?_ 76 0 [some (.inr (.inr (16, 0))), some (.inl a1), some (.inl a2), some (.inl a3), some (.inl a4), none, none, none] [] w ?_ h
    · intro j ls st w hfx h
      obtain ⟨e0, e1, e2, e3, e4, -⟩ : _ = _ ∧ _ = _ ∧ _ = _ ∧ _ = _ ∧ _ = _ ∧ True := hfx
      try dsimp only at h
      by_cases hj : j = 11
      · subst hj
        rw [if_pos rfl] at h
        obtain ⟨v5, e5, h_1⟩ := lgI_some h
        obtain ⟨rfl, h_2⟩ := st0_some h_1
        clear h h_1
        have h := h_2
        try rw [callW_eq] at h
        exact WW.le (a := [some (.inr (.inr (16, 0))), some (.inl a1), some (.inl a2), some (.inl a3), some (.inl a4), some (.inl v5), none, none]) (by rw [hn]; rfl) (show _ = _ ∧ _ = _ ∧ _ = _ ∧ _ = _ ∧ _ = _ ∧ _ = _ ∧ True from ⟨e0, e1, e2, e3, e4, e5, trivial⟩) (sX12_goesOn_11 G hn hC hr a1 a2 a3 a4 N v5 w h)
      rw [if_neg hj] at h
      cases h
    · exact (show _ = _ ∧ _ = _ ∧ _ = _ ∧ _ = _ ∧ _ = _ ∧ True from ⟨rfl, rfl, rfl, rfl, rfl, trivial⟩)
-- MoorGuidesModel.laySpent(I)V
def tX12_laySpent : List EN := [
  (0, .iconst 0, 0, 0, 0, 0, 0, []), (1, .istore_n 2, 0, 0, 0, 0, 0, []), (2, .iload_n 2, 3, 0, 0, 0, 0, []), (3, .bipush 7, 0, 0, 0, 7, 0, []),
  (5, .if_icmp .ge 87, 0, 49, 0, 0, 0, []), (8, .bipush 99, 0, 0, 0, 99, 0, []), (10, .istore_n 3, 0, 0, 0, 0, 0, []), (11, .iconst 0, 0, 0, 0, 0, 0, []),
  (12, .istore 4, 0, 0, 0, 0, 0, []), (14, .iload 4, 10, 0, 0, 0, 0, []), (16, .bipush 7, 0, 0, 0, 7, 0, []), (18, .if_icmp .ge 43, 0, 33, 0, 0, 0, []),
  (21, .aload_n 0, 0, 0, 0, 0, 0, []), (22, .getfield 145, 0, 12, 84, 0, 0, []), (25, .iload 4, 0, 0, 0, 0, 0, []), (27, .iaload, 0, 0, 0, 0, 0, []),
  (28, .iload 4, 0, 0, 0, 0, 0, []), (30, .iload_n 2, 0, 0, 0, 0, 0, []), (31, .if_icmp .ne 7, 0, 21, 0, 0, 0, []), (34, .iconst 0, 0, 0, 0, 0, 0, []),
  (35, .goto 4, 0, 22, 0, 0, 0, []), (38, .iconst 1, 0, 0, 0, 1, 0, []), (39, .iadd, 23, 0, 0, 0, 0, []), (40, .istore 5, 0, 0, 0, 0, 0, []),
  (42, .iload 5, 0, 0, 0, 0, 0, []), (44, .iload_n 3, 0, 0, 0, 0, 0, []), (45, .if_icmp .ge 8, 0, 29, 0, 0, 0, []), (48, .iload 5, 0, 0, 0, 0, 0, []),
  (50, .goto 4, 0, 30, 0, 0, 0, []), (53, .iload_n 3, 0, 0, 0, 0, 0, []), (54, .istore_n 3, 0, 0, 0, 0, 0, []), (55, .iinc 4 1, 0, 0, 0, 1, 0, []),
  (58, .goto (-44), 0, 9, 0, 0, 0, []), (61, .aload_n 0, 34, 0, 0, 0, 0, []), (62, .getfield 148, 0, 12, 85, 0, 0, []), (65, .iload_n 2, 0, 0, 0, 0, 0, []),
  (66, .aload_n 0, 0, 0, 0, 0, 0, []), (67, .getfield 130, 0, 12, 77, 0, 0, []), (70, .iload_n 2, 0, 0, 0, 0, 0, []), (71, .iaload, 0, 0, 0, 0, 0, []),
  (72, .iload_n 1, 0, 0, 0, 0, 0, []), (73, .invokestatic 341, 0, 0, 2, 0, 0, []), (76, .ifCond .eq 7, 0, 45, 0, 0, 0, []), (79, .iload_n 3, 0, 0, 0, 0, 0, []),
  (80, .goto 5, 0, 46, 0, 0, 0, []), (83, .bipush 99, 0, 0, 0, 99, 0, []), (85, .iastore, 0, 0, 0, 0, 0, []), (86, .iinc 2 1, 0, 0, 0, 1, 0, []),
  (89, .goto (-87), 0, 2, 0, 0, 0, []), (92, .iconst 0, 50, 0, 0, 0, 0, []), (93, .istore_n 2, 0, 0, 0, 0, 0, []), (94, .iload_n 2, 52, 0, 0, 0, 0, []),
  (95, .bipush 7, 0, 0, 0, 7, 0, []), (97, .if_icmp .ge 21, 0, 64, 0, 0, 0, []), (100, .aload_n 0, 0, 0, 0, 0, 0, []), (101, .getfield 145, 0, 12, 84, 0, 0, []),
  (104, .iload_n 2, 0, 0, 0, 0, 0, []), (105, .aload_n 0, 0, 0, 0, 0, 0, []), (106, .getfield 148, 0, 12, 85, 0, 0, []), (109, .iload_n 2, 0, 0, 0, 0, 0, []),
  (110, .iaload, 0, 0, 0, 0, 0, []), (111, .iastore, 0, 0, 0, 0, 0, []), (112, .iinc 2 1, 0, 0, 0, 1, 0, []), (115, .goto (-21), 0, 51, 0, 0, 0, []),
  (118, .return_, 0, 0, 0, 0, 0, [])]
noncomputable def fX12_laySpent_51 (N : Nat) : Nat → Int32 → Wd → Option (Wd)
  | 0, _, _ => none
  | n + 1, v2, w =>
    if v2 < (7 : Int32) then
      (ldI w 117 0 v2 7).bind fun x1 =>
      (stI w 116 0 v2 7 x1).bind fun w2 =>
      callW (fX12_laySpent_51 N n (v2 + (1 : Int32))) w2
    else
    some w
noncomputable def fX12_laySpent_49 (N : Nat) (w : Wd) : Option (Wd) :=
  callW (fX12_laySpent_51 N N (0 : Int32)) w
noncomputable def fX12_laySpent_33 (N : Nat) (a1 : Int32) (k2 : Int32 → Wd → Option (Wd)) (v2 : Int32) (v3 : Int32) (w : Wd) : Option (Wd) :=
  (ldI w 111 0 v2 7).bind fun x1 =>
  (callW (pX12_isOf N x1 a1) w).bind fun r2 =>
  if r2.1 = 0 then
    (stI r2.2 117 0 v2 7 (99 : Int32)).bind fun w3 =>
    k2 (v2 + (1 : Int32)) w3
  else
  (stI r2.2 117 0 v2 7 v3).bind fun w4 =>
  k2 (v2 + (1 : Int32)) w4
noncomputable def fX12_laySpent_22 (N : Nat) (a1 : Int32) (k9 : Int32 → Int32 → Int32 → Wd → Option (Wd)) (v2 : Int32) (v3 : Int32) (v4 : Int32) (s0 : Int32) (s1 : Int32) (w : Wd) : Option (Wd) :=
  if (s1 + s0) < v3 then k9 v2 (s1 + s0) (v4 + (1 : Int32)) w else
  k9 v2 v3 (v4 + (1 : Int32)) w
noncomputable def fX12_laySpent_9 (N : Nat) (a1 : Int32) : Nat → (Int32 → Int32 → Wd → Option (Wd)) → Int32 → Int32 → Int32 → Wd → Option (Wd)
  | 0, _, _, _, _, _ => none
  | n + 1, k33, v2, v3, v4, w =>
    if v4 < (7 : Int32) then
      (ldI w 116 0 v4 7).bind fun x1 =>
      if v4 = v2 then callW (fX12_laySpent_22 N a1 (fX12_laySpent_9 N a1 n k33) v2 v3 v4 (0 : Int32) x1) w else
      callW (fX12_laySpent_22 N a1 (fX12_laySpent_9 N a1 n k33) v2 v3 v4 (1 : Int32) x1) w
    else
    k33 v2 v3 w
noncomputable def fX12_laySpent_2 (N : Nat) (a1 : Int32) : Nat → (Wd → Option (Wd)) → Int32 → Wd → Option (Wd)
  | 0, _, _, _ => none
  | n + 1, k49, v2, w =>
    if v2 < (7 : Int32) then
      callW (fX12_laySpent_9 N a1 N (fX12_laySpent_33 N a1 (fX12_laySpent_2 N a1 n k49)) v2 (99 : Int32) (0 : Int32)) w
    else
    k49 w
noncomputable def pX12_laySpent (N : Nat) (a1 : Int32) (w : Wd) : Option (Wd) :=
  callW (fX12_laySpent_2 N a1 N (fX12_laySpent_49 N) (0 : Int32)) w
noncomputable def mX12_laySpent (N : Nat) (as : List AV) (w : Wd) : Option (Wd) := xS1 16 as fun t => xI1 t fun a1 t => xN1 t (callW (pX12_laySpent N a1) w)
set_option maxRecDepth 100000 in
set_option maxHeartbeats 4000000 in
theorem kX12_laySpent : TK cX12_laySpent RX12 6 tX12_laySpent := ⟨by decide +kernel, wok_of [1684, 1685, 1677, 1684, 1685] (by decide +kernel) (by decide +kernel)⟩
set_option maxRecDepth 100000 in
set_option maxHeartbeats 4000000 in
theorem sX12_laySpent_51 {N : Nat} {X : XT} (G : GX X cX12_laySpent RX12) (hn : xnL X = 6) (hC : CRs X tX12_laySpent (oF [(mX12_isOf N)]) (oF []) (oF [])) {r : Wd} (hr : RTV X cX12_laySpent r) (a1 : Int32) : ∀ (n : Nat) (v2 : Int32) (w : Wd), fX12_laySpent_51 N n v2 w = some r → WW X (pcAt tX12_laySpent 51) [some (.inr (.inr (16, 0))), some (.inl a1), some (.inl v2), none, none, none] [] w := by
  intro n
  induction n with
  | zero => intro v2 w h; cases h
  | succ n ih =>
    intro v2 w h
    refine run_sound (r := r) (X := X) (cc := cX12_laySpent) (own := RX12) (tab := tX12_laySpent) G (by rw [hn]; exact kX12_laySpent) (oI := (oF [(mX12_isOf N)])) (oL := (oF [])) (oV := (oF [])) (rI := (fun _ _ => none)) (rL := (fun _ _ => none)) (rV := (fun w => some w))
      (K := (fun j ls st w => if j = 51 then (lgI ls 2 fun v2 => st0 st (callW (fX12_laySpent_51 N n v2) w)) else none)) (fun _ _ _ _ hx => by cases hx) (fun _ _ _ _ hx => by cases hx) (fun w pc ls hx hd => hr w pc ls (Option.some.inj hx) hd) hC (fun ls => lsb [some (.inr (.inr (16, 0))), some (.inl a1), none, none, none, none] 0 ls) (keepsP_of rfl) ?_ 67 51 [some (.inr (.inr (16, 0))), some (.inl a1), some (.inl v2), none, none, none] [] w ?_ h
    · intro j ls st w hfx h
      obtain ⟨e0, e1, -⟩ : _ = _ ∧ _ = _ ∧ True := hfx
      try dsimp only at h
      by_cases hj : j = 51
      · subst hj
        rw [if_pos rfl] at h
        obtain ⟨v2, e2, h_1⟩ := lgI_some h
        obtain ⟨rfl, h_2⟩ := st0_some h_1
        clear h h_1
        have h := h_2
        try rw [callW_eq] at h
        exact WW.le (a := [some (.inr (.inr (16, 0))), some (.inl a1), some (.inl v2), none, none, none]) (by rw [hn]; rfl) (show _ = _ ∧ _ = _ ∧ _ = _ ∧ True from ⟨e0, e1, e2, trivial⟩) (ih v2 w h)
      rw [if_neg hj] at h
      cases h
    · exact (show _ = _ ∧ _ = _ ∧ True from ⟨rfl, rfl, trivial⟩)
set_option maxRecDepth 100000 in
set_option maxHeartbeats 4000000 in
theorem sX12_laySpent_49 {N : Nat} {X : XT} (G : GX X cX12_laySpent RX12) (hn : xnL X = 6) (hC : CRs X tX12_laySpent (oF [(mX12_isOf N)]) (oF []) (oF [])) {r : Wd} (hr : RTV X cX12_laySpent r) (a1 : Int32) : ∀ (w : Wd), fX12_laySpent_49 N w = some r → WW X (pcAt tX12_laySpent 49) [some (.inr (.inr (16, 0))), some (.inl a1), none, none, none, none] [] w := by
  intro w h
  refine run_sound (r := r) (X := X) (cc := cX12_laySpent) (own := RX12) (tab := tX12_laySpent) G (by rw [hn]; exact kX12_laySpent) (oI := (oF [(mX12_isOf N)])) (oL := (oF [])) (oV := (oF [])) (rI := (fun _ _ => none)) (rL := (fun _ _ => none)) (rV := (fun w => some w))
    (K := (fun j ls st w => if j = 51 then (lgI ls 2 fun v2 => st0 st (callW (fX12_laySpent_51 N N v2) w)) else none)) (fun _ _ _ _ hx => by cases hx) (fun _ _ _ _ hx => by cases hx) (fun w pc ls hx hd => hr w pc ls (Option.some.inj hx) hd) hC (fun ls => lsb [some (.inr (.inr (16, 0))), some (.inl a1), none, none, none, none] 0 ls) (keepsP_of rfl) ?_ 67 49 [some (.inr (.inr (16, 0))), some (.inl a1), none, none, none, none] [] w ?_ h
  · intro j ls st w hfx h
    obtain ⟨e0, e1, -⟩ : _ = _ ∧ _ = _ ∧ True := hfx
    try dsimp only at h
    by_cases hj : j = 51
    · subst hj
      rw [if_pos rfl] at h
      obtain ⟨v2, e2, h_1⟩ := lgI_some h
      obtain ⟨rfl, h_2⟩ := st0_some h_1
      clear h h_1
      have h := h_2
      try rw [callW_eq] at h
      exact WW.le (a := [some (.inr (.inr (16, 0))), some (.inl a1), some (.inl v2), none, none, none]) (by rw [hn]; rfl) (show _ = _ ∧ _ = _ ∧ _ = _ ∧ True from ⟨e0, e1, e2, trivial⟩) (sX12_laySpent_51 G hn hC hr a1 N v2 w h)
    rw [if_neg hj] at h
    cases h
  · exact (show _ = _ ∧ _ = _ ∧ True from ⟨rfl, rfl, trivial⟩)
set_option maxRecDepth 100000 in
set_option maxHeartbeats 4000000 in
theorem sX12_laySpent_33 {N : Nat} {X : XT} (G : GX X cX12_laySpent RX12) (hn : xnL X = 6) (hC : CRs X tX12_laySpent (oF [(mX12_isOf N)]) (oF []) (oF [])) {r : Wd} (hr : RTV X cX12_laySpent r) (a1 : Int32) : ∀ (k2 : Int32 → Wd → Option (Wd)) (v2 : Int32) (v3 : Int32) (w : Wd), fX12_laySpent_33 N a1 k2 v2 v3 w = some r → (∀ (v2 : Int32) (w : Wd), k2 v2 w = some r → WW X (pcAt tX12_laySpent 2) [some (.inr (.inr (16, 0))), some (.inl a1), some (.inl v2), none, none, none] [] w) → WW X (pcAt tX12_laySpent 33) [some (.inr (.inr (16, 0))), some (.inl a1), some (.inl v2), some (.inl v3), none, none] [] w := by
  intro k2 v2 v3 w h h2
  refine run_sound (r := r) (X := X) (cc := cX12_laySpent) (own := RX12) (tab := tX12_laySpent) G (by rw [hn]; exact kX12_laySpent) (oI := (oF [(mX12_isOf N)])) (oL := (oF [])) (oV := (oF [])) (rI := (fun _ _ => none)) (rL := (fun _ _ => none)) (rV := (fun w => some w))
    (K := (fun j ls st w => if j = 2 then (lgI ls 2 fun v2 => st0 st (k2 v2 w)) else none)) (fun _ _ _ _ hx => by cases hx) (fun _ _ _ _ hx => by cases hx) (fun w pc ls hx hd => hr w pc ls (Option.some.inj hx) hd) hC (fun ls => lsb [some (.inr (.inr (16, 0))), some (.inl a1), none, none, none, none] 0 ls) (keepsP_of rfl) ?_ 67 33 [some (.inr (.inr (16, 0))), some (.inl a1), some (.inl v2), some (.inl v3), none, none] [] w ?_ h
  · intro j ls st w hfx h
    obtain ⟨e0, e1, -⟩ : _ = _ ∧ _ = _ ∧ True := hfx
    try dsimp only at h
    by_cases hj : j = 2
    · subst hj
      rw [if_pos rfl] at h
      obtain ⟨v2, e2, h_1⟩ := lgI_some h
      obtain ⟨rfl, h_2⟩ := st0_some h_1
      clear h h_1
      have h := h_2
      try rw [callW_eq] at h
      exact WW.le (a := [some (.inr (.inr (16, 0))), some (.inl a1), some (.inl v2), none, none, none]) (by rw [hn]; rfl) (show _ = _ ∧ _ = _ ∧ _ = _ ∧ True from ⟨e0, e1, e2, trivial⟩) (h2 v2 w h)
    rw [if_neg hj] at h
    cases h
  · exact (show _ = _ ∧ _ = _ ∧ True from ⟨rfl, rfl, trivial⟩)
set_option maxRecDepth 100000 in
set_option maxHeartbeats 4000000 in
theorem sX12_laySpent_22 {N : Nat} {X : XT} (G : GX X cX12_laySpent RX12) (hn : xnL X = 6) (hC : CRs X tX12_laySpent (oF [(mX12_isOf N)]) (oF []) (oF [])) {r : Wd} (hr : RTV X cX12_laySpent r) (a1 : Int32) : ∀ (k9 : Int32 → Int32 → Int32 → Wd → Option (Wd)) (v2 : Int32) (v3 : Int32) (v4 : Int32) (s0 : Int32) (s1 : Int32) (w : Wd), fX12_laySpent_22 N a1 k9 v2 v3 v4 s0 s1 w = some r → (∀ (v2 : Int32) (v3 : Int32) (v4 : Int32) (w : Wd), k9 v2 v3 v4 w = some r → WW X (pcAt tX12_laySpent 9) [some (.inr (.inr (16, 0))), some (.inl a1), some (.inl v2), some (.inl v3), some (.inl v4), none] [] w) → WW X (pcAt tX12_laySpent 22) [some (.inr (.inr (16, 0))), some (.inl a1), some (.inl v2), some (.inl v3), some (.inl v4), none] [.inl s0, .inl s1] w := by
  intro k9 v2 v3 v4 s0 s1 w h h9
  refine run_sound (r := r) (X := X) (cc := cX12_laySpent) (own := RX12) (tab := tX12_laySpent) G (by rw [hn]; exact kX12_laySpent) (oI := (oF [(mX12_isOf N)])) (oL := (oF [])) (oV := (oF [])) (rI := (fun _ _ => none)) (rL := (fun _ _ => none)) (rV := (fun w => some w))
    (K := (fun j ls st w => if j = 9 then (lgI ls 2 fun v2 => lgI ls 3 fun v3 => lgI ls 4 fun v4 => st0 st (k9 v2 v3 v4 w)) else none)) (fun _ _ _ _ hx => by cases hx) (fun _ _ _ _ hx => by cases hx) (fun w pc ls hx hd => hr w pc ls (Option.some.inj hx) hd) hC (fun ls => lsb [some (.inr (.inr (16, 0))), some (.inl a1), none, none, none, none] 0 ls) (keepsP_of rfl) ?_ 67 22 [some (.inr (.inr (16, 0))), some (.inl a1), some (.inl v2), some (.inl v3), some (.inl v4), none] [.inl s0, .inl s1] w ?_ h
  · intro j ls st w hfx h
    obtain ⟨e0, e1, -⟩ : _ = _ ∧ _ = _ ∧ True := hfx
    try dsimp only at h
    by_cases hj : j = 9
    · subst hj
      rw [if_pos rfl] at h
      obtain ⟨v2, e2, h_1⟩ := lgI_some h
      obtain ⟨v3, e3, h_2⟩ := lgI_some h_1
      obtain ⟨v4, e4, h_3⟩ := lgI_some h_2
      obtain ⟨rfl, h_4⟩ := st0_some h_3
      clear h h_1 h_2 h_3
      have h := h_4
      try rw [callW_eq] at h
      exact WW.le (a := [some (.inr (.inr (16, 0))), some (.inl a1), some (.inl v2), some (.inl v3), some (.inl v4), none]) (by rw [hn]; rfl) (show _ = _ ∧ _ = _ ∧ _ = _ ∧ _ = _ ∧ _ = _ ∧ True from ⟨e0, e1, e2, e3, e4, trivial⟩) (h9 v2 v3 v4 w h)
    rw [if_neg hj] at h
    cases h
  · exact (show _ = _ ∧ _ = _ ∧ True from ⟨rfl, rfl, trivial⟩)
set_option maxRecDepth 100000 in
set_option maxHeartbeats 4000000 in
theorem sX12_laySpent_9 {N : Nat} {X : XT} (G : GX X cX12_laySpent RX12) (hn : xnL X = 6) (hC : CRs X tX12_laySpent (oF [(mX12_isOf N)]) (oF []) (oF [])) {r : Wd} (hr : RTV X cX12_laySpent r) (a1 : Int32) : ∀ (n : Nat) (k33 : Int32 → Int32 → Wd → Option (Wd)) (v2 : Int32) (v3 : Int32) (v4 : Int32) (w : Wd), fX12_laySpent_9 N a1 n k33 v2 v3 v4 w = some r → (∀ (v2 : Int32) (v3 : Int32) (w : Wd), k33 v2 v3 w = some r → WW X (pcAt tX12_laySpent 33) [some (.inr (.inr (16, 0))), some (.inl a1), some (.inl v2), some (.inl v3), none, none] [] w) → WW X (pcAt tX12_laySpent 9) [some (.inr (.inr (16, 0))), some (.inl a1), some (.inl v2), some (.inl v3), some (.inl v4), none] [] w := by
  intro n
  induction n with
  | zero => intro k33 v2 v3 v4 w h h33; cases h
  | succ n ih =>
    intro k33 v2 v3 v4 w h h33
    refine run_sound (r := r) (X := X) (cc := cX12_laySpent) (own := RX12) (tab := tX12_laySpent) G (by rw [hn]; exact kX12_laySpent) (oI := (oF [(mX12_isOf N)])) (oL := (oF [])) (oV := (oF [])) (rI := (fun _ _ => none)) (rL := (fun _ _ => none)) (rV := (fun w => some w))
      (K := (fun j ls st w => if j = 22 then (lgI ls 2 fun v2 => lgI ls 3 fun v3 => lgI ls 4 fun v4 => po1 st fun s0 st => po1 st fun s1 st => st0 st (callW (fX12_laySpent_22 N a1 (fX12_laySpent_9 N a1 n k33) v2 v3 v4 s0 s1) w)) else if j = 33 then (lgI ls 2 fun v2 => lgI ls 3 fun v3 => st0 st (k33 v2 v3 w)) else none)) (fun _ _ _ _ hx => by cases hx) (fun _ _ _ _ hx => by cases hx) (fun w pc ls hx hd => hr w pc ls (Option.some.inj hx) hd) hC (fun ls => lsb [some (.inr (.inr (16, 0))), some (.inl a1), none, none, none, none] 0 ls) (keepsP_of rfl) ?_ 67 9 [some (.inr (.inr (16, 0))), some (.inl a1), some (.inl v2), some (.inl v3), some (.inl v4), none] [] w ?_ h
    · intro j ls st w hfx h
      obtain ⟨e0, e1, -⟩ : _ = _ ∧ _ = _ ∧ True := hfx
      try dsimp only at h
      by_cases hj : j = 22
      · subst hj
        rw [if_pos rfl] at h
        obtain ⟨v2, e2, h_1⟩ := lgI_some h
        obtain ⟨v3, e3, h_2⟩ := lgI_some h_1
        obtain ⟨v4, e4, h_3⟩ := lgI_some h_2
        obtain ⟨s0, st0, rfl, h_4⟩ := po1_some h_3
        obtain ⟨s1, st1, rfl, h_5⟩ := po1_some h_4
        obtain ⟨rfl, h_6⟩ := st0_some h_5
        clear h h_1 h_2 h_3 h_4 h_5
        have h := h_6
        try rw [callW_eq] at h
        exact WW.le (a := [some (.inr (.inr (16, 0))), some (.inl a1), some (.inl v2), some (.inl v3), some (.inl v4), none]) (by rw [hn]; rfl) (show _ = _ ∧ _ = _ ∧ _ = _ ∧ _ = _ ∧ _ = _ ∧ True from ⟨e0, e1, e2, e3, e4, trivial⟩) (sX12_laySpent_22 G hn hC hr a1 (fX12_laySpent_9 N a1 n k33) v2 v3 v4 s0 s1 w h (fun v2 v3 v4 w h => (ih k33 v2 v3 v4 w h h33)))
      rw [if_neg hj] at h
      by_cases hj : j = 33
      · subst hj
        rw [if_pos rfl] at h
        obtain ⟨v2, e2, h_1⟩ := lgI_some h
        obtain ⟨v3, e3, h_2⟩ := lgI_some h_1
        obtain ⟨rfl, h_3⟩ := st0_some h_2
        clear h h_1 h_2
        have h := h_3
        try rw [callW_eq] at h
        exact WW.le (a := [some (.inr (.inr (16, 0))), some (.inl a1), some (.inl v2), some (.inl v3), none, none]) (by rw [hn]; rfl) (show _ = _ ∧ _ = _ ∧ _ = _ ∧ _ = _ ∧ True from ⟨e0, e1, e2, e3, trivial⟩) (h33 v2 v3 w h)
      rw [if_neg hj] at h
      cases h
    · exact (show _ = _ ∧ _ = _ ∧ True from ⟨rfl, rfl, trivial⟩)
set_option maxRecDepth 100000 in
set_option maxHeartbeats 4000000 in
theorem sX12_laySpent_2 {N : Nat} {X : XT} (G : GX X cX12_laySpent RX12) (hn : xnL X = 6) (hC : CRs X tX12_laySpent (oF [(mX12_isOf N)]) (oF []) (oF [])) {r : Wd} (hr : RTV X cX12_laySpent r) (a1 : Int32) : ∀ (n : Nat) (k49 : Wd → Option (Wd)) (v2 : Int32) (w : Wd), fX12_laySpent_2 N a1 n k49 v2 w = some r → (∀ (w : Wd), k49 w = some r → WW X (pcAt tX12_laySpent 49) [some (.inr (.inr (16, 0))), some (.inl a1), none, none, none, none] [] w) → WW X (pcAt tX12_laySpent 2) [some (.inr (.inr (16, 0))), some (.inl a1), some (.inl v2), none, none, none] [] w := by
  intro n
  induction n with
  | zero => intro k49 v2 w h h49; cases h
  | succ n ih =>
    intro k49 v2 w h h49
    refine run_sound (r := r) (X := X) (cc := cX12_laySpent) (own := RX12) (tab := tX12_laySpent) G (by rw [hn]; exact kX12_laySpent) (oI := (oF [(mX12_isOf N)])) (oL := (oF [])) (oV := (oF [])) (rI := (fun _ _ => none)) (rL := (fun _ _ => none)) (rV := (fun w => some w))
      (K := (fun j ls st w => if j = 9 then (lgI ls 2 fun v2 => lgI ls 3 fun v3 => lgI ls 4 fun v4 => st0 st (callW (fX12_laySpent_9 N a1 N (fX12_laySpent_33 N a1 (fX12_laySpent_2 N a1 n k49)) v2 v3 v4) w)) else if j = 49 then (st0 st (k49 w)) else none)) (fun _ _ _ _ hx => by cases hx) (fun _ _ _ _ hx => by cases hx) (fun w pc ls hx hd => hr w pc ls (Option.some.inj hx) hd) hC (fun ls => lsb [some (.inr (.inr (16, 0))), some (.inl a1), none, none, none, none] 0 ls) (keepsP_of rfl) ?_ 67 2 [some (.inr (.inr (16, 0))), some (.inl a1), some (.inl v2), none, none, none] [] w ?_ h
    · intro j ls st w hfx h
      obtain ⟨e0, e1, -⟩ : _ = _ ∧ _ = _ ∧ True := hfx
      try dsimp only at h
      by_cases hj : j = 9
      · subst hj
        rw [if_pos rfl] at h
        obtain ⟨v2, e2, h_1⟩ := lgI_some h
        obtain ⟨v3, e3, h_2⟩ := lgI_some h_1
        obtain ⟨v4, e4, h_3⟩ := lgI_some h_2
        obtain ⟨rfl, h_4⟩ := st0_some h_3
        clear h h_1 h_2 h_3
        have h := h_4
        try rw [callW_eq] at h
        exact WW.le (a := [some (.inr (.inr (16, 0))), some (.inl a1), some (.inl v2), some (.inl v3), some (.inl v4), none]) (by rw [hn]; rfl) (show _ = _ ∧ _ = _ ∧ _ = _ ∧ _ = _ ∧ _ = _ ∧ True from ⟨e0, e1, e2, e3, e4, trivial⟩) (sX12_laySpent_9 G hn hC hr a1 N (fX12_laySpent_33 N a1 (fX12_laySpent_2 N a1 n k49)) v2 v3 v4 w h (fun v2 v3 w h => (sX12_laySpent_33 G hn hC hr a1 (fX12_laySpent_2 N a1 n k49) v2 v3 w h (fun v2 w h => (ih k49 v2 w h h49)))))
      rw [if_neg hj] at h
      by_cases hj : j = 49
      · subst hj
        rw [if_pos rfl] at h
        obtain ⟨rfl, h_1⟩ := st0_some h
        clear h
        have h := h_1
        try rw [callW_eq] at h
        exact WW.le (a := [some (.inr (.inr (16, 0))), some (.inl a1), none, none, none, none]) (by rw [hn]; rfl) (show _ = _ ∧ _ = _ ∧ True from ⟨e0, e1, trivial⟩) (h49 w h)
      rw [if_neg hj] at h
      cases h
    · exact (show _ = _ ∧ _ = _ ∧ True from ⟨rfl, rfl, trivial⟩)
set_option maxRecDepth 100000 in
set_option maxHeartbeats 4000000 in
theorem crX12_laySpent {N : Nat} {X : XT} (G : GX X cX12_laySpent RX12) (hR : xR X = rmL 2) : CRs X tX12_laySpent (oF [(mX12_isOf N)]) (oF []) (oF []) := by
  have hl : tX12_laySpent.filter isInv = [(73, .invokestatic 341, 0, 0, 2, 0, 0, [])] := rfl
  intro e he
  rw [hl] at he
  simp only [List.mem_cons, List.not_mem_nil, or_false] at he
  rcases he with rfl
  · exact crI_S (idx := 341) G (by decide +kernel) (MX12_isOf N) (cw_of (ps := [1589, 1590, 164, 1591]) (by decide +kernel) (by decide +kernel)) ⟨by decide +kernel, by decide +kernel, by decide +kernel⟩ (by unfold rmOk; rw [hR]; exact ⟨by decide, by decide⟩)
set_option maxRecDepth 100000 in
set_option maxHeartbeats 4000000 in
theorem MX12_laySpent (N : Nat) : SndV yX12_laySpent cX12_laySpent 6 none 2 2 true (mX12_laySpent N) := by
  refine SndV.of tX12_laySpent (by decide +kernel) rfl rfl ?_ ?_
  · intro as w x h
    obtain ⟨t1, rfl, h_1⟩ := xS1_some h
    obtain ⟨a1, t2, rfl, h_2⟩ := xI1_some h_1
    obtain ⟨rfl, h_3⟩ := xN1_some h_2
    clear h h_1 h_2
    have h := h_3
    rw [callW_eq] at h
    exact ⟨fun _ => ⟨_, _, _, rfl, rfl, _, rfl, rfl⟩, rfl, Nat.le_of_ble_eq_true rfl⟩
  · intro X G hn hR as w r h hr
    have hC := crX12_laySpent (N := N) G hR
    obtain ⟨t1, rfl, h_1⟩ := xS1_some h
    obtain ⟨a1, t2, rfl, h_2⟩ := xI1_some h_1
    obtain ⟨rfl, h_3⟩ := xN1_some h_2
    clear h h_1 h_2
    have h := h_3
    rw [callW_eq] at h
    refine run_sound (r := r) (X := X) (cc := cX12_laySpent) (own := RX12) (tab := tX12_laySpent) G (by rw [hn]; exact kX12_laySpent) (oI := (oF [(mX12_isOf N)])) (oL := (oF [])) (oV := (oF [])) (rI := (fun _ _ => none)) (rL := (fun _ _ => none)) (rV := (fun w => some w))
      (K := (fun j ls st w => if j = 2 then (lgI ls 2 fun v2 => st0 st (callW (fX12_laySpent_2 N a1 N (fX12_laySpent_49 N) v2) w)) else none)) (fun _ _ _ _ hx => by cases hx) (fun _ _ _ _ hx => by cases hx) (fun w pc ls hx hd => hr w pc ls (Option.some.inj hx) hd) hC (fun ls => lsb [some (.inr (.inr (16, 0))), some (.inl a1), none, none, none, none] 0 ls) (keepsP_of rfl) ?_ 67 0 [some (.inr (.inr (16, 0))), some (.inl a1), none, none, none, none] [] w ?_ h
    · intro j ls st w hfx h
      obtain ⟨e0, e1, -⟩ : _ = _ ∧ _ = _ ∧ True := hfx
      try dsimp only at h
      by_cases hj : j = 2
      · subst hj
        rw [if_pos rfl] at h
        obtain ⟨v2, e2, h_1⟩ := lgI_some h
        obtain ⟨rfl, h_2⟩ := st0_some h_1
        clear h h_1
        have h := h_2
        try rw [callW_eq] at h
        exact WW.le (a := [some (.inr (.inr (16, 0))), some (.inl a1), some (.inl v2), none, none, none]) (by rw [hn]; rfl) (show _ = _ ∧ _ = _ ∧ _ = _ ∧ True from ⟨e0, e1, e2, trivial⟩) (sX12_laySpent_2 G hn hC hr a1 N (fX12_laySpent_49 N) v2 w h (fun w h => (sX12_laySpent_49 G hn hC hr a1 w h)))
      rw [if_neg hj] at h
      cases h
    · exact (show _ = _ ∧ _ = _ ∧ True from ⟨rfl, rfl, trivial⟩)

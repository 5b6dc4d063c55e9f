-- MoorGuidesModel.season(IIII)I
def tX12_season : List EN := [
  (0, .aload_n 0, 0, 0, 0, 0, 0, []), (1, .iconst 0, 0, 0, 0, 0, 0, []), (2, .putfield 196, 0, 12, 2, 0, 0, []), (5, .iload_n 1, 0, 0, 0, 0, 0, []),
  (6, .invokestatic 609, 0, 0, 1, 0, 0, []), (9, .ifCond .eq 27, 0, 18, 0, 0, 0, []), (12, .iload_n 2, 0, 0, 0, 0, 0, []), (13, .ifCond .lt 23, 0, 18, 0, 0, 0, []),
  (16, .iload_n 3, 0, 0, 0, 0, 0, []), (17, .iconst 1, 0, 0, 0, 1, 0, []), (18, .bipush 50, 0, 0, 0, 50, 0, []), (20, .invokestatic 241, 0, 1, 3, 0, 0, []),
  (23, .ifCond .eq 13, 0, 18, 0, 0, 0, []), (26, .iload 4, 0, 0, 0, 0, 0, []), (28, .iconst 0, 0, 0, 0, 0, 0, []), (29, .iconst 2, 0, 0, 0, 2, 0, []),
  (30, .invokestatic 241, 0, 1, 3, 0, 0, []), (33, .ifCond .ne 7, 0, 20, 0, 0, 0, []), (36, .ldc_w 615, 0, 0, 0, (-2147483648), 0, []), (39, .ireturn, 0, 0, 0, 0, 0, []),
  (40, .aload_n 0, 0, 0, 0, 0, 0, []), (41, .invokevirtual 579, 0, 0, 1, 0, 0, [(0, 0), (0, 0)]), (44, .aload_n 0, 0, 0, 0, 0, 0, []), (45, .getfield 115, 0, 12, 71, 0, 0, []),
  (48, .iconst 1, 0, 0, 0, 1, 0, []), (49, .iload_n 2, 0, 0, 0, 0, 0, []), (50, .i2l, 0, 0, 0, 0, 0, []), (51, .lastore, 0, 0, 0, 0, 0, []),
  (52, .iconst 0, 0, 0, 0, 0, 0, []), (53, .istore 5, 0, 0, 0, 0, 0, []), (55, .iconst 0, 0, 0, 0, 0, 0, []), (56, .istore 6, 0, 0, 0, 0, 0, []),
  (58, .aload_n 0, 0, 0, 0, 0, 0, []), (59, .getfield 438, 0, 12, 64, 0, 0, []), (62, .istore 7, 0, 0, 0, 0, 0, []), (64, .iload 7, 36, 0, 0, 0, 0, []),
  (66, .aload_n 0, 0, 0, 0, 0, 0, []), (67, .getfield 438, 0, 12, 64, 0, 0, []), (70, .iload_n 3, 0, 0, 0, 0, 0, []), (71, .iadd, 0, 0, 0, 0, 0, []),
  (72, .if_icmp .ge 126, 0, 104, 0, 0, 0, []), (75, .aload_n 0, 0, 0, 0, 0, 0, []), (76, .iconst 1, 0, 0, 0, 1, 0, []), (77, .iload 7, 0, 0, 0, 0, 0, []),
  (79, .iconst 0, 0, 0, 0, 0, 0, []), (80, .invokevirtual 549, 0, 1, 4, 0, 0, [(0, 0), (0, 0)]), (83, .iconst 0, 0, 0, 0, 0, 0, []), (84, .istore 8, 0, 0, 0, 0, 0, []),
  (86, .iload 8, 49, 0, 0, 0, 0, []), (88, .aload_n 0, 0, 0, 0, 0, 0, []), (89, .getfield 301, 0, 12, 14, 0, 0, []), (92, .if_icmp .ge 48, 0, 73, 0, 0, 0, []),
  (95, .aload_n 0, 0, 0, 0, 0, 0, []), (96, .getfield 53, 0, 12, 42, 0, 0, []), (99, .iload 8, 0, 0, 0, 0, 0, []), (101, .iaload, 0, 0, 0, 0, 0, []),
  (102, .iload 7, 0, 0, 0, 0, 0, []), (104, .if_icmp .ne 30, 0, 71, 0, 0, 0, []), (107, .aload_n 0, 0, 0, 0, 0, 0, []), (108, .iload 8, 0, 0, 0, 0, 0, []),
  (110, .invokevirtual 564, 0, 2, 2, 0, 0, []), (113, .ifCond .ne 6, 0, 63, 0, 0, 0, []), (116, .goto 18, 0, 71, 0, 0, 0, []), (119, .iload 5, 0, 0, 0, 0, 0, []),
  (121, .aload_n 0, 0, 0, 0, 0, 0, []), (122, .getfield 56, 0, 12, 43, 0, 0, []), (125, .iload 8, 0, 0, 0, 0, 0, []), (127, .iaload, 0, 0, 0, 0, 0, []),
  (128, .iadd, 0, 0, 0, 0, 0, []), (129, .istore 5, 0, 0, 0, 0, 0, []), (131, .iinc 6 1, 0, 0, 0, 1, 0, []), (134, .iinc 8 1, 0, 0, 0, 1, 0, []),
  (137, .goto (-51), 0, 48, 0, 0, 0, []), (140, .aload_n 0, 74, 0, 0, 0, 0, []), (141, .iload_n 1, 0, 0, 0, 0, 0, []), (142, .iconst 1, 0, 0, 0, 1, 0, []),
  (143, .iload 7, 0, 0, 0, 0, 0, []), (145, .invokevirtual 612, 0, 2, 4, 0, 0, [(0, 0), (0, 0)]), (148, .aload_n 0, 0, 0, 0, 0, 0, []), (149, .getfield 600, 0, 12, 91, 0, 0, []),
  (152, .ifCond .lt 33, 0, 98, 0, 0, 0, []), (155, .iload 5, 0, 0, 0, 0, 0, []), (157, .aload_n 0, 0, 0, 0, 0, 0, []), (158, .getfield 35, 0, 12, 36, 0, 0, []),
  (161, .aload_n 0, 0, 0, 0, 0, 0, []), (162, .getfield 600, 0, 12, 91, 0, 0, []), (165, .iaload, 0, 0, 0, 0, 0, []), (166, .isub, 0, 0, 0, 0, 0, []),
  (167, .istore 5, 0, 0, 0, 0, 0, []), (169, .aload_n 0, 0, 0, 0, 0, 0, []), (170, .getfield 112, 0, 12, 70, 0, 0, []), (173, .bipush 6, 0, 0, 0, 6, 0, []),
  (175, .aload_n 0, 0, 0, 0, 0, 0, []), (176, .getfield 600, 0, 12, 91, 0, 0, []), (179, .iadd, 0, 0, 0, 0, 0, []), (180, .aload_n 0, 0, 0, 0, 0, 0, []),
  (181, .getfield 603, 0, 12, 92, 0, 0, []), (184, .iastore, 0, 0, 0, 0, 0, []), (185, .aload_n 0, 99, 0, 0, 0, 0, []), (186, .iconst 1, 0, 0, 0, 1, 0, []),
  (187, .iload 7, 0, 0, 0, 0, 0, []), (189, .invokevirtual 518, 0, 3, 3, 0, 0, [(0, 0), (0, 0)]), (192, .iinc 7 1, 0, 0, 0, 1, 0, []), (195, .goto (-131), 0, 35, 0, 0, 0, []),
  (198, .iconst 0, 105, 0, 0, 0, 0, []), (199, .istore 7, 0, 0, 0, 0, 0, []), (201, .iconst 0, 0, 0, 0, 0, 0, []), (202, .istore 8, 0, 0, 0, 0, 0, []),
  (204, .iload 8, 109, 0, 0, 0, 0, []), (206, .aload_n 0, 0, 0, 0, 0, 0, []), (207, .getfield 298, 0, 12, 13, 0, 0, []), (210, .if_icmp .ge 42, 0, 132, 0, 0, 0, []),
  (213, .iload 7, 0, 0, 0, 0, 0, []), (215, .aload_n 0, 0, 0, 0, 0, 0, []), (216, .getfield 106, 0, 12, 68, 0, 0, []), (219, .bipush 6, 0, 0, 0, 6, 0, []),
  (221, .iload 8, 0, 0, 0, 0, 0, []), (223, .iadd, 0, 0, 0, 0, 0, []), (224, .baload, 0, 0, 0, 0, 0, []), (225, .ifCond .eq 17, 0, 127, 0, 0, 0, []),
  (228, .aload_n 0, 0, 0, 0, 0, 0, []), (229, .getfield 106, 0, 12, 68, 0, 0, []), (232, .iload 8, 0, 0, 0, 0, 0, []), (234, .baload, 0, 0, 0, 0, 0, []),
  (235, .ifCond .ne 7, 0, 127, 0, 0, 0, []), (238, .iconst 1, 0, 0, 0, 1, 0, []), (239, .goto 4, 0, 128, 0, 0, 0, []), (242, .iconst 0, 0, 0, 0, 0, 0, []),
  (243, .iadd, 0, 0, 0, 0, 0, []), (244, .istore 7, 0, 0, 0, 0, 0, []), (246, .iinc 8 1, 0, 0, 0, 1, 0, []), (249, .goto (-45), 0, 108, 0, 0, 0, []),
  (252, .iload 4, 133, 0, 0, 0, 0, []), (254, .ifCond .ne 8, 0, 136, 0, 0, 0, []), (257, .iload 5, 0, 0, 0, 0, 0, []), (259, .goto 16, 0, 142, 0, 0, 0, []),
  (262, .iload 4, 0, 0, 0, 0, 0, []), (264, .iconst 1, 0, 0, 0, 1, 0, []), (265, .if_icmp .ne 8, 0, 141, 0, 0, 0, []), (268, .iload 7, 0, 0, 0, 0, 0, []),
  (270, .goto 5, 0, 142, 0, 0, 0, []), (273, .iload 6, 0, 0, 0, 0, 0, []), (275, .ireturn, 0, 0, 0, 0, 0, [])]
noncomputable def fX12_season_132 (N : Nat) (a4 : Int32) (v5 : Int32) (v6 : Int32) (v7 : Int32) (w : Wd) : Option (Int32 × Wd) :=
  if a4 = 0 then some (v5, w) else
  if a4 = (1 : Int32) then some (v7, w) else
  some (v6, w)
noncomputable def fX12_season_108 (N : Nat) (a4 : Int32) : Nat → (Int32 → Int32 → Int32 → Wd → Option (Int32 × Wd)) → Int32 → Int32 → Int32 → Int32 → Wd → Option (Int32 × Wd)
  | 0, _, _, _, _, _, _ => none
  | n + 1, k132, v5, v6, v7, v8, w =>
    if v8 < (gI w 16 0 13) then
      (ldI w 103 0 ((6 : Int32) + v8) 12).bind fun x1 =>
      if x1 = 0 then callW (fX12_season_108 N a4 n k132 v5 v6 (v7 + (0 : Int32)) (v8 + (1 : Int32))) w else
      (ldI w 103 0 v8 12).bind fun x2 =>
      if x2 = 0 then callW (fX12_season_108 N a4 n k132 v5 v6 (v7 + (1 : Int32)) (v8 + (1 : Int32))) w else
      callW (fX12_season_108 N a4 n k132 v5 v6 (v7 + (0 : Int32)) (v8 + (1 : Int32))) w
    else
    k132 v5 v6 v7 w
noncomputable def fX12_season_104 (N : Nat) (a4 : Int32) (v5 : Int32) (v6 : Int32) (w : Wd) : Option (Int32 × Wd) :=
  callW (fX12_season_108 N a4 N (fX12_season_132 N a4) v5 v6 (0 : Int32) (0 : Int32)) w
noncomputable def fX12_season_98 (N : Nat) (a1 : Int32) (a3 : Int32) (a4 : Int32) (k35 : Int32 → Int32 → Int32 → Wd → Option (Int32 × Wd)) (v5 : Int32) (v6 : Int32) (v7 : Int32) (w : Wd) : Option (Int32 × Wd) :=
  (callW (pX12_goesBy N (1 : Int32) v7) w).bind fun w1 =>
  k35 v5 v6 (v7 + (1 : Int32)) w1
noncomputable def fX12_season_73 (N : Nat) (a1 : Int32) (a3 : Int32) (a4 : Int32) (k35 : Int32 → Int32 → Int32 → Wd → Option (Int32 × Wd)) (v5 : Int32) (v6 : Int32) (v7 : Int32) (w : Wd) : Option (Int32 × Wd) :=
  (callW (pX12_pickOf N a1 (1 : Int32) v7) w).bind fun w1 =>
  if (gI w1 16 0 91) < 0 then callW (fX12_season_98 N a1 a3 a4 k35 v5 v6 v7) w1 else
  (ldI w1 80 0 (gI w1 16 0 91) 12).bind fun x2 =>
  (stI w1 105 0 ((6 : Int32) + (gI w1 16 0 91)) 12 (gI w1 16 0 92)).bind fun w3 =>
  callW (fX12_season_98 N a1 a3 a4 k35 (v5 - x2) v6 v7) w3
noncomputable def fX12_season_48 (N : Nat) (a1 : Int32) (a3 : Int32) (a4 : Int32) : Nat → (Int32 → Int32 → Int32 → Wd → Option (Int32 × Wd)) → Int32 → Int32 → Int32 → Int32 → Wd → Option (Int32 × Wd)
  | 0, _, _, _, _, _, _ => none
  | n + 1, k73, v5, v6, v7, v8, w =>
    if v8 < (gI w 16 0 14) then
      (ldI w 86 0 v8 16).bind fun x1 =>
      if x1 = v7 then
        (callW (pX12_isLed N v8) w).bind fun r2 =>
        if r2.1 = 0 then callW (fX12_season_48 N a1 a3 a4 n k73 v5 v6 v7 (v8 + (1 : Int32))) r2.2 else
        (ldI r2.2 87 0 v8 16).bind fun x3 =>
        callW (fX12_season_48 N a1 a3 a4 n k73 (v5 + x3) (v6 + (1 : Int32)) v7 (v8 + (1 : Int32))) r2.2
      else
      callW (fX12_season_48 N a1 a3 a4 n k73 v5 v6 v7 (v8 + (1 : Int32))) w
    else
    k73 v5 v6 v7 w
noncomputable def fX12_season_35 (N : Nat) (a1 : Int32) (a3 : Int32) (a4 : Int32) : Nat → (Int32 → Int32 → Wd → Option (Int32 × Wd)) → Int32 → Int32 → Int32 → Wd → Option (Int32 × Wd)
  | 0, _, _, _, _, _ => none
  | n + 1, k104, v5, v6, v7, w =>
    if v7 < ((gI w 16 0 64) + a3) then
      (callW (pX12_layKnown N (1 : Int32) v7 (0 : Int32)) w).bind fun w1 =>
      callW (fX12_season_48 N a1 a3 a4 N (fX12_season_73 N a1 a3 a4 (fX12_season_35 N a1 a3 a4 n k104)) v5 v6 v7 (0 : Int32)) w1
    else
    k104 v5 v6 w
noncomputable def pX12_season (N : Nat) (a1 : Int32) (a2 : Int32) (a3 : Int32) (a4 : Int32) (w : Wd) : Option (Int32 × Wd) :=
  (callW (pX12_isMaster N a1) (setI w 16 0 2 (0 : Int32))).bind fun r1 =>
  if r1.1 = 0 then some ((-2147483648 : Int32), r1.2) else
  if a2 < 0 then some ((-2147483648 : Int32), r1.2) else
  (callW (pX12_isIn N a3 (1 : Int32) (50 : Int32)) r1.2).bind fun r2 =>
  if r2.1 = 0 then some ((-2147483648 : Int32), r2.2) else
  (callW (pX12_isIn N a4 (0 : Int32) (2 : Int32)) r2.2).bind fun r3 =>
  if r3.1 = 0 then some ((-2147483648 : Int32), r3.2) else
  (callW (pX12_layTried N) r3.2).bind fun w4 =>
  (stL w4 106 0 (1 : Int32) 2 a2.toInt64).bind fun w5 =>
  callW (fX12_season_35 N a1 a3 a4 N (fX12_season_104 N a4) (0 : Int32) (0 : Int32) (gI w5 16 0 64)) w5
noncomputable def mX12_season (N : Nat) (as : List AV) (w : Wd) : Option (Int32 × Wd) := xS1 16 as fun t => xI1 t fun a1 t => xI1 t fun a2 t => xI1 t fun a3 t => xI1 t fun a4 t => xN1 t (callW (pX12_season N a1 a2 a3 a4) w)
set_option maxRecDepth 100000 in
set_option maxHeartbeats 4000000 in
theorem kX12_season : TK cX12_season RX12 9 tX12_season := ⟨by decide +kernel, wok_of [1602, 2325, 1671, 1664, 1664, 1614, 1642, 1643, 1691, 1636, 1691, 1670, 1691, 1692, 1613, 1668, 1668] (by decide +kernel) (by decide +kernel)⟩
set_option maxRecDepth 100000 in
set_option maxHeartbeats 4000000 in
theorem sX12_season_132 {N : Nat} {X : XT} (G : GX X cX12_season RX12) (hn : xnL X = 9) (hC : CRs X tX12_season (oF [(mX12_isMaster N), (mX12_isIn N), (mX12_isLed N)]) (oF []) (oF [(mX12_layTried N), (mX12_layKnown N), (mX12_pickOf N), (mX12_goesBy N)])) {r : Int32 × Wd} (hr : RTI X cX12_season r) (a1 : Int32) (a2 : Int32) (a3 : Int32) (a4 : Int32) : ∀ (v5 : Int32) (v6 : Int32) (v7 : Int32) (w : Wd), fX12_season_132 N a4 v5 v6 v7 w = some r → WW X (pcAt tX12_season 132) [some (.inr (.inr (16, 0))), some (.inl a1), some (.inl a2), some (.inl a3), some (.inl a4), some (.inl v5), some (.inl v6), some (.inl v7), none] [] w := by
  intro v5 v6 v7 w h
  refine run_sound (r := r) (X := X) (cc := cX12_season) (own := RX12) (tab := tX12_season) G (by rw [hn]; exact kX12_season) (oI := (oF [(mX12_isMaster N), (mX12_isIn N), (mX12_isLed N)])) (oL := (oF [])) (oV := (oF [(mX12_layTried N), (mX12_layKnown N), (mX12_pickOf N), (mX12_goesBy N)])) (rI := (fun x w => some (x, w))) (rL := (fun _ _ => none)) (rV := (fun _ => none))
    (K := (fun j ls st w => none)) (fun x w pc ls hx hd => hr x w pc ls (Option.some.inj hx) hd) (fun _ _ _ _ hx => by cases hx) (fun _ _ _ hx => by cases hx) hC (fun ls => lsb [some (.inr (.inr (16, 0))), some (.inl a1), some (.inl a2), some (.inl a3), some (.inl a4), none, none, none, none] 0 ls) (keepsP_of rfl) ?_ 145 132 [some (.inr (.inr (16, 0))), some (.inl a1), some (.inl a2), some (.inl a3), some (.inl a4), some (.inl v5), some (.inl v6), some (.inl v7), none] [] w ?_ h
  · intro j ls st w hfx h
    obtain ⟨e0, e1, e2, e3, e4, -⟩ : _ = _ ∧ _ = _ ∧ _ = _ ∧ _ = _ ∧ _ = _ ∧ True := hfx
    try dsimp only at h
    cases h
  · exact (show _ = _ ∧ _ = _ ∧ _ = _ ∧ _ = _ ∧ _ = _ ∧ True from ⟨rfl, rfl, rfl, rfl, rfl, trivial⟩)
set_option maxRecDepth 100000 in
set_option maxHeartbeats 4000000 in
theorem sX12_season_108 {N : Nat} {X : XT} (G : GX X cX12_season RX12) (hn : xnL X = 9) (hC : CRs X tX12_season (oF [(mX12_isMaster N), (mX12_isIn N), (mX12_isLed N)]) (oF []) (oF [(mX12_layTried N), (mX12_layKnown N), (mX12_pickOf N), (mX12_goesBy N)])) {r : Int32 × Wd} (hr : RTI X cX12_season r) (a1 : Int32) (a2 : Int32) (a3 : Int32) (a4 : Int32) : ∀ (n : Nat) (k132 : Int32 → Int32 → Int32 → Wd → Option (Int32 × Wd)) (v5 : Int32) (v6 : Int32) (v7 : Int32) (v8 : Int32) (w : Wd), fX12_season_108 N a4 n k132 v5 v6 v7 v8 w = some r → (∀ (v5 : Int32) (v6 : Int32) (v7 : Int32) (w : Wd), k132 v5 v6 v7 w = some r → WW X (pcAt tX12_season 132) [some (.inr (.inr (16, 0))), some (.inl a1), some (.inl a2), some (.inl a3), some (.inl a4), some (.inl v5), some (.inl v6), some (.inl v7), none] [] w) → WW X (pcAt tX12_season 108) [some (.inr (.inr (16, 0))), some (.inl a1), some (.inl a2), some (.inl a3), some (.inl a4), some (.inl v5), some (.inl v6), some (.inl v7), some (.inl v8)] [] w := by
  intro n
  induction n with
  | zero => intro k132 v5 v6 v7 v8 w h h132; cases h
  | succ n ih =>
    intro k132 v5 v6 v7 v8 w h h132
    refine run_sound (r := r) (X := X) (cc := cX12_season) (own := RX12) (tab := tX12_season) G (by rw [hn]; exact kX12_season) (oI := (oF [(mX12_isMaster N), (mX12_isIn N), (mX12_isLed N)])) (oL := (oF [])) (oV := (oF [(mX12_layTried N), (mX12_layKnown N), (mX12_pickOf N), (mX12_goesBy N)])) (rI := (fun x w => some (x, w))) (rL := (fun _ _ => none)) (rV := (fun _ => none))
      (K := (fun j ls st w => if j = 108 then (lgI ls 5 fun v5 => lgI ls 6 fun v6 => lgI ls 7 fun v7 => lgI ls 8 fun v8 => st0 st (callW (fX12_season_108 N a4 n k132 v5 v6 v7 v8) w)) else if j = 132 then (lgI ls 5 fun v5 => lgI ls 6 fun v6 => lgI ls 7 fun v7 => st0 st (k132 v5 v6 v7 w)) else none)) (fun x w pc ls hx hd => hr x w pc ls (Option.some.inj hx) hd) (fun _ _ _ _ hx => by cases hx) (fun _ _ _ hx => by cases hx) hC (fun ls => lsb [some (.inr (.inr (16, 0))), some (.inl a1), some (.inl a2), some (.inl a3), some (.inl a4), none, none, none, none] 0 ls) (keepsP_of rfl) ?_ 145 108 [some (.inr (.inr (16, 0))), some (.inl a1), some (.inl a2), some (.inl a3), some (.inl a4), some (.inl v5), some (.inl v6), some (.inl v7), some (.inl v8)] [] w ?_ h
    · intro j ls st w hfx h
      obtain ⟨e0, e1, e2, e3, e4, -⟩ : _ = _ ∧ _ = _ ∧ _ = _ ∧ _ = _ ∧ _ = _ ∧ True := hfx
      try dsimp only at h
      by_cases hj : j = 108
      · subst hj
        rw [if_pos rfl] at h
        obtain ⟨v5, e5, h_1⟩ := lgI_some h
        obtain ⟨v6, e6, h_2⟩ := lgI_some h_1
        obtain ⟨v7, e7, h_3⟩ := lgI_some h_2
        obtain ⟨v8, e8, h_4⟩ := lgI_some h_3
        obtain ⟨rfl, h_5⟩ := st0_some h_4
        clear h h_1 h_2 h_3 h_4
        have h := h_5
        try rw [callW_eq] at h
        exact WW.le (a := [some (.inr (.inr (16, 0))), some (.inl a1), some (.inl a2), some (.inl a3), some (.inl a4), some (.inl v5), some (.inl v6), some (.inl v7), some (.inl v8)]) (by rw [hn]; rfl) (show _ = _ ∧ _ = _ ∧ _ = _ ∧ _ = _ ∧ _ = _ ∧ _ = _ ∧ _ = _ ∧ _ = _ ∧ _ = _ ∧ True from ⟨e0, e1, e2, e3, e4, e5, e6, e7, e8, trivial⟩) (ih k132 v5 v6 v7 v8 w h h132)
      rw [if_neg hj] at h
      by_cases hj : j = 132
      · subst hj
        rw [if_pos rfl] at h
        obtain ⟨v5, e5, h_1⟩ := lgI_some h
        obtain ⟨v6, e6, h_2⟩ := lgI_some h_1
        obtain ⟨v7, e7, h_3⟩ := lgI_some h_2
        obtain ⟨rfl, h_4⟩ := st0_some h_3
        clear h h_1 h_2 h_3
        have h := h_4
        try rw [callW_eq] at h
        exact WW.le (a := [some (.inr (.inr (16, 0))), some (.inl a1), some (.inl a2), some (.inl a3), some (.inl a4), some (.inl v5), some (.inl v6), some (.inl v7), none]) (by rw [hn]; rfl) (show _ = _ ∧ _ = _ ∧ _ = _ ∧ _ = _ ∧ _ = _ ∧ _ = _ ∧ _ = _ ∧ _ = _ ∧ True from ⟨e0, e1, e2, e3, e4, e5, e6, e7, trivial⟩) (h132 v5 v6 v7 w h)
      rw [if_neg hj] at h
      cases h
    · exact (show _ = _ ∧ _ = _ ∧ _ = _ ∧ _ = _ ∧ _ = _ ∧ True from ⟨rfl, rfl, rfl, rfl, rfl, trivial⟩)
set_option maxRecDepth 100000 in
set_option maxHeartbeats 4000000 in
theorem sX12_season_104 {N : Nat} {X : XT} (G : GX X cX12_season RX12) (hn : xnL X = 9) (hC : CRs X tX12_season (oF [(mX12_isMaster N), (mX12_isIn N), (mX12_isLed N)]) (oF []) (oF [(mX12_layTried N), (mX12_layKnown N), (mX12_pickOf N), (mX12_goesBy N)])) {r : Int32 × Wd} (hr : RTI X cX12_season r) (a1 : Int32) (a2 : Int32) (a3 : Int32) (a4 : Int32) : ∀ (v5 : Int32) (v6 : Int32) (w : Wd), fX12_season_104 N a4 v5 v6 w = some r → WW X (pcAt tX12_season 104) [some (.inr (.inr (16, 0))), some (.inl a1), some (.inl a2), some (.inl a3), some (.inl a4), some (.inl v5), some (.inl v6), none, none] [] w := by
  intro v5 v6 w h
  refine run_sound (r := r) (X := X) (cc := cX12_season) (own := RX12) (tab := tX12_season) G (by rw [hn]; exact kX12_season) (oI := (oF [(mX12_isMaster N), (mX12_isIn N), (mX12_isLed N)])) (oL := (oF [])) (oV := (oF [(mX12_layTried N), (mX12_layKnown N), (mX12_pickOf N), (mX12_goesBy N)])) (rI := (fun x w => some (x, w))) (rL := (fun _ _ => none)) (rV := (fun _ => none))
    (K := (fun j ls st w => if j = 108 then (lgI ls 5 fun v5 => lgI ls 6 fun v6 => lgI ls 7 fun v7 => lgI ls 8 fun v8 => st0 st (callW (fX12_season_108 N a4 N (fX12_season_132 N a4) v5 v6 v7 v8) w)) else none)) (fun x w pc ls hx hd => hr x w pc ls (Option.some.inj hx) hd) (fun _ _ _ _ hx => by cases hx) (fun _ _ _ hx => by cases hx) hC (fun ls => lsb [some (.inr (.inr (16, 0))), some (.inl a1), some (.inl a2), some (.inl a3), some (.inl a4), none, none, none, none] 0 ls) (keepsP_of rfl) ?_ 145 104 [some (.inr (.inr (16, 0))), some (.inl a1), some (.inl a2), some (.inl a3), some (.inl a4), some (.inl v5), some (.inl v6), none, none] [] w ?_ h
  · intro j ls st w hfx h
    obtain ⟨e0, e1, e2, e3, e4, -⟩ : _ = _ ∧ _ = _ ∧ _ = _ ∧ _ = _ ∧ _ = _ ∧ True := hfx
    try dsimp only at h
    by_cases hj : j = 108
    · subst hj
      rw [if_pos rfl] at h
      obtain ⟨v5, e5, h_1⟩ := lgI_some h
      obtain ⟨v6, e6, h_2⟩ := lgI_some h_1
      obtain ⟨v7, e7, h_3⟩ := lgI_some h_2
      obtain ⟨v8, e8, h_4⟩ := lgI_some h_3
      obtain ⟨rfl, h_5⟩ := st0_some h_4
      clear h h_1 h_2 h_3 h_4
      have h := h_5
      try rw [callW_eq] at h
      exact WW.le (a := [some (.inr (.inr (16, 0))), some (.inl a1), some (.inl a2), some (.inl a3), some (.inl a4), some (.inl v5), some (.inl v6), some (.inl v7), some (.inl v8)]) (by rw [hn]; rfl) (show _ = _ ∧ _ = _ ∧ _ = _ ∧ _ = _ ∧ _ = _ ∧ _ = _ ∧ _ = _ ∧ _ = _ ∧ _ = _ ∧ True from ⟨e0, e1, e2, e3, e4, e5, e6, e7, e8, trivial⟩) (sX12_season_108 G hn hC hr a1 a2 a3 a4 N (fX12_season_132 N a4) v5 v6 v7 v8 w h (fun v5 v6 v7 w h => (sX12_season_132 G hn hC hr a1 a2 a3 a4 v5 v6 v7 w h)))
    rw [if_neg hj] at h
    cases h
  · exact (show _ = _ ∧ _ = _ ∧ _ = _ ∧ _ = _ ∧ _ = _ ∧ True from ⟨rfl, rfl, rfl, rfl, rfl, trivial⟩)
set_option maxRecDepth 100000 in
set_option maxHeartbeats 4000000 in
theorem sX12_season_98 {N : Nat} {X : XT} (G : GX X cX12_season RX12) (hn : xnL X = 9) (hC : CRs X tX12_season (oF [(mX12_isMaster N), (mX12_isIn N), (mX12_isLed N)]) (oF []) (oF [(mX12_layTried N), (mX12_layKnown N), (mX12_pickOf N), (mX12_goesBy N)])) {r : Int32 × Wd} (hr : RTI X cX12_season r) (a1 : Int32) (a2 : Int32) (a3 : Int32) (a4 : Int32) : ∀ (k35 : Int32 → Int32 → Int32 → Wd → Option (Int32 × Wd)) (v5 : Int32) (v6 : Int32) (v7 : Int32) (w : Wd), fX12_season_98 N a1 a3 a4 k35 v5 v6 v7 w = some r → (∀ (v5 : Int32) (v6 : Int32) (v7 : Int32) (w : Wd), k35 v5 v6 v7 w = some r → WW X (pcAt tX12_season 35) [some (.inr (.inr (16, 0))), some (.inl a1), some (.inl a2), some (.inl a3), some (.inl a4), some (.inl v5), some (.inl v6), some (.inl v7), none] [] w) → WW X (pcAt tX12_season 98) [some (.inr (.inr (16, 0))), some (.inl a1), some (.inl a2), some (.inl a3), some (.inl a4), some (.inl v5), some (.inl v6), some (.inl v7), none] [] w := by
  intro k35 v5 v6 v7 w h h35
  refine run_sound (r := r) (X := X) (cc := cX12_season) (own := RX12) (tab := tX12_season) G (by rw [hn]; exact kX12_season) (oI := (oF [(mX12_isMaster N), (mX12_isIn N), (mX12_isLed N)])) (oL := (oF [])) (oV := (oF [(mX12_layTried N), (mX12_layKnown N), (mX12_pickOf N), (mX12_goesBy N)])) (rI := (fun x w => some (x, w))) (rL := (fun _ _ => none)) (rV := (fun _ => none))
    (K := (fun j ls st w => if j = 35 then (lgI ls 5 fun v5 => lgI ls 6 fun v6 => lgI ls 7 fun v7 => st0 st (k35 v5 v6 v7 w)) else none)) (fun x w pc ls hx hd => hr x w pc ls (Option.some.inj hx) hd) (fun _ _ _ _ hx => by cases hx) (fun _ _ _ hx => by cases hx) hC (fun ls => lsb [some (.inr (.inr (16, 0))), some (.inl a1), some (.inl a2), some (.inl a3), some (.inl a4), none, none, none, none] 0 ls) (keepsP_of rfl) ?_ 145 98 [some (.inr (.inr (16, 0))), some (.inl a1), some (.inl a2), some (.inl a3), some (.inl a4), some (.inl v5), some (.inl v6), some (.inl v7), none] [] w ?_ h
  · intro j ls st w hfx h
    obtain ⟨e0, e1, e2, e3, e4, -⟩ : _ = _ ∧ _ = _ ∧ _ = _ ∧ _ = _ ∧ _ = _ ∧ True := hfx
    try dsimp only at h
    by_cases hj : j = 35
    · subst hj
      rw [if_pos rfl] at h
      obtain ⟨v5, e5, h_1⟩ := lgI_some h
      obtain ⟨v6, e6, h_2⟩ := lgI_some h_1
      obtain ⟨v7, e7, h_3⟩ := lgI_some h_2
      obtain ⟨rfl, h_4⟩ := st0_some h_3
      clear h h_1 h_2 h_3
      have h := h_4
      try rw [callW_eq] at h
      exact WW.le (a := [some (.inr (.inr (16, 0))), some (.inl a1), some (.inl a2), some (.inl a3), some (.inl a4), some (.inl v5), some (.inl v6), some (.inl v7), none]) (by rw [hn]; rfl) (show _ = _ ∧ _ = _ ∧ _ = _ ∧ _ = _ ∧ _ = _ ∧ _ = _ ∧ _ = _ ∧ _ = _ ∧ True from ⟨e0, e1, e2, e3, e4, e5, e6, e7, trivial⟩) (h35 v5 v6 v7 w h)
    rw [if_neg hj] at h
    cases h
  · exact (show _ = _ ∧ _ = _ ∧ _ = _ ∧ _ = _ ∧ _ = _ ∧ True from ⟨rfl, rfl, rfl, rfl, rfl, trivial⟩)
set_option maxRecDepth 100000 in
set_option maxHeartbeats 4000000 in
theorem sX12_season_73 {N : Nat} {X : XT} (G : GX X cX12_season RX12) (hn : xnL X = 9) (hC : CRs X tX12_season (oF [(mX12_isMaster N), (mX12_isIn N), (mX12_isLed N)]) (oF []) (oF [(mX12_layTried N), (mX12_layKnown N), (mX12_pickOf N), (mX12_goesBy N)])) {r : Int32 × Wd} (hr : RTI X cX12_season r) (a1 : Int32) (a2 : Int32) (a3 : Int32) (a4 : Int32) : ∀ (k35 : Int32 → Int32 → Int32 → Wd → Option (Int32 × Wd)) (v5 : Int32) (v6 : Int32) (v7 : Int32) (w : Wd), fX12_season_73 N a1 a3 a4 k35 v5 v6 v7 w = some r → (∀ (v5 : Int32) (v6 : Int32) (v7 : Int32) (w : Wd), k35 v5 v6 v7 w = some r → WW X (pcAt tX12_season 35) [some (.inr (.inr (16, 0))), some (.inl a1), some (.inl a2), some (.inl a3), some (.inl a4), some (.inl v5), some (.inl v6), some (.inl v7), none] [] w) → WW X (pcAt tX12_season 73) [some (.inr (.inr (16, 0))), some (.inl a1), some (.inl a2), some (.inl a3), some (.inl a4), some (.inl v5), some (.inl v6), some (.inl v7), none] [] w := by
  intro k35 v5 v6 v7 w h h35
  refine run_sound (r := r) (X := X) (cc := cX12_season) (own := RX12) (tab := tX12_season) G (by rw [hn]; exact kX12_season) (oI := (oF [(mX12_isMaster N), (mX12_isIn N), (mX12_isLed N)])) (oL := (oF [])) (oV := (oF [(mX12_layTried N), (mX12_layKnown N), (mX12_pickOf N), (mX12_goesBy N)])) (rI := (fun x w => some (x, w))) (rL := (fun _ _ => none)) (rV := (fun _ => none))
    (K := (fun j ls st w => if j = 98 then (lgI ls 5 fun v5 => lgI ls 6 fun v6 => lgI ls 7 fun v7 => st0 st (callW (fX12_season_98 N a1 a3 a4 k35 v5 v6 v7) w)) else none)) (fun x w pc ls hx hd => hr x w pc ls (Option.some.inj hx) hd) (fun _ _ _ _ hx => by cases hx) (fun _ _ _ hx => by cases hx) hC (fun ls => lsb [some (.inr (.inr (16, 0))), some (.inl a1), some (.inl a2), some (.inl a3), some (.inl a4), none, none, none, none] 0 ls) (keepsP_of rfl) ?_ 145 73 [some (.inr (.inr (16, 0))), some (.inl a1), some (.inl a2), some (.inl a3), some (.inl a4), some (.inl v5), some (.inl v6), some (.inl v7), none] [] w ?_ h
  · intro j ls st w hfx h
    obtain ⟨e0, e1, e2, e3, e4, -⟩ : _ = _ ∧ _ = _ ∧ _ = _ ∧ _ = _ ∧ _ = _ ∧ True := hfx
    try dsimp only at h
    by_cases hj : j = 98
    · subst hj
      rw [if_pos rfl] at h
      obtain ⟨v5, e5, h_1⟩ := lgI_some h
      obtain ⟨v6, e6, h_2⟩ := lgI_some h_1
      obtain ⟨v7, e7, h_3⟩ := lgI_some h_2
      obtain ⟨rfl, h_4⟩ := st0_some h_3
      clear h h_1 h_2 h_3
      have h := h_4
      try rw [callW_eq] at h
      exact WW.le (a := [some (.inr (.inr (16, 0))), some (.inl a1), some (.inl a2), some (.inl a3), some (.inl a4), some (.inl v5), some (.inl v6), some (.inl v7), none]) (by rw [hn]; rfl) (show _ = _ ∧ _ = _ ∧ _ = _ ∧ _ = _ ∧ _ = _ ∧ _ = _ ∧ _ = _ ∧ _ = _ ∧ True from ⟨e0, e1, e2, e3, e4, e5, e6, e7, trivial⟩) (sX12_season_98 G hn hC hr a1 a2 a3 a4 k35 v5 v6 v7 w h (fun v5 v6 v7 w h => (h35 v5 v6 v7 w h)))
    rw [if_neg hj] at h
    cases h
  · exact (show _ = _ ∧ _ = _ ∧ _ = _ ∧ _ = _ ∧ _ = _ ∧ True from ⟨rfl, rfl, rfl, rfl, rfl, trivial⟩)
set_option maxRecDepth 100000 in
set_option maxHeartbeats 4000000 in
theorem sX12_season_48 {N : Nat} {X : XT} (G : GX X cX12_season RX12) (hn : xnL X = 9) (hC : CRs X tX12_season (oF [(mX12_isMaster N), (mX12_isIn N), (mX12_isLed N)]) (oF []) (oF [(mX12_layTried N), (mX12_layKnown N), (mX12_pickOf N), (mX12_goesBy N)])) {r : Int32 × Wd} (hr : RTI X cX12_season r) (a1 : Int32) (a2 : Int32) (a3 : Int32) (a4 : Int32) : ∀ (n : Nat) (k73 : Int32 → Int32 → Int32 → Wd → Option (Int32 × Wd)) (v5 : Int32) (v6 : Int32) (v7 : Int32) (v8 : Int32) (w : Wd), fX12_season_48 N a1 a3 a4 n k73 v5 v6 v7 v8 w = some r → (∀ (v5 : Int32) (v6 : Int32) (v7 : Int32) (w : Wd), k73 v5 v6 v7 w = some r → WW X (pcAt tX12_season 73) [some (.inr (.inr (16, 0))), some (.inl a1), some (.inl a2), some (.inl a3), some (.inl a4), some (.inl v5), some (.inl v6), some (.inl v7), none] [] w) → WW X (pcAt tX12_season 48) [some (.inr (.inr (16, 0))), some (.inl a1), some (.inl a2), some (.inl a3), some (.inl a4), some (.inl v5), some (.inl v6), some (.inl v7), some (.inl v8)] [] w := by
  intro n
  induction n with
  | zero => intro k73 v5 v6 v7 v8 w h h73; cases h
  | succ n ih =>
    intro k73 v5 v6 v7 v8 w h h73
    refine run_sound (r := r) (X := X) (cc := cX12_season) (own := RX12) (tab := tX12_season) G (by rw [hn]; exact kX12_season) (oI := (oF [(mX12_isMaster N), (mX12_isIn N), (mX12_isLed N)])) (oL := (oF [])) (oV := (oF [(mX12_layTried N), (mX12_layKnown N), (mX12_pickOf N), (mX12_goesBy N)])) (rI := (fun x w => some (x, w))) (rL := (fun _ _ => none)) (rV := (fun _ => none))
      (K := (fun j ls st w => if j = 48 then (lgI ls 5 fun v5 => lgI ls 6 fun v6 => lgI ls 7 fun v7 => lgI ls 8 fun v8 => st0 st (callW (fX12_season_48 N a1 a3 a4 n k73 v5 v6 v7 v8) w)) else if j = 73 then (lgI ls 5 fun v5 => lgI ls 6 fun v6 => lgI ls 7 fun v7 => st0 st (k73 v5 v6 v7 w)) else none)) (fun x w pc ls hx hd => hr x w pc ls (Option.some.inj hx) hd) (fun _ _ _ _ hx => by cases hx) (fun _ _ _ hx => by cases hx) hC (fun ls => lsb [some (.inr (.inr (16, 0))), some (.inl a1), some (.inl a2), some (.inl a3), some (.inl a4), none, none, none, none] 0 ls) (keepsP_of rfl) ?_ 145 48 [some (.inr (.inr (16, 0))), some (.inl a1), some (.inl a2), some (.inl a3), some (.inl a4), some (.inl v5), some (.inl v6), some (.inl v7), some (.inl v8)] [] w ?_ h
    · intro j ls st w hfx h
      obtain ⟨e0, e1, e2, e3, e4, -⟩ : _ = _ ∧ _ = _ ∧ _ = _ ∧ _ = _ ∧ _ = _ ∧ True := hfx
      try dsimp only at h
      by_cases hj : j = 48
      · subst hj
        rw [if_pos rfl] at h
        obtain ⟨v5, e5, h_1⟩ := lgI_some h
        obtain ⟨v6, e6, h_2⟩ := lgI_some h_1
        obtain ⟨v7, e7, h_3⟩ := lgI_some h_2
        obtain ⟨v8, e8, h_4⟩ := lgI_some h_3
        obtain ⟨rfl, h_5⟩ := st0_some h_4
        clear h h_1 h_2 h_3 h_4
        have h := h_5
        try rw [callW_eq] at h
        exact WW.le (a := [some (.inr (.inr (16, 0))), some (.inl a1), some (.inl a2), some (.inl a3), some (.inl a4), some (.inl v5), some (.inl v6), some (.inl v7), some (.inl v8)]) (by rw [hn]; rfl) (show _ = _ ∧ _ = _ ∧ _ = _ ∧ _ = _ ∧ _ = _ ∧ _ = _ ∧ _ = _ ∧ _ = _ ∧ _ = _ ∧ True from ⟨e0, e1, e2, e3, e4, e5, e6, e7, e8, trivial⟩) (ih k73 v5 v6 v7 v8 w h h73)
      rw [if_neg hj] at h
      by_cases hj : j = 73
      · subst hj
        rw [if_pos rfl] at h
        obtain ⟨v5, e5, h_1⟩ := lgI_some h
        obtain ⟨v6, e6, h_2⟩ := lgI_some h_1
        obtain ⟨v7, e7, h_3⟩ := lgI_some h_2
        obtain ⟨rfl, h_4⟩ := st0_some h_3
        clear h h_1 h_2 h_3
        have h := h_4
        try rw [callW_eq] at h
        exact WW.le (a := [some (.inr (.inr (16, 0))), some (.inl a1), some (.inl a2), some (.inl a3), some (.inl a4), some (.inl v5), some (.inl v6), some (.inl v7), none]) (by rw [hn]; rfl) (show _ = _ ∧ _ = _ ∧ _ = _ ∧ _ = _ ∧ _ = _ ∧ _ = _ ∧ _ = _ ∧ _ = _ ∧ True from ⟨e0, e1, e2, e3, e4, e5, e6, e7, trivial⟩) (h73 v5 v6 v7 w h)
      rw [if_neg hj] at h
      cases h
    · exact (show _ = _ ∧ _ = _ ∧ _ = _ ∧ _ = _ ∧ _ = _ ∧ True from ⟨rfl, rfl, rfl, rfl, rfl, trivial⟩)
set_option maxRecDepth 100000 in
set_option maxHeartbeats 4000000 in
theorem sX12_season_35 {N : Nat} {X : XT} (G : GX X cX12_season RX12) (hn : xnL X = 9) (hC : CRs X tX12_season (oF [(mX12_isMaster N), (mX12_isIn N), (mX12_isLed N)]) (oF []) (oF [(mX12_layTried N), (mX12_layKnown N), (mX12_pickOf N), (mX12_goesBy N)])) {r : Int32 × Wd} (hr : RTI X cX12_season r) (a1 : Int32) (a2 : Int32) (a3 : Int32) (a4 : Int32) : ∀ (n : Nat) (k104 : Int32 → Int32 → Wd → Option (Int32 × Wd)) (v5 : Int32) (v6 : Int32) (v7 : Int32) (w : Wd), fX12_season_35 N a1 a3 a4 n k104 v5 v6 v7 w = some r → (∀ (v5 : Int32) (v6 : Int32) (w : Wd), k104 v5 v6 w = some r → WW X (pcAt tX12_season 104) [some (.inr (.inr (16, 0))), some (.inl a1), some (.inl a2), some (.inl a3), some (.inl a4), some (.inl v5), some (.inl v6), none, none] [] w) → WW X (pcAt tX12_season 35) [some (.inr (.inr (16, 0))), some (.inl a1), some (.inl a2), some (.inl a3), some (.inl a4), some (.inl v5), some (.inl v6), some (.inl v7), none] [] w := by
  intro n
  induction n with
  | zero => intro k104 v5 v6 v7 w h h104; cases h
  | succ n ih =>
    intro k104 v5 v6 v7 w h h104
    refine run_sound (r := r) (X := X) (cc := cX12_season) (own := RX12) (tab := tX12_season) G (by rw [hn]; exact kX12_season) (oI := (oF [(mX12_isMaster N), (mX12_isIn N), (mX12_isLed N)])) (oL := (oF [])) (oV := (oF [(mX12_layTried N), (mX12_layKnown N), (mX12_pickOf N), (mX12_goesBy N)])) (rI := (fun x w => some (x, w))) (rL := (fun _ _ => none)) (rV := (fun _ => none))
      (K := (fun j ls st w => if j = 48 then (lgI ls 5 fun v5 => lgI ls 6 fun v6 => lgI ls 7 fun v7 => lgI ls 8 fun v8 => st0 st (callW (fX12_season_48 N a1 a3 a4 N (fX12_season_73 N a1 a3 a4 (fX12_season_35 N a1 a3 a4 n k104)) v5 v6 v7 v8) w)) else if j = 104 then (lgI ls 5 fun v5 => lgI ls 6 fun v6 => st0 st (k104 v5 v6 w)) else none)) (fun x w pc ls hx hd => hr x w pc ls (Option.some.inj hx) hd) (fun _ _ _ _ hx => by cases hx) (fun _ _ _ hx => by cases hx) hC (fun ls => lsb [some (.inr (.inr (16, 0))), some (.inl a1), some (.inl a2), some (.inl a3), some (.inl a4), none, none, none, none] 0 ls) (keepsP_of rfl) ?_ 145 35 [some (.inr (.inr (16, 0))), some (.inl a1), some (.inl a2), some (.inl a3), some (.inl a4), some (.inl v5), some (.inl v6), some (.inl v7), none] [] w ?_ h
    · intro j ls st w hfx h
      obtain ⟨e0, e1, e2, e3, e4, -⟩ : _ = _ ∧ _ = _ ∧ _ = _ ∧ _ = _ ∧ _ = _ ∧ True := hfx
      try dsimp only at h
      by_cases hj : j = 48
      · subst hj
        rw [if_pos rfl] at h
        obtain ⟨v5, e5, h_1⟩ := lgI_some h
        obtain ⟨v6, e6, h_2⟩ := lgI_some h_1
        obtain ⟨v7, e7, h_3⟩ := lgI_some h_2
        obtain ⟨v8, e8, h_4⟩ := lgI_some h_3
        obtain ⟨rfl, h_5⟩ := st0_some h_4
        clear h h_1 h_2 h_3 h_4
        have h := h_5
        try rw [callW_eq] at h
        exact WW.le (a := [some (.inr (.inr (16, 0))), some (.inl a1), some (.inl a2), some (.inl a3), some (.inl a4), some (.inl v5), some (.inl v6), some (.inl v7), some (.inl v8)]) (by rw [hn]; rfl) (show _ = _ ∧ _ = _ ∧ _ = _ ∧ _ = _ ∧ _ = _ ∧ _ = _ ∧ _ = _ ∧ _ = _ ∧ _ = _ ∧ True from ⟨e0, e1, e2, e3, e4, e5, e6, e7, e8, trivial⟩) (sX12_season_48 G hn hC hr a1 a2 a3 a4 N (fX12_season_73 N a1 a3 a4 (fX12_season_35 N a1 a3 a4 n k104)) v5 v6 v7 v8 w h (fun v5 v6 v7 w h => (sX12_season_73 G hn hC hr a1 a2 a3 a4 (fX12_season_35 N a1 a3 a4 n k104) v5 v6 v7 w h (fun v5 v6 v7 w h => (ih k104 v5 v6 v7 w h h104)))))
      rw [if_neg hj] at h
      by_cases hj : j = 104
      · subst hj
        rw [if_pos rfl] at h
        obtain ⟨v5, e5, h_1⟩ := lgI_some h
        obtain ⟨v6, e6, h_2⟩ := lgI_some h_1
        obtain ⟨rfl, h_3⟩ := st0_some h_2
        clear h h_1 h_2
        have h := h_3
        try rw [callW_eq] at h
        exact WW.le (a := [some (.inr (.inr (16, 0))), some (.inl a1), some (.inl a2), some (.inl a3), some (.inl a4), some (.inl v5), some (.inl v6), none, none]) (by rw [hn]; rfl) (show _ = _ ∧ _ = _ ∧ _ = _ ∧ _ = _ ∧ _ = _ ∧ _ = _ ∧ _ = _ ∧ True from ⟨e0, e1, e2, e3, e4, e5, e6, trivial⟩) (h104 v5 v6 w h)
      rw [if_neg hj] at h
      cases h
    · exact (show _ = _ ∧ _ = _ ∧ _ = _ ∧ _ = _ ∧ _ = _ ∧ True from ⟨rfl, rfl, rfl, rfl, rfl, trivial⟩)
set_option maxRecDepth 100000 in
set_option maxHeartbeats 4000000 in
theorem crX12_season {N : Nat} {X : XT} (G : GX X cX12_season RX12) (hR : xR X = rmL 8) : CRs X tX12_season (oF [(mX12_isMaster N), (mX12_isIn N), (mX12_isLed N)]) (oF []) (oF [(mX12_layTried N), (mX12_layKnown N), (mX12_pickOf N), (mX12_goesBy N)]) := by
  have hl : tX12_season.filter isInv = [(6, .invokestatic 609, 0, 0, 1, 0, 0, []), (20, .invokestatic 241, 0, 1, 3, 0, 0, []), (30, .invokestatic 241, 0, 1, 3, 0, 0, []), (41, .invokevirtual 579, 0, 0, 1, 0, 0, [(0, 0), (0, 0)]), (80, .invokevirtual 549, 0, 1, 4, 0, 0, [(0, 0), (0, 0)]), (110, .invokevirtual 564, 0, 2, 2, 0, 0, []), (145, .invokevirtual 612, 0, 2, 4, 0, 0, [(0, 0), (0, 0)]), (189, .invokevirtual 518, 0, 3, 3, 0, 0, [(0, 0), (0, 0)])] := rfl
  intro e he
  rw [hl] at he
  simp only [List.mem_cons, List.not_mem_nil, or_false] at he
  rcases he with rfl | rfl | rfl | rfl | rfl | rfl | rfl | rfl
  · exact crI_S (idx := 609) G (by decide +kernel) (MX12_isMaster N) (cw_of (ps := [2310, 2311, 164, 2312]) (by decide +kernel) (by decide +kernel)) ⟨by decide +kernel, by decide +kernel, by decide +kernel⟩ (by unfold rmOk; rw [hR]; exact ⟨by decide, by decide⟩)
  · exact crI_S (idx := 241) G (by decide +kernel) (MX12_isIn N) (cw_of (ps := [1986, 1987, 164, 1988]) (by decide +kernel) (by decide +kernel)) ⟨by decide +kernel, by decide +kernel, by decide +kernel⟩ (by unfold rmOk; rw [hR]; exact ⟨by decide, by decide⟩)
  · exact crI_S (idx := 241) G (by decide +kernel) (MX12_isIn N) (cw_of (ps := [1986, 1987, 164, 1988]) (by decide +kernel) (by decide +kernel)) ⟨by decide +kernel, by decide +kernel, by decide +kernel⟩ (by unfold rmOk; rw [hR]; exact ⟨by decide, by decide⟩)
  · exact crV_V (idx := 579) G (by decide +kernel) (MX12_layTried N) (cw_of (ps := [2290, 2292, 139, 164, 2293]) (by decide +kernel) (by decide +kernel)) ⟨by decide +kernel, by decide +kernel, by decide +kernel⟩ (by unfold rmOk; rw [hR]; exact ⟨by decide, by decide⟩)
  · exact crV_V (idx := 549) G (by decide +kernel) (MX12_layKnown N) (cw_of (ps := [2193, 2195, 122, 164, 2196]) (by decide +kernel) (by decide +kernel)) ⟨by decide +kernel, by decide +kernel, by decide +kernel⟩ (by unfold rmOk; rw [hR]; exact ⟨by decide, by decide⟩)
  · exact crI_V (idx := 564) G (by decide +kernel) (MX12_isLed N) (cw_of (ps := [2265, 2267, 135, 164, 2268]) (by decide +kernel) (by decide +kernel)) ⟨by decide +kernel, by decide +kernel, by decide +kernel⟩ (by unfold rmOk; rw [hR]; exact ⟨by decide, by decide⟩)
  · exact crV_V (idx := 612) G (by decide +kernel) (MX12_pickOf N) (cw_of (ps := [2313, 2315, 142, 164, 2316]) (by decide +kernel) (by decide +kernel)) ⟨by decide +kernel, by decide +kernel, by decide +kernel⟩ (by unfold rmOk; rw [hR]; exact ⟨by decide, by decide⟩)
  · exact crV_V (idx := 518) G (by decide +kernel) (MX12_goesBy N) (cw_of (ps := [2173, 2175, 119, 164, 2176]) (by decide +kernel) (by decide +kernel)) ⟨by decide +kernel, by decide +kernel, by decide +kernel⟩ (by unfold rmOk; rw [hR]; exact ⟨by decide, by decide⟩)
set_option maxRecDepth 100000 in
set_option maxHeartbeats 4000000 in
theorem MX12_season (N : Nat) : SndI yX12_season cX12_season 9 (some .int) 8 5 true (mX12_season N) := by
  refine SndI.of tX12_season (by decide +kernel) rfl rfl ?_ ?_
  · intro as w x h
    obtain ⟨t1, rfl, h_1⟩ := xS1_some h
    obtain ⟨a1, t2, rfl, h_2⟩ := xI1_some h_1
    obtain ⟨a2, t3, rfl, h_3⟩ := xI1_some h_2
    obtain ⟨a3, t4, rfl, h_4⟩ := xI1_some h_3
    obtain ⟨a4, t5, rfl, h_5⟩ := xI1_some h_4
    obtain ⟨rfl, h_6⟩ := xN1_some h_5
    clear h h_1 h_2 h_3 h_4 h_5
    have h := h_6
    rw [callW_eq] at h
    exact ⟨fun _ => ⟨_, _, _, rfl, rfl, _, rfl, rfl⟩, rfl, Nat.le_of_ble_eq_true rfl⟩
  · intro X G hn hR as w r h hr
    have hC := crX12_season (N := N) G hR
    obtain ⟨t1, rfl, h_1⟩ := xS1_some h
    obtain ⟨a1, t2, rfl, h_2⟩ := xI1_some h_1
    obtain ⟨a2, t3, rfl, h_3⟩ := xI1_some h_2
    obtain ⟨a3, t4, rfl, h_4⟩ := xI1_some h_3
    obtain ⟨a4, t5, rfl, h_5⟩ := xI1_some h_4
    obtain ⟨rfl, h_6⟩ := xN1_some h_5
    clear h h_1 h_2 h_3 h_4 h_5
    have h := h_6
    rw [callW_eq] at h
    refine run_sound (r := r) (X := X) (cc := cX12_season) (own := RX12) (tab := tX12_season) G (by rw [hn]; exact kX12_season) (oI := (oF [(mX12_isMaster N), (mX12_isIn N), (mX12_isLed N)])) (oL := (oF [])) (oV := (oF [(mX12_layTried N), (mX12_layKnown N), (mX12_pickOf N), (mX12_goesBy N)])) (rI := (fun x w => some (x, w))) (rL := (fun _ _ => none)) (rV := (fun _ => none))
      (K := (fun j ls st w => if j = 35 then (lgI ls 5 fun v5 => lgI ls 6 fun v6 => lgI ls 7 fun v7 => st0 st (callW (fX12_season_35 N a1 a3 a4 N (fX12_season_104 N a4) v5 v6 v7) w)) else none)) (fun x w pc ls hx hd => hr x w pc ls (Option.some.inj hx) hd) (fun _ _ _ _ hx => by cases hx) (fun _ _ _ hx => by cases hx) hC (fun ls => lsb [some (.inr (.inr (16, 0))), some (.inl a1), some (.inl a2), some (.inl a3), some (.inl a4), none, none, none, none] 0 ls) (keepsP_of rfl) ?_ 145 0 [some (.inr (.inr (16, 0))), some (.inl a1), some (.inl a2), some (.inl a3), some (.inl a4), none, none, none, none] [] w ?_ h
    · intro j ls st w hfx h
      obtain ⟨e0, e1, e2, e3, e4, -⟩ : _ = _ ∧ _ = _ ∧ _ = _ ∧ _ = _ ∧ _ = _ ∧ True := hfx
      try dsimp only at h
      by_cases hj : j = 35
      · subst hj
        rw [if_pos rfl] at h
        obtain ⟨v5, e5, h_1⟩ := lgI_some h
        obtain ⟨v6, e6, h_2⟩ := lgI_some h_1
        obtain ⟨v7, e7, h_3⟩ := lgI_some h_2
        obtain ⟨rfl, h_4⟩ := st0_some h_3
        clear h h_1 h_2 h_3
        have h := h_4
        try rw [callW_eq] at h
        exact WW.le (a := [some (.inr (.inr (16, 0))), some (.inl a1), some (.inl a2), some (.inl a3), some (.inl a4), some (.inl v5), some (.inl v6), some (.inl v7), none]) (by rw [hn]; rfl) (show _ = _ ∧ _ = _ ∧ _ = _ ∧ _ = _ ∧ _ = _ ∧ _ = _ ∧ _ = _ ∧ _ = _ ∧ True from ⟨e0, e1, e2, e3, e4, e5, e6, e7, trivial⟩) (sX12_season_35 G hn hC hr a1 a2 a3 a4 N (fX12_season_104 N a4) v5 v6 v7 w h (fun v5 v6 w h => (sX12_season_104 G hn hC hr a1 a2 a3 a4 v5 v6 w h)))
      rw [if_neg hj] at h
      cases h
    · exact (show _ = _ ∧ _ = _ ∧ _ = _ ∧ _ = _ ∧ _ = _ ∧ True from ⟨rfl, rfl, rfl, rfl, rfl, trivial⟩)
-- MoorGuidesModel.claim(III)I
def tX12_claim : List EN := [
  (0, .aload_n 0, 0, 0, 0, 0, 0, []), (1, .iconst 0, 0, 0, 0, 0, 0, []), (2, .putfield 196, 0, 12, 2, 0, 0, []), (5, .aload_n 0, 0, 0, 0, 0, 0, []),
  (6, .getfield 444, 0, 12, 93, 0, 0, []), (9, .bipush 12, 0, 0, 0, 12, 0, []), (11, .if_icmp .eq 26, 0, 18, 0, 0, 0, []), (14, .aload_n 0, 0, 0, 0, 0, 0, []),
  (15, .iload_n 1, 0, 0, 0, 0, 0, []), (16, .invokevirtual 463, 0, 0, 2, 0, 0, []), (19, .ifCond .eq 18, 0, 18, 0, 0, 0, []), (22, .iload_n 2, 0, 0, 0, 0, 0, []),
  (23, .invokestatic 479, 0, 1, 1, 0, 0, []), (26, .ifCond .eq 11, 0, 18, 0, 0, 0, []), (29, .aload_n 0, 0, 0, 0, 0, 0, []), (30, .iload_n 3, 0, 0, 0, 0, 0, []),
  (31, .invokevirtual 473, 0, 2, 2, 0, 0, []), (34, .ifCond .ne 5, 0, 20, 0, 0, 0, []), (37, .iconst (-1), 0, 0, 0, (-1), 0, []), (38, .ireturn, 0, 0, 0, 0, 0, []),
  (39, .aload_n 0, 0, 0, 0, 0, 0, []), (40, .getfield 160, 0, 12, 94, 0, 0, []), (43, .aload_n 0, 0, 0, 0, 0, 0, []), (44, .getfield 444, 0, 12, 93, 0, 0, []),
  (47, .iload_n 1, 0, 0, 0, 0, 0, []), (48, .iastore, 0, 0, 0, 0, 0, []), (49, .aload_n 0, 0, 0, 0, 0, 0, []), (50, .getfield 163, 0, 12, 95, 0, 0, []),
  (53, .aload_n 0, 0, 0, 0, 0, 0, []), (54, .getfield 444, 0, 12, 93, 0, 0, []), (57, .iload_n 2, 0, 0, 0, 0, 0, []), (58, .iastore, 0, 0, 0, 0, 0, []),
  (59, .aload_n 0, 0, 0, 0, 0, 0, []), (60, .getfield 166, 0, 12, 96, 0, 0, []), (63, .aload_n 0, 0, 0, 0, 0, 0, []), (64, .getfield 444, 0, 12, 93, 0, 0, []),
  (67, .iload_n 3, 0, 0, 0, 0, 0, []), (68, .iastore, 0, 0, 0, 0, 0, []), (69, .aload_n 0, 0, 0, 0, 0, 0, []), (70, .dup, 0, 0, 0, 0, 0, []),
  (71, .getfield 444, 0, 12, 93, 0, 0, []), (74, .iconst 1, 0, 0, 0, 1, 0, []), (75, .iadd, 0, 0, 0, 0, 0, []), (76, .putfield 444, 0, 12, 93, 0, 0, []),
  (79, .aload_n 0, 0, 0, 0, 0, 0, []), (80, .getfield 444, 0, 12, 93, 0, 0, []), (83, .iconst 1, 0, 0, 0, 1, 0, []), (84, .isub, 0, 0, 0, 0, 0, []),
  (85, .ireturn, 0, 0, 0, 0, 0, [])]
noncomputable def pX12_claim (N : Nat) (a1 : Int32) (a2 : Int32) (a3 : Int32) (w : Wd) : Option (Int32 × Wd) :=
  if (gI (setI w 16 0 2 (0 : Int32)) 16 0 93) = (12 : Int32) then some ((-1 : Int32), (setI w 16 0 2 (0 : Int32))) else
  (callW (pX12_isPerson N a1) (setI w 16 0 2 (0 : Int32))).bind fun r1 =>
  if r1.1 = 0 then some ((-1 : Int32), r1.2) else
  (callW (pX12_isNight N a2) r1.2).bind fun r2 =>
  if r2.1 = 0 then some ((-1 : Int32), r2.2) else
  (callW (pX12_isPart N a3) r2.2).bind fun r3 =>
  if r3.1 = 0 then some ((-1 : Int32), r3.2) else
  (stI r3.2 121 0 (gI r3.2 16 0 93) 12 a1).bind fun w4 =>
  (stI w4 122 0 (gI w4 16 0 93) 12 a2).bind fun w5 =>
  (stI w5 123 0 (gI w5 16 0 93) 12 a3).bind fun w6 =>
  some (((gI (setI w6 16 0 93 ((gI w6 16 0 93) + (1 : Int32))) 16 0 93) - (1 : Int32)), (setI w6 16 0 93 ((gI w6 16 0 93) + (1 : Int32))))
noncomputable def mX12_claim (N : Nat) (as : List AV) (w : Wd) : Option (Int32 × Wd) := xS1 16 as fun t => xI1 t fun a1 t => xI1 t fun a2 t => xI1 t fun a3 t => xN1 t (callW (pX12_claim N a1 a2 a3) w)
set_option maxRecDepth 100000 in
set_option maxHeartbeats 4000000 in
theorem kX12_claim : TK cX12_claim RX12 4 tX12_claim := ⟨by decide +kernel, wok_of [1602, 1693, 1694, 1693, 1695, 1693, 1696, 1693, 1693, 1693, 1693] (by decide +kernel) (by decide +kernel)⟩
set_option maxRecDepth 100000 in
set_option maxHeartbeats 4000000 in
theorem crX12_claim {N : Nat} {X : XT} (G : GX X cX12_claim RX12) (hR : xR X = rmL 3) : CRs X tX12_claim (oF [(mX12_isPerson N), (mX12_isNight N), (mX12_isPart N)]) (oF []) (oF []) := by
  have hl : tX12_claim.filter isInv = [(16, .invokevirtual 463, 0, 0, 2, 0, 0, []), (23, .invokestatic 479, 0, 1, 1, 0, 0, []), (31, .invokevirtual 473, 0, 2, 2, 0, 0, [])] := rfl
  intro e he
  rw [hl] at he
  simp only [List.mem_cons, List.not_mem_nil, or_false] at he
  rcases he with rfl | rfl | rfl
  · exact crI_V (idx := 463) G (by decide +kernel) (MX12_isPerson N) (cw_of (ps := [2080, 2082, 106, 164, 2083]) (by decide +kernel) (by decide +kernel)) ⟨by decide +kernel, by decide +kernel, by decide +kernel⟩ (by unfold rmOk; rw [hR]; exact ⟨by decide, by decide⟩)
  · exact crI_S (idx := 479) G (by decide +kernel) (MX12_isNight N) (cw_of (ps := [2116, 2117, 164, 2118]) (by decide +kernel) (by decide +kernel)) ⟨by decide +kernel, by decide +kernel, by decide +kernel⟩ (by unfold rmOk; rw [hR]; exact ⟨by decide, by decide⟩)
  · exact crI_V (idx := 473) G (by decide +kernel) (MX12_isPart N) (cw_of (ps := [2104, 2106, 111, 164, 2107]) (by decide +kernel) (by decide +kernel)) ⟨by decide +kernel, by decide +kernel, by decide +kernel⟩ (by unfold rmOk; rw [hR]; exact ⟨by decide, by decide⟩)
set_option maxRecDepth 100000 in
set_option maxHeartbeats 4000000 in
theorem MX12_claim (N : Nat) : SndI yX12_claim cX12_claim 4 (some .int) 3 4 true (mX12_claim N) := by
  refine SndI.of tX12_claim (by decide +kernel) rfl rfl ?_ ?_
  · intro as w x h
    obtain ⟨t1, rfl, h_1⟩ := xS1_some h
    obtain ⟨a1, t2, rfl, h_2⟩ := xI1_some h_1
    obtain ⟨a2, t3, rfl, h_3⟩ := xI1_some h_2
    obtain ⟨a3, t4, rfl, h_4⟩ := xI1_some h_3
    obtain ⟨rfl, h_5⟩ := xN1_some h_4
    clear h h_1 h_2 h_3 h_4
    have h := h_5
    rw [callW_eq] at h
    exact ⟨fun _ => ⟨_, _, _, rfl, rfl, _, rfl, rfl⟩, rfl, Nat.le_of_ble_eq_true rfl⟩
  · intro X G hn hR as w r h hr
    have hC := crX12_claim (N := N) G hR
    obtain ⟨t1, rfl, h_1⟩ := xS1_some h
    obtain ⟨a1, t2, rfl, h_2⟩ := xI1_some h_1
    obtain ⟨a2, t3, rfl, h_3⟩ := xI1_some h_2
    obtain ⟨a3, t4, rfl, h_4⟩ := xI1_some h_3
    obtain ⟨rfl, h_5⟩ := xN1_some h_4
    clear h h_1 h_2 h_3 h_4
    have h := h_5
    rw [callW_eq] at h
    refine run_sound (r := r) (X := X) (cc := cX12_claim) (own := RX12) (tab := tX12_claim) G (by rw [hn]; exact kX12_claim) (oI := (oF [(mX12_isPerson N), (mX12_isNight N), (mX12_isPart N)])) (oL := (oF [])) (oV := (oF [])) (rI := (fun x w => some (x, w))) (rL := (fun _ _ => none)) (rV := (fun _ => none))
      (K := (fun j ls st w => none)) (fun x w pc ls hx hd => hr x w pc ls (Option.some.inj hx) hd) (fun _ _ _ _ hx => by cases hx) (fun _ _ _ hx => by cases hx) hC (fun ls => lsb [some (.inr (.inr (16, 0))), some (.inl a1), some (.inl a2), some (.inl a3)] 0 ls) (keepsP_of rfl) ?_ 51 0 [some (.inr (.inr (16, 0))), some (.inl a1), some (.inl a2), some (.inl a3)] [] w ?_ h
    · intro j ls st w hfx h
      obtain ⟨e0, e1, e2, e3, -⟩ : _ = _ ∧ _ = _ ∧ _ = _ ∧ _ = _ ∧ True := hfx
      try dsimp only at h
      cases h
    · exact (show _ = _ ∧ _ = _ ∧ _ = _ ∧ _ = _ ∧ True from ⟨rfl, rfl, rfl, rfl, trivial⟩)
-- MoorGuidesModel.cannot(II)Z
def tX12_cannot : List EN := [
  (0, .iload_n 1, 0, 0, 0, 0, 0, []), (1, .iload_n 2, 0, 0, 0, 0, 0, []), (2, .if_icmp .eq 18, 0, 12, 0, 0, 0, []), (5, .aload_n 0, 0, 0, 0, 0, 0, []),
  (6, .getfield 163, 0, 12, 95, 0, 0, []), (9, .iload_n 1, 0, 0, 0, 0, 0, []), (10, .iaload, 0, 0, 0, 0, 0, []), (11, .aload_n 0, 0, 0, 0, 0, 0, []),
  (12, .getfield 163, 0, 12, 95, 0, 0, []), (15, .iload_n 2, 0, 0, 0, 0, 0, []), (16, .iaload, 0, 0, 0, 0, 0, []), (17, .if_icmp .eq 5, 0, 14, 0, 0, 0, []),
  (20, .iconst 0, 0, 0, 0, 0, 0, []), (21, .ireturn, 0, 0, 0, 0, 0, []), (22, .aload_n 0, 0, 0, 0, 0, 0, []), (23, .getfield 160, 0, 12, 94, 0, 0, []),
  (26, .iload_n 1, 0, 0, 0, 0, 0, []), (27, .iaload, 0, 0, 0, 0, 0, []), (28, .aload_n 0, 0, 0, 0, 0, 0, []), (29, .getfield 160, 0, 12, 94, 0, 0, []),
  (32, .iload_n 2, 0, 0, 0, 0, 0, []), (33, .iaload, 0, 0, 0, 0, 0, []), (34, .if_icmp .ne 24, 0, 36, 0, 0, 0, []), (37, .aload_n 0, 0, 0, 0, 0, 0, []),
  (38, .getfield 166, 0, 12, 96, 0, 0, []), (41, .iload_n 1, 0, 0, 0, 0, 0, []), (42, .iaload, 0, 0, 0, 0, 0, []), (43, .aload_n 0, 0, 0, 0, 0, 0, []),
  (44, .getfield 166, 0, 12, 96, 0, 0, []), (47, .iload_n 2, 0, 0, 0, 0, 0, []), (48, .iaload, 0, 0, 0, 0, 0, []), (49, .if_icmp .eq 7, 0, 34, 0, 0, 0, []),
  (52, .iconst 1, 0, 0, 0, 1, 0, []), (53, .goto 4, 0, 35, 0, 0, 0, []), (56, .iconst 0, 0, 0, 0, 0, 0, []), (57, .ireturn, 0, 0, 0, 0, 0, []),
  (58, .aload_n 0, 0, 0, 0, 0, 0, []), (59, .getfield 118, 0, 12, 72, 0, 0, []), (62, .bipush 8, 0, 0, 0, 8, 0, []), (64, .aload_n 0, 0, 0, 0, 0, 0, []),
  (65, .getfield 166, 0, 12, 96, 0, 0, []), (68, .iload_n 1, 0, 0, 0, 0, 0, []), (69, .iaload, 0, 0, 0, 0, 0, []), (70, .imul, 0, 0, 0, 0, 0, []),
  (71, .aload_n 0, 0, 0, 0, 0, 0, []), (72, .getfield 166, 0, 12, 96, 0, 0, []), (75, .iload_n 2, 0, 0, 0, 0, 0, []), (76, .iaload, 0, 0, 0, 0, 0, []),
  (77, .iadd, 0, 0, 0, 0, 0, []), (78, .iaload, 0, 0, 0, 0, 0, []), (79, .aload_n 0, 0, 0, 0, 0, 0, []), (80, .getfield 310, 0, 12, 17, 0, 0, []),
  (83, .if_icmp .gt 7, 0, 55, 0, 0, 0, []), (86, .iconst 1, 0, 0, 0, 1, 0, []), (87, .goto 4, 0, 56, 0, 0, 0, []), (90, .iconst 0, 0, 0, 0, 0, 0, []),
  (91, .ireturn, 0, 0, 0, 0, 0, [])]
noncomputable def pX12_cannot (N : Nat) (a1 : Int32) (a2 : Int32) (w : Wd) : Option (Int32 × Wd) :=
  if a1 = a2 then some ((0 : Int32), w) else
  (ldI w 122 0 a1 12).bind fun x1 =>
  (ldI w 122 0 a2 12).bind fun x2 =>
  if x1 = x2 then
    (ldI w 121 0 a1 12).bind fun x3 =>
    (ldI w 121 0 a2 12).bind fun x4 =>
    if x3 = x4 then
      (ldI w 123 0 a1 12).bind fun x5 =>
      (ldI w 123 0 a2 12).bind fun x6 =>
      if x5 = x6 then some ((0 : Int32), w) else
      some ((1 : Int32), w)
    else
    (ldI w 123 0 a1 12).bind fun x7 =>
    (ldI w 123 0 a2 12).bind fun x8 =>
    (ldI w 107 0 (((8 : Int32) * x7) + x8) 64).bind fun x9 =>
    if (gI w 16 0 17) < x9 then some ((0 : Int32), w) else
    some ((1 : Int32), w)
  else
  some ((0 : Int32), w)
noncomputable def mX12_cannot (N : Nat) (as : List AV) (w : Wd) : Option (Int32 × Wd) := xS1 16 as fun t => xI1 t fun a1 t => xI1 t fun a2 t => xN1 t (callW (pX12_cannot N a1 a2) w)
set_option maxRecDepth 100000 in
set_option maxHeartbeats 4000000 in
theorem kX12_cannot : TK cX12_cannot RX12 3 tX12_cannot := ⟨by decide +kernel, wok_of [1695, 1695, 1694, 1694, 1696, 1696, 1672, 1696, 1696, 1617] (by decide +kernel) (by decide +kernel)⟩
set_option maxRecDepth 100000 in
set_option maxHeartbeats 4000000 in
theorem crX12_cannot {N : Nat} {X : XT} (G : GX X cX12_cannot RX12) (hR : xR X = rmL 1) : CRs X tX12_cannot (oF []) (oF []) (oF []) := by
  have hl : tX12_cannot.filter isInv = [] := rfl
  intro e he
  rw [hl] at he
  cases he
set_option maxRecDepth 100000 in
set_option maxHeartbeats 4000000 in
theorem MX12_cannot (N : Nat) : SndI yX12_cannot cX12_cannot 3 (some .boolean) 1 3 true (mX12_cannot N) := by
  refine SndI.ofZ tX12_cannot (by decide +kernel) rfl rfl ?_ ?_
  · intro as w x h
    obtain ⟨t1, rfl, h_1⟩ := xS1_some h
    obtain ⟨a1, t2, rfl, h_2⟩ := xI1_some h_1
    obtain ⟨a2, t3, rfl, h_3⟩ := xI1_some h_2
    obtain ⟨rfl, h_4⟩ := xN1_some h_3
    clear h h_1 h_2 h_3
    have h := h_4
    rw [callW_eq] at h
    exact ⟨fun _ => ⟨_, _, _, rfl, rfl, _, rfl, rfl⟩, rfl, Nat.le_of_ble_eq_true rfl⟩
  · intro X G hn hR as w r h hr
    have hC := crX12_cannot (N := N) G hR
    obtain ⟨t1, rfl, h_1⟩ := xS1_some h
    obtain ⟨a1, t2, rfl, h_2⟩ := xI1_some h_1
    obtain ⟨a2, t3, rfl, h_3⟩ := xI1_some h_2
    obtain ⟨rfl, h_4⟩ := xN1_some h_3
    clear h h_1 h_2 h_3
    have h := h_4
    rw [callW_eq] at h
    refine run_sound (r := r) (X := X) (cc := cX12_cannot) (own := RX12) (tab := tX12_cannot) G (by rw [hn]; exact kX12_cannot) (oI := (oF [])) (oL := (oF [])) (oV := (oF [])) (rI := retZ) (rL := (fun _ _ => none)) (rV := (fun _ => none))
      (K := (fun j ls st w => none)) hr (fun _ _ _ _ hx => by cases hx) (fun _ _ _ hx => by cases hx) hC (fun ls => lsb [some (.inr (.inr (16, 0))), some (.inl a1), some (.inl a2)] 0 ls) (keepsP_of rfl) ?_ 59 0 [some (.inr (.inr (16, 0))), some (.inl a1), some (.inl a2)] [] w ?_ h
    · intro j ls st w hfx h
      obtain ⟨e0, e1, e2, -⟩ : _ = _ ∧ _ = _ ∧ _ = _ ∧ True := hfx
      try dsimp only at h
      cases h
    · exact (show _ = _ ∧ _ = _ ∧ _ = _ ∧ True from ⟨rfl, rfl, rfl, trivial⟩)
-- MoorGuidesModel.canAll(I)Z
def tX12_canAll : List EN := [
  (0, .iconst 0, 0, 0, 0, 0, 0, []), (1, .istore_n 2, 0, 0, 0, 0, 0, []), (2, .iload_n 2, 3, 0, 0, 0, 0, []), (3, .aload_n 0, 0, 0, 0, 0, 0, []),
  (4, .getfield 444, 0, 12, 93, 0, 0, []), (7, .if_icmp .ge 49, 0, 30, 0, 0, 0, []), (10, .iconst 0, 0, 0, 0, 0, 0, []), (11, .istore_n 3, 0, 0, 0, 0, 0, []),
  (12, .iload_n 3, 9, 0, 0, 0, 0, []), (13, .iload_n 2, 0, 0, 0, 0, 0, []), (14, .if_icmp .ge 36, 0, 28, 0, 0, 0, []), (17, .iload_n 1, 0, 0, 0, 0, 0, []),
  (18, .iload_n 2, 0, 0, 0, 0, 0, []), (19, .invokestatic 341, 0, 0, 2, 0, 0, []), (22, .ifCond .eq 22, 0, 26, 0, 0, 0, []), (25, .iload_n 1, 0, 0, 0, 0, 0, []),
  (26, .iload_n 3, 0, 0, 0, 0, 0, []), (27, .invokestatic 341, 0, 0, 2, 0, 0, []), (30, .ifCond .eq 14, 0, 26, 0, 0, 0, []), (33, .aload_n 0, 0, 0, 0, 0, 0, []),
  (34, .iload_n 2, 0, 0, 0, 0, 0, []), (35, .iload_n 3, 0, 0, 0, 0, 0, []), (36, .invokevirtual 616, 0, 1, 3, 0, 0, []), (39, .ifCond .eq 5, 0, 26, 0, 0, 0, []),
  (42, .iconst 0, 0, 0, 0, 0, 0, []), (43, .ireturn, 0, 0, 0, 0, 0, []), (44, .iinc 3 1, 0, 0, 0, 1, 0, []), (47, .goto (-35), 0, 8, 0, 0, 0, []),
  (50, .iinc 2 1, 29, 0, 0, 1, 0, []), (53, .goto (-51), 0, 2, 0, 0, 0, []), (56, .iconst 1, 0, 0, 0, 1, 0, []), (57, .ireturn, 0, 0, 0, 0, 0, [])]
noncomputable def fX12_canAll_28 (N : Nat) (a1 : Int32) (k2 : Int32 → Wd → Option (Int32 × Wd)) (v2 : Int32) (w : Wd) : Option (Int32 × Wd) :=
  k2 (v2 + (1 : Int32)) w
noncomputable def fX12_canAll_8 (N : Nat) (a1 : Int32) : Nat → (Int32 → Wd → Option (Int32 × Wd)) → Int32 → Int32 → Wd → Option (Int32 × Wd)
  | 0, _, _, _, _ => none
  | n + 1, k28, v2, v3, w =>
    if v3 < v2 then
      (callW (pX12_isOf N a1 v2) w).bind fun r1 =>
      if r1.1 = 0 then callW (fX12_canAll_8 N a1 n k28 v2 (v3 + (1 : Int32))) r1.2 else
      (callW (pX12_isOf N a1 v3) r1.2).bind fun r2 =>
      if r2.1 = 0 then callW (fX12_canAll_8 N a1 n k28 v2 (v3 + (1 : Int32))) r2.2 else
      (callW (pX12_cannot N v2 v3) r2.2).bind fun r3 =>
      if r3.1 = 0 then callW (fX12_canAll_8 N a1 n k28 v2 (v3 + (1 : Int32))) r3.2 else
      some ((0 : Int32), r3.2)
    else
    k28 v2 w
noncomputable def fX12_canAll_2 (N : Nat) (a1 : Int32) : Nat → Int32 → Wd → Option (Int32 × Wd)
  | 0, _, _ => none
  | n + 1, v2, w =>
    if v2 < (gI w 16 0 93) then callW (fX12_canAll_8 N a1 N (fX12_canAll_28 N a1 (fX12_canAll_2 N a1 n)) v2 (0 : Int32)) w else
    some ((1 : Int32), w)
noncomputable def pX12_canAll (N : Nat) (a1 : Int32) (w : Wd) : Option (Int32 × Wd) :=
  callW (fX12_canAll_2 N a1 N (0 : Int32)) w
noncomputable def mX12_canAll (N : Nat) (as : List AV) (w : Wd) : Option (Int32 × Wd) := xS1 16 as fun t => xI1 t fun a1 t => xN1 t (callW (pX12_canAll N a1) w)
set_option maxRecDepth 100000 in
set_option maxHeartbeats 4000000 in
theorem kX12_canAll : TK cX12_canAll RX12 4 tX12_canAll := ⟨by decide +kernel, wok_of [1693] (by decide +kernel) (by decide +kernel)⟩
set_option maxRecDepth 100000 in
set_option maxHeartbeats 4000000 in
theorem sX12_canAll_28 {N : Nat} {X : XT} (G : GX X cX12_canAll RX12) (hn : xnL X = 4) (hC : CRs X tX12_canAll (oF [(mX12_isOf N), (mX12_cannot N)]) (oF []) (oF [])) {r : Int32 × Wd} (hr : RTZ X cX12_canAll r) (a1 : Int32) : ∀ (k2 : Int32 → Wd → Option (Int32 × Wd)) (v2 : Int32) (w : Wd), fX12_canAll_28 N a1 k2 v2 w = some r → (∀ (v2 : Int32) (w : Wd), k2 v2 w = some r → WW X (pcAt tX12_canAll 2) [some (.inr (.inr (16, 0))), some (.inl a1), some (.inl v2), none] [] w) → WW X (pcAt tX12_canAll 28) [some (.inr (.inr (16, 0))), some (.inl a1), some (.inl v2), none] [] w := by
  intro k2 v2 w h h2
  refine run_sound (r := r) (X := X) (cc := cX12_canAll) (own := RX12) (tab := tX12_canAll) G (by rw [hn]; exact kX12_canAll) (oI := (oF [(mX12_isOf N), (mX12_cannot N)])) (oL := (oF [])) (oV := (oF [])) (rI := retZ) (rL := (fun _ _ => none)) (rV := (fun _ => none))
    (K := (fun j ls st w => if j = 2 then (lgI ls 2 fun v2 => st0 st (k2 v2 w)) else none)) hr (fun _ _ _ _ hx => by cases hx) (fun _ _ _ hx => by cases hx) hC (fun ls => lsb [some (.inr (.inr (16, 0))), some (.inl a1), none, none] 0 ls) (keepsP_of rfl) ?_ 34 28 [some (.inr (.inr (16, 0))), some (.inl a1), some (.inl v2), none] [] w ?_ h
  · intro j ls st w hfx h
    obtain ⟨e0, e1, -⟩ : _ = _ ∧ _ = _ ∧ True := hfx
    try dsimp only at h
    by_cases hj : j = 2
    · subst hj
      rw [if_pos rfl] at h
      obtain ⟨v2, e2, h_1⟩ := lgI_some h
      obtain ⟨rfl, h_2⟩ := st0_some h_1
      clear h h_1
      have h := h_2
      try rw [callW_eq] at h
      exact WW.le (a := [some (.inr (.inr (16, 0))), some (.inl a1), some (.inl v2), none]) (by rw [hn]; rfl) (show _ = _ ∧ _ = _ ∧ _ = _ ∧ True from ⟨e0, e1, e2, trivial⟩) (h2 v2 w h)
    rw [if_neg hj] at h
    cases h
  · exact (show _ = _ ∧ _ = _ ∧ True from ⟨rfl, rfl, trivial⟩)
set_option maxRecDepth 100000 in
set_option maxHeartbeats 4000000 in
theorem sX12_canAll_8 {N : Nat} {X : XT} (G : GX X cX12_canAll RX12) (hn : xnL X = 4) (hC : CRs X tX12_canAll (oF [(mX12_isOf N), (mX12_cannot N)]) (oF []) (oF [])) {r : Int32 × Wd} (hr : RTZ X cX12_canAll r) (a1 : Int32) : ∀ (n : Nat) (k28 : Int32 → Wd → Option (Int32 × Wd)) (v2 : Int32) (v3 : Int32) (w : Wd), fX12_canAll_8 N a1 n k28 v2 v3 w = some r → (∀ (v2 : Int32) (w : Wd), k28 v2 w = some r → WW X (pcAt tX12_canAll 28) [some (.inr (.inr (16, 0))), some (.inl a1), some (.inl v2), none] [] w) → WW X (pcAt tX12_canAll 8) [some (.inr (.inr (16, 0))), some (.inl a1), some (.inl v2), some (.inl v3)] [] w := by
  intro n
  induction n with
  | zero => intro k28 v2 v3 w h h28; cases h
  | succ n ih =>
    intro k28 v2 v3 w h h28
    refine run_sound (r := r) (X := X) (cc := cX12_canAll) (own := RX12) (tab := tX12_canAll) G (by rw [hn]; exact kX12_canAll) (oI := (oF [(mX12_isOf N), (mX12_cannot N)])) (oL := (oF [])) (oV := (oF [])) (rI := retZ) (rL := (fun _ _ => none)) (rV := (fun _ => none))
      (K := (fun j ls st w => if j = 8 then (lgI ls 2 fun v2 => lgI ls 3 fun v3 => st0 st (callW (fX12_canAll_8 N a1 n k28 v2 v3) w)) else if j = 28 then (lgI ls 2 fun v2 => st0 st (k28 v2 w)) else none)) hr (fun _ _ _ _ hx => by cases hx) (fun _ _ _ hx => by cases hx) hC (fun ls => lsb [some (.inr (.inr (16, 0))), some (.inl a1), none, none] 0 ls) (keepsP_of rfl) ?_ 34 8 [some (.inr (.inr (16, 0))), some (.inl a1), some (.inl v2), some (.inl v3)] [] w ?_ h
    · intro j ls st w hfx h
      obtain ⟨e0, e1, -⟩ : _ = _ ∧ _ = _ ∧ True := hfx
      try dsimp only at h
      by_cases hj : j = 8
      · subst hj
        rw [if_pos rfl] at h
        obtain ⟨v2, e2, h_1⟩ := lgI_some h
        obtain ⟨v3, e3, h_2⟩ := lgI_some h_1
        obtain ⟨rfl, h_3⟩ := st0_some h_2
        clear h h_1 h_2
        have h := h_3
        try rw [callW_eq] at h
        exact WW.le (a := [some (.inr (.inr (16, 0))), some (.inl a1), some (.inl v2), some (.inl v3)]) (by rw [hn]; rfl) (show _ = _ ∧ _ = _ ∧ _ = _ ∧ _ = _ ∧ True from ⟨e0, e1, e2, e3, trivial⟩) (ih k28 v2 v3 w h h28)
      rw [if_neg hj] at h
      by_cases hj : j = 28
      · subst hj
        rw [if_pos rfl] at h
        obtain ⟨v2, e2, h_1⟩ := lgI_some h
        obtain ⟨rfl, h_2⟩ := st0_some h_1
        clear h h_1
        have h := h_2
        try rw [callW_eq] at h
        exact WW.le (a := [some (.inr (.inr (16, 0))), some (.inl a1), some (.inl v2), none]) (by rw [hn]; rfl) (show _ = _ ∧ _ = _ ∧ _ = _ ∧ True from ⟨e0, e1, e2, trivial⟩) (h28 v2 w h)
      rw [if_neg hj] at h
      cases h
    · exact (show _ = _ ∧ _ = _ ∧ True from ⟨rfl, rfl, trivial⟩)
set_option maxRecDepth 100000 in
set_option maxHeartbeats 4000000 in
theorem sX12_canAll_2 {N : Nat} {X : XT} (G : GX X cX12_canAll RX12) (hn : xnL X = 4) (hC : CRs X tX12_canAll (oF [(mX12_isOf N), (mX12_cannot N)]) (oF []) (oF [])) {r : Int32 × Wd} (hr : RTZ X cX12_canAll r) (a1 : Int32) : ∀ (n : Nat) (v2 : Int32) (w : Wd), fX12_canAll_2 N a1 n v2 w = some r → WW X (pcAt tX12_canAll 2) [some (.inr (.inr (16, 0))), some (.inl a1), some (.inl v2), none] [] w := by
  intro n
  induction n with
  | zero => intro v2 w h; cases h
  | succ n ih =>
    intro v2 w h
    refine run_sound (r := r) (X := X) (cc := cX12_canAll) (own := RX12) (tab := tX12_canAll) G (by rw [hn]; exact kX12_canAll) (oI := (oF [(mX12_isOf N), (mX12_cannot N)])) (oL := (oF [])) (oV := (oF [])) (rI := retZ) (rL := (fun _ _ => none)) (rV := (fun _ => none))
      (K := (fun j ls st w => if j = 8 then (lgI ls 2 fun v2 => lgI ls 3 fun v3 => st0 st (callW (fX12_canAll_8 N a1 N (fX12_canAll_28 N a1 (fX12_canAll_2 N a1 n)) v2 v3) w)) else none)) hr (fun _ _ _ _ hx => by cases hx) (fun _ _ _ hx => by cases hx) hC (fun ls => lsb [some (.inr (.inr (16, 0))), some (.inl a1), none, none] 0 ls) (keepsP_of rfl) ?_ 34 2 [some (.inr (.inr (16, 0))), some (.inl a1), some (.inl v2), none] [] w ?_ h
    · intro j ls st w hfx h
      obtain ⟨e0, e1, -⟩ : _ = _ ∧ _ = _ ∧ True := hfx
      try dsimp only at h
      by_cases hj : j = 8
      · subst hj
        rw [if_pos rfl] at h
        obtain ⟨v2, e2, h_1⟩ := lgI_some h
        obtain ⟨v3, e3, h_2⟩ := lgI_some h_1
        obtain ⟨rfl, h_3⟩ := st0_some h_2
        clear h h_1 h_2
        have h := h_3
        try rw [callW_eq] at h
        exact WW.le (a := [some (.inr (.inr (16, 0))), some (.inl a1), some (.inl v2), some (.inl v3)]) (by rw [hn]; rfl) (show _ = _ ∧ _ = _ ∧ _ = _ ∧ _ = _ ∧ True from ⟨e0, e1, e2, e3, trivial⟩) (sX12_canAll_8 G hn hC hr a1 N (fX12_canAll_28 N a1 (fX12_canAll_2 N a1 n)) v2 v3 w h (fun v2 w h => (sX12_canAll_28 G hn hC hr a1 (fX12_canAll_2 N a1 n) v2 w h (fun v2 w h => (ih v2 w h)))))
      rw [if_neg hj] at h
      cases h
    · exact (show _ = _ ∧ _ = _ ∧ True from ⟨rfl, rfl, trivial⟩)
set_option maxRecDepth 100000 in
set_option maxHeartbeats 4000000 in
theorem crX12_canAll {N : Nat} {X : XT} (G : GX X cX12_canAll RX12) (hR : xR X = rmL 2) : CRs X tX12_canAll (oF [(mX12_isOf N), (mX12_cannot N)]) (oF []) (oF []) := by
  have hl : tX12_canAll.filter isInv = [(19, .invokestatic 341, 0, 0, 2, 0, 0, []), (27, .invokestatic 341, 0, 0, 2, 0, 0, []), (36, .invokevirtual 616, 0, 1, 3, 0, 0, [])] := rfl
  intro e he
  rw [hl] at he
  simp only [List.mem_cons, List.not_mem_nil, or_false] at he
  rcases he with rfl | rfl | rfl
  · exact crI_S (idx := 341) G (by decide +kernel) (MX12_isOf N) (cw_of (ps := [1589, 1590, 164, 1591]) (by decide +kernel) (by decide +kernel)) ⟨by decide +kernel, by decide +kernel, by decide +kernel⟩ (by unfold rmOk; rw [hR]; exact ⟨by decide, by decide⟩)
  · exact crI_S (idx := 341) G (by decide +kernel) (MX12_isOf N) (cw_of (ps := [1589, 1590, 164, 1591]) (by decide +kernel) (by decide +kernel)) ⟨by decide +kernel, by decide +kernel, by decide +kernel⟩ (by unfold rmOk; rw [hR]; exact ⟨by decide, by decide⟩)
  · exact crI_V (idx := 616) G (by decide +kernel) (MX12_cannot N) (cw_of (ps := [2338, 2340, 145, 164, 2341]) (by decide +kernel) (by decide +kernel)) ⟨by decide +kernel, by decide +kernel, by decide +kernel⟩ (by unfold rmOk; rw [hR]; exact ⟨by decide, by decide⟩)
set_option maxRecDepth 100000 in
set_option maxHeartbeats 4000000 in
theorem MX12_canAll (N : Nat) : SndI yX12_canAll cX12_canAll 4 (some .boolean) 2 2 true (mX12_canAll N) := by
  refine SndI.ofZ tX12_canAll (by decide +kernel) rfl rfl ?_ ?_
  · intro as w x h
    obtain ⟨t1, rfl, h_1⟩ := xS1_some h
    obtain ⟨a1, t2, rfl, h_2⟩ := xI1_some h_1
    obtain ⟨rfl, h_3⟩ := xN1_some h_2
    clear h h_1 h_2
    have h := h_3
    rw [callW_eq] at h
    exact ⟨fun _ => ⟨_, _, _, rfl, rfl, _, rfl, rfl⟩, rfl, Nat.le_of_ble_eq_true rfl⟩
  · intro X G hn hR as w r h hr
    have hC := crX12_canAll (N := N) G hR
    obtain ⟨t1, rfl, h_1⟩ := xS1_some h
    obtain ⟨a1, t2, rfl, h_2⟩ := xI1_some h_1
    obtain ⟨rfl, h_3⟩ := xN1_some h_2
    clear h h_1 h_2
    have h := h_3
    rw [callW_eq] at h
    refine run_sound (r := r) (X := X) (cc := cX12_canAll) (own := RX12) (tab := tX12_canAll) G (by rw [hn]; exact kX12_canAll) (oI := (oF [(mX12_isOf N), (mX12_cannot N)])) (oL := (oF [])) (oV := (oF [])) (rI := retZ) (rL := (fun _ _ => none)) (rV := (fun _ => none))
      (K := (fun j ls st w => if j = 2 then (lgI ls 2 fun v2 => st0 st (callW (fX12_canAll_2 N a1 N v2) w)) else none)) hr (fun _ _ _ _ hx => by cases hx) (fun _ _ _ hx => by cases hx) hC (fun ls => lsb [some (.inr (.inr (16, 0))), some (.inl a1), none, none] 0 ls) (keepsP_of rfl) ?_ 34 0 [some (.inr (.inr (16, 0))), some (.inl a1), none, none] [] w ?_ h
    · intro j ls st w hfx h
      obtain ⟨e0, e1, -⟩ : _ = _ ∧ _ = _ ∧ True := hfx
      try dsimp only at h
      by_cases hj : j = 2
      · subst hj
        rw [if_pos rfl] at h
        obtain ⟨v2, e2, h_1⟩ := lgI_some h
        obtain ⟨rfl, h_2⟩ := st0_some h_1
        clear h h_1
        have h := h_2
        try rw [callW_eq] at h
        exact WW.le (a := [some (.inr (.inr (16, 0))), some (.inl a1), some (.inl v2), none]) (by rw [hn]; rfl) (show _ = _ ∧ _ = _ ∧ _ = _ ∧ True from ⟨e0, e1, e2, trivial⟩) (sX12_canAll_2 G hn hC hr a1 N v2 w h)
      rw [if_neg hj] at h
      cases h
    · exact (show _ = _ ∧ _ = _ ∧ True from ⟨rfl, rfl, trivial⟩)
-- MoorGuidesModel.wrongly()I
def tX12_wrongly : List EN := [
  (0, .aload_n 0, 0, 0, 0, 0, 0, []), (1, .iconst 0, 0, 0, 0, 0, 0, []), (2, .putfield 196, 0, 12, 2, 0, 0, []), (5, .iconst 1, 0, 0, 0, 1, 0, []),
  (6, .aload_n 0, 0, 0, 0, 0, 0, []), (7, .getfield 444, 0, 12, 93, 0, 0, []), (10, .ishl, 0, 0, 0, 0, 0, []), (11, .iconst 1, 0, 0, 0, 1, 0, []),
  (12, .isub, 0, 0, 0, 0, 0, []), (13, .istore_n 1, 0, 0, 0, 0, 0, []), (14, .iconst 0, 0, 0, 0, 0, 0, []), (15, .istore_n 2, 0, 0, 0, 0, 0, []),
  (16, .iload_n 2, 13, 0, 0, 0, 0, []), (17, .aload_n 0, 0, 0, 0, 0, 0, []), (18, .getfield 444, 0, 12, 93, 0, 0, []), (21, .if_icmp .ge 44, 0, 39, 0, 0, 0, []),
  (24, .iconst 0, 0, 0, 0, 0, 0, []), (25, .istore_n 3, 0, 0, 0, 0, 0, []), (26, .iload_n 3, 19, 0, 0, 0, 0, []), (27, .iload_n 1, 0, 0, 0, 0, 0, []),
  (28, .if_icmp .gt 31, 0, 37, 0, 0, 0, []), (31, .iload_n 3, 0, 0, 0, 0, 0, []), (32, .invokestatic 485, 0, 0, 1, 0, 0, []), (35, .iload_n 2, 0, 0, 0, 0, 0, []),
  (36, .if_icmp .ne 17, 0, 35, 0, 0, 0, []), (39, .aload_n 0, 0, 0, 0, 0, 0, []), (40, .iload_n 1, 0, 0, 0, 0, 0, []), (41, .iload_n 3, 0, 0, 0, 0, 0, []),
  (42, .iconst (-1), 0, 0, 0, (-1), 0, []), (43, .ixor, 0, 0, 0, 0, 0, []), (44, .iand, 0, 0, 0, 0, 0, []), (45, .invokevirtual 619, 0, 1, 2, 0, 0, []),
  (48, .ifCond .eq 5, 0, 35, 0, 0, 0, []), (51, .iload_n 3, 0, 0, 0, 0, 0, []), (52, .ireturn, 0, 0, 0, 0, 0, []), (53, .iinc 3 1, 0, 0, 0, 1, 0, []),
  (56, .goto (-30), 0, 18, 0, 0, 0, []), (59, .iinc 2 1, 38, 0, 0, 1, 0, []), (62, .goto (-46), 0, 12, 0, 0, 0, []), (65, .iconst 0, 0, 0, 0, 0, 0, []),
  (66, .ireturn, 0, 0, 0, 0, 0, [])]
noncomputable def fX12_wrongly_37 (N : Nat) (k12 : Int32 → Int32 → Wd → Option (Int32 × Wd)) (v1 : Int32) (v2 : Int32) (w : Wd) : Option (Int32 × Wd) :=
  k12 v1 (v2 + (1 : Int32)) w
noncomputable def fX12_wrongly_18 (N : Nat) : Nat → (Int32 → Int32 → Wd → Option (Int32 × Wd)) → Int32 → Int32 → Int32 → Wd → Option (Int32 × Wd)
  | 0, _, _, _, _, _ => none
  | n + 1, k37, v1, v2, v3, w =>
    if v1 < v3 then k37 v1 v2 w else
    (callW (pX12_manyOf N v3) w).bind fun r1 =>
    if r1.1 = v2 then
      (callW (pX12_canAll N (v1 &&& (v3 ^^^ (-1 : Int32)))) r1.2).bind fun r2 =>
      if r2.1 = 0 then callW (fX12_wrongly_18 N n k37 v1 v2 (v3 + (1 : Int32))) r2.2 else
      some (v3, r2.2)
    else
    callW (fX12_wrongly_18 N n k37 v1 v2 (v3 + (1 : Int32))) r1.2
noncomputable def fX12_wrongly_12 (N : Nat) : Nat → Int32 → Int32 → Wd → Option (Int32 × Wd)
  | 0, _, _, _ => none
  | n + 1, v1, v2, w =>
    if v2 < (gI w 16 0 93) then callW (fX12_wrongly_18 N N (fX12_wrongly_37 N (fX12_wrongly_12 N n)) v1 v2 (0 : Int32)) w else
    some ((0 : Int32), w)
noncomputable def pX12_wrongly (N : Nat) (w : Wd) : Option (Int32 × Wd) :=
  callW (fX12_wrongly_12 N N (((1 : Int32) <<< ((gI (setI w 16 0 2 (0 : Int32)) 16 0 93) &&& (31 : Int32))) - (1 : Int32)) (0 : Int32)) (setI w 16 0 2 (0 : Int32))
noncomputable def mX12_wrongly (N : Nat) (as : List AV) (w : Wd) : Option (Int32 × Wd) := xS1 16 as fun t => xN1 t (callW (pX12_wrongly N) w)
set_option maxRecDepth 100000 in
set_option maxHeartbeats 4000000 in
theorem kX12_wrongly : TK cX12_wrongly RX12 4 tX12_wrongly := ⟨by decide +kernel, wok_of [1602, 1693, 1693] (by decide +kernel) (by decide +kernel)⟩
set_option maxRecDepth 100000 in
set_option maxHeartbeats 4000000 in
theorem sX12_wrongly_37 {N : Nat} {X : XT} (G : GX X cX12_wrongly RX12) (hn : xnL X = 4) (hC : CRs X tX12_wrongly (oF [(mX12_manyOf N), (mX12_canAll N)]) (oF []) (oF [])) {r : Int32 × Wd} (hr : RTI X cX12_wrongly r)  : ∀ (k12 : Int32 → Int32 → Wd → Option (Int32 × Wd)) (v1 : Int32) (v2 : Int32) (w : Wd), fX12_wrongly_37 N k12 v1 v2 w = some r → (∀ (v1 : Int32) (v2 : Int32) (w : Wd), k12 v1 v2 w = some r → WW X (pcAt tX12_wrongly 12) [some (.inr (.inr (16, 0))), some (.inl v1), some (.inl v2), none] [] w) → WW X (pcAt tX12_wrongly 37) [some (.inr (.inr (16, 0))), some (.inl v1), some (.inl v2), none] [] w := by
  intro k12 v1 v2 w h h12
  refine run_sound (r := r) (X := X) (cc := cX12_wrongly) (own := RX12) (tab := tX12_wrongly) G (by rw [hn]; exact kX12_wrongly) (oI := (oF [(mX12_manyOf N), (mX12_canAll N)])) (oL := (oF [])) (oV := (oF [])) (rI := (fun x w => some (x, w))) (rL := (fun _ _ => none)) (rV := (fun _ => none))
    (K := (fun j ls st w => if j = 12 then (lgI ls 1 fun v1 => lgI ls 2 fun v2 => st0 st (k12 v1 v2 w)) else none)) (fun x w pc ls hx hd => hr x w pc ls (Option.some.inj hx) hd) (fun _ _ _ _ hx => by cases hx) (fun _ _ _ hx => by cases hx) hC (fun ls => lsb [some (.inr (.inr (16, 0))), none, none, none] 0 ls) (keepsP_of rfl) ?_ 43 37 [some (.inr (.inr (16, 0))), some (.inl v1), some (.inl v2), none] [] w ?_ h
  · intro j ls st w hfx h
    obtain ⟨e0, -⟩ : _ = _ ∧ True := hfx
    try dsimp only at h
    by_cases hj : j = 12
    · subst hj
      rw [if_pos rfl] at h
      obtain ⟨v1, e1, h_1⟩ := lgI_some h
      obtain ⟨v2, e2, h_2⟩ := lgI_some h_1
      obtain ⟨rfl, h_3⟩ := st0_some h_2
      clear h h_1 h_2
      have h := h_3
      try rw [callW_eq] at h
      exact WW.le (a := [some (.inr (.inr (16, 0))), some (.inl v1), some (.inl v2), none]) (by rw [hn]; rfl) (show _ = _ ∧ _ = _ ∧ _ = _ ∧ True from ⟨e0, e1, e2, trivial⟩) (h12 v1 v2 w h)
    rw [if_neg hj] at h
    cases h
  · exact (show _ = _ ∧ True from ⟨rfl, trivial⟩)
set_option maxRecDepth 100000 in
set_option maxHeartbeats 4000000 in
theorem sX12_wrongly_18 {N : Nat} {X : XT} (G : GX X cX12_wrongly RX12) (hn : xnL X = 4) (hC : CRs X tX12_wrongly (oF [(mX12_manyOf N), (mX12_canAll N)]) (oF []) (oF [])) {r : Int32 × Wd} (hr : RTI X cX12_wrongly r)  : ∀ (n : Nat) (k37 : Int32 → Int32 → Wd → Option (Int32 × Wd)) (v1 : Int32) (v2 : Int32) (v3 : Int32) (w : Wd), fX12_wrongly_18 N n k37 v1 v2 v3 w = some r → (∀ (v1 : Int32) (v2 : Int32) (w : Wd), k37 v1 v2 w = some r → WW X (pcAt tX12_wrongly 37) [some (.inr (.inr (16, 0))), some (.inl v1), some (.inl v2), none] [] w) → WW X (pcAt tX12_wrongly 18) [some (.inr (.inr (16, 0))), some (.inl v1), some (.inl v2), some (.inl v3)] [] w := by
  intro n
  induction n with
  | zero => intro k37 v1 v2 v3 w h h37; cases h
  | succ n ih =>
    intro k37 v1 v2 v3 w h h37
    refine run_sound (r := r) (X := X) (cc := cX12_wrongly) (own := RX12) (tab := tX12_wrongly) G (by rw [hn]; exact kX12_wrongly) (oI := (oF [(mX12_manyOf N), (mX12_canAll N)])) (oL := (oF [])) (oV := (oF [])) (rI := (fun x w => some (x, w))) (rL := (fun _ _ => none)) (rV := (fun _ => none))
      (K := (fun j ls st w => if j = 18 then (lgI ls 1 fun v1 => lgI ls 2 fun v2 => lgI ls 3 fun v3 => st0 st (callW (fX12_wrongly_18 N n k37 v1 v2 v3) w)) else if j = 37 then (lgI ls 1 fun v1 => lgI ls 2 fun v2 => st0 st (k37 v1 v2 w)) else none)) (fun x w pc ls hx hd => hr x w pc ls (Option.some.inj hx) hd) (fun _ _ _ _ hx => by cases hx) (fun _ _ _ hx => by cases hx) hC (fun ls => lsb [some (.inr (.inr (16, 0))), none, none, none] 0 ls) (keepsP_of rfl) ?_ 43 18 [some (.inr (.inr (16, 0))), some (.inl v1), some (.inl v2), some (.inl v3)] [] w ?_ h
    · intro j ls st w hfx h
      obtain ⟨e0, -⟩ : _ = _ ∧ True := hfx
      try dsimp only at h
      by_cases hj : j = 18
      · subst hj
        rw [if_pos rfl] at h
        obtain ⟨v1, e1, h_1⟩ := lgI_some h
        obtain ⟨v2, e2, h_2⟩ := lgI_some h_1
        obtain ⟨v3, e3, h_3⟩ := lgI_some h_2
        obtain ⟨rfl, h_4⟩ := st0_some h_3
        clear h h_1 h_2 h_3
        have h := h_4
        try rw [callW_eq] at h
        exact WW.le (a := [some (.inr (.inr (16, 0))), some (.inl v1), some (.inl v2), some (.inl v3)]) (by rw [hn]; rfl) (show _ = _ ∧ _ = _ ∧ _ = _ ∧ _ = _ ∧ True from ⟨e0, e1, e2, e3, trivial⟩) (ih k37 v1 v2 v3 w h h37)
      rw [if_neg hj] at h
      by_cases hj : j = 37
      · subst hj
        rw [if_pos rfl] at h
        obtain ⟨v1, e1, h_1⟩ := lgI_some h
        obtain ⟨v2, e2, h_2⟩ := lgI_some h_1
        obtain ⟨rfl, h_3⟩ := st0_some h_2
        clear h h_1 h_2
        have h := h_3
        try rw [callW_eq] at h
        exact WW.le (a := [some (.inr (.inr (16, 0))), some (.inl v1), some (.inl v2), none]) (by rw [hn]; rfl) (show _ = _ ∧ _ = _ ∧ _ = _ ∧ True from ⟨e0, e1, e2, trivial⟩) (h37 v1 v2 w h)
      rw [if_neg hj] at h
      cases h
    · exact (show _ = _ ∧ True from ⟨rfl, trivial⟩)
set_option maxRecDepth 100000 in
set_option maxHeartbeats 4000000 in
theorem sX12_wrongly_12 {N : Nat} {X : XT} (G : GX X cX12_wrongly RX12) (hn : xnL X = 4) (hC : CRs X tX12_wrongly (oF [(mX12_manyOf N), (mX12_canAll N)]) (oF []) (oF [])) {r : Int32 × Wd} (hr : RTI X cX12_wrongly r)  : ∀ (n : Nat) (v1 : Int32) (v2 : Int32) (w : Wd), fX12_wrongly_12 N n v1 v2 w = some r → WW X (pcAt tX12_wrongly 12) [some (.inr (.inr (16, 0))), some (.inl v1), some (.inl v2), none] [] w := by
  intro n
  induction n with
  | zero => intro v1 v2 w h; cases h
  | succ n ih =>
    intro v1 v2 w h
    refine run_sound (r := r) (X := X) (cc := cX12_wrongly) (own := RX12) (tab := tX12_wrongly) G (by rw [hn]; exact kX12_wrongly) (oI := (oF [(mX12_manyOf N), (mX12_canAll N)])) (oL := (oF [])) (oV := (oF [])) (rI := (fun x w => some (x, w))) (rL := (fun _ _ => none)) (rV := (fun _ => none))
      (K := (fun j ls st w => if j = 18 then (lgI ls 1 fun v1 => lgI ls 2 fun v2 => lgI ls 3 fun v3 => st0 st (callW (fX12_wrongly_18 N N (fX12_wrongly_37 N (fX12_wrongly_12 N n)) v1 v2 v3) w)) else none)) (fun x w pc ls hx hd => hr x w pc ls (Option.some.inj hx) hd) (fun _ _ _ _ hx => by cases hx) (fun _ _ _ hx => by cases hx) hC (fun ls => lsb [some (.inr (.inr (16, 0))), none, none, none] 0 ls) (keepsP_of rfl) ?_ 43 12 [some (.inr (.inr (16, 0))), some (.inl v1), some (.inl v2), none] [] w ?_ h
    · intro j ls st w hfx h
      obtain ⟨e0, -⟩ : _ = _ ∧ True := hfx
      try dsimp only at h
      by_cases hj : j = 18
      · subst hj
        rw [if_pos rfl] at h
        obtain ⟨v1, e1, h_1⟩ := lgI_some h
        obtain ⟨v2, e2, h_2⟩ := lgI_some h_1
        obtain ⟨v3, e3, h_3⟩ := lgI_some h_2
        obtain ⟨rfl, h_4⟩ := st0_some h_3
        clear h h_1 h_2 h_3
        have h := h_4
        try rw [callW_eq] at h
        exact WW.le (a := [some (.inr (.inr (16, 0))), some (.inl v1), some (.inl v2), some (.inl v3)]) (by rw [hn]; rfl) (show _ = _ ∧ _ = _ ∧ _ = _ ∧ _ = _ ∧ True from ⟨e0, e1, e2, e3, trivial⟩) (sX12_wrongly_18 G hn hC hr N (fX12_wrongly_37 N (fX12_wrongly_12 N n)) v1 v2 v3 w h (fun v1 v2 w h => (sX12_wrongly_37 G hn hC hr (fX12_wrongly_12 N n) v1 v2 w h (fun v1 v2 w h => (ih v1 v2 w h)))))
      rw [if_neg hj] at h
      cases h
    · exact (show _ = _ ∧ True from ⟨rfl, trivial⟩)
set_option maxRecDepth 100000 in
set_option maxHeartbeats 4000000 in
theorem crX12_wrongly {N : Nat} {X : XT} (G : GX X cX12_wrongly RX12) (hR : xR X = rmL 3) : CRs X tX12_wrongly (oF [(mX12_manyOf N), (mX12_canAll N)]) (oF []) (oF []) := by
  have hl : tX12_wrongly.filter isInv = [(32, .invokestatic 485, 0, 0, 1, 0, 0, []), (45, .invokevirtual 619, 0, 1, 2, 0, 0, [])] := rfl
  intro e he
  rw [hl] at he
  simp only [List.mem_cons, List.not_mem_nil, or_false] at he
  rcases he with rfl | rfl
  · exact crI_S (idx := 485) G (by decide +kernel) (MX12_manyOf N) (cw_of (ps := [2135, 2136, 164, 2137]) (by decide +kernel) (by decide +kernel)) ⟨by decide +kernel, by decide +kernel, by decide +kernel⟩ (by unfold rmOk; rw [hR]; exact ⟨by decide, by decide⟩)
  · exact crI_V (idx := 619) G (by decide +kernel) (MX12_canAll N) (cw_of (ps := [2334, 2336, 144, 164, 2337]) (by decide +kernel) (by decide +kernel)) ⟨by decide +kernel, by decide +kernel, by decide +kernel⟩ (by unfold rmOk; rw [hR]; exact ⟨by decide, by decide⟩)
set_option maxRecDepth 100000 in
set_option maxHeartbeats 4000000 in
theorem MX12_wrongly (N : Nat) : SndI yX12_wrongly cX12_wrongly 4 (some .int) 3 1 true (mX12_wrongly N) := by
  refine SndI.of tX12_wrongly (by decide +kernel) rfl rfl ?_ ?_
  · intro as w x h
    obtain ⟨t1, rfl, h_1⟩ := xS1_some h
    obtain ⟨rfl, h_2⟩ := xN1_some h_1
    clear h h_1
    have h := h_2
    rw [callW_eq] at h
    exact ⟨fun _ => ⟨_, _, _, rfl, rfl, _, rfl, rfl⟩, rfl, Nat.le_of_ble_eq_true rfl⟩
  · intro X G hn hR as w r h hr
    have hC := crX12_wrongly (N := N) G hR
    obtain ⟨t1, rfl, h_1⟩ := xS1_some h
    obtain ⟨rfl, h_2⟩ := xN1_some h_1
    clear h h_1
    have h := h_2
    rw [callW_eq] at h
    refine run_sound (r := r) (X := X) (cc := cX12_wrongly) (own := RX12) (tab := tX12_wrongly) G (by rw [hn]; exact kX12_wrongly) (oI := (oF [(mX12_manyOf N), (mX12_canAll N)])) (oL := (oF [])) (oV := (oF [])) (rI := (fun x w => some (x, w))) (rL := (fun _ _ => none)) (rV := (fun _ => none))
      (K := (fun j ls st w => if j = 12 then (lgI ls 1 fun v1 => lgI ls 2 fun v2 => st0 st (callW (fX12_wrongly_12 N N v1 v2) w)) else none)) (fun x w pc ls hx hd => hr x w pc ls (Option.some.inj hx) hd) (fun _ _ _ _ hx => by cases hx) (fun _ _ _ hx => by cases hx) hC (fun ls => lsb [some (.inr (.inr (16, 0))), none, none, none] 0 ls) (keepsP_of rfl) ?_ 43 0 [some (.inr (.inr (16, 0))), none, none, none] [] w ?_ h
    · intro j ls st w hfx h
      obtain ⟨e0, -⟩ : _ = _ ∧ True := hfx
      try dsimp only at h
      by_cases hj : j = 12
      · subst hj
        rw [if_pos rfl] at h
        obtain ⟨v1, e1, h_1⟩ := lgI_some h
        obtain ⟨v2, e2, h_2⟩ := lgI_some h_1
        obtain ⟨rfl, h_3⟩ := st0_some h_2
        clear h h_1 h_2
        have h := h_3
        try rw [callW_eq] at h
        exact WW.le (a := [some (.inr (.inr (16, 0))), some (.inl v1), some (.inl v2), none]) (by rw [hn]; rfl) (show _ = _ ∧ _ = _ ∧ _ = _ ∧ True from ⟨e0, e1, e2, trivial⟩) (sX12_wrongly_12 G hn hC hr N v1 v2 w h)
      rw [if_neg hj] at h
      cases h
    · exact (show _ = _ ∧ True from ⟨rfl, trivial⟩)
-- MoorGuidesModel.against(I)I
def tX12_against : List EN := [
  (0, .aload_n 0, 0, 0, 0, 0, 0, []), (1, .iconst 0, 0, 0, 0, 0, 0, []), (2, .putfield 196, 0, 12, 2, 0, 0, []), (5, .iload_n 1, 0, 0, 0, 0, 0, []),
  (6, .ifCond .lt 11, 0, 9, 0, 0, 0, []), (9, .iload_n 1, 0, 0, 0, 0, 0, []), (10, .aload_n 0, 0, 0, 0, 0, 0, []), (11, .getfield 444, 0, 12, 93, 0, 0, []),
  (14, .if_icmp .lt 5, 0, 11, 0, 0, 0, []), (17, .iconst (-1), 0, 0, 0, (-1), 0, []), (18, .ireturn, 0, 0, 0, 0, 0, []), (19, .iconst 0, 0, 0, 0, 0, 0, []),
  (20, .istore_n 2, 0, 0, 0, 0, 0, []), (21, .iconst 0, 0, 0, 0, 0, 0, []), (22, .istore_n 3, 0, 0, 0, 0, 0, []), (23, .iload_n 3, 16, 0, 0, 0, 0, []),
  (24, .aload_n 0, 0, 0, 0, 0, 0, []), (25, .getfield 444, 0, 12, 93, 0, 0, []), (28, .if_icmp .ge 26, 0, 32, 0, 0, 0, []), (31, .iload_n 2, 0, 0, 0, 0, 0, []),
  (32, .aload_n 0, 0, 0, 0, 0, 0, []), (33, .iload_n 1, 0, 0, 0, 0, 0, []), (34, .iload_n 3, 0, 0, 0, 0, 0, []), (35, .invokevirtual 616, 0, 0, 3, 0, 0, []),
  (38, .ifCond .eq 7, 0, 27, 0, 0, 0, []), (41, .iconst 1, 0, 0, 0, 1, 0, []), (42, .goto 4, 0, 28, 0, 0, 0, []), (45, .iconst 0, 0, 0, 0, 0, 0, []),
  (46, .iadd, 0, 0, 0, 0, 0, []), (47, .istore_n 2, 0, 0, 0, 0, 0, []), (48, .iinc 3 1, 0, 0, 0, 1, 0, []), (51, .goto (-28), 0, 15, 0, 0, 0, []),
  (54, .iload_n 2, 0, 0, 0, 0, 0, []), (55, .ireturn, 0, 0, 0, 0, 0, [])]
noncomputable def fX12_against_15 (N : Nat) (a1 : Int32) : Nat → Int32 → Int32 → Wd → Option (Int32 × Wd)
  | 0, _, _, _ => none
  | n + 1, v2, v3, w =>
    if v3 < (gI w 16 0 93) then
      (callW (pX12_cannot N a1 v3) w).bind fun r1 =>
      if r1.1 = 0 then callW (fX12_against_15 N a1 n (v2 + (0 : Int32)) (v3 + (1 : Int32))) r1.2 else
      callW (fX12_against_15 N a1 n (v2 + (1 : Int32)) (v3 + (1 : Int32))) r1.2
    else
    some (v2, w)
noncomputable def pX12_against (N : Nat) (a1 : Int32) (w : Wd) : Option (Int32 × Wd) :=
  if a1 < 0 then some ((-1 : Int32), (setI w 16 0 2 (0 : Int32))) else
  if a1 < (gI (setI w 16 0 2 (0 : Int32)) 16 0 93) then callW (fX12_against_15 N a1 N (0 : Int32) (0 : Int32)) (setI w 16 0 2 (0 : Int32)) else
  some ((-1 : Int32), (setI w 16 0 2 (0 : Int32)))
noncomputable def mX12_against (N : Nat) (as : List AV) (w : Wd) : Option (Int32 × Wd) := xS1 16 as fun t => xI1 t fun a1 t => xN1 t (callW (pX12_against N a1) w)
set_option maxRecDepth 100000 in
set_option maxHeartbeats 4000000 in
theorem kX12_against : TK cX12_against RX12 4 tX12_against := ⟨by decide +kernel, wok_of [1602, 1693, 1693] (by decide +kernel) (by decide +kernel)⟩
set_option maxRecDepth 100000 in
set_option maxHeartbeats 4000000 in
theorem sX12_against_15 {N : Nat} {X : XT} (G : GX X cX12_against RX12) (hn : xnL X = 4) (hC : CRs X tX12_against (oF [(mX12_cannot N)]) (oF []) (oF [])) {r : Int32 × Wd} (hr : RTI X cX12_against r) (a1 : Int32) : ∀ (n : Nat) (v2 : Int32) (v3 : Int32) (w : Wd), fX12_against_15 N a1 n v2 v3 w = some r → WW X (pcAt tX12_against 15) [some (.inr (.inr (16, 0))), some (.inl a1), some (.inl v2), some (.inl v3)] [] w := by
  intro n
  induction n with
  | zero => intro v2 v3 w h; cases h
  | succ n ih =>
    intro v2 v3 w h
    refine run_sound (r := r) (X := X) (cc := cX12_against) (own := RX12) (tab := tX12_against) G (by rw [hn]; exact kX12_against) (oI := (oF [(mX12_cannot N)])) (oL := (oF [])) (oV := (oF [])) (rI := (fun x w => some (x, w))) (rL := (fun _ _ => none)) (rV := (fun _ => none))
      (K := (fun j ls st w => if j = 15 then (lgI ls 2 fun v2 => lgI ls 3 fun v3 => st0 st (callW (fX12_against_15 N a1 n v2 v3) w)) else none)) (fun x w pc ls hx hd => hr x w pc ls (Option.some.inj hx) hd) (fun _ _ _ _ hx => by cases hx) (fun _ _ _ hx => by cases hx) hC (fun ls => lsb [some (.inr (.inr (16, 0))), some (.inl a1), none, none] 0 ls) (keepsP_of rfl) ?_ 36 15 [some (.inr (.inr (16, 0))), some (.inl a1), some (.inl v2), some (.inl v3)] [] w ?_ h
    · intro j ls st w hfx h
      obtain ⟨e0, e1, -⟩ : _ = _ ∧ _ = _ ∧ True := hfx
      try dsimp only at h
      by_cases hj : j = 15
      · subst hj
        rw [if_pos rfl] at h
        obtain ⟨v2, e2, h_1⟩ := lgI_some h
        obtain ⟨v3, e3, h_2⟩ := lgI_some h_1
        obtain ⟨rfl, h_3⟩ := st0_some h_2
        clear h h_1 h_2
        have h := h_3
        try rw [callW_eq] at h
        exact WW.le (a := [some (.inr (.inr (16, 0))), some (.inl a1), some (.inl v2), some (.inl v3)]) (by rw [hn]; rfl) (show _ = _ ∧ _ = _ ∧ _ = _ ∧ _ = _ ∧ True from ⟨e0, e1, e2, e3, trivial⟩) (ih v2 v3 w h)
      rw [if_neg hj] at h
      cases h
    · exact (show _ = _ ∧ _ = _ ∧ True from ⟨rfl, rfl, trivial⟩)
set_option maxRecDepth 100000 in
set_option maxHeartbeats 4000000 in
theorem crX12_against {N : Nat} {X : XT} (G : GX X cX12_against RX12) (hR : xR X = rmL 2) : CRs X tX12_against (oF [(mX12_cannot N)]) (oF []) (oF []) := by
  have hl : tX12_against.filter isInv = [(35, .invokevirtual 616, 0, 0, 3, 0, 0, [])] := rfl
  intro e he
  rw [hl] at he
  simp only [List.mem_cons, List.not_mem_nil, or_false] at he
  rcases he with rfl
  · exact crI_V (idx := 616) G (by decide +kernel) (MX12_cannot N) (cw_of (ps := [2338, 2340, 145, 164, 2341]) (by decide +kernel) (by decide +kernel)) ⟨by decide +kernel, by decide +kernel, by decide +kernel⟩ (by unfold rmOk; rw [hR]; exact ⟨by decide, by decide⟩)
set_option maxRecDepth 100000 in
set_option maxHeartbeats 4000000 in
theorem MX12_against (N : Nat) : SndI yX12_against cX12_against 4 (some .int) 2 2 true (mX12_against N) := by
  refine SndI.of tX12_against (by decide +kernel) rfl rfl ?_ ?_
  · intro as w x h
    obtain ⟨t1, rfl, h_1⟩ := xS1_some h
    obtain ⟨a1, t2, rfl, h_2⟩ := xI1_some h_1
    obtain ⟨rfl, h_3⟩ := xN1_some h_2
    clear h h_1 h_2
    have h := h_3
    rw [callW_eq] at h
    exact ⟨fun _ => ⟨_, _, _, rfl, rfl, _, rfl, rfl⟩, rfl, Nat.le_of_ble_eq_true rfl⟩
  · intro X G hn hR as w r h hr
    have hC := crX12_against (N := N) G hR
    obtain ⟨t1, rfl, h_1⟩ := xS1_some h
    obtain ⟨a1, t2, rfl, h_2⟩ := xI1_some h_1
    obtain ⟨rfl, h_3⟩ := xN1_some h_2
    clear h h_1 h_2
    have h := h_3
    rw [callW_eq] at h
    refine run_sound (r := r) (X := X) (cc := cX12_against) (own := RX12) (tab := tX12_against) G (by rw [hn]; exact kX12_against) (oI := (oF [(mX12_cannot N)])) (oL := (oF [])) (oV := (oF [])) (rI := (fun x w => some (x, w))) (rL := (fun _ _ => none)) (rV := (fun _ => none))
      (K := (fun j ls st w => if j = 15 then (lgI ls 2 fun v2 => lgI ls 3 fun v3 => st0 st (callW (fX12_against_15 N a1 N v2 v3) w)) else none)) (fun x w pc ls hx hd => hr x w pc ls (Option.some.inj hx) hd) (fun _ _ _ _ hx => by cases hx) (fun _ _ _ hx => by cases hx) hC (fun ls => lsb [some (.inr (.inr (16, 0))), some (.inl a1), none, none] 0 ls) (keepsP_of rfl) ?_ 36 0 [some (.inr (.inr (16, 0))), some (.inl a1), none, none] [] w ?_ h
    · intro j ls st w hfx h
      obtain ⟨e0, e1, -⟩ : _ = _ ∧ _ = _ ∧ True := hfx
      try dsimp only at h
      by_cases hj : j = 15
      · subst hj
        rw [if_pos rfl] at h
        obtain ⟨v2, e2, h_1⟩ := lgI_some h
        obtain ⟨v3, e3, h_2⟩ := lgI_some h_1
        obtain ⟨rfl, h_3⟩ := st0_some h_2
        clear h h_1 h_2
        have h := h_3
        try rw [callW_eq] at h
        exact WW.le (a := [some (.inr (.inr (16, 0))), some (.inl a1), some (.inl v2), some (.inl v3)]) (by rw [hn]; rfl) (show _ = _ ∧ _ = _ ∧ _ = _ ∧ _ = _ ∧ True from ⟨e0, e1, e2, e3, trivial⟩) (sX12_against_15 G hn hC hr a1 N v2 v3 w h)
      rw [if_neg hj] at h
      cases h
    · exact (show _ = _ ∧ _ = _ ∧ True from ⟨rfl, rfl, trivial⟩)
-- MoorGuidesModel.slide(I)I
def tX12_slide : List EN := [
  (0, .aload_n 0, 0, 0, 0, 0, 0, []), (1, .iconst 0, 0, 0, 0, 0, 0, []), (2, .putfield 196, 0, 12, 2, 0, 0, []), (5, .aload_n 0, 0, 0, 0, 0, 0, []),
  (6, .iload_n 1, 0, 0, 0, 0, 0, []), (7, .invokevirtual 473, 0, 0, 2, 0, 0, []), (10, .ifCond .eq 12, 0, 11, 0, 0, 0, []), (13, .aload_n 0, 0, 0, 0, 0, 0, []),
  (14, .getfield 441, 0, 12, 65, 0, 0, []), (17, .bipush 12, 0, 0, 0, 12, 0, []), (19, .if_icmp .ne 5, 0, 13, 0, 0, 0, []), (22, .iconst (-1), 0, 0, 0, (-1), 0, []),
  (23, .ireturn, 0, 0, 0, 0, 0, []), (24, .aload_n 0, 0, 0, 0, 0, 0, []), (25, .iconst 1, 0, 0, 0, 1, 0, []), (26, .iconst 0, 0, 0, 0, 0, 0, []),
  (27, .iconst 0, 0, 0, 0, 0, 0, []), (28, .invokevirtual 504, 0, 0, 4, 0, 0, [(0, 0), (0, 0)]), (31, .aload_n 0, 0, 0, 0, 0, 0, []), (32, .getfield 62, 0, 12, 45, 0, 0, []),
  (35, .aload_n 0, 0, 0, 0, 0, 0, []), (36, .getfield 441, 0, 12, 65, 0, 0, []), (39, .iload_n 1, 0, 0, 0, 0, 0, []), (40, .iastore, 0, 0, 0, 0, 0, []),
  (41, .aload_n 0, 0, 0, 0, 0, 0, []), (42, .getfield 65, 0, 12, 46, 0, 0, []), (45, .aload_n 0, 0, 0, 0, 0, 0, []), (46, .getfield 441, 0, 12, 65, 0, 0, []),
  (49, .aload_n 0, 0, 0, 0, 0, 0, []), (50, .getfield 438, 0, 12, 64, 0, 0, []), (53, .iastore, 0, 0, 0, 0, 0, []), (54, .aload_n 0, 0, 0, 0, 0, 0, []),
  (55, .dup, 0, 0, 0, 0, 0, []), (56, .getfield 441, 0, 12, 65, 0, 0, []), (59, .iconst 1, 0, 0, 0, 1, 0, []), (60, .iadd, 0, 0, 0, 0, 0, []),
  (61, .putfield 441, 0, 12, 65, 0, 0, []), (64, .aload_n 0, 0, 0, 0, 0, 0, []), (65, .getfield 441, 0, 12, 65, 0, 0, []), (68, .ireturn, 0, 0, 0, 0, 0, [])]
noncomputable def pX12_slide (N : Nat) (a1 : Int32) (w : Wd) : Option (Int32 × Wd) :=
  (callW (pX12_isPart N a1) (setI w 16 0 2 (0 : Int32))).bind fun r1 =>
  if r1.1 = 0 then some ((-1 : Int32), r1.2) else
  if (gI r1.2 16 0 65) = (12 : Int32) then some ((-1 : Int32), r1.2) else
  (callW (pX12_remember N (1 : Int32) (0 : Int32) (0 : Int32)) r1.2).bind fun w2 =>
  (stI w2 89 0 (gI w2 16 0 65) 24 a1).bind fun w3 =>
  (stI w3 90 0 (gI w3 16 0 65) 24 (gI w3 16 0 64)).bind fun w4 =>
  some ((gI (setI w4 16 0 65 ((gI w4 16 0 65) + (1 : Int32))) 16 0 65), (setI w4 16 0 65 ((gI w4 16 0 65) + (1 : Int32))))
noncomputable def mX12_slide (N : Nat) (as : List AV) (w : Wd) : Option (Int32 × Wd) := xS1 16 as fun t => xI1 t fun a1 t => xN1 t (callW (pX12_slide N a1) w)
set_option maxRecDepth 100000 in
set_option maxHeartbeats 4000000 in
theorem kX12_slide : TK cX12_slide RX12 2 tX12_slide := ⟨by decide +kernel, wok_of [1602, 1665, 1645, 1665, 1646, 1665, 1664, 1665, 1665, 1665] (by decide +kernel) (by decide +kernel)⟩
set_option maxRecDepth 100000 in
set_option maxHeartbeats 4000000 in
theorem crX12_slide {N : Nat} {X : XT} (G : GX X cX12_slide RX12) (hR : xR X = rmL 2) : CRs X tX12_slide (oF [(mX12_isPart N)]) (oF []) (oF [(mX12_remember N)]) := by
  have hl : tX12_slide.filter isInv = [(7, .invokevirtual 473, 0, 0, 2, 0, 0, []), (28, .invokevirtual 504, 0, 0, 4, 0, 0, [(0, 0), (0, 0)])] := rfl
  intro e he
  rw [hl] at he
  simp only [List.mem_cons, List.not_mem_nil, or_false] at he
  rcases he with rfl | rfl
  · exact crI_V (idx := 473) G (by decide +kernel) (MX12_isPart N) (cw_of (ps := [2104, 2106, 111, 164, 2107]) (by decide +kernel) (by decide +kernel)) ⟨by decide +kernel, by decide +kernel, by decide +kernel⟩ (by unfold rmOk; rw [hR]; exact ⟨by decide, by decide⟩)
  · exact crV_V (idx := 504) G (by decide +kernel) (MX12_remember N) (cw_of (ps := [2165, 2167, 118, 164, 2168]) (by decide +kernel) (by decide +kernel)) ⟨by decide +kernel, by decide +kernel, by decide +kernel⟩ (by unfold rmOk; rw [hR]; exact ⟨by decide, by decide⟩)
set_option maxRecDepth 100000 in
set_option maxHeartbeats 4000000 in
theorem MX12_slide (N : Nat) : SndI yX12_slide cX12_slide 2 (some .int) 2 2 true (mX12_slide N) := by
  refine SndI.of tX12_slide (by decide +kernel) rfl rfl ?_ ?_
  · intro as w x h
    obtain ⟨t1, rfl, h_1⟩ := xS1_some h
    obtain ⟨a1, t2, rfl, h_2⟩ := xI1_some h_1
    obtain ⟨rfl, h_3⟩ := xN1_some h_2
    clear h h_1 h_2
    have h := h_3
    rw [callW_eq] at h
    exact ⟨fun _ => ⟨_, _, _, rfl, rfl, _, rfl, rfl⟩, rfl, Nat.le_of_ble_eq_true rfl⟩
  · intro X G hn hR as w r h hr
    have hC := crX12_slide (N := N) G hR
    obtain ⟨t1, rfl, h_1⟩ := xS1_some h
    obtain ⟨a1, t2, rfl, h_2⟩ := xI1_some h_1
    obtain ⟨rfl, h_3⟩ := xN1_some h_2
    clear h h_1 h_2
    have h := h_3
    rw [callW_eq] at h
    refine run_sound (r := r) (X := X) (cc := cX12_slide) (own := RX12) (tab := tX12_slide) G (by rw [hn]; exact kX12_slide) (oI := (oF [(mX12_isPart N)])) (oL := (oF [])) (oV := (oF [(mX12_remember N)])) (rI := (fun x w => some (x, w))) (rL := (fun _ _ => none)) (rV := (fun _ => none))
      (K := (fun j ls st w => none)) (fun x w pc ls hx hd => hr x w pc ls (Option.some.inj hx) hd) (fun _ _ _ _ hx => by cases hx) (fun _ _ _ hx => by cases hx) hC (fun ls => lsb [some (.inr (.inr (16, 0))), some (.inl a1)] 0 ls) (keepsP_of rfl) ?_ 42 0 [some (.inr (.inr (16, 0))), some (.inl a1)] [] w ?_ h
    · intro j ls st w hfx h
      obtain ⟨e0, e1, -⟩ : _ = _ ∧ _ = _ ∧ True := hfx
      try dsimp only at h
      cases h
    · exact (show _ = _ ∧ _ = _ ∧ True from ⟨rfl, rfl, trivial⟩)
-- MoorGuidesModel.undo()I
def tX12_undo : List EN := [
  (0, .aload_n 0, 0, 0, 0, 0, 0, []), (1, .iconst 0, 0, 0, 0, 0, 0, []), (2, .putfield 196, 0, 12, 2, 0, 0, []), (5, .aload_n 0, 0, 0, 0, 0, 0, []),
  (6, .getfield 447, 0, 12, 74, 0, 0, []), (9, .ifCond .ne 5, 0, 8, 0, 0, 0, []), (12, .iconst (-1), 0, 0, 0, (-1), 0, []), (13, .ireturn, 0, 0, 0, 0, 0, []),
  (14, .aload_n 0, 0, 0, 0, 0, 0, []), (15, .dup, 0, 0, 0, 0, 0, []), (16, .getfield 447, 0, 12, 74, 0, 0, []), (19, .iconst 1, 0, 0, 0, 1, 0, []),
  (20, .isub, 0, 0, 0, 0, 0, []), (21, .putfield 447, 0, 12, 74, 0, 0, []), (24, .aload_n 0, 0, 0, 0, 0, 0, []), (25, .getfield 124, 0, 12, 75, 0, 0, []),
  (28, .iconst 3, 0, 0, 0, 3, 0, []), (29, .aload_n 0, 0, 0, 0, 0, 0, []), (30, .getfield 447, 0, 12, 74, 0, 0, []), (33, .imul, 0, 0, 0, 0, 0, []),
  (34, .iaload, 0, 0, 0, 0, 0, []), (35, .iconst 1, 0, 0, 0, 1, 0, []), (36, .if_icmp .ne 16, 0, 30, 0, 0, 0, []), (39, .aload_n 0, 0, 0, 0, 0, 0, []),
  (40, .dup, 0, 0, 0, 0, 0, []), (41, .getfield 441, 0, 12, 65, 0, 0, []), (44, .iconst 1, 0, 0, 0, 1, 0, []), (45, .isub, 0, 0, 0, 0, 0, []),
  (46, .putfield 441, 0, 12, 65, 0, 0, []), (49, .goto 34, 0, 51, 0, 0, 0, []), (52, .aload_n 0, 0, 0, 0, 0, 0, []), (53, .getfield 112, 0, 12, 70, 0, 0, []),
  (56, .aload_n 0, 0, 0, 0, 0, 0, []), (57, .getfield 124, 0, 12, 75, 0, 0, []), (60, .iconst 3, 0, 0, 0, 3, 0, []), (61, .aload_n 0, 0, 0, 0, 0, 0, []),
  (62, .getfield 447, 0, 12, 74, 0, 0, []), (65, .imul, 0, 0, 0, 0, 0, []), (66, .iconst 1, 0, 0, 0, 1, 0, []), (67, .iadd, 0, 0, 0, 0, 0, []),
  (68, .iaload, 0, 0, 0, 0, 0, []), (69, .aload_n 0, 0, 0, 0, 0, 0, []), (70, .getfield 124, 0, 12, 75, 0, 0, []), (73, .iconst 3, 0, 0, 0, 3, 0, []),
  (74, .aload_n 0, 0, 0, 0, 0, 0, []), (75, .getfield 447, 0, 12, 74, 0, 0, []), (78, .imul, 0, 0, 0, 0, 0, []), (79, .iconst 2, 0, 0, 0, 2, 0, []),
  (80, .iadd, 0, 0, 0, 0, 0, []), (81, .iaload, 0, 0, 0, 0, 0, []), (82, .iastore, 0, 0, 0, 0, 0, []), (83, .aload_n 0, 0, 0, 0, 0, 0, []),
  (84, .getfield 447, 0, 12, 74, 0, 0, []), (87, .ireturn, 0, 0, 0, 0, 0, [])]
noncomputable def pX12_undo (N : Nat) (w : Wd) : Option (Int32 × Wd) :=
  if (gI (setI w 16 0 2 (0 : Int32)) 16 0 74) = 0 then some ((-1 : Int32), (setI w 16 0 2 (0 : Int32))) else
  (ldI (setI (setI w 16 0 2 (0 : Int32)) 16 0 74 ((gI (setI w 16 0 2 (0 : Int32)) 16 0 74) - (1 : Int32))) 109 0 ((3 : Int32) * (gI (setI (setI w 16 0 2 (0 : Int32)) 16 0 74 ((gI (setI w 16 0 2 (0 : Int32)) 16 0 74) - (1 : Int32))) 16 0 74)) 60).bind fun x1 =>
  if x1 = (1 : Int32) then
    let w2 : Wd := (setI (setI (setI w 16 0 2 (0 : Int32)) 16 0 74 ((gI (setI w 16 0 2 (0 : Int32)) 16 0 74) - (1 : Int32))) 16 0 65 ((gI (setI (setI w 16 0 2 (0 : Int32)) 16 0 74 ((gI (setI w 16 0 2 (0 : Int32)) 16 0 74) - (1 : Int32))) 16 0 65) - (1 : Int32)))
    some ((gI w2 16 0 74), w2)
  else
  (ldI (setI (setI w 16 0 2 (0 : Int32)) 16 0 74 ((gI (setI w 16 0 2 (0 : Int32)) 16 0 74) - (1 : Int32))) 109 0 (((3 : Int32) * (gI (setI (setI w 16 0 2 (0 : Int32)) 16 0 74 ((gI (setI w 16 0 2 (0 : Int32)) 16 0 74) - (1 : Int32))) 16 0 74)) + (1 : Int32)) 60).bind fun x3 =>
  (ldI (setI (setI w 16 0 2 (0 : Int32)) 16 0 74 ((gI (setI w 16 0 2 (0 : Int32)) 16 0 74) - (1 : Int32))) 109 0 (((3 : Int32) * (gI (setI (setI w 16 0 2 (0 : Int32)) 16 0 74 ((gI (setI w 16 0 2 (0 : Int32)) 16 0 74) - (1 : Int32))) 16 0 74)) + (2 : Int32)) 60).bind fun x4 =>
  (stI (setI (setI w 16 0 2 (0 : Int32)) 16 0 74 ((gI (setI w 16 0 2 (0 : Int32)) 16 0 74) - (1 : Int32))) 105 0 x3 12 x4).bind fun w5 =>
  some ((gI w5 16 0 74), w5)
noncomputable def mX12_undo (N : Nat) (as : List AV) (w : Wd) : Option (Int32 × Wd) := xS1 16 as fun t => xN1 t (callW (pX12_undo N) w)
set_option maxRecDepth 100000 in
set_option maxHeartbeats 4000000 in
theorem kX12_undo : TK cX12_undo RX12 1 tX12_undo := ⟨by decide +kernel, wok_of [1602, 1674, 1674, 1674, 1675, 1674, 1665, 1665, 1670, 1675, 1674, 1675, 1674, 1674] (by decide +kernel) (by decide +kernel)⟩
set_option maxRecDepth 100000 in
set_option maxHeartbeats 4000000 in
theorem crX12_undo {N : Nat} {X : XT} (G : GX X cX12_undo RX12) (hR : xR X = rmL 1) : CRs X tX12_undo (oF []) (oF []) (oF []) := by
  have hl : tX12_undo.filter isInv = [] := rfl
  intro e he
  rw [hl] at he
  cases he
set_option maxRecDepth 100000 in
set_option maxHeartbeats 4000000 in
theorem MX12_undo (N : Nat) : SndI yX12_undo cX12_undo 1 (some .int) 1 1 true (mX12_undo N) := by
  refine SndI.of tX12_undo (by decide +kernel) rfl rfl ?_ ?_
  · intro as w x h
    obtain ⟨t1, rfl, h_1⟩ := xS1_some h
    obtain ⟨rfl, h_2⟩ := xN1_some h_1
    clear h h_1
    have h := h_2
    rw [callW_eq] at h
    exact ⟨fun _ => ⟨_, _, _, rfl, rfl, _, rfl, rfl⟩, rfl, Nat.le_of_ble_eq_true rfl⟩
  · intro X G hn hR as w r h hr
    have hC := crX12_undo (N := N) G hR
    obtain ⟨t1, rfl, h_1⟩ := xS1_some h
    obtain ⟨rfl, h_2⟩ := xN1_some h_1
    clear h h_1
    have h := h_2
    rw [callW_eq] at h
    refine run_sound (r := r) (X := X) (cc := cX12_undo) (own := RX12) (tab := tX12_undo) G (by rw [hn]; exact kX12_undo) (oI := (oF [])) (oL := (oF [])) (oV := (oF [])) (rI := (fun x w => some (x, w))) (rL := (fun _ _ => none)) (rV := (fun _ => none))
      (K := (fun j ls st w => none)) (fun x w pc ls hx hd => hr x w pc ls (Option.some.inj hx) hd) (fun _ _ _ _ hx => by cases hx) (fun _ _ _ hx => by cases hx) hC (fun ls => lsb [some (.inr (.inr (16, 0)))] 0 ls) (keepsP_of rfl) ?_ 56 0 [some (.inr (.inr (16, 0)))] [] w ?_ h
    · intro j ls st w hfx h
      obtain ⟨e0, -⟩ : _ = _ ∧ True := hfx
      try dsimp only at h
      cases h
    · exact (show _ = _ ∧ True from ⟨rfl, trivial⟩)
-- MoorGuidesModel.keep()I
def tX12_keep : List EN := [
  (0, .aload_n 0, 0, 0, 0, 0, 0, []), (1, .iconst 0, 0, 0, 0, 0, 0, []), (2, .putfield 196, 0, 12, 2, 0, 0, []), (5, .aload_n 0, 0, 0, 0, 0, 0, []),
  (6, .iconst 1, 0, 0, 0, 1, 0, []), (7, .putfield 450, 0, 12, 97, 0, 0, [(0, 0)]), (10, .aload_n 0, 0, 0, 0, 0, 0, []), (11, .aload_n 0, 0, 0, 0, 0, 0, []),
  (12, .getfield 438, 0, 12, 64, 0, 0, []), (15, .putfield 622, 0, 12, 98, 0, 0, []), (18, .aload_n 0, 0, 0, 0, 0, 0, []), (19, .aload_n 0, 0, 0, 0, 0, 0, []),
  (20, .getfield 441, 0, 12, 65, 0, 0, []), (23, .putfield 625, 0, 12, 99, 0, 0, []), (26, .aload_n 0, 0, 0, 0, 0, 0, []), (27, .aload_n 0, 0, 0, 0, 0, 0, []),
  (28, .getfield 115, 0, 12, 71, 0, 0, []), (31, .iconst 0, 0, 0, 0, 0, 0, []), (32, .laload, 0, 0, 0, 0, 0, []), (33, .putfield 628, 0, 12, 100, 0, 0, []),
  (36, .iconst 0, 0, 0, 0, 0, 0, []), (37, .istore_n 1, 0, 0, 0, 0, 0, []), (38, .iload_n 1, 23, 0, 0, 0, 0, []), (39, .bipush 48, 0, 0, 0, 48, 0, []),
  (41, .if_icmp .ge 33, 0, 43, 0, 0, 0, []), (44, .aload_n 0, 0, 0, 0, 0, 0, []), (45, .getfield 169, 0, 12, 101, 0, 0, []), (48, .iload_n 1, 0, 0, 0, 0, 0, []),
  (49, .aload_n 0, 0, 0, 0, 0, 0, []), (50, .getfield 100, 0, 12, 66, 0, 0, []), (53, .iload_n 1, 0, 0, 0, 0, 0, []), (54, .iaload, 0, 0, 0, 0, 0, []),
  (55, .iastore, 0, 0, 0, 0, 0, []), (56, .aload_n 0, 0, 0, 0, 0, 0, []), (57, .getfield 172, 0, 12, 102, 0, 0, []), (60, .iload_n 1, 0, 0, 0, 0, 0, []),
  (61, .aload_n 0, 0, 0, 0, 0, 0, []), (62, .getfield 103, 0, 12, 67, 0, 0, []), (65, .iload_n 1, 0, 0, 0, 0, 0, []), (66, .baload, 0, 0, 0, 0, 0, []),
  (67, .bastore, 0, 0, 0, 0, 0, []), (68, .iinc 1 1, 0, 0, 0, 1, 0, []), (71, .goto (-33), 0, 22, 0, 0, 0, []), (74, .iconst 0, 44, 0, 0, 0, 0, []),
  (75, .istore_n 1, 0, 0, 0, 0, 0, []), (76, .iload_n 1, 46, 0, 0, 0, 0, []), (77, .bipush 6, 0, 0, 0, 6, 0, []), (79, .if_icmp .ge 45, 0, 74, 0, 0, 0, []),
  (82, .aload_n 0, 0, 0, 0, 0, 0, []), (83, .getfield 175, 0, 12, 103, 0, 0, []), (86, .iload_n 1, 0, 0, 0, 0, 0, []), (87, .aload_n 0, 0, 0, 0, 0, 0, []),
  (88, .getfield 106, 0, 12, 68, 0, 0, []), (91, .iload_n 1, 0, 0, 0, 0, 0, []), (92, .baload, 0, 0, 0, 0, 0, []), (93, .bastore, 0, 0, 0, 0, 0, []),
  (94, .aload_n 0, 0, 0, 0, 0, 0, []), (95, .getfield 178, 0, 12, 104, 0, 0, []), (98, .iload_n 1, 0, 0, 0, 0, 0, []), (99, .aload_n 0, 0, 0, 0, 0, 0, []),
  (100, .getfield 109, 0, 12, 69, 0, 0, []), (103, .iload_n 1, 0, 0, 0, 0, 0, []), (104, .iaload, 0, 0, 0, 0, 0, []), (105, .iastore, 0, 0, 0, 0, 0, []),
  (106, .aload_n 0, 0, 0, 0, 0, 0, []), (107, .getfield 181, 0, 12, 105, 0, 0, []), (110, .iload_n 1, 0, 0, 0, 0, 0, []), (111, .aload_n 0, 0, 0, 0, 0, 0, []),
  (112, .getfield 112, 0, 12, 70, 0, 0, []), (115, .iload_n 1, 0, 0, 0, 0, 0, []), (116, .iaload, 0, 0, 0, 0, 0, []), (117, .iastore, 0, 0, 0, 0, 0, []),
  (118, .iinc 1 1, 0, 0, 0, 1, 0, []), (121, .goto (-45), 0, 45, 0, 0, 0, []), (124, .iconst 0, 75, 0, 0, 0, 0, []), (125, .istore_n 1, 0, 0, 0, 0, 0, []),
  (126, .iload_n 1, 77, 0, 0, 0, 0, []), (127, .bipush 12, 0, 0, 0, 12, 0, []), (129, .if_icmp .ge 33, 0, 97, 0, 0, 0, []), (132, .aload_n 0, 0, 0, 0, 0, 0, []),
  (133, .getfield 184, 0, 12, 106, 0, 0, []), (136, .iload_n 1, 0, 0, 0, 0, 0, []), (137, .aload_n 0, 0, 0, 0, 0, 0, []), (138, .getfield 62, 0, 12, 45, 0, 0, []),
  (141, .iload_n 1, 0, 0, 0, 0, 0, []), (142, .iaload, 0, 0, 0, 0, 0, []), (143, .iastore, 0, 0, 0, 0, 0, []), (144, .aload_n 0, 0, 0, 0, 0, 0, []),
  (145, .getfield 187, 0, 12, 107, 0, 0, []), (148, .iload_n 1, 0, 0, 0, 0, 0, []), (149, .aload_n 0, 0, 0, 0, 0, 0, []), (150, .getfield 65, 0, 12, 46, 0, 0, []),
  (153, .iload_n 1, 0, 0, 0, 0, 0, []), (154, .iaload, 0, 0, 0, 0, 0, []), (155, .iastore, 0, 0, 0, 0, 0, []), (156, .iinc 1 1, 0, 0, 0, 1, 0, []),
  (159, .goto (-33), 0, 76, 0, 0, 0, []), (162, .aload_n 0, 98, 0, 0, 0, 0, []), (163, .getfield 438, 0, 12, 64, 0, 0, []), (166, .ireturn, 0, 0, 0, 0, 0, [])]
noncomputable def fX12_keep_97 (N : Nat) (w : Wd) : Option (Int32 × Wd) :=
  some ((gI w 16 0 64), w)
noncomputable def fX12_keep_76 (N : Nat) : Nat → (Wd → Option (Int32 × Wd)) → Int32 → Wd → Option (Int32 × Wd)
  | 0, _, _, _ => none
  | n + 1, k97, v1, w =>
    if v1 < (12 : Int32) then
      (ldI w 89 0 v1 24).bind fun x1 =>
      (stI w 129 0 v1 12 x1).bind fun w2 =>
      (ldI w2 90 0 v1 24).bind fun x3 =>
      (stI w2 130 0 v1 12 x3).bind fun w4 =>
      callW (fX12_keep_76 N n k97 (v1 + (1 : Int32))) w4
    else
    k97 w
noncomputable def fX12_keep_74 (N : Nat) (w : Wd) : Option (Int32 × Wd) :=
  callW (fX12_keep_76 N N (fX12_keep_97 N) (0 : Int32)) w
noncomputable def fX12_keep_45 (N : Nat) : Nat → (Wd → Option (Int32 × Wd)) → Int32 → Wd → Option (Int32 × Wd)
  | 0, _, _, _ => none
  | n + 1, k74, v1, w =>
    if v1 < (6 : Int32) then
      (ldI w 103 0 v1 12).bind fun x1 =>
      (stI w 126 0 v1 6 (x1 &&& 1)).bind fun w2 =>
      (ldI w2 104 0 v1 12).bind fun x3 =>
      (stI w2 127 0 v1 6 x3).bind fun w4 =>
      (ldI w4 105 0 v1 12).bind fun x5 =>
      (stI w4 128 0 v1 6 x5).bind fun w6 =>
      callW (fX12_keep_45 N n k74 (v1 + (1 : Int32))) w6
    else
    k74 w
noncomputable def fX12_keep_43 (N : Nat) (w : Wd) : Option (Int32 × Wd) :=
  callW (fX12_keep_45 N N (fX12_keep_74 N) (0 : Int32)) w
noncomputable def fX12_keep_22 (N : Nat) : Nat → (Wd → Option (Int32 × Wd)) → Int32 → Wd → Option (Int32 × Wd)
  | 0, _, _, _ => none
  | n + 1, k43, v1, w =>
    if v1 < (48 : Int32) then
      (ldI w 101 0 v1 96).bind fun x1 =>
      (stI w 124 0 v1 48 x1).bind fun w2 =>
      (ldI w2 102 0 v1 96).bind fun x3 =>
      (stI w2 125 0 v1 48 (x3 &&& 1)).bind fun w4 =>
      callW (fX12_keep_22 N n k43 (v1 + (1 : Int32))) w4
    else
    k43 w
noncomputable def pX12_keep (N : Nat) (w : Wd) : Option (Int32 × Wd) :=
  let w1 : Wd := (setI (setI (setI (setI w 16 0 2 (0 : Int32)) 16 0 97 (1 : Int32)) 16 0 98 (gI (setI (setI w 16 0 2 (0 : Int32)) 16 0 97 (1 : Int32)) 16 0 64)) 16 0 99 (gI (setI (setI (setI w 16 0 2 (0 : Int32)) 16 0 97 (1 : Int32)) 16 0 98 (gI (setI (setI w 16 0 2 (0 : Int32)) 16 0 97 (1 : Int32)) 16 0 64)) 16 0 65))
  (ldL w1 106 0 (0 : Int32) 2).bind fun x2 =>
  callW (fX12_keep_22 N N (fX12_keep_43 N) (0 : Int32)) (setL w1 16 0 100 x2)
noncomputable def mX12_keep (N : Nat) (as : List AV) (w : Wd) : Option (Int32 × Wd) := xS1 16 as fun t => xN1 t (callW (pX12_keep N) w)
set_option maxRecDepth 100000 in
set_option maxHeartbeats 4000000 in
theorem kX12_keep : TK cX12_keep RX12 2 tX12_keep := ⟨by decide +kernel, wok_of [1602, 1697, 1664, 1698, 1665, 1699, 1671, 1700, 1701, 1666, 1702, 1667, 1703, 1668, 1704, 1669, 1705, 1670, 1706, 1645, 1707, 1646, 1664] (by decide +kernel) (by decide +kernel)⟩
set_option maxRecDepth 100000 in
set_option maxHeartbeats 4000000 in
theorem sX12_keep_97 {N : Nat} {X : XT} (G : GX X cX12_keep RX12) (hn : xnL X = 2) (hC : CRs X tX12_keep (oF []) (oF []) (oF [])) {r : Int32 × Wd} (hr : RTI X cX12_keep r)  : ∀ (w : Wd), fX12_keep_97 N w = some r → WW X (pcAt tX12_keep 97) [some (.inr (.inr (16, 0))), none] [] w := by
  intro w h
  refine run_sound (r := r) (X := X) (cc := cX12_keep) (own := RX12) (tab := tX12_keep) G (by rw [hn]; exact kX12_keep) (oI := (oF [])) (oL := (oF [])) (oV := (oF [])) (rI := (fun x w => some (x, w))) (rL := (fun _ _ => none)) (rV := (fun _ => none))
    (K := (fun j ls st w => none)) (fun x w pc ls hx hd => hr x w pc ls (Option.some.inj hx) hd) (fun _ _ _ _ hx => by cases hx) (fun _ _ _ hx => by cases hx) hC (fun ls => lsb [some (.inr (.inr (16, 0))), none] 0 ls) (keepsP_of rfl) ?_ 102 97 [some (.inr (.inr (16, 0))), none] [] w ?_ h
  · intro j ls st w hfx h
    obtain ⟨e0, -⟩ : _ = _ ∧ True := hfx
    try dsimp only at h
    cases h
  · exact (show _ = _ ∧ True from ⟨rfl, trivial⟩)
set_option maxRecDepth 100000 in
set_option maxHeartbeats 4000000 in
theorem sX12_keep_76 {N : Nat} {X : XT} (G : GX X cX12_keep RX12) (hn : xnL X = 2) (hC : CRs X tX12_keep (oF []) (oF []) (oF [])) {r : Int32 × Wd} (hr : RTI X cX12_keep r)  : ∀ (n : Nat) (k97 : Wd → Option (Int32 × Wd)) (v1 : Int32) (w : Wd), fX12_keep_76 N n k97 v1 w = some r → (∀ (w : Wd), k97 w = some r → WW X (pcAt tX12_keep 97) [some (.inr (.inr (16, 0))), none] [] w) → WW X (pcAt tX12_keep 76) [some (.inr (.inr (16, 0))), some (.inl v1)] [] w := by
  intro n
  induction n with
  | zero => intro k97 v1 w h h97; cases h
  | succ n ih =>
    intro k97 v1 w h h97
    refine run_sound (r := r) (X := X) (cc := cX12_keep) (own := RX12) (tab := tX12_keep) G (by rw [hn]; exact kX12_keep) (oI := (oF [])) (oL := (oF [])) (oV := (oF [])) (rI := (fun x w => some (x, w))) (rL := (fun _ _ => none)) (rV := (fun _ => none))
      (K := (fun j ls st w => if j = 76 then (lgI ls 1 fun v1 => st0 st (callW (fX12_keep_76 N n k97 v1) w)) else if j = 97 then (st0 st (k97 w)) else none)) (fun x w pc ls hx hd => hr x w pc ls (Option.some.inj hx) hd) (fun _ _ _ _ hx => by cases hx) (fun _ _ _ hx => by cases hx) hC (fun ls => lsb [some (.inr (.inr (16, 0))), none] 0 ls) (keepsP_of rfl) ?_ 102 76 [some (.inr (.inr (16, 0))), some (.inl v1)] [] w ?_ h
    · intro j ls st w hfx h
      obtain ⟨e0, -⟩ : _ = _ ∧ True := hfx
      try dsimp only at h
      by_cases hj : j = 76
      · subst hj
        rw [if_pos rfl] at h
        obtain ⟨v1, e1, h_1⟩ := lgI_some h
        obtain ⟨rfl, h_2⟩ := st0_some h_1
        clear h h_1
        have h := h_2
        try rw [callW_eq] at h
        exact WW.le (a := [some (.inr (.inr (16, 0))), some (.inl v1)]) (by rw [hn]; rfl) (show _ = _ ∧ _ = _ ∧ True from ⟨e0, e1, trivial⟩) (ih k97 v1 w h h97)
      rw [if_neg hj] at h
      by_cases hj : j = 97
      · subst hj
        rw [if_pos rfl] at h
        obtain ⟨rfl, h_1⟩ := st0_some h
        clear h
        have h := h_1
        try rw [callW_eq] at h
        exact WW.le (a := [some (.inr (.inr (16, 0))), none]) (by rw [hn]; rfl) (show _ = _ ∧ True from ⟨e0, trivial⟩) (h97 w h)
      rw [if_neg hj] at h
      cases h
    · exact (show _ = _ ∧ True from ⟨rfl, trivial⟩)
set_option maxRecDepth 100000 in
set_option maxHeartbeats 4000000 in
theorem sX12_keep_74 {N : Nat} {X : XT} (G : GX X cX12_keep RX12) (hn : xnL X = 2) (hC : CRs X tX12_keep (oF []) (oF []) (oF [])) {r : Int32 × Wd} (hr : RTI X cX12_keep r)  : ∀ (w : Wd), fX12_keep_74 N w = some r → WW X (pcAt tX12_keep 74) [some (.inr (.inr (16, 0))), none] [] w := by
  intro w h
  refine run_sound (r := r) (X := X) (cc := cX12_keep) (own := RX12) (tab := tX12_keep) G (by rw [hn]; exact kX12_keep) (oI := (oF [])) (oL := (oF [])) (oV := (oF [])) (rI := (fun x w => some (x, w))) (rL := (fun _ _ => none)) (rV := (fun _ => none))
    (K := (fun j ls st w => if j = 76 then (lgI ls 1 fun v1 => st0 st (callW (fX12_keep_76 N N (fX12_keep_97 N) v1) w)) else none)) (fun x w pc ls hx hd => hr x w pc ls (Option.some.inj hx) hd) (fun _ _ _ _ hx => by cases hx) (fun _ _ _ hx => by cases hx) hC (fun ls => lsb [some (.inr (.inr (16, 0))), none] 0 ls) (keepsP_of rfl) ?_ 102 74 [some (.inr (.inr (16, 0))), none] [] w ?_ h
  · intro j ls st w hfx h
    obtain ⟨e0, -⟩ : _ = _ ∧ True := hfx
    try dsimp only at h
    by_cases hj : j = 76
    · subst hj
      rw [if_pos rfl] at h
      obtain ⟨v1, e1, h_1⟩ := lgI_some h
      obtain ⟨rfl, h_2⟩ := st0_some h_1
      clear h h_1
      have h := h_2
      try rw [callW_eq] at h
      exact WW.le (a := [some (.inr (.inr (16, 0))), some (.inl v1)]) (by rw [hn]; rfl) (show _ = _ ∧ _ = _ ∧ True from ⟨e0, e1, trivial⟩) (sX12_keep_76 G hn hC hr N (fX12_keep_97 N) v1 w h (fun w h => (sX12_keep_97 G hn hC hr w h)))
    rw [if_neg hj] at h
    cases h
  · exact (show _ = _ ∧ True from ⟨rfl, trivial⟩)
set_option maxRecDepth 100000 in
set_option maxHeartbeats 4000000 in
theorem sX12_keep_45 {N : Nat} {X : XT} (G : GX X cX12_keep RX12) (hn : xnL X = 2) (hC : CRs X tX12_keep (oF []) (oF []) (oF [])) {r : Int32 × Wd} (hr : RTI X cX12_keep r)  : ∀ (n : Nat) (k74 : Wd → Option (Int32 × Wd)) (v1 : Int32) (w : Wd), fX12_keep_45 N n k74 v1 w = some r → (∀ (w : Wd), k74 w = some r → WW X (pcAt tX12_keep 74) [some (.inr (.inr (16, 0))), none] [] w) → WW X (pcAt tX12_keep 45) [some (.inr (.inr (16, 0))), some (.inl v1)] [] w := by
  intro n
  induction n with
  | zero => intro k74 v1 w h h74; cases h
  | succ n ih =>
    intro k74 v1 w h h74
    refine run_sound (r := r) (X := X) (cc := cX12_keep) (own := RX12) (tab := tX12_keep) G (by rw [hn]; exact kX12_keep) (oI := (oF [])) (oL := (oF [])) (oV := (oF [])) (rI := (fun x w => some (x, w))) (rL := (fun _ _ => none)) (rV := (fun _ => none))
      (K := (fun j ls st w => if j = 45 then (lgI ls 1 fun v1 => st0 st (callW (fX12_keep_45 N n k74 v1) w)) else if j = 74 then (st0 st (k74 w)) else none)) (fun x w pc ls hx hd => hr x w pc ls (Option.some.inj hx) hd) (fun _ _ _ _ hx => by cases hx) (fun _ _ _ hx => by cases hx) hC (fun ls => lsb [some (.inr (.inr (16, 0))), none] 0 ls) (keepsP_of rfl) ?_ 102 45 [some (.inr (.inr (16, 0))), some (.inl v1)] [] w ?_ h
    · intro j ls st w hfx h
      obtain ⟨e0, -⟩ : _ = _ ∧ True := hfx
      try dsimp only at h
      by_cases hj : j = 45
      · subst hj
        rw [if_pos rfl] at h
        obtain ⟨v1, e1, h_1⟩ := lgI_some h
        obtain ⟨rfl, h_2⟩ := st0_some h_1
        clear h h_1
        have h := h_2
        try rw [callW_eq] at h
        exact WW.le (a := [some (.inr (.inr (16, 0))), some (.inl v1)]) (by rw [hn]; rfl) (show _ = _ ∧ _ = _ ∧ True from ⟨e0, e1, trivial⟩) (ih k74 v1 w h h74)
      rw [if_neg hj] at h
      by_cases hj : j = 74
      · subst hj
        rw [if_pos rfl] at h
        obtain ⟨rfl, h_1⟩ := st0_some h
        clear h
        have h := h_1
        try rw [callW_eq] at h
        exact WW.le (a := [some (.inr (.inr (16, 0))), none]) (by rw [hn]; rfl) (show _ = _ ∧ True from ⟨e0, trivial⟩) (h74 w h)
      rw [if_neg hj] at h
      cases h
    · exact (show _ = _ ∧ True from ⟨rfl, trivial⟩)
set_option maxRecDepth 100000 in
set_option maxHeartbeats 4000000 in
theorem sX12_keep_43 {N : Nat} {X : XT} (G : GX X cX12_keep RX12) (hn : xnL X = 2) (hC : CRs X tX12_keep (oF []) (oF []) (oF [])) {r : Int32 × Wd} (hr : RTI X cX12_keep r)  : ∀ (w : Wd), fX12_keep_43 N w = some r → WW X (pcAt tX12_keep 43) [some (.inr (.inr (16, 0))), none] [] w := by
  intro w h
  refine run_sound (r := r) (X := X) (cc := cX12_keep) (own := RX12) (tab := tX12_keep) G (by rw [hn]; exact kX12_keep) (oI := (oF [])) (oL := (oF [])) (oV := (oF [])) (rI := (fun x w => some (x, w))) (rL := (fun _ _ => none)) (rV := (fun _ => none))
    (K := (fun j ls st w => if j = 45 then (lgI ls 1 fun v1 => st0 st (callW (fX12_keep_45 N N (fX12_keep_74 N) v1) w)) else none)) (fun x w pc ls hx hd => hr x w pc ls (Option.some.inj hx) hd) (fun _ _ _ _ hx => by cases hx) (fun _ _ _ hx => by cases hx) hC (fun ls => lsb [some (.inr (.inr (16, 0))), none] 0 ls) (keepsP_of rfl) ?_ 102 43 [some (.inr (.inr (16, 0))), none] [] w ?_ h
  · intro j ls st w hfx h
    obtain ⟨e0, -⟩ : _ = _ ∧ True := hfx
    try dsimp only at h
    by_cases hj : j = 45
    · subst hj
      rw [if_pos rfl] at h
      obtain ⟨v1, e1, h_1⟩ := lgI_some h
      obtain ⟨rfl, h_2⟩ := st0_some h_1
      clear h h_1
      have h := h_2
      try rw [callW_eq] at h
      exact WW.le (a := [some (.inr (.inr (16, 0))), some (.inl v1)]) (by rw [hn]; rfl) (show _ = _ ∧ _ = _ ∧ True from ⟨e0, e1, trivial⟩) (sX12_keep_45 G hn hC hr N (fX12_keep_74 N) v1 w h (fun w h => (sX12_keep_74 G hn hC hr w h)))
    rw [if_neg hj] at h
    cases h
  · exact (show _ = _ ∧ True from ⟨rfl, trivial⟩)
set_option maxRecDepth 100000 in
set_option maxHeartbeats 4000000 in
theorem sX12_keep_22 {N : Nat} {X : XT} (G : GX X cX12_keep RX12) (hn : xnL X = 2) (hC : CRs X tX12_keep (oF []) (oF []) (oF [])) {r : Int32 × Wd} (hr : RTI X cX12_keep r)  : ∀ (n : Nat) (k43 : Wd → Option (Int32 × Wd)) (v1 : Int32) (w : Wd), fX12_keep_22 N n k43 v1 w = some r → (∀ (w : Wd), k43 w = some r → WW X (pcAt tX12_keep 43) [some (.inr (.inr (16, 0))), none] [] w) → WW X (pcAt tX12_keep 22) [some (.inr (.inr (16, 0))), some (.inl v1)] [] w := by
  intro n
  induction n with
  | zero => intro k43 v1 w h h43; cases h
  | succ n ih =>
    intro k43 v1 w h h43
    refine run_sound (r := r) (X := X) (cc := cX12_keep) (own := RX12) (tab := tX12_keep) G (by rw [hn]; exact kX12_keep) (oI := (oF [])) (oL := (oF [])) (oV := (oF [])) (rI := (fun x w => some (x, w))) (rL := (fun _ _ => none)) (rV := (fun _ => none))
      (K := (fun j ls st w => if j = 22 then (lgI ls 1 fun v1 => st0 st (callW (fX12_keep_22 N n k43 v1) w)) else if j = 43 then (st0 st (k43 w)) else none)) (fun x w pc ls hx hd => hr x w pc ls (Option.some.inj hx) hd) (fun _ _ _ _ hx => by cases hx) (fun _ _ _ hx => by cases hx) hC (fun ls => lsb [some (.inr (.inr (16, 0))), none] 0 ls) (keepsP_of rfl) ?_ 102 22 [some (.inr (.inr (16, 0))), some (.inl v1)] [] w ?_ h
    · intro j ls st w hfx h
      obtain ⟨e0, -⟩ : _ = _ ∧ True := hfx
      try dsimp only at h
      by_cases hj : j = 22
      · subst hj
        rw [if_pos rfl] at h
        obtain ⟨v1, e1, h_1⟩ := lgI_some h
        obtain ⟨rfl, h_2⟩ := st0_some h_1
        clear h h_1
        have h := h_2
        try rw [callW_eq] at h
        exact WW.le (a := [some (.inr (.inr (16, 0))), some (.inl v1)]) (by rw [hn]; rfl) (show _ = _ ∧ _ = _ ∧ True from ⟨e0, e1, trivial⟩) (ih k43 v1 w h h43)
      rw [if_neg hj] at h
      by_cases hj : j = 43
      · subst hj
        rw [if_pos rfl] at h
        obtain ⟨rfl, h_1⟩ := st0_some h
        clear h
        have h := h_1
        try rw [callW_eq] at h
        exact WW.le (a := [some (.inr (.inr (16, 0))), none]) (by rw [hn]; rfl) (show _ = _ ∧ True from ⟨e0, trivial⟩) (h43 w h)
      rw [if_neg hj] at h
      cases h
    · exact (show _ = _ ∧ True from ⟨rfl, trivial⟩)
set_option maxRecDepth 100000 in
set_option maxHeartbeats 4000000 in
theorem crX12_keep {N : Nat} {X : XT} (G : GX X cX12_keep RX12) (hR : xR X = rmL 1) : CRs X tX12_keep (oF []) (oF []) (oF []) := by
  have hl : tX12_keep.filter isInv = [] := rfl
  intro e he
  rw [hl] at he
  cases he
set_option maxRecDepth 100000 in
set_option maxHeartbeats 4000000 in
theorem MX12_keep (N : Nat) : SndI yX12_keep cX12_keep 2 (some .int) 1 1 true (mX12_keep N) := by
  refine SndI.of tX12_keep (by decide +kernel) rfl rfl ?_ ?_
  · intro as w x h
    obtain ⟨t1, rfl, h_1⟩ := xS1_some h
    obtain ⟨rfl, h_2⟩ := xN1_some h_1
    clear h h_1
    have h := h_2
    rw [callW_eq] at h
    exact ⟨fun _ => ⟨_, _, _, rfl, rfl, _, rfl, rfl⟩, rfl, Nat.le_of_ble_eq_true rfl⟩
  · intro X G hn hR as w r h hr
    have hC := crX12_keep (N := N) G hR
    obtain ⟨t1, rfl, h_1⟩ := xS1_some h
    obtain ⟨rfl, h_2⟩ := xN1_some h_1
    clear h h_1
    have h := h_2
    rw [callW_eq] at h
    refine run_sound (r := r) (X := X) (cc := cX12_keep) (own := RX12) (tab := tX12_keep) G (by rw [hn]; exact kX12_keep) (oI := (oF [])) (oL := (oF [])) (oV := (oF [])) (rI := (fun x w => some (x, w))) (rL := (fun _ _ => none)) (rV := (fun _ => none))
      (K := (fun j ls st w => if j = 22 then (lgI ls 1 fun v1 => st0 st (callW (fX12_keep_22 N N (fX12_keep_43 N) v1) w)) else none)) (fun x w pc ls hx hd => hr x w pc ls (Option.some.inj hx) hd) (fun _ _ _ _ hx => by cases hx) (fun _ _ _ hx => by cases hx) hC (fun ls => lsb [some (.inr (.inr (16, 0))), none] 0 ls) (keepsP_of rfl) ?_ 102 0 [some (.inr (.inr (16, 0))), none] [] w ?_ h
    · intro j ls st w hfx h
      obtain ⟨e0, -⟩ : _ = _ ∧ True := hfx
      try dsimp only at h
      by_cases hj : j = 22
      · subst hj
        rw [if_pos rfl] at h
        obtain ⟨v1, e1, h_1⟩ := lgI_some h
        obtain ⟨rfl, h_2⟩ := st0_some h_1
        clear h h_1
        have h := h_2
        try rw [callW_eq] at h
        exact WW.le (a := [some (.inr (.inr (16, 0))), some (.inl v1)]) (by rw [hn]; rfl) (show _ = _ ∧ _ = _ ∧ True from ⟨e0, e1, trivial⟩) (sX12_keep_22 G hn hC hr N (fX12_keep_43 N) v1 w h (fun w h => (sX12_keep_43 G hn hC hr w h)))
      rw [if_neg hj] at h
      cases h
    · exact (show _ = _ ∧ True from ⟨rfl, trivial⟩)
-- MoorGuidesModel.back()I
def tX12_back : List EN := [
  (0, .aload_n 0, 0, 0, 0, 0, 0, []), (1, .iconst 0, 0, 0, 0, 0, 0, []), (2, .putfield 196, 0, 12, 2, 0, 0, []), (5, .aload_n 0, 0, 0, 0, 0, 0, []),
  (6, .getfield 450, 0, 12, 97, 0, 0, []), (9, .ifCond .ne 5, 0, 8, 0, 0, 0, []), (12, .iconst (-1), 0, 0, 0, (-1), 0, []), (13, .ireturn, 0, 0, 0, 0, 0, []),
  (14, .aload_n 0, 0, 0, 0, 0, 0, []), (15, .aload_n 0, 0, 0, 0, 0, 0, []), (16, .getfield 622, 0, 12, 98, 0, 0, []), (19, .putfield 438, 0, 12, 64, 0, 0, []),
  (22, .aload_n 0, 0, 0, 0, 0, 0, []), (23, .aload_n 0, 0, 0, 0, 0, 0, []), (24, .getfield 625, 0, 12, 99, 0, 0, []), (27, .putfield 441, 0, 12, 65, 0, 0, []),
  (30, .aload_n 0, 0, 0, 0, 0, 0, []), (31, .getfield 115, 0, 12, 71, 0, 0, []), (34, .iconst 0, 0, 0, 0, 0, 0, []), (35, .aload_n 0, 0, 0, 0, 0, 0, []),
  (36, .getfield 628, 0, 12, 100, 0, 0, []), (39, .lastore, 0, 0, 0, 0, 0, []), (40, .iconst 0, 0, 0, 0, 0, 0, []), (41, .istore_n 1, 0, 0, 0, 0, 0, []),
  (42, .iload_n 1, 25, 0, 0, 0, 0, []), (43, .bipush 48, 0, 0, 0, 48, 0, []), (45, .if_icmp .ge 33, 0, 45, 0, 0, 0, []), (48, .aload_n 0, 0, 0, 0, 0, 0, []),
  (49, .getfield 100, 0, 12, 66, 0, 0, []), (52, .iload_n 1, 0, 0, 0, 0, 0, []), (53, .aload_n 0, 0, 0, 0, 0, 0, []), (54, .getfield 169, 0, 12, 101, 0, 0, []),
  (57, .iload_n 1, 0, 0, 0, 0, 0, []), (58, .iaload, 0, 0, 0, 0, 0, []), (59, .iastore, 0, 0, 0, 0, 0, []), (60, .aload_n 0, 0, 0, 0, 0, 0, []),
  (61, .getfield 103, 0, 12, 67, 0, 0, []), (64, .iload_n 1, 0, 0, 0, 0, 0, []), (65, .aload_n 0, 0, 0, 0, 0, 0, []), (66, .getfield 172, 0, 12, 102, 0, 0, []),
  (69, .iload_n 1, 0, 0, 0, 0, 0, []), (70, .baload, 0, 0, 0, 0, 0, []), (71, .bastore, 0, 0, 0, 0, 0, []), (72, .iinc 1 1, 0, 0, 0, 1, 0, []),
  (75, .goto (-33), 0, 24, 0, 0, 0, []), (78, .iconst 0, 46, 0, 0, 0, 0, []), (79, .istore_n 1, 0, 0, 0, 0, 0, []), (80, .iload_n 1, 48, 0, 0, 0, 0, []),
  (81, .bipush 6, 0, 0, 0, 6, 0, []), (83, .if_icmp .ge 45, 0, 76, 0, 0, 0, []), (86, .aload_n 0, 0, 0, 0, 0, 0, []), (87, .getfield 106, 0, 12, 68, 0, 0, []),
  (90, .iload_n 1, 0, 0, 0, 0, 0, []), (91, .aload_n 0, 0, 0, 0, 0, 0, []), (92, .getfield 175, 0, 12, 103, 0, 0, []), (95, .iload_n 1, 0, 0, 0, 0, 0, []),
  (96, .baload, 0, 0, 0, 0, 0, []), (97, .bastore, 0, 0, 0, 0, 0, []), (98, .aload_n 0, 0, 0, 0, 0, 0, []), (99, .getfield 109, 0, 12, 69, 0, 0, []),
  (102, .iload_n 1, 0, 0, 0, 0, 0, []), (103, .aload_n 0, 0, 0, 0, 0, 0, []), (104, .getfield 178, 0, 12, 104, 0, 0, []), (107, .iload_n 1, 0, 0, 0, 0, 0, []),
  (108, .iaload, 0, 0, 0, 0, 0, []), (109, .iastore, 0, 0, 0, 0, 0, []), (110, .aload_n 0, 0, 0, 0, 0, 0, []), (111, .getfield 112, 0, 12, 70, 0, 0, []),
  (114, .iload_n 1, 0, 0, 0, 0, 0, []), (115, .aload_n 0, 0, 0, 0, 0, 0, []), (116, .getfield 181, 0, 12, 105, 0, 0, []), (119, .iload_n 1, 0, 0, 0, 0, 0, []),
  (120, .iaload, 0, 0, 0, 0, 0, []), (121, .iastore, 0, 0, 0, 0, 0, []), (122, .iinc 1 1, 0, 0, 0, 1, 0, []), (125, .goto (-45), 0, 47, 0, 0, 0, []),
  (128, .iconst 0, 77, 0, 0, 0, 0, []), (129, .istore_n 1, 0, 0, 0, 0, 0, []), (130, .iload_n 1, 79, 0, 0, 0, 0, []), (131, .bipush 12, 0, 0, 0, 12, 0, []),
  (133, .if_icmp .ge 33, 0, 99, 0, 0, 0, []), (136, .aload_n 0, 0, 0, 0, 0, 0, []), (137, .getfield 62, 0, 12, 45, 0, 0, []), (140, .iload_n 1, 0, 0, 0, 0, 0, []),
  (141, .aload_n 0, 0, 0, 0, 0, 0, []), (142, .getfield 184, 0, 12, 106, 0, 0, []), (145, .iload_n 1, 0, 0, 0, 0, 0, []), (146, .iaload, 0, 0, 0, 0, 0, []),
  (147, .iastore, 0, 0, 0, 0, 0, []), (148, .aload_n 0, 0, 0, 0, 0, 0, []), (149, .getfield 65, 0, 12, 46, 0, 0, []), (152, .iload_n 1, 0, 0, 0, 0, 0, []),
  (153, .aload_n 0, 0, 0, 0, 0, 0, []), (154, .getfield 187, 0, 12, 107, 0, 0, []), (157, .iload_n 1, 0, 0, 0, 0, 0, []), (158, .iaload, 0, 0, 0, 0, 0, []),
  (159, .iastore, 0, 0, 0, 0, 0, []), (160, .iinc 1 1, 0, 0, 0, 1, 0, []), (163, .goto (-33), 0, 78, 0, 0, 0, []), (166, .aload_n 0, 100, 0, 0, 0, 0, []),
  (167, .iconst 0, 0, 0, 0, 0, 0, []), (168, .putfield 447, 0, 12, 74, 0, 0, []), (171, .aload_n 0, 0, 0, 0, 0, 0, []), (172, .getfield 438, 0, 12, 64, 0, 0, []),
  (175, .ireturn, 0, 0, 0, 0, 0, [])]
noncomputable def fX12_back_99 (N : Nat) (w : Wd) : Option (Int32 × Wd) :=
  some ((gI (setI w 16 0 74 (0 : Int32)) 16 0 64), (setI w 16 0 74 (0 : Int32)))
noncomputable def fX12_back_78 (N : Nat) : Nat → (Wd → Option (Int32 × Wd)) → Int32 → Wd → Option (Int32 × Wd)
  | 0, _, _, _ => none
  | n + 1, k99, v1, w =>
    if v1 < (12 : Int32) then
      (ldI w 129 0 v1 12).bind fun x1 =>
      (stI w 89 0 v1 24 x1).bind fun w2 =>
      (ldI w2 130 0 v1 12).bind fun x3 =>
      (stI w2 90 0 v1 24 x3).bind fun w4 =>
      callW (fX12_back_78 N n k99 (v1 + (1 : Int32))) w4
    else
    k99 w
noncomputable def fX12_back_76 (N : Nat) (w : Wd) : Option (Int32 × Wd) :=
  callW (fX12_back_78 N N (fX12_back_99 N) (0 : Int32)) w
noncomputable def fX12_back_47 (N : Nat) : Nat → (Wd → Option (Int32 × Wd)) → Int32 → Wd → Option (Int32 × Wd)
  | 0, _, _, _ => none
  | n + 1, k76, v1, w =>
    if v1 < (6 : Int32) then
      (ldI w 126 0 v1 6).bind fun x1 =>
      (stI w 103 0 v1 12 (x1 &&& 1)).bind fun w2 =>
      (ldI w2 127 0 v1 6).bind fun x3 =>
      (stI w2 104 0 v1 12 x3).bind fun w4 =>
      (ldI w4 128 0 v1 6).bind fun x5 =>
      (stI w4 105 0 v1 12 x5).bind fun w6 =>
      callW (fX12_back_47 N n k76 (v1 + (1 : Int32))) w6
    else
    k76 w
noncomputable def fX12_back_45 (N : Nat) (w : Wd) : Option (Int32 × Wd) :=
  callW (fX12_back_47 N N (fX12_back_76 N) (0 : Int32)) w
noncomputable def fX12_back_24 (N : Nat) : Nat → (Wd → Option (Int32 × Wd)) → Int32 → Wd → Option (Int32 × Wd)
  | 0, _, _, _ => none
  | n + 1, k45, v1, w =>
    if v1 < (48 : Int32) then
      (ldI w 124 0 v1 48).bind fun x1 =>
      (stI w 101 0 v1 96 x1).bind fun w2 =>
      (ldI w2 125 0 v1 48).bind fun x3 =>
      (stI w2 102 0 v1 96 (x3 &&& 1)).bind fun w4 =>
      callW (fX12_back_24 N n k45 (v1 + (1 : Int32))) w4
    else
    k45 w
noncomputable def pX12_back (N : Nat) (w : Wd) : Option (Int32 × Wd) :=
  if (gI (setI w 16 0 2 (0 : Int32)) 16 0 97) = 0 then some ((-1 : Int32), (setI w 16 0 2 (0 : Int32))) else
  let w1 : Wd := (setI (setI (setI w 16 0 2 (0 : Int32)) 16 0 64 (gI (setI w 16 0 2 (0 : Int32)) 16 0 98)) 16 0 65 (gI (setI (setI w 16 0 2 (0 : Int32)) 16 0 64 (gI (setI w 16 0 2 (0 : Int32)) 16 0 98)) 16 0 99))
  (stL w1 106 0 (0 : Int32) 2 (gL w1 16 0 100)).bind fun w2 =>
  callW (fX12_back_24 N N (fX12_back_45 N) (0 : Int32)) w2
noncomputable def mX12_back (N : Nat) (as : List AV) (w : Wd) : Option (Int32 × Wd) := xS1 16 as fun t => xN1 t (callW (pX12_back N) w)
set_option maxRecDepth 100000 in
set_option maxHeartbeats 4000000 in
theorem kX12_back : TK cX12_back RX12 2 tX12_back := ⟨by decide +kernel, wok_of [1602, 1697, 1698, 1664, 1699, 1665, 1671, 1700, 1666, 1701, 1667, 1702, 1668, 1703, 1669, 1704, 1670, 1705, 1645, 1706, 1646, 1707, 1674, 1664] (by decide +kernel) (by decide +kernel)⟩
set_option maxRecDepth 100000 in
set_option maxHeartbeats 4000000 in
theorem sX12_back_99 {N : Nat} {X : XT} (G : GX X cX12_back RX12) (hn : xnL X = 2) (hC : CRs X tX12_back (oF []) (oF []) (oF [])) {r : Int32 × Wd} (hr : RTI X cX12_back r)  : ∀ (w : Wd), fX12_back_99 N w = some r → WW X (pcAt tX12_back 99) [some (.inr (.inr (16, 0))), none] [] w := by
  intro w h
  refine run_sound (r := r) (X := X) (cc := cX12_back) (own := RX12) (tab := tX12_back) G (by rw [hn]; exact kX12_back) (oI := (oF [])) (oL := (oF [])) (oV := (oF [])) (rI := (fun x w => some (x, w))) (rL := (fun _ _ => none)) (rV := (fun _ => none))
    (K := (fun j ls st w => none)) (fun x w pc ls hx hd => hr x w pc ls (Option.some.inj hx) hd) (fun _ _ _ _ hx => by cases hx) (fun _ _ _ hx => by cases hx) hC (fun ls => lsb [some (.inr (.inr (16, 0))), none] 0 ls) (keepsP_of rfl) ?_ 107 99 [some (.inr (.inr (16, 0))), none] [] w ?_ h
  · intro j ls st w hfx h
    obtain ⟨e0, -⟩ : _ = _ ∧ True := hfx
    try dsimp only at h
    cases h
  · exact (show _ = _ ∧ True from ⟨rfl, trivial⟩)
set_option maxRecDepth 100000 in
set_option maxHeartbeats 4000000 in
theorem sX12_back_78 {N : Nat} {X : XT} (G : GX X cX12_back RX12) (hn : xnL X = 2) (hC : CRs X tX12_back (oF []) (oF []) (oF [])) {r : Int32 × Wd} (hr : RTI X cX12_back r)  : ∀ (n : Nat) (k99 : Wd → Option (Int32 × Wd)) (v1 : Int32) (w : Wd), fX12_back_78 N n k99 v1 w = some r → (∀ (w : Wd), k99 w = some r → WW X (pcAt tX12_back 99) [some (.inr (.inr (16, 0))), none] [] w) → WW X (pcAt tX12_back 78) [some (.inr (.inr (16, 0))), some (.inl v1)] [] w := by
  intro n
  induction n with
  | zero => intro k99 v1 w h h99; cases h
  | succ n ih =>
    intro k99 v1 w h h99
    refine run_sound (r := r) (X := X) (cc := cX12_back) (own := RX12) (tab := tX12_back) G (by rw [hn]; exact kX12_back) (oI := (oF [])) (oL := (oF [])) (oV := (oF [])) (rI := (fun x w => some (x, w))) (rL := (fun _ _ => none)) (rV := (fun _ => none))
      (K := (fun j ls st w => if j = 78 then (lgI ls 1 fun v1 => st0 st (callW (fX12_back_78 N n k99 v1) w)) else if j = 99 then (st0 st (k99 w)) else none)) (fun x w pc ls hx hd => hr x w pc ls (Option.some.inj hx) hd) (fun _ _ _ _ hx => by cases hx) (fun _ _ _ hx => by cases hx) hC (fun ls => lsb [some (.inr (.inr (16, 0))), none] 0 ls) (keepsP_of rfl) ?_ 107 78 [some (.inr (.inr (16, 0))), some (.inl v1)] [] w ?_ h
    · intro j ls st w hfx h
      obtain ⟨e0, -⟩ : _ = _ ∧ True := hfx
      try dsimp only at h
      by_cases hj : j = 78
      · subst hj
        rw [if_pos rfl] at h
        obtain ⟨v1, e1, h_1⟩ := lgI_some h
        obtain ⟨rfl, h_2⟩ := st0_some h_1
        clear h h_1
        have h := h_2
        try rw [callW_eq] at h
        exact WW.le (a := [some (.inr (.inr (16, 0))), some (.inl v1)]) (by rw [hn]; rfl) (show _ = _ ∧ _ = _ ∧ True from ⟨e0, e1, trivial⟩) (ih k99 v1 w h h99)
      rw [if_neg hj] at h
      by_cases hj : j = 99
      · subst hj
        rw [if_pos rfl] at h
        obtain ⟨rfl, h_1⟩ := st0_some h
        clear h
        have h := h_1
        try rw [callW_eq] at h
        exact WW.le (a := [some (.inr (.inr (16, 0))), none]) (by rw [hn]; rfl) (show _ = _ ∧ True from ⟨e0, trivial⟩) (h99 w h)
      rw [if_neg hj] at h
      cases h
    · exact (show _ = _ ∧ True from ⟨rfl, trivial⟩)
set_option maxRecDepth 100000 in
set_option maxHeartbeats 4000000 in
theorem sX12_back_76 {N : Nat} {X : XT} (G : GX X cX12_back RX12) (hn : xnL X = 2) (hC : CRs X tX12_back (oF []) (oF []) (oF [])) {r : Int32 × Wd} (hr : RTI X cX12_back r)  : ∀ (w : Wd), fX12_back_76 N w = some r → WW X (pcAt tX12_back 76) [some (.inr (.inr (16, 0))), none] [] w := by
  intro w h
  refine run_sound (r := r) (X := X) (cc := cX12_back) (own := RX12) (tab := tX12_back) G (by rw [hn]; exact kX12_back) (oI := (oF [])) (oL := (oF [])) (oV := (oF [])) (rI := (fun x w => some (x, w))) (rL := (fun _ _ => none)) (rV := (fun _ => none))
    (K := (fun j ls st w => if j = 78 then (lgI ls 1 fun v1 => st0 st (callW (fX12_back_78 N N (fX12_back_99 N) v1) w)) else none)) (fun x w pc ls hx hd => hr x w pc ls (Option.some.inj hx) hd) (fun _ _ _ _ hx => by cases hx) (fun _ _ _ hx => by cases hx) hC (fun ls => lsb [some (.inr (.inr (16, 0))), none] 0 ls) (keepsP_of rfl) ?_ 107 76 [some (.inr (.inr (16, 0))), none] [] w ?_ h
  · intro j ls st w hfx h
    obtain ⟨e0, -⟩ : _ = _ ∧ True := hfx
    try dsimp only at h
    by_cases hj : j = 78
    · subst hj
      rw [if_pos rfl] at h
      obtain ⟨v1, e1, h_1⟩ := lgI_some h
      obtain ⟨rfl, h_2⟩ := st0_some h_1
      clear h h_1
      have h := h_2
      try rw [callW_eq] at h
      exact WW.le (a := [some (.inr (.inr (16, 0))), some (.inl v1)]) (by rw [hn]; rfl) (show _ = _ ∧ _ = _ ∧ True from ⟨e0, e1, trivial⟩) (sX12_back_78 G hn hC hr N (fX12_back_99 N) v1 w h (fun w h => (sX12_back_99 G hn hC hr w h)))
    rw [if_neg hj] at h
    cases h
  · exact (show _ = _ ∧ True from ⟨rfl, trivial⟩)
set_option maxRecDepth 100000 in
set_option maxHeartbeats 4000000 in
theorem sX12_back_47 {N : Nat} {X : XT} (G : GX X cX12_back RX12) (hn : xnL X = 2) (hC : CRs X tX12_back (oF []) (oF []) (oF [])) {r : Int32 × Wd} (hr : RTI X cX12_back r)  : ∀ (n : Nat) (k76 : Wd → Option (Int32 × Wd)) (v1 : Int32) (w : Wd), fX12_back_47 N n k76 v1 w = some r → (∀ (w : Wd), k76 w = some r → WW X (pcAt tX12_back 76) [some (.inr (.inr (16, 0))), none] [] w) → WW X (pcAt tX12_back 47) [some (.inr (.inr (16, 0))), some (.inl v1)] [] w := by
  intro n
  induction n with
  | zero => intro k76 v1 w h h76; cases h
  | succ n ih =>
    intro k76 v1 w h h76
    refine run_sound (r := r) (X := X) (cc := cX12_back) (own := RX12) (tab := tX12_back) G (by rw [hn]; exact kX12_back) (oI := (oF [])) (oL := (oF [])) (oV := (oF [])) (rI := (fun x w => some (x, w))) (rL := (fun _ _ => none)) (rV := (fun _ => none))
      (K := (fun j ls st w => if j = 47 then (lgI ls 1 fun v1 => st0 st (callW (fX12_back_47 N n k76 v1) w)) else if j = 76 then (st0 st (k76 w)) else none)) (fun x w pc ls hx hd => hr x w pc ls (Option.some.inj hx) hd) (fun _ _ _ _ hx => by cases hx) (fun _ _ _ hx => by cases hx) hC (fun ls => lsb [some (.inr (.inr (16, 0))), none] 0 ls) (keepsP_of rfl) ?_ 107 47 [some (.inr (.inr (16, 0))), some (.inl v1)] [] w ?_ h
    · intro j ls st w hfx h
      obtain ⟨e0, -⟩ : _ = _ ∧ True := hfx
      try dsimp only at h
      by_cases hj : j = 47
      · subst hj
        rw [if_pos rfl] at h
        obtain ⟨v1, e1, h_1⟩ := lgI_some h
        obtain ⟨rfl, h_2⟩ := st0_some h_1
        clear h h_1
        have h := h_2
        try rw [callW_eq] at h
        exact WW.le (a := [some (.inr (.inr (16, 0))), some (.inl v1)]) (by rw [hn]; rfl) (show _ = _ ∧ _ = _ ∧ True from ⟨e0, e1, trivial⟩) (ih k76 v1 w h h76)
      rw [if_neg hj] at h
      by_cases hj : j = 76
      · subst hj
        rw [if_pos rfl] at h
        obtain ⟨rfl, h_1⟩ := st0_some h
        clear h
        have h := h_1
        try rw [callW_eq] at h
        exact WW.le (a := [some (.inr (.inr (16, 0))), none]) (by rw [hn]; rfl) (show _ = _ ∧ True from ⟨e0, trivial⟩) (h76 w h)
      rw [if_neg hj] at h
      cases h
    · exact (show _ = _ ∧ True from ⟨rfl, trivial⟩)
set_option maxRecDepth 100000 in
set_option maxHeartbeats 4000000 in
theorem sX12_back_45 {N : Nat} {X : XT} (G : GX X cX12_back RX12) (hn : xnL X = 2) (hC : CRs X tX12_back (oF []) (oF []) (oF [])) {r : Int32 × Wd} (hr : RTI X cX12_back r)  : ∀ (w : Wd), fX12_back_45 N w = some r → WW X (pcAt tX12_back 45) [some (.inr (.inr (16, 0))), none] [] w := by
  intro w h
  refine run_sound (r := r) (X := X) (cc := cX12_back) (own := RX12) (tab := tX12_back) G (by rw [hn]; exact kX12_back) (oI := (oF [])) (oL := (oF [])) (oV := (oF [])) (rI := (fun x w => some (x, w))) (rL := (fun _ _ => none)) (rV := (fun _ => none))
    (K := (fun j ls st w => if j = 47 then (lgI ls 1 fun v1 => st0 st (callW (fX12_back_47 N N (fX12_back_76 N) v1) w)) else none)) (fun x w pc ls hx hd => hr x w pc ls (Option.some.inj hx) hd) (fun _ _ _ _ hx => by cases hx) (fun _ _ _ hx => by cases hx) hC (fun ls => lsb [some (.inr (.inr (16, 0))), none] 0 ls) (keepsP_of rfl) ?_ 107 45 [some (.inr (.inr (16, 0))), none] [] w ?_ h
  · intro j ls st w hfx h
    obtain ⟨e0, -⟩ : _ = _ ∧ True := hfx
    try dsimp only at h
    by_cases hj : j = 47
    · subst hj
      rw [if_pos rfl] at h
      obtain ⟨v1, e1, h_1⟩ := lgI_some h
      obtain ⟨rfl, h_2⟩ := st0_some h_1
      clear h h_1
      have h := h_2
      try rw [callW_eq] at h
      exact WW.le (a := [some (.inr (.inr (16, 0))), some (.inl v1)]) (by rw [hn]; rfl) (show _ = _ ∧ _ = _ ∧ True from ⟨e0, e1, trivial⟩) (sX12_back_47 G hn hC hr N (fX12_back_76 N) v1 w h (fun w h => (sX12_back_76 G hn hC hr w h)))
    rw [if_neg hj] at h
    cases h
  · exact (show _ = _ ∧ True from ⟨rfl, trivial⟩)
set_option maxRecDepth 100000 in
set_option maxHeartbeats 4000000 in
theorem sX12_back_24 {N : Nat} {X : XT} (G : GX X cX12_back RX12) (hn : xnL X = 2) (hC : CRs X tX12_back (oF []) (oF []) (oF [])) {r : Int32 × Wd} (hr : RTI X cX12_back r)  : ∀ (n : Nat) (k45 : Wd → Option (Int32 × Wd)) (v1 : Int32) (w : Wd), fX12_back_24 N n k45 v1 w = some r → (∀ (w : Wd), k45 w = some r → WW X (pcAt tX12_back 45) [some (.inr (.inr (16, 0))), none] [] w) → WW X (pcAt tX12_back 24) [some (.inr (.inr (16, 0))), some (.inl v1)] [] w := by
  intro n
  induction n with
  | zero => intro k45 v1 w h h45; cases h
  | succ n ih =>
    intro k45 v1 w h h45
    refine run_sound (r := r) (X := X) (cc := cX12_back) (own := RX12) (tab := tX12_back) G (by rw [hn]; exact kX12_back) (oI := (oF [])) (oL := (oF [])) (oV := (oF [])) (rI := (fun x w => some (x, w))) (rL := (fun _ _ => none)) (rV := (fun _ => none))
      (K := (fun j ls st w => if j = 24 then (lgI ls 1 fun v1 => st0 st (callW (fX12_back_24 N n k45 v1) w)) else if j = 45 then (st0 st (k45 w)) else none)) (fun x w pc ls hx hd => hr x w pc ls (Option.some.inj hx) hd) (fun _ _ _ _ hx => by cases hx) (fun _ _ _ hx => by cases hx) hC (fun ls => lsb [some (.inr (.inr (16, 0))), none] 0 ls) (keepsP_of rfl) ?_ 107 24 [some (.inr (.inr (16, 0))), some (.inl v1)] [] w ?_ h
    · intro j ls st w hfx h
      obtain ⟨e0, -⟩ : _ = _ ∧ True := hfx
      try dsimp only at h
      by_cases hj : j = 24
      · subst hj
        rw [if_pos rfl] at h
        obtain ⟨v1, e1, h_1⟩ := lgI_some h
        obtain ⟨rfl, h_2⟩ := st0_some h_1
        clear h h_1
        have h := h_2
        try rw [callW_eq] at h
        exact WW.le (a := [some (.inr (.inr (16, 0))), some (.inl v1)]) (by rw [hn]; rfl) (show _ = _ ∧ _ = _ ∧ True from ⟨e0, e1, trivial⟩) (ih k45 v1 w h h45)
      rw [if_neg hj] at h
      by_cases hj : j = 45
      · subst hj
        rw [if_pos rfl] at h
        obtain ⟨rfl, h_1⟩ := st0_some h
        clear h
        have h := h_1
        try rw [callW_eq] at h
        exact WW.le (a := [some (.inr (.inr (16, 0))), none]) (by rw [hn]; rfl) (show _ = _ ∧ True from ⟨e0, trivial⟩) (h45 w h)
      rw [if_neg hj] at h
      cases h
    · exact (show _ = _ ∧ True from ⟨rfl, trivial⟩)
set_option maxRecDepth 100000 in
set_option maxHeartbeats 4000000 in
theorem crX12_back {N : Nat} {X : XT} (G : GX X cX12_back RX12) (hR : xR X = rmL 1) : CRs X tX12_back (oF []) (oF []) (oF []) := by
  have hl : tX12_back.filter isInv = [] := rfl
  intro e he
  rw [hl] at he
  cases he
set_option maxRecDepth 100000 in
set_option maxHeartbeats 4000000 in
theorem MX12_back (N : Nat) : SndI yX12_back cX12_back 2 (some .int) 1 1 true (mX12_back N) := by
  refine SndI.of tX12_back (by decide +kernel) rfl rfl ?_ ?_
  · intro as w x h
    obtain ⟨t1, rfl, h_1⟩ := xS1_some h
    obtain ⟨rfl, h_2⟩ := xN1_some h_1
    clear h h_1
    have h := h_2
    rw [callW_eq] at h
    exact ⟨fun _ => ⟨_, _, _, rfl, rfl, _, rfl, rfl⟩, rfl, Nat.le_of_ble_eq_true rfl⟩
  · intro X G hn hR as w r h hr
    have hC := crX12_back (N := N) G hR
    obtain ⟨t1, rfl, h_1⟩ := xS1_some h
    obtain ⟨rfl, h_2⟩ := xN1_some h_1
    clear h h_1
    have h := h_2
    rw [callW_eq] at h
    refine run_sound (r := r) (X := X) (cc := cX12_back) (own := RX12) (tab := tX12_back) G (by rw [hn]; exact kX12_back) (oI := (oF [])) (oL := (oF [])) (oV := (oF [])) (rI := (fun x w => some (x, w))) (rL := (fun _ _ => none)) (rV := (fun _ => none))
      (K := (fun j ls st w => if j = 24 then (lgI ls 1 fun v1 => st0 st (callW (fX12_back_24 N N (fX12_back_45 N) v1) w)) else none)) (fun x w pc ls hx hd => hr x w pc ls (Option.some.inj hx) hd) (fun _ _ _ _ hx => by cases hx) (fun _ _ _ hx => by cases hx) hC (fun ls => lsb [some (.inr (.inr (16, 0))), none] 0 ls) (keepsP_of rfl) ?_ 107 0 [some (.inr (.inr (16, 0))), none] [] w ?_ h
    · intro j ls st w hfx h
      obtain ⟨e0, -⟩ : _ = _ ∧ True := hfx
      try dsimp only at h
      by_cases hj : j = 24
      · subst hj
        rw [if_pos rfl] at h
        obtain ⟨v1, e1, h_1⟩ := lgI_some h
        obtain ⟨rfl, h_2⟩ := st0_some h_1
        clear h h_1
        have h := h_2
        try rw [callW_eq] at h
        exact WW.le (a := [some (.inr (.inr (16, 0))), some (.inl v1)]) (by rw [hn]; rfl) (show _ = _ ∧ _ = _ ∧ True from ⟨e0, e1, trivial⟩) (sX12_back_24 G hn hC hr N (fX12_back_45 N) v1 w h (fun w h => (sX12_back_45 G hn hC hr w h)))
      rw [if_neg hj] at h
      cases h
    · exact (show _ = _ ∧ True from ⟨rfl, trivial⟩)
-- MoorGuidesModel.manyGone()I
def tX12_manyGone : List EN := [
  (0, .iconst 0, 0, 0, 0, 0, 0, []), (1, .istore_n 1, 0, 0, 0, 0, 0, []), (2, .iconst 0, 0, 0, 0, 0, 0, []), (3, .istore_n 2, 0, 0, 0, 0, 0, []),
  (4, .iload_n 2, 5, 0, 0, 0, 0, []), (5, .aload_n 0, 0, 0, 0, 0, 0, []), (6, .getfield 298, 0, 12, 13, 0, 0, []), (9, .if_icmp .ge 26, 0, 21, 0, 0, 0, []),
  (12, .iload_n 1, 0, 0, 0, 0, 0, []), (13, .aload_n 0, 0, 0, 0, 0, 0, []), (14, .getfield 106, 0, 12, 68, 0, 0, []), (17, .iload_n 2, 0, 0, 0, 0, 0, []),
  (18, .baload, 0, 0, 0, 0, 0, []), (19, .ifCond .eq 7, 0, 16, 0, 0, 0, []), (22, .iconst 1, 0, 0, 0, 1, 0, []), (23, .goto 4, 0, 17, 0, 0, 0, []),
  (26, .iconst 0, 0, 0, 0, 0, 0, []), (27, .iadd, 0, 0, 0, 0, 0, []), (28, .istore_n 1, 0, 0, 0, 0, 0, []), (29, .iinc 2 1, 0, 0, 0, 1, 0, []),
  (32, .goto (-28), 0, 4, 0, 0, 0, []), (35, .iload_n 1, 0, 0, 0, 0, 0, []), (36, .ireturn, 0, 0, 0, 0, 0, [])]
noncomputable def fX12_manyGone_4 (N : Nat) : Nat → Int32 → Int32 → Wd → Option (Int32 × Wd)
  | 0, _, _, _ => none
  | n + 1, v1, v2, w =>
    if v2 < (gI w 16 0 13) then
      (ldI w 103 0 v2 12).bind fun x1 =>
      if x1 = 0 then callW (fX12_manyGone_4 N n (v1 + (0 : Int32)) (v2 + (1 : Int32))) w else
      callW (fX12_manyGone_4 N n (v1 + (1 : Int32)) (v2 + (1 : Int32))) w
    else
    some (v1, w)
noncomputable def pX12_manyGone (N : Nat) (w : Wd) : Option (Int32 × Wd) :=
  callW (fX12_manyGone_4 N N (0 : Int32) (0 : Int32)) w
noncomputable def mX12_manyGone (N : Nat) (as : List AV) (w : Wd) : Option (Int32 × Wd) := xS1 16 as fun t => xN1 t (callW (pX12_manyGone N) w)
set_option maxRecDepth 100000 in
set_option maxHeartbeats 4000000 in
theorem kX12_manyGone : TK cX12_manyGone RX12 3 tX12_manyGone := ⟨by decide +kernel, wok_of [1613, 1668] (by decide +kernel) (by decide +kernel)⟩
set_option maxRecDepth 100000 in
set_option maxHeartbeats 4000000 in
theorem sX12_manyGone_4 {N : Nat} {X : XT} (G : GX X cX12_manyGone RX12) (hn : xnL X = 3) (hC : CRs X tX12_manyGone (oF []) (oF []) (oF [])) {r : Int32 × Wd} (hr : RTI X cX12_manyGone r)  : ∀ (n : Nat) (v1 : Int32) (v2 : Int32) (w : Wd), fX12_manyGone_4 N n v1 v2 w = some r → WW X (pcAt tX12_manyGone 4) [some (.inr (.inr (16, 0))), some (.inl v1), some (.inl v2)] [] w := by
  intro n
  induction n with
  | zero => intro v1 v2 w h; cases h
  | succ n ih =>
    intro v1 v2 w h
    refine run_sound (r := r) (X := X) (cc := cX12_manyGone) (own := RX12) (tab := tX12_manyGone) G (by rw [hn]; exact kX12_manyGone) (oI := (oF [])) (oL := (oF [])) (oV := (oF [])) (rI := (fun x w => some (x, w))) (rL := (fun _ _ => none)) (rV := (fun _ => none))
      (K := (fun j ls st w => if j = 4 then (lgI ls 1 fun v1 => lgI ls 2 fun v2 => st0 st (callW (fX12_manyGone_4 N n v1 v2) w)) else none)) (fun x w pc ls hx hd => hr x w pc ls (Option.some.inj hx) hd) (fun _ _ _ _ hx => by cases hx) (fun _ _ _ hx => by cases hx) hC (fun ls => lsb [some (.inr (.inr (16, 0))), none, none] 0 ls) (keepsP_of rfl) ?_ 25 4 [some (.inr (.inr (16, 0))), some (.inl v1), some (.inl v2)] [] w ?_ h
    · intro j ls st w hfx h
      obtain ⟨e0, -⟩ : _ = _ ∧ True := hfx
      try dsimp only at h
      by_cases hj : j = 4
      · subst hj
        rw [if_pos rfl] at h
        obtain ⟨v1, e1, h_1⟩ := lgI_some h
        obtain ⟨v2, e2, h_2⟩ := lgI_some h_1
        obtain ⟨rfl, h_3⟩ := st0_some h_2
        clear h h_1 h_2
        have h := h_3
        try rw [callW_eq] at h
        exact WW.le (a := [some (.inr (.inr (16, 0))), some (.inl v1), some (.inl v2)]) (by rw [hn]; rfl) (show _ = _ ∧ _ = _ ∧ _ = _ ∧ True from ⟨e0, e1, e2, trivial⟩) (ih v1 v2 w h)
      rw [if_neg hj] at h
      cases h
    · exact (show _ = _ ∧ True from ⟨rfl, trivial⟩)
set_option maxRecDepth 100000 in
set_option maxHeartbeats 4000000 in
theorem crX12_manyGone {N : Nat} {X : XT} (G : GX X cX12_manyGone RX12) (hR : xR X = rmL 1) : CRs X tX12_manyGone (oF []) (oF []) (oF []) := by
  have hl : tX12_manyGone.filter isInv = [] := rfl
  intro e he
  rw [hl] at he
  cases he
set_option maxRecDepth 100000 in
set_option maxHeartbeats 4000000 in
theorem MX12_manyGone (N : Nat) : SndI yX12_manyGone cX12_manyGone 3 (some .int) 1 1 true (mX12_manyGone N) := by
  refine SndI.of tX12_manyGone (by decide +kernel) rfl rfl ?_ ?_
  · intro as w x h
    obtain ⟨t1, rfl, h_1⟩ := xS1_some h
    obtain ⟨rfl, h_2⟩ := xN1_some h_1
    clear h h_1
    have h := h_2
    rw [callW_eq] at h
    exact ⟨fun _ => ⟨_, _, _, rfl, rfl, _, rfl, rfl⟩, rfl, Nat.le_of_ble_eq_true rfl⟩
  · intro X G hn hR as w r h hr
    have hC := crX12_manyGone (N := N) G hR
    obtain ⟨t1, rfl, h_1⟩ := xS1_some h
    obtain ⟨rfl, h_2⟩ := xN1_some h_1
    clear h h_1
    have h := h_2
    rw [callW_eq] at h
    refine run_sound (r := r) (X := X) (cc := cX12_manyGone) (own := RX12) (tab := tX12_manyGone) G (by rw [hn]; exact kX12_manyGone) (oI := (oF [])) (oL := (oF [])) (oV := (oF [])) (rI := (fun x w => some (x, w))) (rL := (fun _ _ => none)) (rV := (fun _ => none))
      (K := (fun j ls st w => if j = 4 then (lgI ls 1 fun v1 => lgI ls 2 fun v2 => st0 st (callW (fX12_manyGone_4 N N v1 v2) w)) else none)) (fun x w pc ls hx hd => hr x w pc ls (Option.some.inj hx) hd) (fun _ _ _ _ hx => by cases hx) (fun _ _ _ hx => by cases hx) hC (fun ls => lsb [some (.inr (.inr (16, 0))), none, none] 0 ls) (keepsP_of rfl) ?_ 25 0 [some (.inr (.inr (16, 0))), none, none] [] w ?_ h
    · intro j ls st w hfx h
      obtain ⟨e0, -⟩ : _ = _ ∧ True := hfx
      try dsimp only at h
      by_cases hj : j = 4
      · subst hj
        rw [if_pos rfl] at h
        obtain ⟨v1, e1, h_1⟩ := lgI_some h
        obtain ⟨v2, e2, h_2⟩ := lgI_some h_1
        obtain ⟨rfl, h_3⟩ := st0_some h_2
        clear h h_1 h_2
        have h := h_3
        try rw [callW_eq] at h
        exact WW.le (a := [some (.inr (.inr (16, 0))), some (.inl v1), some (.inl v2)]) (by rw [hn]; rfl) (show _ = _ ∧ _ = _ ∧ _ = _ ∧ True from ⟨e0, e1, e2, trivial⟩) (sX12_manyGone_4 G hn hC hr N v1 v2 w h)
      rw [if_neg hj] at h
      cases h
    · exact (show _ = _ ∧ True from ⟨rfl, trivial⟩)

-- MoorGuidesModel.way(III)I
def tX12_way : List EN := [
  (0, .aload_n 0, 0, 0, 0, 0, 0, []), (1, .iconst 0, 0, 0, 0, 0, 0, []), (2, .putfield 196, 0, 12, 2, 0, 0, []), (5, .aload_n 0, 0, 0, 0, 0, 0, []),
  (6, .iload_n 1, 0, 0, 0, 0, 0, []), (7, .invokevirtual 546, 0, 0, 2, 0, 0, []), (10, .ifCond .eq 16, 0, 14, 0, 0, 0, []), (13, .iload_n 2, 0, 0, 0, 0, 0, []),
  (14, .ifCond .lt 12, 0, 14, 0, 0, 0, []), (17, .iload_n 3, 0, 0, 0, 0, 0, []), (18, .iconst 0, 0, 0, 0, 0, 0, []), (19, .iconst 1, 0, 0, 0, 1, 0, []),
  (20, .invokestatic 241, 0, 1, 3, 0, 0, []), (23, .ifCond .ne 5, 0, 16, 0, 0, 0, []), (26, .iconst (-1), 0, 0, 0, (-1), 0, []), (27, .ireturn, 0, 0, 0, 0, 0, []),
  (28, .aload_n 0, 0, 0, 0, 0, 0, []), (29, .iconst 0, 0, 0, 0, 0, 0, []), (30, .aload_n 0, 0, 0, 0, 0, 0, []), (31, .getfield 53, 0, 12, 42, 0, 0, []),
  (34, .iload_n 1, 0, 0, 0, 0, 0, []), (35, .iaload, 0, 0, 0, 0, 0, []), (36, .iconst 0, 0, 0, 0, 0, 0, []), (37, .invokevirtual 549, 0, 0, 4, 0, 0, [(0, 0), (0, 0)]),
  (40, .aload_n 0, 0, 0, 0, 0, 0, []), (41, .iload_n 1, 0, 0, 0, 0, 0, []), (42, .invokevirtual 552, 0, 2, 2, 0, 0, []), (45, .ifCond .eq 11, 0, 32, 0, 0, 0, []),
  (48, .iload_n 2, 0, 0, 0, 0, 0, []), (49, .aload_n 0, 0, 0, 0, 0, 0, []), (50, .getfield 531, 0, 12, 82, 0, 0, []), (53, .if_icmp .lt 6, 0, 34, 0, 0, 0, []),
  (56, .bipush (-2), 0, 0, 0, (-2), 0, []), (58, .ireturn, 0, 0, 0, 0, 0, []), (59, .iload_n 3, 0, 0, 0, 0, 0, []), (60, .ifCond .ne 12, 0, 41, 0, 0, 0, []),
  (63, .aload_n 0, 0, 0, 0, 0, 0, []), (64, .getfield 136, 0, 12, 79, 0, 0, []), (67, .iload_n 2, 0, 0, 0, 0, 0, []), (68, .iaload, 0, 0, 0, 0, 0, []),
  (69, .goto 9, 0, 45, 0, 0, 0, []), (72, .aload_n 0, 0, 0, 0, 0, 0, []), (73, .getfield 139, 0, 12, 80, 0, 0, []), (76, .iload_n 2, 0, 0, 0, 0, 0, []),
  (77, .iaload, 0, 0, 0, 0, 0, []), (78, .ireturn, 0, 0, 0, 0, 0, [])]
noncomputable def pX12_way (N : Nat) (a1 : Int32) (a2 : Int32) (a3 : Int32) (w : Wd) : Option (Int32 × Wd) :=
  (callW (pX12_isParty N a1) (setI w 16 0 2 (0 : Int32))).bind fun r1 =>
  if r1.1 = 0 then some ((-1 : Int32), r1.2) else
  if a2 < 0 then some ((-1 : Int32), r1.2) else
  (callW (pX12_isIn N a3 (0 : Int32) (1 : Int32)) r1.2).bind fun r2 =>
  if r2.1 = 0 then some ((-1 : Int32), r2.2) else
  (ldI r2.2 86 0 a1 16).bind fun x3 =>
  (callW (pX12_layKnown N (0 : Int32) x3 (0 : Int32)) r2.2).bind fun w4 =>
  (callW (pX12_layWay N a1) w4).bind fun r5 =>
  if r5.1 = 0 then some ((-2 : Int32), r5.2) else
  if a2 < (gI r5.2 16 0 82) then
    if a3 = 0 then
      (ldI r5.2 113 0 a2 9).bind fun x6 =>
      some (x6, r5.2)
    else
    (ldI r5.2 114 0 a2 9).bind fun x7 =>
    some (x7, r5.2)
  else
  some ((-2 : Int32), r5.2)
noncomputable def mX12_way (N : Nat) (as : List AV) (w : Wd) : Option (Int32 × Wd) := xS1 16 as fun t => xI1 t fun a1 t => xI1 t fun a2 t => xI1 t fun a3 t => xN1 t (callW (pX12_way N a1 a2 a3) w)
set_option maxRecDepth 100000 in
set_option maxHeartbeats 4000000 in
theorem kX12_way : TK cX12_way RX12 4 tX12_way := ⟨by decide +kernel, wok_of [1592, 1632, 1672, 1669, 1670] (by decide +kernel) (by decide +kernel)⟩
set_option maxRecDepth 100000 in
set_option maxHeartbeats 4000000 in
theorem crX12_way {N : Nat} {X : XT} (G : GX X cX12_way RX12) (hR : xR X = rmL 6) : CRs X tX12_way (oF [(mX12_isParty N), (mX12_isIn N), (mX12_layWay N)]) (oF []) (oF [(mX12_layKnown N)]) := by
  have hl : tX12_way.filter isInv = [(7, .invokevirtual 546, 0, 0, 2, 0, 0, []), (20, .invokestatic 241, 0, 1, 3, 0, 0, []), (37, .invokevirtual 549, 0, 0, 4, 0, 0, [(0, 0), (0, 0)]), (42, .invokevirtual 552, 0, 2, 2, 0, 0, [])] := rfl
  intro e he
  rw [hl] at he
  simp only [List.mem_cons, List.not_mem_nil, or_false] at he
  rcases he with rfl | rfl | rfl | rfl
  · exact crI_V (idx := 546) G (by decide +kernel) (MX12_isParty N) (cw_of (ps := [2179, 2181, 119, 162, 2182]) (by decide +kernel) (by decide +kernel)) ⟨by decide +kernel, by decide +kernel, by decide +kernel⟩ (by unfold rmOk; rw [hR]; exact ⟨by decide, by decide⟩)
  · exact crI_S (idx := 241) G (by decide +kernel) (MX12_isIn N) (cw_of (ps := [1976, 1977, 162, 1978]) (by decide +kernel) (by decide +kernel)) ⟨by decide +kernel, by decide +kernel, by decide +kernel⟩ (by unfold rmOk; rw [hR]; exact ⟨by decide, by decide⟩)
  · exact crV_V (idx := 549) G (by decide +kernel) (MX12_layKnown N) (cw_of (ps := [2183, 2185, 120, 162, 2186]) (by decide +kernel) (by decide +kernel)) ⟨by decide +kernel, by decide +kernel, by decide +kernel⟩ (by unfold rmOk; rw [hR]; exact ⟨by decide, by decide⟩)
  · exact crI_V (idx := 552) G (by decide +kernel) (MX12_layWay N) (cw_of (ps := [2203, 2205, 124, 162, 2206]) (by decide +kernel) (by decide +kernel)) ⟨by decide +kernel, by decide +kernel, by decide +kernel⟩ (by unfold rmOk; rw [hR]; exact ⟨by decide, by decide⟩)
set_option maxRecDepth 100000 in
set_option maxHeartbeats 4000000 in
theorem MX12_way (N : Nat) : SndI yX12_way cX12_way 4 (some .int) 6 4 true (mX12_way N) := by
  refine SndI.of tX12_way (by decide +kernel) rfl rfl ?_ ?_
  · intro as w x h
    obtain ⟨t1, rfl, h_1⟩ := xS1_some h
    obtain ⟨a1, t2, rfl, h_2⟩ := xI1_some h_1
    obtain ⟨a2, t3, rfl, h_3⟩ := xI1_some h_2
    obtain ⟨a3, t4, rfl, h_4⟩ := xI1_some h_3
    obtain ⟨rfl, h_5⟩ := xN1_some h_4
    clear h h_1 h_2 h_3 h_4
    have h := h_5
    rw [callW_eq] at h
    exact ⟨fun _ => ⟨_, _, _, rfl, rfl, _, rfl, rfl⟩, rfl, Nat.le_of_ble_eq_true rfl⟩
  · intro X G hn hR as w r h hr
    have hC := crX12_way (N := N) G hR
    obtain ⟨t1, rfl, h_1⟩ := xS1_some h
    obtain ⟨a1, t2, rfl, h_2⟩ := xI1_some h_1
    obtain ⟨a2, t3, rfl, h_3⟩ := xI1_some h_2
    obtain ⟨a3, t4, rfl, h_4⟩ := xI1_some h_3
    obtain ⟨rfl, h_5⟩ := xN1_some h_4
    clear h h_1 h_2 h_3 h_4
    have h := h_5
    rw [callW_eq] at h
    refine run_sound (r := r) (X := X) (cc := cX12_way) (own := RX12) (tab := tX12_way) G (by rw [hn]; exact kX12_way) (oI := (oF [(mX12_isParty N), (mX12_isIn N), (mX12_layWay N)])) (oL := (oF [])) (oV := (oF [(mX12_layKnown N)])) (rI := (fun x w => some (x, w))) (rL := (fun _ _ => none)) (rV := (fun _ => none))
      (K := (fun j ls st w => none)) (fun x w pc ls hx hd => hr x w pc ls (Option.some.inj hx) hd) (fun _ _ _ _ hx => by cases hx) (fun _ _ _ hx => by cases hx) hC (fun ls => lsb [some (.inr (.inr (16, 0))), some (.inl a1), some (.inl a2), some (.inl a3)] 0 ls) (keepsP_of rfl) ?_ 48 0 [some (.inr (.inr (16, 0))), some (.inl a1), some (.inl a2), some (.inl a3)] [] w ?_ h
    · intro j ls st w hfx h
      obtain ⟨e0, e1, e2, e3, -⟩ : _ = _ ∧ _ = _ ∧ _ = _ ∧ _ = _ ∧ True := hfx
      try dsimp only at h
      cases h
    · exact (show _ = _ ∧ _ = _ ∧ _ = _ ∧ _ = _ ∧ True from ⟨rfl, rfl, rfl, rfl, trivial⟩)
-- MoorGuidesModel.round(II)I
def tX12_round : List EN := [
  (0, .aload_n 0, 0, 0, 0, 0, 0, []), (1, .iconst 0, 0, 0, 0, 0, 0, []), (2, .putfield 196, 0, 12, 2, 0, 0, []), (5, .aload_n 0, 0, 0, 0, 0, 0, []),
  (6, .iload_n 1, 0, 0, 0, 0, 0, []), (7, .invokevirtual 546, 0, 0, 2, 0, 0, []), (10, .ifCond .eq 31, 0, 23, 0, 0, 0, []), (13, .aload_n 0, 0, 0, 0, 0, 0, []),
  (14, .iload_n 2, 0, 0, 0, 0, 0, []), (15, .invokevirtual 473, 0, 1, 2, 0, 0, []), (18, .ifCond .eq 23, 0, 23, 0, 0, 0, []), (21, .aload_n 0, 0, 0, 0, 0, 0, []),
  (22, .getfield 47, 0, 12, 40, 0, 0, []), (25, .iload_n 1, 0, 0, 0, 0, 0, []), (26, .iaload, 0, 0, 0, 0, 0, []), (27, .iload_n 2, 0, 0, 0, 0, 0, []),
  (28, .if_icmp .eq 13, 0, 23, 0, 0, 0, []), (31, .aload_n 0, 0, 0, 0, 0, 0, []), (32, .getfield 50, 0, 12, 41, 0, 0, []), (35, .iload_n 1, 0, 0, 0, 0, 0, []),
  (36, .iaload, 0, 0, 0, 0, 0, []), (37, .iload_n 2, 0, 0, 0, 0, 0, []), (38, .if_icmp .ne 5, 0, 25, 0, 0, 0, []), (41, .iconst (-1), 0, 0, 0, (-1), 0, []),
  (42, .ireturn, 0, 0, 0, 0, 0, []), (43, .bipush 8, 0, 0, 0, 8, 0, []), (45, .aload_n 0, 0, 0, 0, 0, 0, []), (46, .getfield 47, 0, 12, 40, 0, 0, []),
  (49, .iload_n 1, 0, 0, 0, 0, 0, []), (50, .iaload, 0, 0, 0, 0, 0, []), (51, .imul, 0, 0, 0, 0, 0, []), (52, .aload_n 0, 0, 0, 0, 0, 0, []),
  (53, .getfield 50, 0, 12, 41, 0, 0, []), (56, .iload_n 1, 0, 0, 0, 0, 0, []), (57, .iaload, 0, 0, 0, 0, 0, []), (58, .iadd, 0, 0, 0, 0, 0, []),
  (59, .istore_n 3, 0, 0, 0, 0, 0, []), (60, .aload_n 0, 0, 0, 0, 0, 0, []), (61, .getfield 118, 0, 12, 72, 0, 0, []), (64, .iload_n 3, 0, 0, 0, 0, 0, []),
  (65, .iaload, 0, 0, 0, 0, 0, []), (66, .bipush 99, 0, 0, 0, 99, 0, []), (68, .if_icmp .lt 5, 0, 45, 0, 0, 0, []), (71, .iconst (-1), 0, 0, 0, (-1), 0, []),
  (72, .ireturn, 0, 0, 0, 0, 0, []), (73, .aload_n 0, 0, 0, 0, 0, 0, []), (74, .aload_n 0, 0, 0, 0, 0, 0, []), (75, .getfield 121, 0, 12, 73, 0, 0, []),
  (78, .iload_n 2, 0, 0, 0, 0, 0, []), (79, .invokevirtual 482, 0, 0, 3, 0, 0, [(0, 0), (0, 0)]), (82, .aload_n 0, 0, 0, 0, 0, 0, []), (83, .getfield 121, 0, 12, 73, 0, 0, []),
  (86, .iload_n 3, 0, 0, 0, 0, 0, []), (87, .iaload, 0, 0, 0, 0, 0, []), (88, .bipush 99, 0, 0, 0, 99, 0, []), (90, .if_icmp .lt 8, 0, 58, 0, 0, 0, []),
  (93, .bipush (-2), 0, 0, 0, (-2), 0, []), (95, .goto 16, 0, 67, 0, 0, 0, []), (98, .aload_n 0, 0, 0, 0, 0, 0, []), (99, .getfield 121, 0, 12, 73, 0, 0, []),
  (102, .iload_n 3, 0, 0, 0, 0, 0, []), (103, .iaload, 0, 0, 0, 0, 0, []), (104, .aload_n 0, 0, 0, 0, 0, 0, []), (105, .getfield 118, 0, 12, 72, 0, 0, []),
  (108, .iload_n 3, 0, 0, 0, 0, 0, []), (109, .iaload, 0, 0, 0, 0, 0, []), (110, .isub, 0, 0, 0, 0, 0, []), (111, .ireturn, 0, 0, 0, 0, 0, [])]
noncomputable def pX12_round (N : Nat) (a1 : Int32) (a2 : Int32) (w : Wd) : Option (Int32 × Wd) :=
  (callW (pX12_isParty N a1) (setI w 16 0 2 (0 : Int32))).bind fun r1 =>
  if r1.1 = 0 then some ((-1 : Int32), r1.2) else
  (callW (pX12_isPart N a2) r1.2).bind fun r2 =>
  if r2.1 = 0 then some ((-1 : Int32), r2.2) else
  (ldI r2.2 84 0 a1 16).bind fun x3 =>
  if x3 = a2 then some ((-1 : Int32), r2.2) else
  (ldI r2.2 85 0 a1 16).bind fun x4 =>
  if x4 = a2 then some ((-1 : Int32), r2.2) else
  (ldI r2.2 84 0 a1 16).bind fun x5 =>
  (ldI r2.2 85 0 a1 16).bind fun x6 =>
  (ldI r2.2 107 0 (((8 : Int32) * x5) + x6) 64).bind fun x7 =>
  if x7 < (99 : Int32) then
    (callW (pX12_layWays N 108 0 a2) r2.2).bind fun w8 =>
    (ldI w8 108 0 (((8 : Int32) * x5) + x6) 64).bind fun x9 =>
    if x9 < (99 : Int32) then
      (ldI w8 108 0 (((8 : Int32) * x5) + x6) 64).bind fun x10 =>
      (ldI w8 107 0 (((8 : Int32) * x5) + x6) 64).bind fun x11 =>
      some ((x10 - x11), w8)
    else
    some ((-2 : Int32), w8)
  else
  some ((-1 : Int32), r2.2)
noncomputable def mX12_round (N : Nat) (as : List AV) (w : Wd) : Option (Int32 × Wd) := xS1 16 as fun t => xI1 t fun a1 t => xI1 t fun a2 t => xN1 t (callW (pX12_round N a1 a2) w)
set_option maxRecDepth 100000 in
set_option maxHeartbeats 4000000 in
theorem kX12_round : TK cX12_round RX12 4 tX12_round := ⟨by decide +kernel, wok_of [1592, 1630, 1631, 1630, 1631, 1662, 1663, 1663, 1663, 1662] (by decide +kernel) (by decide +kernel)⟩
set_option maxRecDepth 100000 in
set_option maxHeartbeats 4000000 in
theorem crX12_round {N : Nat} {X : XT} (G : GX X cX12_round RX12) (hR : xR X = rmL 3) : CRs X tX12_round (oF [(mX12_isParty N), (mX12_isPart N)]) (oF []) (oF [(mX12_layWays N)]) := by
  have hl : tX12_round.filter isInv = [(7, .invokevirtual 546, 0, 0, 2, 0, 0, []), (15, .invokevirtual 473, 0, 1, 2, 0, 0, []), (79, .invokevirtual 482, 0, 0, 3, 0, 0, [(0, 0), (0, 0)])] := rfl
  intro e he
  rw [hl] at he
  simp only [List.mem_cons, List.not_mem_nil, or_false] at he
  rcases he with rfl | rfl | rfl
  · exact crI_V (idx := 546) G (by decide +kernel) (MX12_isParty N) (cw_of (ps := [2179, 2181, 119, 162, 2182]) (by decide +kernel) (by decide +kernel)) ⟨by decide +kernel, by decide +kernel, by decide +kernel⟩ (by unfold rmOk; rw [hR]; exact ⟨by decide, by decide⟩)
  · exact crI_V (idx := 473) G (by decide +kernel) (MX12_isPart N) (cw_of (ps := [2094, 2096, 109, 162, 2097]) (by decide +kernel) (by decide +kernel)) ⟨by decide +kernel, by decide +kernel, by decide +kernel⟩ (by unfold rmOk; rw [hR]; exact ⟨by decide, by decide⟩)
  · exact crV_V (idx := 482) G (by decide +kernel) (MX12_layWays N) (cw_of (ps := [1586, 1588, 73, 162, 1589]) (by decide +kernel) (by decide +kernel)) ⟨by decide +kernel, by decide +kernel, by decide +kernel⟩ (by unfold rmOk; rw [hR]; exact ⟨by decide, by decide⟩)
set_option maxRecDepth 100000 in
set_option maxHeartbeats 4000000 in
theorem MX12_round (N : Nat) : SndI yX12_round cX12_round 4 (some .int) 3 3 true (mX12_round N) := by
  refine SndI.of tX12_round (by decide +kernel) rfl rfl ?_ ?_
  · intro as w x h
    obtain ⟨t1, rfl, h_1⟩ := xS1_some h
    obtain ⟨a1, t2, rfl, h_2⟩ := xI1_some h_1
    obtain ⟨a2, t3, rfl, h_3⟩ := xI1_some h_2
    obtain ⟨rfl, h_4⟩ := xN1_some h_3
    clear h h_1 h_2 h_3
    have h := h_4
    rw [callW_eq] at h
    exact ⟨fun _ => ⟨_, _, _, rfl, rfl, _, rfl, rfl⟩, rfl, Nat.le_of_ble_eq_true rfl⟩
  · intro X G hn hR as w r h hr
    have hC := crX12_round (N := N) G hR
    obtain ⟨t1, rfl, h_1⟩ := xS1_some h
    obtain ⟨a1, t2, rfl, h_2⟩ := xI1_some h_1
    obtain ⟨a2, t3, rfl, h_3⟩ := xI1_some h_2
    obtain ⟨rfl, h_4⟩ := xN1_some h_3
    clear h h_1 h_2 h_3
    have h := h_4
    rw [callW_eq] at h
    refine run_sound (r := r) (X := X) (cc := cX12_round) (own := RX12) (tab := tX12_round) G (by rw [hn]; exact kX12_round) (oI := (oF [(mX12_isParty N), (mX12_isPart N)])) (oL := (oF [])) (oV := (oF [(mX12_layWays N)])) (rI := (fun x w => some (x, w))) (rL := (fun _ _ => none)) (rV := (fun _ => none))
      (K := (fun j ls st w => none)) (fun x w pc ls hx hd => hr x w pc ls (Option.some.inj hx) hd) (fun _ _ _ _ hx => by cases hx) (fun _ _ _ hx => by cases hx) hC (fun ls => lsb [some (.inr (.inr (16, 0))), some (.inl a1), some (.inl a2), none] 0 ls) (keepsP_of rfl) ?_ 70 0 [some (.inr (.inr (16, 0))), some (.inl a1), some (.inl a2), none] [] w ?_ h
    · intro j ls st w hfx h
      obtain ⟨e0, e1, e2, -⟩ : _ = _ ∧ _ = _ ∧ _ = _ ∧ True := hfx
      try dsimp only at h
      cases h
    · exact (show _ = _ ∧ _ = _ ∧ _ = _ ∧ True from ⟨rfl, rfl, rfl, trivial⟩)
-- MoorGuidesModel.leads(II)Z
def tX12_leads : List EN := [
  (0, .aload_n 0, 0, 0, 0, 0, 0, []), (1, .getfield 130, 0, 12, 77, 0, 0, []), (4, .iload_n 1, 0, 0, 0, 0, 0, []), (5, .iaload, 0, 0, 0, 0, 0, []),
  (6, .istore_n 3, 0, 0, 0, 0, 0, []), (7, .iload_n 3, 0, 0, 0, 0, 0, []), (8, .aload_n 0, 0, 0, 0, 0, 0, []), (9, .getfield 47, 0, 12, 40, 0, 0, []),
  (12, .iload_n 2, 0, 0, 0, 0, 0, []), (13, .iaload, 0, 0, 0, 0, 0, []), (14, .invokestatic 341, 0, 0, 2, 0, 0, []), (17, .ifCond .eq 14, 0, 19, 0, 0, 0, []),
  (20, .iconst 1, 0, 0, 0, 1, 0, []), (21, .aload_n 0, 0, 0, 0, 0, 0, []), (22, .getfield 47, 0, 12, 40, 0, 0, []), (25, .iload_n 2, 0, 0, 0, 0, 0, []),
  (26, .iaload, 0, 0, 0, 0, 0, []), (27, .ishl, 0, 0, 0, 0, 0, []), (28, .goto 4, 0, 20, 0, 0, 0, []), (31, .iconst 0, 0, 0, 0, 0, 0, []),
  (32, .istore 4, 0, 0, 0, 0, 0, []), (34, .iconst 0, 0, 0, 0, 0, 0, []), (35, .istore 5, 0, 0, 0, 0, 0, []), (37, .iload 5, 24, 0, 0, 0, 0, []),
  (39, .bipush 8, 0, 0, 0, 8, 0, []), (41, .if_icmp .ge 55, 0, 51, 0, 0, 0, []), (44, .iconst 0, 0, 0, 0, 0, 0, []), (45, .istore 6, 0, 0, 0, 0, 0, []),
  (47, .iload 6, 29, 0, 0, 0, 0, []), (49, .aload_n 0, 0, 0, 0, 0, 0, []), (50, .getfield 295, 0, 12, 12, 0, 0, []), (53, .if_icmp .ge 37, 0, 49, 0, 0, 0, []),
  (56, .iload 4, 0, 0, 0, 0, 0, []), (58, .iload 4, 0, 0, 0, 0, 0, []), (60, .iload 6, 0, 0, 0, 0, 0, []), (62, .invokestatic 341, 0, 0, 2, 0, 0, []),
  (65, .ifCond .eq 15, 0, 44, 0, 0, 0, []), (68, .aload_n 0, 0, 0, 0, 0, 0, []), (69, .getfield 26, 0, 12, 33, 0, 0, []), (72, .iload 6, 0, 0, 0, 0, 0, []),
  (74, .iaload, 0, 0, 0, 0, 0, []), (75, .iload_n 3, 0, 0, 0, 0, 0, []), (76, .iand, 0, 0, 0, 0, 0, []), (77, .goto 4, 0, 45, 0, 0, 0, []),
  (80, .iconst 0, 0, 0, 0, 0, 0, []), (81, .ior, 0, 0, 0, 0, 0, []), (82, .istore 4, 0, 0, 0, 0, 0, []), (84, .iinc 6 1, 0, 0, 0, 1, 0, []),
  (87, .goto (-40), 0, 28, 0, 0, 0, []), (90, .iinc 5 1, 50, 0, 0, 1, 0, []), (93, .goto (-56), 0, 23, 0, 0, 0, []), (96, .iload 4, 52, 0, 0, 0, 0, []),
  (98, .aload_n 0, 0, 0, 0, 0, 0, []), (99, .getfield 50, 0, 12, 41, 0, 0, []), (102, .iload_n 2, 0, 0, 0, 0, 0, []), (103, .iaload, 0, 0, 0, 0, 0, []),
  (104, .invokestatic 341, 0, 0, 2, 0, 0, []), (107, .ireturn, 0, 0, 0, 0, 0, [])]
noncomputable def fX12_leads_51 (N : Nat) (a2 : Int32) (v4 : Int32) (w : Wd) : Option (Int32 × Wd) :=
  (ldI w 85 0 a2 16).bind fun x1 =>
  (callW (pX12_isOf N v4 x1) w).bind fun r2 =>
  retZ r2.1 r2.2
noncomputable def fX12_leads_49 (N : Nat) (a2 : Int32) (k23 : Int32 → Int32 → Int32 → Wd → Option (Int32 × Wd)) (v3 : Int32) (v4 : Int32) (v5 : Int32) (w : Wd) : Option (Int32 × Wd) :=
  k23 v3 v4 (v5 + (1 : Int32)) w
noncomputable def fX12_leads_28 (N : Nat) (a2 : Int32) : Nat → (Int32 → Int32 → Int32 → Wd → Option (Int32 × Wd)) → Int32 → Int32 → Int32 → Int32 → Wd → Option (Int32 × Wd)
  | 0, _, _, _, _, _, _ => none
  | n + 1, k49, v3, v4, v5, v6, w =>
    if v6 < (gI w 16 0 12) then
      (callW (pX12_isOf N v4 v6) w).bind fun r1 =>
      if r1.1 = 0 then callW (fX12_leads_28 N a2 n k49 v3 (v4 ||| (0 : Int32)) v5 (v6 + (1 : Int32))) r1.2 else
      (ldI r1.2 77 0 v6 16).bind fun x2 =>
      callW (fX12_leads_28 N a2 n k49 v3 (v4 ||| (x2 &&& v3)) v5 (v6 + (1 : Int32))) r1.2
    else
    k49 v3 v4 v5 w
noncomputable def fX12_leads_23 (N : Nat) (a2 : Int32) : Nat → (Int32 → Wd → Option (Int32 × Wd)) → Int32 → Int32 → Int32 → Wd → Option (Int32 × Wd)
  | 0, _, _, _, _, _ => none
  | n + 1, k51, v3, v4, v5, w =>
    if v5 < (8 : Int32) then callW (fX12_leads_28 N a2 N (fX12_leads_49 N a2 (fX12_leads_23 N a2 n k51)) v3 v4 v5 (0 : Int32)) w else
    k51 v4 w
noncomputable def pX12_leads (N : Nat) (a1 : Int32) (a2 : Int32) (w : Wd) : Option (Int32 × Wd) :=
  (ldI w 111 0 a1 7).bind fun x1 =>
  (ldI w 84 0 a2 16).bind fun x2 =>
  (callW (pX12_isOf N x1 x2) w).bind fun r3 =>
  if r3.1 = 0 then callW (fX12_leads_23 N a2 N (fX12_leads_51 N a2) x1 (0 : Int32) (0 : Int32)) r3.2 else
  (ldI r3.2 84 0 a2 16).bind fun x4 =>
  callW (fX12_leads_23 N a2 N (fX12_leads_51 N a2) x1 ((1 : Int32) <<< (x4 &&& (31 : Int32))) (0 : Int32)) r3.2
noncomputable def mX12_leads (N : Nat) (as : List AV) (w : Wd) : Option (Int32 × Wd) := xS1 16 as fun t => xI1 t fun a1 t => xI1 t fun a2 t => xN1 t (callW (pX12_leads N a1 a2) w)
set_option maxRecDepth 100000 in
set_option maxHeartbeats 4000000 in
theorem kX12_leads : TK cX12_leads RX12 7 tX12_leads := ⟨by decide +kernel, wok_of [1667, 1630, 1630, 1602, 1623, 1631] (by decide +kernel) (by decide +kernel)⟩
set_option maxRecDepth 100000 in
set_option maxHeartbeats 4000000 in
theorem sX12_leads_51 {N : Nat} {X : XT} (G : GX X cX12_leads RX12) (hn : xnL X = 7) (hC : CRs X tX12_leads (oF [(mX12_isOf N)]) (oF []) (oF [])) {r : Int32 × Wd} (hr : RTZ X cX12_leads r) (a1 : Int32) (a2 : Int32) : ∀ (v4 : Int32) (w : Wd), fX12_leads_51 N a2 v4 w = some r → WW X (pcAt tX12_leads 51) [some (.inr (.inr (16, 0))), some (.inl a1), some (.inl a2), none, some (.inl v4), none, none] [] w := by
  intro v4 w h
  refine run_sound (r := r) (X := X) (cc := cX12_leads) (own := RX12) (tab := tX12_leads) G (by rw [hn]; exact kX12_leads) (oI := (oF [(mX12_isOf N)])) (oL := (oF [])) (oV := (oF [])) (rI := retZ) (rL := (fun _ _ => none)) (rV := (fun _ => none))
    (K := (fun j ls st w => none)) hr (fun _ _ _ _ hx => by cases hx) (fun _ _ _ hx => by cases hx) hC (fun ls => lsb [some (.inr (.inr (16, 0))), some (.inl a1), some (.inl a2), none, none, none, none] 0 ls) (keepsP_of rfl) ?_ 60 51 [some (.inr (.inr (16, 0))), some (.inl a1), some (.inl a2), none, some (.inl v4), none, none] [] w ?_ h
  · intro j ls st w hfx h
    obtain ⟨e0, e1, e2, -⟩ : _ = _ ∧ _ = _ ∧ _ = _ ∧ True := hfx
    try dsimp only at h
    cases h
  · exact (show _ = _ ∧ _ = _ ∧ _ = _ ∧ True from ⟨rfl, rfl, rfl, trivial⟩)
set_option maxRecDepth 100000 in
set_option maxHeartbeats 4000000 in
theorem sX12_leads_49 {N : Nat} {X : XT} (G : GX X cX12_leads RX12) (hn : xnL X = 7) (hC : CRs X tX12_leads (oF [(mX12_isOf N)]) (oF []) (oF [])) {r : Int32 × Wd} (hr : RTZ X cX12_leads r) (a1 : Int32) (a2 : Int32) : ∀ (k23 : Int32 → Int32 → Int32 → Wd → Option (Int32 × Wd)) (v3 : Int32) (v4 : Int32) (v5 : Int32) (w : Wd), fX12_leads_49 N a2 k23 v3 v4 v5 w = some r → (∀ (v3 : Int32) (v4 : Int32) (v5 : Int32) (w : Wd), k23 v3 v4 v5 w = some r → WW X (pcAt tX12_leads 23) [some (.inr (.inr (16, 0))), some (.inl a1), some (.inl a2), some (.inl v3), some (.inl v4), some (.inl v5), none] [] w) → WW X (pcAt tX12_leads 49) [some (.inr (.inr (16, 0))), some (.inl a1), some (.inl a2), some (.inl v3), some (.inl v4), some (.inl v5), none] [] w := by
  intro k23 v3 v4 v5 w h h23
  refine run_sound (r := r) (X := X) (cc := cX12_leads) (own := RX12) (tab := tX12_leads) G (by rw [hn]; exact kX12_leads) (oI := (oF [(mX12_isOf N)])) (oL := (oF [])) (oV := (oF [])) (rI := retZ) (rL := (fun _ _ => none)) (rV := (fun _ => none))
    (K := (fun j ls st w => if j = 23 then (lgI ls 3 fun v3 => lgI ls 4 fun v4 => lgI ls 5 fun v5 => st0 st (k23 v3 v4 v5 w)) else none)) hr (fun _ _ _ _ hx => by cases hx) (fun _ _ _ hx => by cases hx) hC (fun ls => lsb [some (.inr (.inr (16, 0))), some (.inl a1), some (.inl a2), none, none, none, none] 0 ls) (keepsP_of rfl) ?_ 60 49 [some (.inr (.inr (16, 0))), some (.inl a1), some (.inl a2), some (.inl v3), some (.inl v4), some (.inl v5), none] [] w ?_ h
  · intro j ls st w hfx h
    obtain ⟨e0, e1, e2, -⟩ : _ = _ ∧ _ = _ ∧ _ = _ ∧ True := hfx
    try dsimp only at h
    by_cases hj : j = 23
    · subst hj
      rw [if_pos rfl] at h
      obtain ⟨v3, e3, h_1⟩ := lgI_some h
      obtain ⟨v4, e4, h_2⟩ := lgI_some h_1
      obtain ⟨v5, e5, h_3⟩ := lgI_some h_2
      obtain ⟨rfl, h_4⟩ := st0_some h_3
      clear h h_1 h_2 h_3
      have h := h_4
      try rw [callW_eq] at h
      exact WW.le (a := [some (.inr (.inr (16, 0))), some (.inl a1), some (.inl a2), some (.inl v3), some (.inl v4), some (.inl v5), none]) (by rw [hn]; rfl) (show _ = _ ∧ _ = _ ∧ _ = _ ∧ _ = _ ∧ _ = _ ∧ _ = _ ∧ True from ⟨e0, e1, e2, e3, e4, e5, trivial⟩) (h23 v3 v4 v5 w h)
    rw [if_neg hj] at h
    cases h
  · exact (show _ = _ ∧ _ = _ ∧ _ = _ ∧ True from ⟨rfl, rfl, rfl, trivial⟩)
set_option maxRecDepth 100000 in
set_option maxHeartbeats 4000000 in
theorem sX12_leads_28 {N : Nat} {X : XT} (G : GX X cX12_leads RX12) (hn : xnL X = 7) (hC : CRs X tX12_leads (oF [(mX12_isOf N)]) (oF []) (oF [])) {r : Int32 × Wd} (hr : RTZ X cX12_leads r) (a1 : Int32) (a2 : Int32) : ∀ (n : Nat) (k49 : Int32 → Int32 → Int32 → Wd → Option (Int32 × Wd)) (v3 : Int32) (v4 : Int32) (v5 : Int32) (v6 : Int32) (w : Wd), fX12_leads_28 N a2 n k49 v3 v4 v5 v6 w = some r → (∀ (v3 : Int32) (v4 : Int32) (v5 : Int32) (w : Wd), k49 v3 v4 v5 w = some r → WW X (pcAt tX12_leads 49) [some (.inr (.inr (16, 0))), some (.inl a1), some (.inl a2), some (.inl v3), some (.inl v4), some (.inl v5), none] [] w) → WW X (pcAt tX12_leads 28) [some (.inr (.inr (16, 0))), some (.inl a1), some (.inl a2), some (.inl v3), some (.inl v4), some (.inl v5), some (.inl v6)] [] w := by
  intro n
  induction n with
  | zero => intro k49 v3 v4 v5 v6 w h h49; cases h
  | succ n ih =>
    intro k49 v3 v4 v5 v6 w h h49
    refine run_sound (r := r) (X := X) (cc := cX12_leads) (own := RX12) (tab := tX12_leads) G (by rw [hn]; exact kX12_leads) (oI := (oF [(mX12_isOf N)])) (oL := (oF [])) (oV := (oF [])) (rI := retZ) (rL := (fun _ _ => none)) (rV := (fun _ => none))
      (K := (fun j ls st w => if j = 28 then (lgI ls 3 fun v3 => lgI ls 4 fun v4 => lgI ls 5 fun v5 => lgI ls 6 fun v6 => st0 st (callW (fX12_leads_28 N a2 n k49 v3 v4 v5 v6) w)) else if j = 49 then (lgI ls 3 fun v3 => lgI ls 4 fun v4 => lgI ls 5 fun v5 => st0 st (k49 v3 v4 v5 w)) else none)) hr (fun _ _ _ _ hx => by cases hx) (fun _ _ _ hx => by cases hx) hC (fun ls => lsb [some (.inr (.inr (16, 0))), some (.inl a1), some (.inl a2), none, none, none, none] 0 ls) (keepsP_of rfl) ?_ 60 28 [some (.inr (.inr (16, 0))), some (.inl a1), some (.inl a2), some (.inl v3), some (.inl v4), some (.inl v5), some (.inl v6)] [] w ?_ h
    · intro j ls st w hfx h
      obtain ⟨e0, e1, e2, -⟩ : _ = _ ∧ _ = _ ∧ _ = _ ∧ True := hfx
      try dsimp only at h
      by_cases hj : j = 28
      · subst hj
        rw [if_pos rfl] at h
        obtain ⟨v3, e3, h_1⟩ := lgI_some h
        obtain ⟨v4, e4, h_2⟩ := lgI_some h_1
        obtain ⟨v5, e5, h_3⟩ := lgI_some h_2
        obtain ⟨v6, e6, h_4⟩ := lgI_some h_3
        obtain ⟨rfl, h_5⟩ := st0_some h_4
        clear h h_1 h_2 h_3 h_4
        have h := h_5
        try rw [callW_eq] at h
        exact WW.le (a := [some (.inr (.inr (16, 0))), some (.inl a1), some (.inl a2), some (.inl v3), some (.inl v4), some (.inl v5), some (.inl v6)]) (by rw [hn]; rfl) (show _ = _ ∧ _ = _ ∧ _ = _ ∧ _ = _ ∧ _ = _ ∧ _ = _ ∧ _ = _ ∧ True from ⟨e0, e1, e2, e3, e4, e5, e6, trivial⟩) (ih k49 v3 v4 v5 v6 w h h49)
      rw [if_neg hj] at h
      by_cases hj : j = 49
      · subst hj
        rw [if_pos rfl] at h
        obtain ⟨v3, e3, h_1⟩ := lgI_some h
        obtain ⟨v4, e4, h_2⟩ := lgI_some h_1
        obtain ⟨v5, e5, h_3⟩ := lgI_some h_2
        obtain ⟨rfl, h_4⟩ := st0_some h_3
        clear h h_1 h_2 h_3
        have h := h_4
        try rw [callW_eq] at h
        exact WW.le (a := [some (.inr (.inr (16, 0))), some (.inl a1), some (.inl a2), some (.inl v3), some (.inl v4), some (.inl v5), none]) (by rw [hn]; rfl) (show _ = _ ∧ _ = _ ∧ _ = _ ∧ _ = _ ∧ _ = _ ∧ _ = _ ∧ True from ⟨e0, e1, e2, e3, e4, e5, trivial⟩) (h49 v3 v4 v5 w h)
      rw [if_neg hj] at h
      cases h
    · exact (show _ = _ ∧ _ = _ ∧ _ = _ ∧ True from ⟨rfl, rfl, rfl, trivial⟩)
set_option maxRecDepth 100000 in
set_option maxHeartbeats 4000000 in
theorem sX12_leads_23 {N : Nat} {X : XT} (G : GX X cX12_leads RX12) (hn : xnL X = 7) (hC : CRs X tX12_leads (oF [(mX12_isOf N)]) (oF []) (oF [])) {r : Int32 × Wd} (hr : RTZ X cX12_leads r) (a1 : Int32) (a2 : Int32) : ∀ (n : Nat) (k51 : Int32 → Wd → Option (Int32 × Wd)) (v3 : Int32) (v4 : Int32) (v5 : Int32) (w : Wd), fX12_leads_23 N a2 n k51 v3 v4 v5 w = some r → (∀ (v4 : Int32) (w : Wd), k51 v4 w = some r → WW X (pcAt tX12_leads 51) [some (.inr (.inr (16, 0))), some (.inl a1), some (.inl a2), none, some (.inl v4), none, none] [] w) → WW X (pcAt tX12_leads 23) [some (.inr (.inr (16, 0))), some (.inl a1), some (.inl a2), some (.inl v3), some (.inl v4), some (.inl v5), none] [] w := by
  intro n
  induction n with
  | zero => intro k51 v3 v4 v5 w h h51; cases h
  | succ n ih =>
    intro k51 v3 v4 v5 w h h51
    refine run_sound (r := r) (X := X) (cc := cX12_leads) (own := RX12) (tab := tX12_leads) G (by rw [hn]; exact kX12_leads) (oI := (oF [(mX12_isOf N)])) (oL := (oF [])) (oV := (oF [])) (rI := retZ) (rL := (fun _ _ => none)) (rV := (fun _ => none))
      (K := (fun j ls st w => if j = 28 then (lgI ls 3 fun v3 => lgI ls 4 fun v4 => lgI ls 5 fun v5 => lgI ls 6 fun v6 => st0 st (callW (fX12_leads_28 N a2 N (fX12_leads_49 N a2 (fX12_leads_23 N a2 n k51)) v3 v4 v5 v6) w)) else if j = 51 then (lgI ls 4 fun v4 => st0 st (k51 v4 w)) else none)) hr (fun _ _ _ _ hx => by cases hx) (fun _ _ _ hx => by cases hx) hC (fun ls => lsb [some (.inr (.inr (16, 0))), some (.inl a1), some (.inl a2), none, none, none, none] 0 ls) (keepsP_of rfl) ?_ 60 23 [some (.inr (.inr (16, 0))), some (.inl a1), some (.inl a2), some (.inl v3), some (.inl v4), some (.inl v5), none] [] w ?_ h
    · intro j ls st w hfx h
      obtain ⟨e0, e1, e2, -⟩ : _ = _ ∧ _ = _ ∧ _ = _ ∧ True := hfx
      try dsimp only at h
      by_cases hj : j = 28
      · subst hj
        rw [if_pos rfl] at h
        obtain ⟨v3, e3, h_1⟩ := lgI_some h
        obtain ⟨v4, e4, h_2⟩ := lgI_some h_1
        obtain ⟨v5, e5, h_3⟩ := lgI_some h_2
        obtain ⟨v6, e6, h_4⟩ := lgI_some h_3
        obtain ⟨rfl, h_5⟩ := st0_some h_4
        clear h h_1 h_2 h_3 h_4
        have h := h_5
        try rw [callW_eq] at h
        exact WW.le (a := [some (.inr (.inr (16, 0))), some (.inl a1), some (.inl a2), some (.inl v3), some (.inl v4), some (.inl v5), some (.inl v6)]) (by rw [hn]; rfl) (show _ = _ ∧ _ = _ ∧ _ = _ ∧ _ = _ ∧ _ = _ ∧ _ = _ ∧ _ = _ ∧ True from ⟨e0, e1, e2, e3, e4, e5, e6, trivial⟩) (sX12_leads_28 G hn hC hr a1 a2 N (fX12_leads_49 N a2 (fX12_leads_23 N a2 n k51)) v3 v4 v5 v6 w h (fun v3 v4 v5 w h => (sX12_leads_49 G hn hC hr a1 a2 (fX12_leads_23 N a2 n k51) v3 v4 v5 w h (fun v3 v4 v5 w h => (ih k51 v3 v4 v5 w h h51)))))
      rw [if_neg hj] at h
      by_cases hj : j = 51
      · subst hj
        rw [if_pos rfl] at h
        obtain ⟨v4, e4, h_1⟩ := lgI_some h
        obtain ⟨rfl, h_2⟩ := st0_some h_1
        clear h h_1
        have h := h_2
        try rw [callW_eq] at h
        exact WW.le (a := [some (.inr (.inr (16, 0))), some (.inl a1), some (.inl a2), none, some (.inl v4), none, none]) (by rw [hn]; rfl) (show _ = _ ∧ _ = _ ∧ _ = _ ∧ _ = _ ∧ True from ⟨e0, e1, e2, e4, trivial⟩) (h51 v4 w h)
      rw [if_neg hj] at h
      cases h
    · exact (show _ = _ ∧ _ = _ ∧ _ = _ ∧ True from ⟨rfl, rfl, rfl, trivial⟩)
set_option maxRecDepth 100000 in
set_option maxHeartbeats 4000000 in
theorem crX12_leads {N : Nat} {X : XT} (G : GX X cX12_leads RX12) (hR : xR X = rmL 2) : CRs X tX12_leads (oF [(mX12_isOf N)]) (oF []) (oF []) := by
  have hl : tX12_leads.filter isInv = [(14, .invokestatic 341, 0, 0, 2, 0, 0, []), (62, .invokestatic 341, 0, 0, 2, 0, 0, []), (104, .invokestatic 341, 0, 0, 2, 0, 0, [])] := rfl
  intro e he
  rw [hl] at he
  simp only [List.mem_cons, List.not_mem_nil, or_false] at he
  rcases he with rfl | rfl | rfl
  · exact crI_S (idx := 341) G (by decide +kernel) (MX12_isOf N) (cw_of (ps := [1579, 1580, 162, 1581]) (by decide +kernel) (by decide +kernel)) ⟨by decide +kernel, by decide +kernel, by decide +kernel⟩ (by unfold rmOk; rw [hR]; exact ⟨by decide, by decide⟩)
  · exact crI_S (idx := 341) G (by decide +kernel) (MX12_isOf N) (cw_of (ps := [1579, 1580, 162, 1581]) (by decide +kernel) (by decide +kernel)) ⟨by decide +kernel, by decide +kernel, by decide +kernel⟩ (by unfold rmOk; rw [hR]; exact ⟨by decide, by decide⟩)
  · exact crI_S (idx := 341) G (by decide +kernel) (MX12_isOf N) (cw_of (ps := [1579, 1580, 162, 1581]) (by decide +kernel) (by decide +kernel)) ⟨by decide +kernel, by decide +kernel, by decide +kernel⟩ (by unfold rmOk; rw [hR]; exact ⟨by decide, by decide⟩)
set_option maxRecDepth 100000 in
set_option maxHeartbeats 4000000 in
theorem MX12_leads (N : Nat) : SndI yX12_leads cX12_leads 7 (some .boolean) 2 3 true (mX12_leads N) := by
  refine SndI.ofZ tX12_leads (by decide +kernel) rfl rfl ?_ ?_
  · intro as w x h
    obtain ⟨t1, rfl, h_1⟩ := xS1_some h
    obtain ⟨a1, t2, rfl, h_2⟩ := xI1_some h_1
    obtain ⟨a2, t3, rfl, h_3⟩ := xI1_some h_2
    obtain ⟨rfl, h_4⟩ := xN1_some h_3
    clear h h_1 h_2 h_3
    have h := h_4
    rw [callW_eq] at h
    exact ⟨fun _ => ⟨_, _, _, rfl, rfl, _, rfl, rfl⟩, rfl, Nat.le_of_ble_eq_true rfl⟩
  · intro X G hn hR as w r h hr
    have hC := crX12_leads (N := N) G hR
    obtain ⟨t1, rfl, h_1⟩ := xS1_some h
    obtain ⟨a1, t2, rfl, h_2⟩ := xI1_some h_1
    obtain ⟨a2, t3, rfl, h_3⟩ := xI1_some h_2
    obtain ⟨rfl, h_4⟩ := xN1_some h_3
    clear h h_1 h_2 h_3
    have h := h_4
    rw [callW_eq] at h
    refine run_sound (r := r) (X := X) (cc := cX12_leads) (own := RX12) (tab := tX12_leads) G (by rw [hn]; exact kX12_leads) (oI := (oF [(mX12_isOf N)])) (oL := (oF [])) (oV := (oF [])) (rI := retZ) (rL := (fun _ _ => none)) (rV := (fun _ => none))
      (K := (fun j ls st w => if j = 23 then (lgI ls 3 fun v3 => lgI ls 4 fun v4 => lgI ls 5 fun v5 => st0 st (callW (fX12_leads_23 N a2 N (fX12_leads_51 N a2) v3 v4 v5) w)) else none)) hr (fun _ _ _ _ hx => by cases hx) (fun _ _ _ hx => by cases hx) hC (fun ls => lsb [some (.inr (.inr (16, 0))), some (.inl a1), some (.inl a2), none, none, none, none] 0 ls) (keepsP_of rfl) ?_ 60 0 [some (.inr (.inr (16, 0))), some (.inl a1), some (.inl a2), none, none, none, none] [] w ?_ h
    · intro j ls st w hfx h
      obtain ⟨e0, e1, e2, -⟩ : _ = _ ∧ _ = _ ∧ _ = _ ∧ True := hfx
      try dsimp only at h
      by_cases hj : j = 23
      · subst hj
        rw [if_pos rfl] at h
        obtain ⟨v3, e3, h_1⟩ := lgI_some h
        obtain ⟨v4, e4, h_2⟩ := lgI_some h_1
        obtain ⟨v5, e5, h_3⟩ := lgI_some h_2
        obtain ⟨rfl, h_4⟩ := st0_some h_3
        clear h h_1 h_2 h_3
        have h := h_4
        try rw [callW_eq] at h
        exact WW.le (a := [some (.inr (.inr (16, 0))), some (.inl a1), some (.inl a2), some (.inl v3), some (.inl v4), some (.inl v5), none]) (by rw [hn]; rfl) (show _ = _ ∧ _ = _ ∧ _ = _ ∧ _ = _ ∧ _ = _ ∧ _ = _ ∧ True from ⟨e0, e1, e2, e3, e4, e5, trivial⟩) (sX12_leads_23 G hn hC hr a1 a2 N (fX12_leads_51 N a2) v3 v4 v5 w h (fun v4 w h => (sX12_leads_51 G hn hC hr a1 a2 v4 w h)))
      rw [if_neg hj] at h
      cases h
    · exact (show _ = _ ∧ _ = _ ∧ _ = _ ∧ True from ⟨rfl, rfl, rfl, trivial⟩)
-- MoorGuidesModel.layShares(I)V
def tX12_layShares : List EN := [
  (0, .aload_n 0, 0, 0, 0, 0, 0, []), (1, .iconst 0, 0, 0, 0, 0, 0, []), (2, .iload_n 1, 0, 0, 0, 0, 0, []), (3, .iconst 0, 0, 0, 0, 0, 0, []),
  (4, .invokevirtual 549, 0, 0, 4, 0, 0, [(0, 0), (0, 0)]), (7, .iconst 0, 0, 0, 0, 0, 0, []), (8, .istore_n 2, 0, 0, 0, 0, 0, []), (9, .iload_n 2, 8, 0, 0, 0, 0, []),
  (10, .bipush 64, 0, 0, 0, 64, 0, []), (12, .if_icmp .ge 24, 0, 22, 0, 0, 0, []), (15, .aload_n 0, 0, 0, 0, 0, 0, []), (16, .getfield 151, 0, 12, 86, 0, 0, []),
  (19, .bipush 64, 0, 0, 0, 64, 0, []), (21, .aload_n 0, 0, 0, 0, 0, 0, []), (22, .getfield 301, 0, 12, 14, 0, 0, []), (25, .imul, 0, 0, 0, 0, 0, []),
  (26, .iload_n 2, 0, 0, 0, 0, 0, []), (27, .iadd, 0, 0, 0, 0, 0, []), (28, .iconst 0, 0, 0, 0, 0, 0, []), (29, .iastore, 0, 0, 0, 0, 0, []),
  (30, .iinc 2 1, 0, 0, 0, 1, 0, []), (33, .goto (-24), 0, 7, 0, 0, 0, []), (36, .aload_n 0, 23, 0, 0, 0, 0, []), (37, .getfield 301, 0, 12, 14, 0, 0, []),
  (40, .iconst 1, 0, 0, 0, 1, 0, []), (41, .isub, 0, 0, 0, 0, 0, []), (42, .istore_n 2, 0, 0, 0, 0, 0, []), (43, .iload_n 2, 28, 0, 0, 0, 0, []),
  (44, .ifCond .lt 148, 0, 111, 0, 0, 0, []), (47, .iconst 0, 0, 0, 0, 0, 0, []), (48, .istore_n 3, 0, 0, 0, 0, 0, []), (49, .iload_n 3, 32, 0, 0, 0, 0, []),
  (50, .bipush 64, 0, 0, 0, 64, 0, []), (52, .if_icmp .ge 134, 0, 109, 0, 0, 0, []), (55, .aload_n 0, 0, 0, 0, 0, 0, []), (56, .getfield 151, 0, 12, 86, 0, 0, []),
  (59, .bipush 64, 0, 0, 0, 64, 0, []), (61, .iload_n 2, 0, 0, 0, 0, 0, []), (62, .imul, 0, 0, 0, 0, 0, []), (63, .bipush 64, 0, 0, 0, 64, 0, []),
  (65, .iadd, 0, 0, 0, 0, 0, []), (66, .iload_n 3, 0, 0, 0, 0, 0, []), (67, .iadd, 0, 0, 0, 0, 0, []), (68, .iaload, 0, 0, 0, 0, 0, []),
  (69, .istore 4, 0, 0, 0, 0, 0, []), (71, .iconst 0, 0, 0, 0, 0, 0, []), (72, .istore 5, 0, 0, 0, 0, 0, []), (74, .iload 5, 48, 0, 0, 0, 0, []),
  (76, .aload_n 0, 0, 0, 0, 0, 0, []), (77, .getfield 298, 0, 12, 13, 0, 0, []), (80, .if_icmp .ge 87, 0, 98, 0, 0, 0, []), (83, .aload_n 0, 0, 0, 0, 0, 0, []),
  (84, .getfield 53, 0, 12, 42, 0, 0, []), (87, .iload_n 2, 0, 0, 0, 0, 0, []), (88, .iaload, 0, 0, 0, 0, 0, []), (89, .iload_n 1, 0, 0, 0, 0, 0, []),
  (90, .if_icmp .ne 77, 0, 98, 0, 0, 0, []), (93, .iload_n 3, 0, 0, 0, 0, 0, []), (94, .iload 5, 0, 0, 0, 0, 0, []), (96, .invokestatic 341, 0, 0, 2, 0, 0, []),
  (99, .ifCond .eq 62, 0, 96, 0, 0, 0, []), (102, .aload_n 0, 0, 0, 0, 0, 0, []), (103, .iload 5, 0, 0, 0, 0, 0, []), (105, .iload_n 2, 0, 0, 0, 0, 0, []),
  (106, .invokevirtual 555, 0, 1, 3, 0, 0, []), (109, .ifCond .ne 6, 0, 67, 0, 0, 0, []), (112, .goto 49, 0, 96, 0, 0, 0, []), (115, .aload_n 0, 0, 0, 0, 0, 0, []),
  (116, .getfield 56, 0, 12, 43, 0, 0, []), (119, .iload_n 2, 0, 0, 0, 0, 0, []), (120, .iaload, 0, 0, 0, 0, 0, []), (121, .aload_n 0, 0, 0, 0, 0, 0, []),
  (122, .getfield 151, 0, 12, 86, 0, 0, []), (125, .bipush 64, 0, 0, 0, 64, 0, []), (127, .iload_n 2, 0, 0, 0, 0, 0, []), (128, .imul, 0, 0, 0, 0, 0, []),
  (129, .bipush 64, 0, 0, 0, 64, 0, []), (131, .iadd, 0, 0, 0, 0, 0, []), (132, .iload_n 3, 0, 0, 0, 0, 0, []), (133, .iconst 1, 0, 0, 0, 1, 0, []),
  (134, .iload 5, 0, 0, 0, 0, 0, []), (136, .ishl, 0, 0, 0, 0, 0, []), (137, .iconst (-1), 0, 0, 0, (-1), 0, []), (138, .ixor, 0, 0, 0, 0, 0, []),
  (139, .iand, 0, 0, 0, 0, 0, []), (140, .iadd, 0, 0, 0, 0, 0, []), (141, .iaload, 0, 0, 0, 0, 0, []), (142, .iadd, 0, 0, 0, 0, 0, []),
  (143, .istore 6, 0, 0, 0, 0, 0, []), (145, .iload 6, 0, 0, 0, 0, 0, []), (147, .iload 4, 0, 0, 0, 0, 0, []), (149, .if_icmp .le 8, 0, 94, 0, 0, 0, []),
  (152, .iload 6, 0, 0, 0, 0, 0, []), (154, .goto 5, 0, 95, 0, 0, 0, []), (157, .iload 4, 0, 0, 0, 0, 0, []), (159, .istore 4, 0, 0, 0, 0, 0, []),
  (161, .iinc 5 1, 0, 0, 0, 1, 0, []), (164, .goto (-90), 0, 47, 0, 0, 0, []), (167, .aload_n 0, 99, 0, 0, 0, 0, []), (168, .getfield 151, 0, 12, 86, 0, 0, []),
  (171, .bipush 64, 0, 0, 0, 64, 0, []), (173, .iload_n 2, 0, 0, 0, 0, 0, []), (174, .imul, 0, 0, 0, 0, 0, []), (175, .iload_n 3, 0, 0, 0, 0, 0, []),
  (176, .iadd, 0, 0, 0, 0, 0, []), (177, .iload 4, 0, 0, 0, 0, 0, []), (179, .iastore, 0, 0, 0, 0, 0, []), (180, .iinc 3 1, 0, 0, 0, 1, 0, []),
  (183, .goto (-134), 0, 31, 0, 0, 0, []), (186, .iinc 2 (-1), 110, 0, 0, (-1), 0, []), (189, .goto (-146), 0, 27, 0, 0, 0, []), (192, .return_, 0, 0, 0, 0, 0, [])]
noncomputable def fX12_layShares_109 (N : Nat) (a1 : Int32) (k27 : Int32 → Wd → Option (Wd)) (v2 : Int32) (w : Wd) : Option (Wd) :=
  k27 (v2 + (-1 : Int32)) w
noncomputable def fX12_layShares_98 (N : Nat) (a1 : Int32) (k31 : Int32 → Int32 → Wd → Option (Wd)) (v2 : Int32) (v3 : Int32) (v4 : Int32) (w : Wd) : Option (Wd) :=
  (stI w 118 0 (((64 : Int32) * v2) + v3) 576 v4).bind fun w1 =>
  k31 v2 (v3 + (1 : Int32)) w1
noncomputable def fX12_layShares_47 (N : Nat) (a1 : Int32) : Nat → (Int32 → Int32 → Int32 → Wd → Option (Wd)) → Int32 → Int32 → Int32 → Int32 → Wd → Option (Wd)
  | 0, _, _, _, _, _, _ => none
  | n + 1, k98, v2, v3, v4, v5, w =>
    if v5 < (gI w 16 0 13) then
      (ldI w 86 0 v2 16).bind fun x1 =>
      if x1 = a1 then
        (callW (pX12_isOf N v3 v5) w).bind fun r2 =>
        if r2.1 = 0 then callW (fX12_layShares_47 N a1 n k98 v2 v3 v4 (v5 + (1 : Int32))) r2.2 else
        (callW (pX12_leads N v5 v2) r2.2).bind fun r3 =>
        if r3.1 = 0 then callW (fX12_layShares_47 N a1 n k98 v2 v3 v4 (v5 + (1 : Int32))) r3.2 else
        (ldI r3.2 87 0 v2 16).bind fun x4 =>
        (ldI r3.2 118 0 ((((64 : Int32) * v2) + (64 : Int32)) + (v3 &&& (((1 : Int32) <<< (v5 &&& (31 : Int32))) ^^^ (-1 : Int32)))) 576).bind fun x5 =>
        if v4 < (x4 + x5) then callW (fX12_layShares_47 N a1 n k98 v2 v3 (x4 + x5) (v5 + (1 : Int32))) r3.2 else
        callW (fX12_layShares_47 N a1 n k98 v2 v3 v4 (v5 + (1 : Int32))) r3.2
      else
      k98 v2 v3 v4 w
    else
    k98 v2 v3 v4 w
noncomputable def fX12_layShares_31 (N : Nat) (a1 : Int32) : Nat → (Int32 → Wd → Option (Wd)) → Int32 → Int32 → Wd → Option (Wd)
  | 0, _, _, _, _ => none
  | n + 1, k109, v2, v3, w =>
    if v3 < (64 : Int32) then
      (ldI w 118 0 ((((64 : Int32) * v2) + (64 : Int32)) + v3) 576).bind fun x1 =>
      callW (fX12_layShares_47 N a1 N (fX12_layShares_98 N a1 (fX12_layShares_31 N a1 n k109)) v2 v3 x1 (0 : Int32)) w
    else
    k109 v2 w
noncomputable def fX12_layShares_27 (N : Nat) (a1 : Int32) : Nat → Int32 → Wd → Option (Wd)
  | 0, _, _ => none
  | n + 1, v2, w =>
    if v2 < 0 then some w else
    callW (fX12_layShares_31 N a1 N (fX12_layShares_109 N a1 (fX12_layShares_27 N a1 n)) v2 (0 : Int32)) w
noncomputable def fX12_layShares_22 (N : Nat) (a1 : Int32) (w : Wd) : Option (Wd) :=
  callW (fX12_layShares_27 N a1 N ((gI w 16 0 14) - (1 : Int32))) w
noncomputable def fX12_layShares_7 (N : Nat) (a1 : Int32) : Nat → (Wd → Option (Wd)) → Int32 → Wd → Option (Wd)
  | 0, _, _, _ => none
  | n + 1, k22, v2, w =>
    if v2 < (64 : Int32) then
      (stI w 118 0 (((64 : Int32) * (gI w 16 0 14)) + v2) 576 (0 : Int32)).bind fun w1 =>
      callW (fX12_layShares_7 N a1 n k22 (v2 + (1 : Int32))) w1
    else
    k22 w
noncomputable def pX12_layShares (N : Nat) (a1 : Int32) (w : Wd) : Option (Wd) :=
  (callW (pX12_layKnown N (0 : Int32) a1 (0 : Int32)) w).bind fun w1 =>
  callW (fX12_layShares_7 N a1 N (fX12_layShares_22 N a1) (0 : Int32)) w1
noncomputable def mX12_layShares (N : Nat) (as : List AV) (w : Wd) : Option (Wd) := xS1 16 as fun t => xI1 t fun a1 t => xN1 t (callW (pX12_layShares N a1) w)
set_option maxRecDepth 100000 in
set_option maxHeartbeats 4000000 in
theorem kX12_layShares : TK cX12_layShares RX12 7 tX12_layShares := ⟨by decide +kernel, wok_of [1676, 1604, 1604, 1676, 1603, 1632, 1633, 1676, 1676] (by decide +kernel) (by decide +kernel)⟩
set_option maxRecDepth 100000 in
set_option maxHeartbeats 4000000 in
theorem sX12_layShares_109 {N : Nat} {X : XT} (G : GX X cX12_layShares RX12) (hn : xnL X = 7) (hC : CRs X tX12_layShares (oF [(mX12_isOf N), (mX12_leads N)]) (oF []) (oF [(mX12_layKnown N)])) {r : Wd} (hr : RTV X cX12_layShares r) (a1 : Int32) : ∀ (k27 : Int32 → Wd → Option (Wd)) (v2 : Int32) (w : Wd), fX12_layShares_109 N a1 k27 v2 w = some r → (∀ (v2 : Int32) (w : Wd), k27 v2 w = some r → WW X (pcAt tX12_layShares 27) [some (.inr (.inr (16, 0))), some (.inl a1), some (.inl v2), none, none, none, none] [] w) → WW X (pcAt tX12_layShares 109) [some (.inr (.inr (16, 0))), some (.inl a1), some (.inl v2), none, none, none, none] [] w := by
  intro k27 v2 w h h27
  refine run_sound (r := r) (X := X) (cc := cX12_layShares) (own := RX12) (tab := tX12_layShares) G (by rw [hn]; exact kX12_layShares) (oI := (oF [(mX12_isOf N), (mX12_leads N)])) (oL := (oF [])) (oV := (oF [(mX12_layKnown N)])) (rI := (fun _ _ => none)) (rL := (fun _ _ => none)) (rV := (fun w => some w))
    (K := (fun j ls st w => if j = 27 then (lgI ls 2 fun v2 => st0 st (k27 v2 w)) else none)) (fun _ _ _ _ hx => by cases hx) (fun _ _ _ _ hx => by cases hx) (fun w pc ls hx hd => hr w pc ls (Option.some.inj hx) hd) hC (fun ls => lsb [some (.inr (.inr (16, 0))), some (.inl a1), none, none, none, none, none] 0 ls) (keepsP_of rfl) ?_ 114 109 [some (.inr (.inr (16, 0))), some (.inl a1), some (.inl v2), none, none, none, none] [] w ?_ h
  · intro j ls st w hfx h
    obtain ⟨e0, e1, -⟩ : _ = _ ∧ _ = _ ∧ True := hfx
    try dsimp only at h
    by_cases hj : j = 27
    · subst hj
      rw [if_pos rfl] at h
      obtain ⟨v2, e2, h_1⟩ := lgI_some h
      obtain ⟨rfl, h_2⟩ := st0_some h_1
      clear h h_1
      have h := h_2
      try rw [callW_eq] at h
      exact WW.le (a := [some (.inr (.inr (16, 0))), some (.inl a1), some (.inl v2), none, none, none, none]) (by rw [hn]; rfl) (show _ = _ ∧ _ = _ ∧ _ = _ ∧ True from ⟨e0, e1, e2, trivial⟩) (h27 v2 w h)
    rw [if_neg hj] at h
    cases h
  · exact (show _ = _ ∧ _ = _ ∧ True from ⟨rfl, rfl, trivial⟩)
set_option maxRecDepth 100000 in
set_option maxHeartbeats 4000000 in
theorem sX12_layShares_98 {N : Nat} {X : XT} (G : GX X cX12_layShares RX12) (hn : xnL X = 7) (hC : CRs X tX12_layShares (oF [(mX12_isOf N), (mX12_leads N)]) (oF []) (oF [(mX12_layKnown N)])) {r : Wd} (hr : RTV X cX12_layShares r) (a1 : Int32) : ∀ (k31 : Int32 → Int32 → Wd → Option (Wd)) (v2 : Int32) (v3 : Int32) (v4 : Int32) (w : Wd), fX12_layShares_98 N a1 k31 v2 v3 v4 w = some r → (∀ (v2 : Int32) (v3 : Int32) (w : Wd), k31 v2 v3 w = some r → WW X (pcAt tX12_layShares 31) [some (.inr (.inr (16, 0))), some (.inl a1), some (.inl v2), some (.inl v3), none, none, none] [] w) → WW X (pcAt tX12_layShares 98) [some (.inr (.inr (16, 0))), some (.inl a1), some (.inl v2), some (.inl v3), some (.inl v4), none, none] [] w := by
  intro k31 v2 v3 v4 w h h31
  refine run_sound (r := r) (X := X) (cc := cX12_layShares) (own := RX12) (tab := tX12_layShares) G (by rw [hn]; exact kX12_layShares) (oI := (oF [(mX12_isOf N), (mX12_leads N)])) (oL := (oF [])) (oV := (oF [(mX12_layKnown N)])) (rI := (fun _ _ => none)) (rL := (fun _ _ => none)) (rV := (fun w => some w))
    (K := (fun j ls st w => if j = 31 then (lgI ls 2 fun v2 => lgI ls 3 fun v3 => st0 st (k31 v2 v3 w)) else none)) (fun _ _ _ _ hx => by cases hx) (fun _ _ _ _ hx => by cases hx) (fun w pc ls hx hd => hr w pc ls (Option.some.inj hx) hd) hC (fun ls => lsb [some (.inr (.inr (16, 0))), some (.inl a1), none, none, none, none, none] 0 ls) (keepsP_of rfl) ?_ 114 98 [some (.inr (.inr (16, 0))), some (.inl a1), some (.inl v2), some (.inl v3), some (.inl v4), none, none] [] w ?_ h
  · intro j ls st w hfx h
    obtain ⟨e0, e1, -⟩ : _ = _ ∧ _ = _ ∧ True := hfx
    try dsimp only at h
    by_cases hj : j = 31
    · subst hj
      rw [if_pos rfl] at h
      obtain ⟨v2, e2, h_1⟩ := lgI_some h
      obtain ⟨v3, e3, h_2⟩ := lgI_some h_1
      obtain ⟨rfl, h_3⟩ := st0_some h_2
      clear h h_1 h_2
      have h := h_3
      try rw [callW_eq] at h
      exact WW.le (a := [some (.inr (.inr (16, 0))), some (.inl a1), some (.inl v2), some (.inl v3), none, none, none]) (by rw [hn]; rfl) (show _ = _ ∧ _ = _ ∧ _ = _ ∧ _ = _ ∧ True from ⟨e0, e1, e2, e3, trivial⟩) (h31 v2 v3 w h)
    rw [if_neg hj] at h
    cases h
  · exact (show _ = _ ∧ _ = _ ∧ True from ⟨rfl, rfl, trivial⟩)
set_option maxRecDepth 100000 in
set_option maxHeartbeats 4000000 in
theorem sX12_layShares_47 {N : Nat} {X : XT} (G : GX X cX12_layShares RX12) (hn : xnL X = 7) (hC : CRs X tX12_layShares (oF [(mX12_isOf N), (mX12_leads N)]) (oF []) (oF [(mX12_layKnown N)])) {r : Wd} (hr : RTV X cX12_layShares r) (a1 : Int32) : ∀ (n : Nat) (k98 : Int32 → Int32 → Int32 → Wd → Option (Wd)) (v2 : Int32) (v3 : Int32) (v4 : Int32) (v5 : Int32) (w : Wd), fX12_layShares_47 N a1 n k98 v2 v3 v4 v5 w = some r → (∀ (v2 : Int32) (v3 : Int32) (v4 : Int32) (w : Wd), k98 v2 v3 v4 w = some r → WW X (pcAt tX12_layShares 98) [some (.inr (.inr (16, 0))), some (.inl a1), some (.inl v2), some (.inl v3), some (.inl v4), none, none] [] w) → WW X (pcAt tX12_layShares 47) [some (.inr (.inr (16, 0))), some (.inl a1), some (.inl v2), some (.inl v3), some (.inl v4), some (.inl v5), none] [] w := by
  intro n
  induction n with
  | zero => intro k98 v2 v3 v4 v5 w h h98; cases h
  | succ n ih =>
    intro k98 v2 v3 v4 v5 w h h98
    refine run_sound (r := r) (X := X) (cc := cX12_layShares) (own := RX12) (tab := tX12_layShares) G (by rw [hn]; exact kX12_layShares) (oI := (oF [(mX12_isOf N), (mX12_leads N)])) (oL := (oF [])) (oV := (oF [(mX12_layKnown N)])) (rI := (fun _ _ => none)) (rL := (fun _ _ => none)) (rV := (fun w => some w))
      (K := (fun j ls st w => if j = 47 then (lgI ls 2 fun v2 => lgI ls 3 fun v3 => lgI ls 4 fun v4 => lgI ls 5 fun v5 => st0 st (callW (fX12_layShares_47 N a1 n k98 v2 v3 v4 v5) w)) else if j = 98 then (lgI ls 2 fun v2 => lgI ls 3 fun v3 => lgI ls 4 fun v4 => st0 st (k98 v2 v3 v4 w)) else none)) (fun _ _ _ _ hx => by cases hx) (fun _ _ _ _ hx => by cases hx) (fun w pc ls hx hd => hr w pc ls (Option.some.inj hx) hd) hC (fun ls => lsb [some (.inr (.inr (16, 0))), some (.inl a1), none, none, none, none, none] 0 ls) (keepsP_of rfl) ?_ 114 47 [some (.inr (.inr (16, 0))), some (.inl a1), some (.inl v2), some (.inl v3), some (.inl v4), some (.inl v5), none] [] w ?_ h
    · intro j ls st w hfx h
      obtain ⟨e0, e1, -⟩ : _ = _ ∧ _ = _ ∧ True := hfx
      try dsimp only at h
      by_cases hj : j = 47
      · subst hj
        rw [if_pos rfl] at h
        obtain ⟨v2, e2, h_1⟩ := lgI_some h
        obtain ⟨v3, e3, h_2⟩ := lgI_some h_1
        obtain ⟨v4, e4, h_3⟩ := lgI_some h_2
        obtain ⟨v5, e5, h_4⟩ := lgI_some h_3
        obtain ⟨rfl, h_5⟩ := st0_some h_4
        clear h h_1 h_2 h_3 h_4
        have h := h_5
        try rw [callW_eq] at h
        exact WW.le (a := [some (.inr (.inr (16, 0))), some (.inl a1), some (.inl v2), some (.inl v3), some (.inl v4), some (.inl v5), none]) (by rw [hn]; rfl) (show _ = _ ∧ _ = _ ∧ _ = _ ∧ _ = _ ∧ _ = _ ∧ _ = _ ∧ True from ⟨e0, e1, e2, e3, e4, e5, trivial⟩) (ih k98 v2 v3 v4 v5 w h h98)
      rw [if_neg hj] at h
      by_cases hj : j = 98
      · subst hj
        rw [if_pos rfl] at h
        obtain ⟨v2, e2, h_1⟩ := lgI_some h
        obtain ⟨v3, e3, h_2⟩ := lgI_some h_1
        obtain ⟨v4, e4, h_3⟩ := lgI_some h_2
        obtain ⟨rfl, h_4⟩ := st0_some h_3
        clear h h_1 h_2 h_3
        have h := h_4
        try rw [callW_eq] at h
        exact WW.le (a := [some (.inr (.inr (16, 0))), some (.inl a1), some (.inl v2), some (.inl v3), some (.inl v4), none, none]) (by rw [hn]; rfl) (show _ = _ ∧ _ = _ ∧ _ = _ ∧ _ = _ ∧ _ = _ ∧ True from ⟨e0, e1, e2, e3, e4, trivial⟩) (h98 v2 v3 v4 w h)
      rw [if_neg hj] at h
      cases h
    · exact (show _ = _ ∧ _ = _ ∧ True from ⟨rfl, rfl, trivial⟩)
set_option maxRecDepth 100000 in
set_option maxHeartbeats 4000000 in
theorem sX12_layShares_31 {N : Nat} {X : XT} (G : GX X cX12_layShares RX12) (hn : xnL X = 7) (hC : CRs X tX12_layShares (oF [(mX12_isOf N), (mX12_leads N)]) (oF []) (oF [(mX12_layKnown N)])) {r : Wd} (hr : RTV X cX12_layShares r) (a1 : Int32) : ∀ (n : Nat) (k109 : Int32 → Wd → Option (Wd)) (v2 : Int32) (v3 : Int32) (w : Wd), fX12_layShares_31 N a1 n k109 v2 v3 w = some r → (∀ (v2 : Int32) (w : Wd), k109 v2 w = some r → WW X (pcAt tX12_layShares 109) [some (.inr (.inr (16, 0))), some (.inl a1), some (.inl v2), none, none, none, none] [] w) → WW X (pcAt tX12_layShares 31) [some (.inr (.inr (16, 0))), some (.inl a1), some (.inl v2), some (.inl v3), none, none, none] [] w := by
  intro n
  induction n with
  | zero => intro k109 v2 v3 w h h109; cases h
  | succ n ih =>
    intro k109 v2 v3 w h h109
    refine run_sound (r := r) (X := X) (cc := cX12_layShares) (own := RX12) (tab := tX12_layShares) G (by rw [hn]; exact kX12_layShares) (oI := (oF [(mX12_isOf N), (mX12_leads N)])) (oL := (oF [])) (oV := (oF [(mX12_layKnown N)])) (rI := (fun _ _ => none)) (rL := (fun _ _ => none)) (rV := (fun w => some w))
      (K := (fun j ls st w => if j = 47 then (lgI ls 2 fun v2 => lgI ls 3 fun v3 => lgI ls 4 fun v4 => lgI ls 5 fun v5 => st0 st (callW (fX12_layShares_47 N a1 N (fX12_layShares_98 N a1 (fX12_layShares_31 N a1 n k109)) v2 v3 v4 v5) w)) else if j = 109 then (lgI ls 2 fun v2 => st0 st (k109 v2 w)) else none)) (fun _ _ _ _ hx => by cases hx) (fun _ _ _ _ hx => by cases hx) (fun w pc ls hx hd => hr w pc ls (Option.some.inj hx) hd) hC (fun ls => lsb [some (.inr (.inr (16, 0))), some (.inl a1), none, none, none, none, none] 0 ls) (keepsP_of rfl) ?_ 114 31 [some (.inr (.inr (16, 0))), some (.inl a1), some (.inl v2), some (.inl v3), none, none, none] [] w ?_ h
    · intro j ls st w hfx h
      obtain ⟨e0, e1, -⟩ : _ = _ ∧ _ = _ ∧ True := hfx
      try dsimp only at h
      by_cases hj : j = 47
      · subst hj
        rw [if_pos rfl] at h
        obtain ⟨v2, e2, h_1⟩ := lgI_some h
        obtain ⟨v3, e3, h_2⟩ := lgI_some h_1
        obtain ⟨v4, e4, h_3⟩ := lgI_some h_2
        obtain ⟨v5, e5, h_4⟩ := lgI_some h_3
        obtain ⟨rfl, h_5⟩ := st0_some h_4
        clear h h_1 h_2 h_3 h_4
        have h := h_5
        try rw [callW_eq] at h
        exact WW.le (a := [some (.inr (.inr (16, 0))), some (.inl a1), some (.inl v2), some (.inl v3), some (.inl v4), some (.inl v5), none]) (by rw [hn]; rfl) (show _ = _ ∧ _ = _ ∧ _ = _ ∧ _ = _ ∧ _ = _ ∧ _ = _ ∧ True from ⟨e0, e1, e2, e3, e4, e5, trivial⟩) (sX12_layShares_47 G hn hC hr a1 N (fX12_layShares_98 N a1 (fX12_layShares_31 N a1 n k109)) v2 v3 v4 v5 w h (fun v2 v3 v4 w h => (sX12_layShares_98 G hn hC hr a1 (fX12_layShares_31 N a1 n k109) v2 v3 v4 w h (fun v2 v3 w h => (ih k109 v2 v3 w h h109)))))
      rw [if_neg hj] at h
      by_cases hj : j = 109
      · subst hj
        rw [if_pos rfl] at h
        obtain ⟨v2, e2, h_1⟩ := lgI_some h
        obtain ⟨rfl, h_2⟩ := st0_some h_1
        clear h h_1
        have h := h_2
        try rw [callW_eq] at h
        exact WW.le (a := [some (.inr (.inr (16, 0))), some (.inl a1), some (.inl v2), none, none, none, none]) (by rw [hn]; rfl) (show _ = _ ∧ _ = _ ∧ _ = _ ∧ True from ⟨e0, e1, e2, trivial⟩) (h109 v2 w h)
      rw [if_neg hj] at h
      cases h
    · exact (show _ = _ ∧ _ = _ ∧ True from ⟨rfl, rfl, trivial⟩)
set_option maxRecDepth 100000 in
set_option maxHeartbeats 4000000 in
theorem sX12_layShares_27 {N : Nat} {X : XT} (G : GX X cX12_layShares RX12) (hn : xnL X = 7) (hC : CRs X tX12_layShares (oF [(mX12_isOf N), (mX12_leads N)]) (oF []) (oF [(mX12_layKnown N)])) {r : Wd} (hr : RTV X cX12_layShares r) (a1 : Int32) : ∀ (n : Nat) (v2 : Int32) (w : Wd), fX12_layShares_27 N a1 n v2 w = some r → WW X (pcAt tX12_layShares 27) [some (.inr (.inr (16, 0))), some (.inl a1), some (.inl v2), none, none, none, none] [] w := by
  intro n
  induction n with
  | zero => intro v2 w h; cases h
  | succ n ih =>
    intro v2 w h
    refine run_sound (r := r) (X := X) (cc := cX12_layShares) (own := RX12) (tab := tX12_layShares) G (by rw [hn]; exact kX12_layShares) (oI := (oF [(mX12_isOf N), (mX12_leads N)])) (oL := (oF [])) (oV := (oF [(mX12_layKnown N)])) (rI := (fun _ _ => none)) (rL := (fun _ _ => none)) (rV := (fun w => some w))
      (K := (fun j ls st w => if j = 31 then (lgI ls 2 fun v2 => lgI ls 3 fun v3 => st0 st (callW (fX12_layShares_31 N a1 N (fX12_layShares_109 N a1 (fX12_layShares_27 N a1 n)) v2 v3) w)) else none)) (fun _ _ _ _ hx => by cases hx) (fun _ _ _ _ hx => by cases hx) (fun w pc ls hx hd => hr w pc ls (Option.some.inj hx) hd) hC (fun ls => lsb [some (.inr (.inr (16, 0))), some (.inl a1), none, none, none, none, none] 0 ls) (keepsP_of rfl) ?_ 114 27 [some (.inr (.inr (16, 0))), some (.inl a1), some (.inl v2), none, none, none, none] [] w ?_ h
    · intro j ls st w hfx h
      obtain ⟨e0, e1, -⟩ : _ = _ ∧ _ = _ ∧ True := hfx
      try dsimp only at h
      by_cases hj : j = 31
      · subst hj
        rw [if_pos rfl] at h
        obtain ⟨v2, e2, h_1⟩ := lgI_some h
        obtain ⟨v3, e3, h_2⟩ := lgI_some h_1
        obtain ⟨rfl, h_3⟩ := st0_some h_2
        clear h h_1 h_2
        have h := h_3
        try rw [callW_eq] at h
        exact WW.le (a := [some (.inr (.inr (16, 0))), some (.inl a1), some (.inl v2), some (.inl v3), none, none, none]) (by rw [hn]; rfl) (show _ = _ ∧ _ = _ ∧ _ = _ ∧ _ = _ ∧ True from ⟨e0, e1, e2, e3, trivial⟩) (sX12_layShares_31 G hn hC hr a1 N (fX12_layShares_109 N a1 (fX12_layShares_27 N a1 n)) v2 v3 w h (fun v2 w h => (sX12_layShares_109 G hn hC hr a1 (fX12_layShares_27 N a1 n) v2 w h (fun v2 w h => (ih v2 w h)))))
      rw [if_neg hj] at h
      cases h
    · exact (show _ = _ ∧ _ = _ ∧ True from ⟨rfl, rfl, trivial⟩)
set_option maxRecDepth 100000 in
set_option maxHeartbeats 4000000 in
theorem sX12_layShares_22 {N : Nat} {X : XT} (G : GX X cX12_layShares RX12) (hn : xnL X = 7) (hC : CRs X tX12_layShares (oF [(mX12_isOf N), (mX12_leads N)]) (oF []) (oF [(mX12_layKnown N)])) {r : Wd} (hr : RTV X cX12_layShares r) (a1 : Int32) : ∀ (w : Wd), fX12_layShares_22 N a1 w = some r → WW X (pcAt tX12_layShares 22) [some (.inr (.inr (16, 0))), some (.inl a1), none, none, none, none, none] [] w := by
  intro w h
  refine run_sound (r := r) (X := X) (cc := cX12_layShares) (own := RX12) (tab := tX12_layShares) G (by rw [hn]; exact kX12_layShares) (oI := (oF [(mX12_isOf N), (mX12_leads N)])) (oL := (oF [])) (oV := (oF [(mX12_layKnown N)])) (rI := (fun _ _ => none)) (rL := (fun _ _ => none)) (rV := (fun w => some w))
    (K := (fun j ls st w => if j = 27 then (lgI ls 2 fun v2 => st0 st (callW (fX12_layShares_27 N a1 N v2) w)) else none)) (fun _ _ _ _ hx => by cases hx) (fun _ _ _ _ hx => by cases hx) (fun w pc ls hx hd => hr w pc ls (Option.some.inj hx) hd) hC (fun ls => lsb [some (.inr (.inr (16, 0))), some (.inl a1), none, none, none, none, none] 0 ls) (keepsP_of rfl) ?_ 114 22 [some (.inr (.inr (16, 0))), some (.inl a1), none, none, none, none, none] [] w ?_ h
  · intro j ls st w hfx h
    obtain ⟨e0, e1, -⟩ : _ = _ ∧ _ = _ ∧ True := hfx
    try dsimp only at h
    by_cases hj : j = 27
    · subst hj
      rw [if_pos rfl] at h
      obtain ⟨v2, e2, h_1⟩ := lgI_some h
      obtain ⟨rfl, h_2⟩ := st0_some h_1
      clear h h_1
      have h := h_2
      try rw [callW_eq] at h
      exact WW.le (a := [some (.inr (.inr (16, 0))), some (.inl a1), some (.inl v2), none, none, none, none]) (by rw [hn]; rfl) (show _ = _ ∧ _ = _ ∧ _ = _ ∧ True from ⟨e0, e1, e2, trivial⟩) (sX12_layShares_27 G hn hC hr a1 N v2 w h)
    rw [if_neg hj] at h
    cases h
  · exact (show _ = _ ∧ _ = _ ∧ True from ⟨rfl, rfl, trivial⟩)
set_option maxRecDepth 100000 in
set_option maxHeartbeats 4000000 in
theorem sX12_layShares_7 {N : Nat} {X : XT} (G : GX X cX12_layShares RX12) (hn : xnL X = 7) (hC : CRs X tX12_layShares (oF [(mX12_isOf N), (mX12_leads N)]) (oF []) (oF [(mX12_layKnown N)])) {r : Wd} (hr : RTV X cX12_layShares r) (a1 : Int32) : ∀ (n : Nat) (k22 : Wd → Option (Wd)) (v2 : Int32) (w : Wd), fX12_layShares_7 N a1 n k22 v2 w = some r → (∀ (w : Wd), k22 w = some r → WW X (pcAt tX12_layShares 22) [some (.inr (.inr (16, 0))), some (.inl a1), none, none, none, none, none] [] w) → WW X (pcAt tX12_layShares 7) [some (.inr (.inr (16, 0))), some (.inl a1), some (.inl v2), none, none, none, none] [] w := by
  intro n
  induction n with
  | zero => intro k22 v2 w h h22; cases h
  | succ n ih =>
    intro k22 v2 w h h22
    refine run_sound (r := r) (X := X) (cc := cX12_layShares) (own := RX12) (tab := tX12_layShares) G (by rw [hn]; exact kX12_layShares) (oI := (oF [(mX12_isOf N), (mX12_leads N)])) (oL := (oF [])) (oV := (oF [(mX12_layKnown N)])) (rI := (fun _ _ => none)) (rL := (fun _ _ => none)) (rV := (fun w => some w))
      (K := (fun j ls st w => if j = 7 then (lgI ls 2 fun v2 => st0 st (callW (fX12_layShares_7 N a1 n k22 v2) w)) else if j = 22 then (st0 st (k22 w)) else none)) (fun _ _ _ _ hx => by cases hx) (fun _ _ _ _ hx => by cases hx) (fun w pc ls hx hd => hr w pc ls (Option.some.inj hx) hd) hC (fun ls => lsb [some (.inr (.inr (16, 0))), some (.inl a1), none, none, none, none, none] 0 ls) (keepsP_of rfl) ?_ 114 7 [some (.inr (.inr (16, 0))), some (.inl a1), some (.inl v2), none, none, none, none] [] w ?_ h
    · intro j ls st w hfx h
      obtain ⟨e0, e1, -⟩ : _ = _ ∧ _ = _ ∧ True := hfx
      try dsimp only at h
      by_cases hj : j = 7
      · subst hj
        rw [if_pos rfl] at h
        obtain ⟨v2, e2, h_1⟩ := lgI_some h
        obtain ⟨rfl, h_2⟩ := st0_some h_1
        clear h h_1
        have h := h_2
        try rw [callW_eq] at h
        exact WW.le (a := [some (.inr (.inr (16, 0))), some (.inl a1), some (.inl v2), none, none, none, none]) (by rw [hn]; rfl) (show _ = _ ∧ _ = _ ∧ _ = _ ∧ True from ⟨e0, e1, e2, trivial⟩) (ih k22 v2 w h h22)
      rw [if_neg hj] at h
      by_cases hj : j = 22
      · subst hj
        rw [if_pos rfl] at h
        obtain ⟨rfl, h_1⟩ := st0_some h
        clear h
        have h := h_1
        try rw [callW_eq] at h
        exact WW.le (a := [some (.inr (.inr (16, 0))), some (.inl a1), none, none, none, none, none]) (by rw [hn]; rfl) (show _ = _ ∧ _ = _ ∧ True from ⟨e0, e1, trivial⟩) (h22 w h)
      rw [if_neg hj] at h
      cases h
    · exact (show _ = _ ∧ _ = _ ∧ True from ⟨rfl, rfl, trivial⟩)
set_option maxRecDepth 100000 in
set_option maxHeartbeats 4000000 in
theorem crX12_layShares {N : Nat} {X : XT} (G : GX X cX12_layShares RX12) (hR : xR X = rmL 5) : CRs X tX12_layShares (oF [(mX12_isOf N), (mX12_leads N)]) (oF []) (oF [(mX12_layKnown N)]) := by
  have hl : tX12_layShares.filter isInv = [(4, .invokevirtual 549, 0, 0, 4, 0, 0, [(0, 0), (0, 0)]), (96, .invokestatic 341, 0, 0, 2, 0, 0, []), (106, .invokevirtual 555, 0, 1, 3, 0, 0, [])] := rfl
  intro e he
  rw [hl] at he
  simp only [List.mem_cons, List.not_mem_nil, or_false] at he
  rcases he with rfl | rfl | rfl
  · exact crV_V (idx := 549) G (by decide +kernel) (MX12_layKnown N) (cw_of (ps := [2183, 2185, 120, 162, 2186]) (by decide +kernel) (by decide +kernel)) ⟨by decide +kernel, by decide +kernel, by decide +kernel⟩ (by unfold rmOk; rw [hR]; exact ⟨by decide, by decide⟩)
  · exact crI_S (idx := 341) G (by decide +kernel) (MX12_isOf N) (cw_of (ps := [1579, 1580, 162, 1581]) (by decide +kernel) (by decide +kernel)) ⟨by decide +kernel, by decide +kernel, by decide +kernel⟩ (by unfold rmOk; rw [hR]; exact ⟨by decide, by decide⟩)
  · exact crI_V (idx := 555) G (by decide +kernel) (MX12_leads N) (cw_of (ps := [2231, 2233, 129, 162, 2234]) (by decide +kernel) (by decide +kernel)) ⟨by decide +kernel, by decide +kernel, by decide +kernel⟩ (by unfold rmOk; rw [hR]; exact ⟨by decide, by decide⟩)
set_option maxRecDepth 100000 in
set_option maxHeartbeats 4000000 in
theorem MX12_layShares (N : Nat) : SndV yX12_layShares cX12_layShares 7 none 5 2 true (mX12_layShares N) := by
  refine SndV.of tX12_layShares (by decide +kernel) rfl rfl ?_ ?_
  · intro as w x h
    obtain ⟨t1, rfl, h_1⟩ := xS1_some h
    obtain ⟨a1, t2, rfl, h_2⟩ := xI1_some h_1
    obtain ⟨rfl, h_3⟩ := xN1_some h_2
    clear h h_1 h_2
    have h := h_3
    rw [callW_eq] at h
    exact ⟨fun _ => ⟨_, _, _, rfl, rfl, _, rfl, rfl⟩, rfl, Nat.le_of_ble_eq_true rfl⟩
  · intro X G hn hR as w r h hr
    have hC := crX12_layShares (N := N) G hR
    obtain ⟨t1, rfl, h_1⟩ := xS1_some h
    obtain ⟨a1, t2, rfl, h_2⟩ := xI1_some h_1
    obtain ⟨rfl, h_3⟩ := xN1_some h_2
    clear h h_1 h_2
    have h := h_3
    rw [callW_eq] at h
    refine run_sound (r := r) (X := X) (cc := cX12_layShares) (own := RX12) (tab := tX12_layShares) G (by rw [hn]; exact kX12_layShares) (oI := (oF [(mX12_isOf N), (mX12_leads N)])) (oL := (oF [])) (oV := (oF [(mX12_layKnown N)])) (rI := (fun _ _ => none)) (rL := (fun _ _ => none)) (rV := (fun w => some w))
      (K := (fun j ls st w => if j = 7 then (lgI ls 2 fun v2 => st0 st (callW (fX12_layShares_7 N a1 N (fX12_layShares_22 N a1) v2) w)) else none)) (fun _ _ _ _ hx => by cases hx) (fun _ _ _ _ hx => by cases hx) (fun w pc ls hx hd => hr w pc ls (Option.some.inj hx) hd) hC (fun ls => lsb [some (.inr (.inr (16, 0))), some (.inl a1), none, none, none, none, none] 0 ls) (keepsP_of rfl) ?_ 114 0 [some (.inr (.inr (16, 0))), some (.inl a1), none, none, none, none, none] [] w ?_ h
    · intro j ls st w hfx h
      obtain ⟨e0, e1, -⟩ : _ = _ ∧ _ = _ ∧ True := hfx
      try dsimp only at h
      by_cases hj : j = 7
      · subst hj
        rw [if_pos rfl] at h
        obtain ⟨v2, e2, h_1⟩ := lgI_some h
        obtain ⟨rfl, h_2⟩ := st0_some h_1
        clear h h_1
        have h := h_2
        try rw [callW_eq] at h
        exact WW.le (a := [some (.inr (.inr (16, 0))), some (.inl a1), some (.inl v2), none, none, none, none]) (by rw [hn]; rfl) (show _ = _ ∧ _ = _ ∧ _ = _ ∧ True from ⟨e0, e1, e2, trivial⟩) (sX12_layShares_7 G hn hC hr a1 N (fX12_layShares_22 N a1) v2 w h (fun w h => (sX12_layShares_22 G hn hC hr a1 w h)))
      rw [if_neg hj] at h
      cases h
    · exact (show _ = _ ∧ _ = _ ∧ True from ⟨rfl, rfl, trivial⟩)
-- MoorGuidesModel.sharedBy(II)I
def tX12_sharedBy : List EN := [
  (0, .bipush 63, 0, 0, 0, 63, 0, []), (2, .istore_n 3, 0, 0, 0, 0, 0, []), (3, .bipush (-2), 0, 0, 0, (-2), 0, []), (5, .istore 4, 0, 0, 0, 0, 0, []),
  (7, .iconst 0, 0, 0, 0, 0, 0, []), (8, .istore 5, 0, 0, 0, 0, 0, []), (10, .iload 5, 7, 0, 0, 0, 0, []), (12, .iload_n 1, 0, 0, 0, 0, 0, []),
  (13, .if_icmp .gt 147, 0, 88, 0, 0, 0, []), (16, .bipush (-2), 0, 0, 0, (-2), 0, []), (18, .istore 4, 0, 0, 0, 0, 0, []), (20, .iconst 0, 0, 0, 0, 0, 0, []),
  (21, .istore 6, 0, 0, 0, 0, 0, []), (23, .iload 6, 14, 0, 0, 0, 0, []), (25, .aload_n 0, 0, 0, 0, 0, 0, []), (26, .getfield 298, 0, 12, 13, 0, 0, []),
  (29, .if_icmp .ge 111, 0, 76, 0, 0, 0, []), (32, .iload 4, 0, 0, 0, 0, 0, []), (34, .ifCond .ge 106, 0, 76, 0, 0, 0, []), (37, .aload_n 0, 0, 0, 0, 0, 0, []),
  (38, .getfield 53, 0, 12, 42, 0, 0, []), (41, .iload 5, 0, 0, 0, 0, 0, []), (43, .iaload, 0, 0, 0, 0, 0, []), (44, .iload_n 2, 0, 0, 0, 0, 0, []),
  (45, .if_icmp .ne 95, 0, 76, 0, 0, 0, []), (48, .iload_n 3, 0, 0, 0, 0, 0, []), (49, .iload 6, 0, 0, 0, 0, 0, []), (51, .invokestatic 341, 0, 0, 2, 0, 0, []),
  (54, .ifCond .eq 63, 0, 66, 0, 0, 0, []), (57, .aload_n 0, 0, 0, 0, 0, 0, []), (58, .iload 6, 0, 0, 0, 0, 0, []), (60, .iload 5, 0, 0, 0, 0, 0, []),
  (62, .invokevirtual 555, 0, 1, 3, 0, 0, []), (65, .ifCond .eq 52, 0, 66, 0, 0, 0, []), (68, .aload_n 0, 0, 0, 0, 0, 0, []), (69, .getfield 56, 0, 12, 43, 0, 0, []),
  (72, .iload 5, 0, 0, 0, 0, 0, []), (74, .iaload, 0, 0, 0, 0, 0, []), (75, .aload_n 0, 0, 0, 0, 0, 0, []), (76, .getfield 151, 0, 12, 86, 0, 0, []),
  (79, .bipush 64, 0, 0, 0, 64, 0, []), (81, .iload 5, 0, 0, 0, 0, 0, []), (83, .imul, 0, 0, 0, 0, 0, []), (84, .bipush 64, 0, 0, 0, 64, 0, []),
  (86, .iadd, 0, 0, 0, 0, 0, []), (87, .iload_n 3, 0, 0, 0, 0, 0, []), (88, .iconst 1, 0, 0, 0, 1, 0, []), (89, .iload 6, 0, 0, 0, 0, 0, []),
  (91, .ishl, 0, 0, 0, 0, 0, []), (92, .iconst (-1), 0, 0, 0, (-1), 0, []), (93, .ixor, 0, 0, 0, 0, 0, []), (94, .iand, 0, 0, 0, 0, 0, []),
  (95, .iadd, 0, 0, 0, 0, 0, []), (96, .iaload, 0, 0, 0, 0, 0, []), (97, .iadd, 0, 0, 0, 0, 0, []), (98, .aload_n 0, 0, 0, 0, 0, 0, []),
  (99, .getfield 151, 0, 12, 86, 0, 0, []), (102, .bipush 64, 0, 0, 0, 64, 0, []), (104, .iload 5, 0, 0, 0, 0, 0, []), (106, .imul, 0, 0, 0, 0, 0, []),
  (107, .iload_n 3, 0, 0, 0, 0, 0, []), (108, .iadd, 0, 0, 0, 0, 0, []), (109, .iaload, 0, 0, 0, 0, 0, []), (110, .if_icmp .ne 7, 0, 66, 0, 0, 0, []),
  (113, .iconst 1, 0, 0, 0, 1, 0, []), (114, .goto 4, 0, 67, 0, 0, 0, []), (117, .iconst 0, 67, 0, 0, 0, 0, []), (118, .istore 7, 68, 0, 0, 0, 0, []),
  (120, .iload 7, 0, 0, 0, 0, 0, []), (122, .ifCond .eq 8, 0, 72, 0, 0, 0, []), (125, .iload 6, 0, 0, 0, 0, 0, []), (127, .goto 5, 0, 73, 0, 0, 0, []),
  (130, .iload 4, 0, 0, 0, 0, 0, []), (132, .istore 4, 0, 0, 0, 0, 0, []), (134, .iinc 6 1, 0, 0, 0, 1, 0, []), (137, .goto (-114), 0, 13, 0, 0, 0, []),
  (140, .iload 4, 77, 0, 0, 0, 0, []), (142, .ifCond .lt 12, 0, 86, 0, 0, 0, []), (145, .iload_n 3, 0, 0, 0, 0, 0, []), (146, .iconst 1, 0, 0, 0, 1, 0, []),
  (147, .iload 4, 0, 0, 0, 0, 0, []), (149, .ishl, 0, 0, 0, 0, 0, []), (150, .iconst (-1), 0, 0, 0, (-1), 0, []), (151, .ixor, 0, 0, 0, 0, 0, []),
  (152, .iand, 0, 0, 0, 0, 0, []), (153, .istore_n 3, 0, 0, 0, 0, 0, []), (154, .iinc 5 1, 0, 0, 0, 1, 0, []), (157, .goto (-147), 0, 6, 0, 0, 0, []),
  (160, .iload 4, 0, 0, 0, 0, 0, []), (162, .ireturn, 0, 0, 0, 0, 0, [])]
noncomputable def fX12_sharedBy_76 (N : Nat) (a1 : Int32) (a2 : Int32) (k6 : Int32 → Int32 → Int32 → Wd → Option (Int32 × Wd)) (v3 : Int32) (v4 : Int32) (v5 : Int32) (w : Wd) : Option (Int32 × Wd) :=
  if v4 < 0 then k6 v3 v4 (v5 + (1 : Int32)) w else
  k6 (v3 &&& (((1 : Int32) <<< (v4 &&& (31 : Int32))) ^^^ (-1 : Int32))) v4 (v5 + (1 : Int32)) w
noncomputable def fX12_sharedBy_67 (N : Nat) (a1 : Int32) (a2 : Int32) (k13 : Int32 → Int32 → Int32 → Int32 → Wd → Option (Int32 × Wd)) (v3 : Int32) (v4 : Int32) (v5 : Int32) (v6 : Int32) (s0 : Int32) (w : Wd) : Option (Int32 × Wd) :=
  if s0 = 0 then k13 v3 v4 v5 (v6 + (1 : Int32)) w else
  k13 v3 v6 v5 (v6 + (1 : Int32)) w
noncomputable def fX12_sharedBy_66 (N : Nat) (a1 : Int32) (a2 : Int32) (k13 : Int32 → Int32 → Int32 → Int32 → Wd → Option (Int32 × Wd)) (v3 : Int32) (v4 : Int32) (v5 : Int32) (v6 : Int32) (w : Wd) : Option (Int32 × Wd) :=
  callW (fX12_sharedBy_67 N a1 a2 k13 v3 v4 v5 v6 (0 : Int32)) w
noncomputable def fX12_sharedBy_13 (N : Nat) (a1 : Int32) (a2 : Int32) : Nat → (Int32 → Int32 → Int32 → Wd → Option (Int32 × Wd)) → Int32 → Int32 → Int32 → Int32 → Wd → Option (Int32 × Wd)
  | 0, _, _, _, _, _, _ => none
  | n + 1, k76, v3, v4, v5, v6, w =>
    if v6 < (gI w 16 0 13) then
      if v4 < 0 then
        (ldI w 86 0 v5 16).bind fun x1 =>
        if x1 = a2 then
          (callW (pX12_isOf N v3 v6) w).bind fun r2 =>
          if r2.1 = 0 then callW (fX12_sharedBy_66 N a1 a2 (fX12_sharedBy_13 N a1 a2 n k76) v3 v4 v5 v6) r2.2 else
          (callW (pX12_leads N v6 v5) r2.2).bind fun r3 =>
          if r3.1 = 0 then callW (fX12_sharedBy_66 N a1 a2 (fX12_sharedBy_13 N a1 a2 n k76) v3 v4 v5 v6) r3.2 else
          (ldI r3.2 87 0 v5 16).bind fun x4 =>
          (ldI r3.2 118 0 ((((64 : Int32) * v5) + (64 : Int32)) + (v3 &&& (((1 : Int32) <<< (v6 &&& (31 : Int32))) ^^^ (-1 : Int32)))) 576).bind fun x5 =>
          (ldI r3.2 118 0 (((64 : Int32) * v5) + v3) 576).bind fun x6 =>
          if (x4 + x5) = x6 then callW (fX12_sharedBy_67 N a1 a2 (fX12_sharedBy_13 N a1 a2 n k76) v3 v4 v5 v6 (1 : Int32)) r3.2 else
          callW (fX12_sharedBy_66 N a1 a2 (fX12_sharedBy_13 N a1 a2 n k76) v3 v4 v5 v6) r3.2
        else
        k76 v3 v4 v5 w
      else
      k76 v3 v4 v5 w
    else
    k76 v3 v4 v5 w
noncomputable def fX12_sharedBy_6 (N : Nat) (a1 : Int32) (a2 : Int32) : Nat → Int32 → Int32 → Int32 → Wd → Option (Int32 × Wd)
  | 0, _, _, _, _ => none
  | n + 1, v3, v4, v5, w =>
    if a1 < v5 then some (v4, w) else
    callW (fX12_sharedBy_13 N a1 a2 N (fX12_sharedBy_76 N a1 a2 (fX12_sharedBy_6 N a1 a2 n)) v3 (-2 : Int32) v5 (0 : Int32)) w
noncomputable def pX12_sharedBy (N : Nat) (a1 : Int32) (a2 : Int32) (w : Wd) : Option (Int32 × Wd) :=
  callW (fX12_sharedBy_6 N a1 a2 N (63 : Int32) (-2 : Int32) (0 : Int32)) w
noncomputable def mX12_sharedBy (N : Nat) (as : List AV) (w : Wd) : Option (Int32 × Wd) := xS1 16 as fun t => xI1 t fun a1 t => xI1 t fun a2 t => xN1 t (callW (pX12_sharedBy N a1 a2) w)
set_option maxRecDepth 100000 in
set_option maxHeartbeats 4000000 in
theorem kX12_sharedBy : TK cX12_sharedBy RX12 8 tX12_sharedBy := ⟨by decide +kernel, wok_of [1603, 1632, 1633, 1676, 1676] (by decide +kernel) (by decide +kernel)⟩
set_option maxRecDepth 100000 in
set_option maxHeartbeats 4000000 in
theorem sX12_sharedBy_76 {N : Nat} {X : XT} (G : GX X cX12_sharedBy RX12) (hn : xnL X = 8) (hC : CRs X tX12_sharedBy (oF [(mX12_isOf N), (mX12_leads N)]) (oF []) (oF [])) {r : Int32 × Wd} (hr : RTI X cX12_sharedBy r) (a1 : Int32) (a2 : Int32) : ∀ (k6 : Int32 → Int32 → Int32 → Wd → Option (Int32 × Wd)) (v3 : Int32) (v4 : Int32) (v5 : Int32) (w : Wd), fX12_sharedBy_76 N a1 a2 k6 v3 v4 v5 w = some r → (∀ (v3 : Int32) (v4 : Int32) (v5 : Int32) (w : Wd), k6 v3 v4 v5 w = some r → WW X (pcAt tX12_sharedBy 6) [some (.inr (.inr (16, 0))), some (.inl a1), some (.inl a2), some (.inl v3), some (.inl v4), some (.inl v5), none, none] [] w) → WW X (pcAt tX12_sharedBy 76) [some (.inr (.inr (16, 0))), some (.inl a1), some (.inl a2), some (.inl v3), some (.inl v4), some (.inl v5), none, none] [] w := by
  intro k6 v3 v4 v5 w h h6
  refine run_sound (r := r) (X := X) (cc := cX12_sharedBy) (own := RX12) (tab := tX12_sharedBy) G (by rw [hn]; exact kX12_sharedBy) (oI := (oF [(mX12_isOf N), (mX12_leads N)])) (oL := (oF [])) (oV := (oF [])) (rI := (fun x w => some (x, w))) (rL := (fun _ _ => none)) (rV := (fun _ => none))
    (K := (fun j ls st w => if j = 6 then (lgI ls 3 fun v3 => lgI ls 4 fun v4 => lgI ls 5 fun v5 => st0 st (k6 v3 v4 v5 w)) else none)) (fun x w pc ls hx hd => hr x w pc ls (Option.some.inj hx) hd) (fun _ _ _ _ hx => by cases hx) (fun _ _ _ hx => by cases hx) hC (fun ls => lsb [some (.inr (.inr (16, 0))), some (.inl a1), some (.inl a2), none, none, none, none, none] 0 ls) (keepsP_of rfl) ?_ 92 76 [some (.inr (.inr (16, 0))), some (.inl a1), some (.inl a2), some (.inl v3), some (.inl v4), some (.inl v5), none, none] [] w ?_ h
  · intro j ls st w hfx h
    obtain ⟨e0, e1, e2, -⟩ : _ = _ ∧ _ = _ ∧ _ = _ ∧ True := hfx
    try dsimp only at h
    by_cases hj : j = 6
    · subst hj
      rw [if_pos rfl] at h
      obtain ⟨v3, e3, h_1⟩ := lgI_some h
      obtain ⟨v4, e4, h_2⟩ := lgI_some h_1
      obtain ⟨v5, e5, h_3⟩ := lgI_some h_2
      obtain ⟨rfl, h_4⟩ := st0_some h_3
      clear h h_1 h_2 h_3
      have h := h_4
      try rw [callW_eq] at h
      exact WW.le (a := [some (.inr (.inr (16, 0))), some (.inl a1), some (.inl a2), some (.inl v3), some (.inl v4), some (.inl v5), none, none]) (by rw [hn]; rfl) (show _ = _ ∧ _ = _ ∧ _ = _ ∧ _ = _ ∧ _ = _ ∧ _ = _ ∧ True from ⟨e0, e1, e2, e3, e4, e5, trivial⟩) (h6 v3 v4 v5 w h)
    rw [if_neg hj] at h
    cases h
  · exact (show _ = _ ∧ _ = _ ∧ _ = _ ∧ True from ⟨rfl, rfl, rfl, trivial⟩)
set_option maxRecDepth 100000 in
set_option maxHeartbeats 4000000 in
theorem sX12_sharedBy_67 {N : Nat} {X : XT} (G : GX X cX12_sharedBy RX12) (hn : xnL X = 8) (hC : CRs X tX12_sharedBy (oF [(mX12_isOf N), (mX12_leads N)]) (oF []) (oF [])) {r : Int32 × Wd} (hr : RTI X cX12_sharedBy r) (a1 : Int32) (a2 : Int32) : ∀ (k13 : Int32 → Int32 → Int32 → Int32 → Wd → Option (Int32 × Wd)) (v3 : Int32) (v4 : Int32) (v5 : Int32) (v6 : Int32) (s0 : Int32) (w : Wd), fX12_sharedBy_67 N a1 a2 k13 v3 v4 v5 v6 s0 w = some r → (∀ (v3 : Int32) (v4 : Int32) (v5 : Int32) (v6 : Int32) (w : Wd), k13 v3 v4 v5 v6 w = some r → WW X (pcAt tX12_sharedBy 13) [some (.inr (.inr (16, 0))), some (.inl a1), some (.inl a2), some (.inl v3), some (.inl v4), some (.inl v5), some (.inl v6), none] [] w) → WW X (pcAt tX12_sharedBy 67) [some (.inr (.inr (16, 0))), some (.inl a1), some (.inl a2), some (.inl v3), some (.inl v4), some (.inl v5), some (.inl v6), none] [.inl s0] w := by
  intro k13 v3 v4 v5 v6 s0 w h h13
  refine run_sound (r := r) (X := X) (cc := cX12_sharedBy) (own := RX12) (tab := tX12_sharedBy) G (by rw [hn]; exact kX12_sharedBy) (oI := (oF [(mX12_isOf N), (mX12_leads N)])) (oL := (oF [])) (oV := (oF [])) (rI := (fun x w => some (x, w))) (rL := (fun _ _ => none)) (rV := (fun _ => none))
    (K := (fun j ls st w => if j = 13 then (lgI ls 3 fun v3 => lgI ls 4 fun v4 => lgI ls 5 fun v5 => lgI ls 6 fun v6 => st0 st (k13 v3 v4 v5 v6 w)) else none)) (fun x w pc ls hx hd => hr x w pc ls (Option.some.inj hx) hd) (fun _ _ _ _ hx => by cases hx) (fun _ _ _ hx => by cases hx) hC (fun ls => lsb [some (.inr (.inr (16, 0))), some (.inl a1), some (.inl a2), none, none, none, none, none] 0 ls) (keepsP_of rfl) ?_ 92 67 [some (.inr (.inr (16, 0))), some (.inl a1), some (.inl a2), some (.inl v3), some (.inl v4), some (.inl v5), some (.inl v6), none] [.inl s0] w ?_ h
  · intro j ls st w hfx h
    obtain ⟨e0, e1, e2, -⟩ : _ = _ ∧ _ = _ ∧ _ = _ ∧ True := hfx
    try dsimp only at h
    by_cases hj : j = 13
    · subst hj
      rw [if_pos rfl] at h
      obtain ⟨v3, e3, h_1⟩ := lgI_some h
      obtain ⟨v4, e4, h_2⟩ := lgI_some h_1
      obtain ⟨v5, e5, h_3⟩ := lgI_some h_2
      obtain ⟨v6, e6, h_4⟩ := lgI_some h_3
      obtain ⟨rfl, h_5⟩ := st0_some h_4
      clear h h_1 h_2 h_3 h_4
      have h := h_5
      try rw [callW_eq] at h
      exact WW.le (a := [some (.inr (.inr (16, 0))), some (.inl a1), some (.inl a2), some (.inl v3), some (.inl v4), some (.inl v5), some (.inl v6), none]) (by rw [hn]; rfl) (show _ = _ ∧ _ = _ ∧ _ = _ ∧ _ = _ ∧ _ = _ ∧ _ = _ ∧ _ = _ ∧ True from ⟨e0, e1, e2, e3, e4, e5, e6, trivial⟩) (h13 v3 v4 v5 v6 w h)
    rw [if_neg hj] at h
    cases h
  · exact (show _ = _ ∧ _ = _ ∧ _ = _ ∧ True from ⟨rfl, rfl, rfl, trivial⟩)
set_option maxRecDepth 100000 in
set_option maxHeartbeats 4000000 in
theorem sX12_sharedBy_66 {N : Nat} {X : XT} (G : GX X cX12_sharedBy RX12) (hn : xnL X = 8) (hC : CRs X tX12_sharedBy (oF [(mX12_isOf N), (mX12_leads N)]) (oF []) (oF [])) {r : Int32 × Wd} (hr : RTI X cX12_sharedBy r) (a1 : Int32) (a2 : Int32) : ∀ (k13 : Int32 → Int32 → Int32 → Int32 → Wd → Option (Int32 × Wd)) (v3 : Int32) (v4 : Int32) (v5 : Int32) (v6 : Int32) (w : Wd), fX12_sharedBy_66 N a1 a2 k13 v3 v4 v5 v6 w = some r → (∀ (v3 : Int32) (v4 : Int32) (v5 : Int32) (v6 : Int32) (w : Wd), k13 v3 v4 v5 v6 w = some r → WW X (pcAt tX12_sharedBy 13) [some (.inr (.inr (16, 0))), some (.inl a1), some (.inl a2), some (.inl v3), some (.inl v4), some (.inl v5), some (.inl v6), none] [] w) → WW X (pcAt tX12_sharedBy 66) [some (.inr (.inr (16, 0))), some (.inl a1), some (.inl a2), some (.inl v3), some (.inl v4), some (.inl v5), some (.inl v6), none] [] w := by
  intro k13 v3 v4 v5 v6 w h h13
  refine run_sound (r := r) (X := X) (cc := cX12_sharedBy) (own := RX12) (tab := tX12_sharedBy) G (by rw [hn]; exact kX12_sharedBy) (oI := (oF [(mX12_isOf N), (mX12_leads N)])) (oL := (oF [])) (oV := (oF [])) (rI := (fun x w => some (x, w))) (rL := (fun _ _ => none)) (rV := (fun _ => none))
    (K := (fun j ls st w => if j = 67 then (lgI ls 3 fun v3 => lgI ls 4 fun v4 => lgI ls 5 fun v5 => lgI ls 6 fun v6 => po1 st fun s0 st => st0 st (callW (fX12_sharedBy_67 N a1 a2 k13 v3 v4 v5 v6 s0) w)) else none)) (fun x w pc ls hx hd => hr x w pc ls (Option.some.inj hx) hd) (fun _ _ _ _ hx => by cases hx) (fun _ _ _ hx => by cases hx) hC (fun ls => lsb [some (.inr (.inr (16, 0))), some (.inl a1), some (.inl a2), none, none, none, none, none] 0 ls) (keepsP_of rfl) ?_ 92 66 [some (.inr (.inr (16, 0))), some (.inl a1), some (.inl a2), some (.inl v3), some (.inl v4), some (.inl v5), some (.inl v6), none] [] w ?_ h
  · intro j ls st w hfx h
    obtain ⟨e0, e1, e2, -⟩ : _ = _ ∧ _ = _ ∧ _ = _ ∧ True := hfx
    try dsimp only at h
    by_cases hj : j = 67
    · subst hj
      rw [if_pos rfl] at h
      obtain ⟨v3, e3, h_1⟩ := lgI_some h
      obtain ⟨v4, e4, h_2⟩ := lgI_some h_1
      obtain ⟨v5, e5, h_3⟩ := lgI_some h_2
      obtain ⟨v6, e6, h_4⟩ := lgI_some h_3
      obtain ⟨s0, st0, rfl, h_5⟩ := po1_some h_4
      obtain ⟨rfl, h_6⟩ := st0_some h_5
      clear h h_1 h_2 h_3 h_4 h_5
      have h := h_6
      try rw [callW_eq] at h
      exact WW.le (a := [some (.inr (.inr (16, 0))), some (.inl a1), some (.inl a2), some (.inl v3), some (.inl v4), some (.inl v5), some (.inl v6), none]) (by rw [hn]; rfl) (show _ = _ ∧ _ = _ ∧ _ = _ ∧ _ = _ ∧ _ = _ ∧ _ = _ ∧ _ = _ ∧ True from ⟨e0, e1, e2, e3, e4, e5, e6, trivial⟩) (sX12_sharedBy_67 G hn hC hr a1 a2 k13 v3 v4 v5 v6 s0 w h (fun v3 v4 v5 v6 w h => (h13 v3 v4 v5 v6 w h)))
    rw [if_neg hj] at h
    cases h
  · exact (show _ = _ ∧ _ = _ ∧ _ = _ ∧ True from ⟨rfl, rfl, rfl, trivial⟩)
set_option maxRecDepth 100000 in
set_option maxHeartbeats 4000000 in
theorem sX12_sharedBy_13 {N : Nat} {X : XT} (G : GX X cX12_sharedBy RX12) (hn : xnL X = 8) (hC : CRs X tX12_sharedBy (oF [(mX12_isOf N), (mX12_leads N)]) (oF []) (oF [])) {r : Int32 × Wd} (hr : RTI X cX12_sharedBy r) (a1 : Int32) (a2 : Int32) : ∀ (n : Nat) (k76 : Int32 → Int32 → Int32 → Wd → Option (Int32 × Wd)) (v3 : Int32) (v4 : Int32) (v5 : Int32) (v6 : Int32) (w : Wd), fX12_sharedBy_13 N a1 a2 n k76 v3 v4 v5 v6 w = some r → (∀ (v3 : Int32) (v4 : Int32) (v5 : Int32) (w : Wd), k76 v3 v4 v5 w = some r → WW X (pcAt tX12_sharedBy 76) [some (.inr (.inr (16, 0))), some (.inl a1), some (.inl a2), some (.inl v3), some (.inl v4), some (.inl v5), none, none] [] w) → WW X (pcAt tX12_sharedBy 13) [some (.inr (.inr (16, 0))), some (.inl a1), some (.inl a2), some (.inl v3), some (.inl v4), some (.inl v5), some (.inl v6), none] [] w := by
  intro n
  induction n with
  | zero => intro k76 v3 v4 v5 v6 w h h76; cases h
  | succ n ih =>
    intro k76 v3 v4 v5 v6 w h h76
    refine run_sound (r := r) (X := X) (cc := cX12_sharedBy) (own := RX12) (tab := tX12_sharedBy) G (by rw [hn]; exact kX12_sharedBy) (oI := (oF [(mX12_isOf N), (mX12_leads N)])) (oL := (oF [])) (oV := (oF [])) (rI := (fun x w => some (x, w))) (rL := (fun _ _ => none)) (rV := (fun _ => none))
      (K := (fun j ls st w => if j = 66 then (lgI ls 3 fun v3 => lgI ls 4 fun v4 => lgI ls 5 fun v5 => lgI ls 6 fun v6 => st0 st (callW (fX12_sharedBy_66 N a1 a2 (fX12_sharedBy_13 N a1 a2 n k76) v3 v4 v5 v6) w)) else if j = 67 then (lgI ls 3 fun v3 => lgI ls 4 fun v4 => lgI ls 5 fun v5 => lgI ls 6 fun v6 => po1 st fun s0 st => st0 st (callW (fX12_sharedBy_67 N a1 a2 (fX12_sharedBy_13 N a1 a2 n k76) v3 v4 v5 v6 s0) w)) else if j = 76 then (lgI ls 3 fun v3 => lgI ls 4 fun v4 => lgI ls 5 fun v5 => st0 st (k76 v3 v4 v5 w)) else none)) (fun x w pc ls hx hd => hr x w pc ls (Option.some.inj hx) hd) (fun _ _ _ _ hx => by cases hx) (fun _ _ _ hx => by cases hx) hC (fun ls => lsb [some (.inr (.inr (16, 0))), some (.inl a1), some (.inl a2), none, none, none, none, none] 0 ls) (keepsP_of rfl) ?_ 92 13 [some (.inr (.inr (16, 0))), some (.inl a1), some (.inl a2), some (.inl v3), some (.inl v4), some (.inl v5), some (.inl v6), none] [] w ?_ h
    · intro j ls st w hfx h
      obtain ⟨e0, e1, e2, -⟩ : _ = _ ∧ _ = _ ∧ _ = _ ∧ True := hfx
      try dsimp only at h
      by_cases hj : j = 66
      · subst hj
        rw [if_pos rfl] at h
        obtain ⟨v3, e3, h_1⟩ := lgI_some h
        obtain ⟨v4, e4, h_2⟩ := lgI_some h_1
        obtain ⟨v5, e5, h_3⟩ := lgI_some h_2
        obtain ⟨v6, e6, h_4⟩ := lgI_some h_3
        obtain ⟨rfl, h_5⟩ := st0_some h_4
        clear h h_1 h_2 h_3 h_4
        have h := h_5
        try rw [callW_eq] at h
        exact WW.le (a := [some (.inr (.inr (16, 0))), some (.inl a1), some (.inl a2), some (.inl v3), some (.inl v4), some (.inl v5), some (.inl v6), none]) (by rw [hn]; rfl) (show _ = _ ∧ _ = _ ∧ _ = _ ∧ _ = _ ∧ _ = _ ∧ _ = _ ∧ _ = _ ∧ True from ⟨e0, e1, e2, e3, e4, e5, e6, trivial⟩) (sX12_sharedBy_66 G hn hC hr a1 a2 (fX12_sharedBy_13 N a1 a2 n k76) v3 v4 v5 v6 w h (fun v3 v4 v5 v6 w h => (ih k76 v3 v4 v5 v6 w h h76)))
      rw [if_neg hj] at h
      by_cases hj : j = 67
      · subst hj
        rw [if_pos rfl] at h
        obtain ⟨v3, e3, h_1⟩ := lgI_some h
        obtain ⟨v4, e4, h_2⟩ := lgI_some h_1
        obtain ⟨v5, e5, h_3⟩ := lgI_some h_2
        obtain ⟨v6, e6, h_4⟩ := lgI_some h_3
        obtain ⟨s0, st0, rfl, h_5⟩ := po1_some h_4
        obtain ⟨rfl, h_6⟩ := st0_some h_5
        clear h h_1 h_2 h_3 h_4 h_5
        have h := h_6
        try rw [callW_eq] at h
        exact WW.le (a := [some (.inr (.inr (16, 0))), some (.inl a1), some (.inl a2), some (.inl v3), some (.inl v4), some (.inl v5), some (.inl v6), none]) (by rw [hn]; rfl) (show _ = _ ∧ _ = _ ∧ _ = _ ∧ _ = _ ∧ _ = _ ∧ _ = _ ∧ _ = _ ∧ True from ⟨e0, e1, e2, e3, e4, e5, e6, trivial⟩) (sX12_sharedBy_67 G hn hC hr a1 a2 (fX12_sharedBy_13 N a1 a2 n k76) v3 v4 v5 v6 s0 w h (fun v3 v4 v5 v6 w h => (ih k76 v3 v4 v5 v6 w h h76)))
      rw [if_neg hj] at h
      by_cases hj : j = 76
      · subst hj
        rw [if_pos rfl] at h
        obtain ⟨v3, e3, h_1⟩ := lgI_some h
        obtain ⟨v4, e4, h_2⟩ := lgI_some h_1
        obtain ⟨v5, e5, h_3⟩ := lgI_some h_2
        obtain ⟨rfl, h_4⟩ := st0_some h_3
        clear h h_1 h_2 h_3
        have h := h_4
        try rw [callW_eq] at h
        exact WW.le (a := [some (.inr (.inr (16, 0))), some (.inl a1), some (.inl a2), some (.inl v3), some (.inl v4), some (.inl v5), none, none]) (by rw [hn]; rfl) (show _ = _ ∧ _ = _ ∧ _ = _ ∧ _ = _ ∧ _ = _ ∧ _ = _ ∧ True from ⟨e0, e1, e2, e3, e4, e5, trivial⟩) (h76 v3 v4 v5 w h)
      rw [if_neg hj] at h
      cases h
    · exact (show _ = _ ∧ _ = _ ∧ _ = _ ∧ True from ⟨rfl, rfl, rfl, trivial⟩)
set_option maxRecDepth 100000 in
set_option maxHeartbeats 4000000 in
theorem sX12_sharedBy_6 {N : Nat} {X : XT} (G : GX X cX12_sharedBy RX12) (hn : xnL X = 8) (hC : CRs X tX12_sharedBy (oF [(mX12_isOf N), (mX12_leads N)]) (oF []) (oF [])) {r : Int32 × Wd} (hr : RTI X cX12_sharedBy r) (a1 : Int32) (a2 : Int32) : ∀ (n : Nat) (v3 : Int32) (v4 : Int32) (v5 : Int32) (w : Wd), fX12_sharedBy_6 N a1 a2 n v3 v4 v5 w = some r → WW X (pcAt tX12_sharedBy 6) [some (.inr (.inr (16, 0))), some (.inl a1), some (.inl a2), some (.inl v3), some (.inl v4), some (.inl v5), none, none] [] w := by
  intro n
  induction n with
  | zero => intro v3 v4 v5 w h; cases h
  | succ n ih =>
    intro v3 v4 v5 w h
    refine run_sound (r := r) (X := X) (cc := cX12_sharedBy) (own := RX12) (tab := tX12_sharedBy) G (by rw [hn]; exact kX12_sharedBy) (oI := (oF [(mX12_isOf N), (mX12_leads N)])) (oL := (oF [])) (oV := (oF [])) (rI := (fun x w => some (x, w))) (rL := (fun _ _ => none)) (rV := (fun _ => none))
      (K := (fun j ls st w => if j = 13 then (lgI ls 3 fun v3 => lgI ls 4 fun v4 => lgI ls 5 fun v5 => lgI ls 6 fun v6 => st0 st (callW (fX12_sharedBy_13 N a1 a2 N (fX12_sharedBy_76 N a1 a2 (fX12_sharedBy_6 N a1 a2 n)) v3 v4 v5 v6) w)) else none)) (fun x w pc ls hx hd => hr x w pc ls (Option.some.inj hx) hd) (fun _ _ _ _ hx => by cases hx) (fun _ _ _ hx => by cases hx) hC (fun ls => lsb [some (.inr (.inr (16, 0))), some (.inl a1), some (.inl a2), none, none, none, none, none] 0 ls) (keepsP_of rfl) ?_ 92 6 [some (.inr (.inr (16, 0))), some (.inl a1), some (.inl a2), some (.inl v3), some (.inl v4), some (.inl v5), none, none] [] w ?_ h
    · intro j ls st w hfx h
      obtain ⟨e0, e1, e2, -⟩ : _ = _ ∧ _ = _ ∧ _ = _ ∧ True := hfx
      try dsimp only at h
      by_cases hj : j = 13
      · subst hj
        rw [if_pos rfl] at h
        obtain ⟨v3, e3, h_1⟩ := lgI_some h
        obtain ⟨v4, e4, h_2⟩ := lgI_some h_1
        obtain ⟨v5, e5, h_3⟩ := lgI_some h_2
        obtain ⟨v6, e6, h_4⟩ := lgI_some h_3
        obtain ⟨rfl, h_5⟩ := st0_some h_4
        clear h h_1 h_2 h_3 h_4
        have h := h_5
        try rw [callW_eq] at h
        exact WW.le (a := [some (.inr (.inr (16, 0))), some (.inl a1), some (.inl a2), some (.inl v3), some (.inl v4), some (.inl v5), some (.inl v6), none]) (by rw [hn]; rfl) (show _ = _ ∧ _ = _ ∧ _ = _ ∧ _ = _ ∧ _ = _ ∧ _ = _ ∧ _ = _ ∧ True from ⟨e0, e1, e2, e3, e4, e5, e6, trivial⟩) (sX12_sharedBy_13 G hn hC hr a1 a2 N (fX12_sharedBy_76 N a1 a2 (fX12_sharedBy_6 N a1 a2 n)) v3 v4 v5 v6 w h (fun v3 v4 v5 w h => (sX12_sharedBy_76 G hn hC hr a1 a2 (fX12_sharedBy_6 N a1 a2 n) v3 v4 v5 w h (fun v3 v4 v5 w h => (ih v3 v4 v5 w h)))))
      rw [if_neg hj] at h
      cases h
    · exact (show _ = _ ∧ _ = _ ∧ _ = _ ∧ True from ⟨rfl, rfl, rfl, trivial⟩)
set_option maxRecDepth 100000 in
set_option maxHeartbeats 4000000 in
theorem crX12_sharedBy {N : Nat} {X : XT} (G : GX X cX12_sharedBy RX12) (hR : xR X = rmL 3) : CRs X tX12_sharedBy (oF [(mX12_isOf N), (mX12_leads N)]) (oF []) (oF []) := by
  have hl : tX12_sharedBy.filter isInv = [(51, .invokestatic 341, 0, 0, 2, 0, 0, []), (62, .invokevirtual 555, 0, 1, 3, 0, 0, [])] := rfl
  intro e he
  rw [hl] at he
  simp only [List.mem_cons, List.not_mem_nil, or_false] at he
  rcases he with rfl | rfl
  · exact crI_S (idx := 341) G (by decide +kernel) (MX12_isOf N) (cw_of (ps := [1579, 1580, 162, 1581]) (by decide +kernel) (by decide +kernel)) ⟨by decide +kernel, by decide +kernel, by decide +kernel⟩ (by unfold rmOk; rw [hR]; exact ⟨by decide, by decide⟩)
  · exact crI_V (idx := 555) G (by decide +kernel) (MX12_leads N) (cw_of (ps := [2231, 2233, 129, 162, 2234]) (by decide +kernel) (by decide +kernel)) ⟨by decide +kernel, by decide +kernel, by decide +kernel⟩ (by unfold rmOk; rw [hR]; exact ⟨by decide, by decide⟩)
set_option maxRecDepth 100000 in
set_option maxHeartbeats 4000000 in
theorem MX12_sharedBy (N : Nat) : SndI yX12_sharedBy cX12_sharedBy 8 (some .int) 3 3 true (mX12_sharedBy N) := by
  refine SndI.of tX12_sharedBy (by decide +kernel) rfl rfl ?_ ?_
  · intro as w x h
    obtain ⟨t1, rfl, h_1⟩ := xS1_some h
    obtain ⟨a1, t2, rfl, h_2⟩ := xI1_some h_1
    obtain ⟨a2, t3, rfl, h_3⟩ := xI1_some h_2
    obtain ⟨rfl, h_4⟩ := xN1_some h_3
    clear h h_1 h_2 h_3
    have h := h_4
    rw [callW_eq] at h
    exact ⟨fun _ => ⟨_, _, _, rfl, rfl, _, rfl, rfl⟩, rfl, Nat.le_of_ble_eq_true rfl⟩
  · intro X G hn hR as w r h hr
    have hC := crX12_sharedBy (N := N) G hR
    obtain ⟨t1, rfl, h_1⟩ := xS1_some h
    obtain ⟨a1, t2, rfl, h_2⟩ := xI1_some h_1
    obtain ⟨a2, t3, rfl, h_3⟩ := xI1_some h_2
    obtain ⟨rfl, h_4⟩ := xN1_some h_3
    clear h h_1 h_2 h_3
    have h := h_4
    rw [callW_eq] at h
    refine run_sound (r := r) (X := X) (cc := cX12_sharedBy) (own := RX12) (tab := tX12_sharedBy) G (by rw [hn]; exact kX12_sharedBy) (oI := (oF [(mX12_isOf N), (mX12_leads N)])) (oL := (oF [])) (oV := (oF [])) (rI := (fun x w => some (x, w))) (rL := (fun _ _ => none)) (rV := (fun _ => none))
      (K := (fun j ls st w => if j = 6 then (lgI ls 3 fun v3 => lgI ls 4 fun v4 => lgI ls 5 fun v5 => st0 st (callW (fX12_sharedBy_6 N a1 a2 N v3 v4 v5) w)) else none)) (fun x w pc ls hx hd => hr x w pc ls (Option.some.inj hx) hd) (fun _ _ _ _ hx => by cases hx) (fun _ _ _ hx => by cases hx) hC (fun ls => lsb [some (.inr (.inr (16, 0))), some (.inl a1), some (.inl a2), none, none, none, none, none] 0 ls) (keepsP_of rfl) ?_ 92 0 [some (.inr (.inr (16, 0))), some (.inl a1), some (.inl a2), none, none, none, none, none] [] w ?_ h
    · intro j ls st w hfx h
      obtain ⟨e0, e1, e2, -⟩ : _ = _ ∧ _ = _ ∧ _ = _ ∧ True := hfx
      try dsimp only at h
      by_cases hj : j = 6
      · subst hj
        rw [if_pos rfl] at h
        obtain ⟨v3, e3, h_1⟩ := lgI_some h
        obtain ⟨v4, e4, h_2⟩ := lgI_some h_1
        obtain ⟨v5, e5, h_3⟩ := lgI_some h_2
        obtain ⟨rfl, h_4⟩ := st0_some h_3
        clear h h_1 h_2 h_3
        have h := h_4
        try rw [callW_eq] at h
        exact WW.le (a := [some (.inr (.inr (16, 0))), some (.inl a1), some (.inl a2), some (.inl v3), some (.inl v4), some (.inl v5), none, none]) (by rw [hn]; rfl) (show _ = _ ∧ _ = _ ∧ _ = _ ∧ _ = _ ∧ _ = _ ∧ _ = _ ∧ True from ⟨e0, e1, e2, e3, e4, e5, trivial⟩) (sX12_sharedBy_6 G hn hC hr a1 a2 N v3 v4 v5 w h)
      rw [if_neg hj] at h
      cases h
    · exact (show _ = _ ∧ _ = _ ∧ _ = _ ∧ True from ⟨rfl, rfl, rfl, trivial⟩)
-- MoorGuidesModel.share(II)I
def tX12_share : List EN := [
  (0, .aload_n 0, 0, 0, 0, 0, 0, []), (1, .iconst 0, 0, 0, 0, 0, 0, []), (2, .putfield 196, 0, 12, 2, 0, 0, []), (5, .iload_n 1, 0, 0, 0, 0, 0, []),
  (6, .invokestatic 479, 0, 0, 1, 0, 0, []), (9, .ifCond .eq 16, 0, 13, 0, 0, 0, []), (12, .iload_n 2, 0, 0, 0, 0, 0, []), (13, .iconst (-1), 0, 0, 0, (-1), 0, []),
  (14, .if_icmp .lt 11, 0, 13, 0, 0, 0, []), (17, .iload_n 2, 0, 0, 0, 0, 0, []), (18, .aload_n 0, 0, 0, 0, 0, 0, []), (19, .getfield 301, 0, 12, 14, 0, 0, []),
  (22, .if_icmp .lt 5, 0, 15, 0, 0, 0, []), (25, .iconst (-1), 0, 0, 0, (-1), 0, []), (26, .ireturn, 0, 0, 0, 0, 0, []), (27, .aload_n 0, 0, 0, 0, 0, 0, []),
  (28, .iload_n 1, 0, 0, 0, 0, 0, []), (29, .invokevirtual 558, 0, 0, 2, 0, 0, [(0, 0), (0, 0)]), (32, .iload_n 2, 0, 0, 0, 0, 0, []), (33, .ifCond .ge 13, 0, 25, 0, 0, 0, []),
  (36, .aload_n 0, 0, 0, 0, 0, 0, []), (37, .getfield 151, 0, 12, 86, 0, 0, []), (40, .bipush 63, 0, 0, 0, 63, 0, []), (42, .iaload, 0, 0, 0, 0, 0, []),
  (43, .goto 9, 0, 29, 0, 0, 0, []), (46, .aload_n 0, 0, 0, 0, 0, 0, []), (47, .iload_n 2, 0, 0, 0, 0, 0, []), (48, .iload_n 1, 0, 0, 0, 0, 0, []),
  (49, .invokevirtual 561, 0, 1, 3, 0, 0, []), (52, .ireturn, 0, 0, 0, 0, 0, [])]
noncomputable def pX12_share (N : Nat) (a1 : Int32) (a2 : Int32) (w : Wd) : Option (Int32 × Wd) :=
  (callW (pX12_isNight N a1) (setI w 16 0 2 (0 : Int32))).bind fun r1 =>
  if r1.1 = 0 then some ((-1 : Int32), r1.2) else
  if a2 < (-1 : Int32) then some ((-1 : Int32), r1.2) else
  if a2 < (gI r1.2 16 0 14) then
    (callW (pX12_layShares N a1) r1.2).bind fun w2 =>
    if a2 < 0 then
      (ldI w2 118 0 (63 : Int32) 576).bind fun x3 =>
      some (x3, w2)
    else
    (callW (pX12_sharedBy N a2 a1) w2).bind fun r4 =>
    some (r4.1, r4.2)
  else
  some ((-1 : Int32), r1.2)
noncomputable def mX12_share (N : Nat) (as : List AV) (w : Wd) : Option (Int32 × Wd) := xS1 16 as fun t => xI1 t fun a1 t => xI1 t fun a2 t => xN1 t (callW (pX12_share N a1 a2) w)
set_option maxRecDepth 100000 in
set_option maxHeartbeats 4000000 in
theorem kX12_share : TK cX12_share RX12 3 tX12_share := ⟨by decide +kernel, wok_of [1592, 1604, 1676] (by decide +kernel) (by decide +kernel)⟩
set_option maxRecDepth 100000 in
set_option maxHeartbeats 4000000 in
theorem crX12_share {N : Nat} {X : XT} (G : GX X cX12_share RX12) (hR : xR X = rmL 6) : CRs X tX12_share (oF [(mX12_isNight N), (mX12_sharedBy N)]) (oF []) (oF [(mX12_layShares N)]) := by
  have hl : tX12_share.filter isInv = [(6, .invokestatic 479, 0, 0, 1, 0, 0, []), (29, .invokevirtual 558, 0, 0, 2, 0, 0, [(0, 0), (0, 0)]), (49, .invokevirtual 561, 0, 1, 3, 0, 0, [])] := rfl
  intro e he
  rw [hl] at he
  simp only [List.mem_cons, List.not_mem_nil, or_false] at he
  rcases he with rfl | rfl | rfl
  · exact crI_S (idx := 479) G (by decide +kernel) (MX12_isNight N) (cw_of (ps := [2106, 2107, 162, 2108]) (by decide +kernel) (by decide +kernel)) ⟨by decide +kernel, by decide +kernel, by decide +kernel⟩ (by unfold rmOk; rw [hR]; exact ⟨by decide, by decide⟩)
  · exact crV_V (idx := 558) G (by decide +kernel) (MX12_layShares N) (cw_of (ps := [2227, 2229, 128, 162, 2230]) (by decide +kernel) (by decide +kernel)) ⟨by decide +kernel, by decide +kernel, by decide +kernel⟩ (by unfold rmOk; rw [hR]; exact ⟨by decide, by decide⟩)
  · exact crI_V (idx := 561) G (by decide +kernel) (MX12_sharedBy N) (cw_of (ps := [2235, 2237, 130, 162, 2238]) (by decide +kernel) (by decide +kernel)) ⟨by decide +kernel, by decide +kernel, by decide +kernel⟩ (by unfold rmOk; rw [hR]; exact ⟨by decide, by decide⟩)
set_option maxRecDepth 100000 in
set_option maxHeartbeats 4000000 in
theorem MX12_share (N : Nat) : SndI yX12_share cX12_share 3 (some .int) 6 3 true (mX12_share N) := by
  refine SndI.of tX12_share (by decide +kernel) rfl rfl ?_ ?_
  · intro as w x h
    obtain ⟨t1, rfl, h_1⟩ := xS1_some h
    obtain ⟨a1, t2, rfl, h_2⟩ := xI1_some h_1
    obtain ⟨a2, t3, rfl, h_3⟩ := xI1_some h_2
    obtain ⟨rfl, h_4⟩ := xN1_some h_3
    clear h h_1 h_2 h_3
    have h := h_4
    rw [callW_eq] at h
    exact ⟨fun _ => ⟨_, _, _, rfl, rfl, _, rfl, rfl⟩, rfl, Nat.le_of_ble_eq_true rfl⟩
  · intro X G hn hR as w r h hr
    have hC := crX12_share (N := N) G hR
    obtain ⟨t1, rfl, h_1⟩ := xS1_some h
    obtain ⟨a1, t2, rfl, h_2⟩ := xI1_some h_1
    obtain ⟨a2, t3, rfl, h_3⟩ := xI1_some h_2
    obtain ⟨rfl, h_4⟩ := xN1_some h_3
    clear h h_1 h_2 h_3
    have h := h_4
    rw [callW_eq] at h
    refine run_sound (r := r) (X := X) (cc := cX12_share) (own := RX12) (tab := tX12_share) G (by rw [hn]; exact kX12_share) (oI := (oF [(mX12_isNight N), (mX12_sharedBy N)])) (oL := (oF [])) (oV := (oF [(mX12_layShares N)])) (rI := (fun x w => some (x, w))) (rL := (fun _ _ => none)) (rV := (fun _ => none))
      (K := (fun j ls st w => none)) (fun x w pc ls hx hd => hr x w pc ls (Option.some.inj hx) hd) (fun _ _ _ _ hx => by cases hx) (fun _ _ _ hx => by cases hx) hC (fun ls => lsb [some (.inr (.inr (16, 0))), some (.inl a1), some (.inl a2)] 0 ls) (keepsP_of rfl) ?_ 32 0 [some (.inr (.inr (16, 0))), some (.inl a1), some (.inl a2)] [] w ?_ h
    · intro j ls st w hfx h
      obtain ⟨e0, e1, e2, -⟩ : _ = _ ∧ _ = _ ∧ _ = _ ∧ True := hfx
      try dsimp only at h
      cases h
    · exact (show _ = _ ∧ _ = _ ∧ _ = _ ∧ True from ⟨rfl, rfl, rfl, trivial⟩)
-- MoorGuidesModel.worth(II)I
def tX12_worth : List EN := [
  (0, .aload_n 0, 0, 0, 0, 0, 0, []), (1, .iconst 0, 0, 0, 0, 0, 0, []), (2, .putfield 196, 0, 12, 2, 0, 0, []), (5, .aload_n 0, 0, 0, 0, 0, 0, []),
  (6, .iload_n 1, 0, 0, 0, 0, 0, []), (7, .invokevirtual 463, 0, 0, 2, 0, 0, []), (10, .ifCond .eq 10, 0, 10, 0, 0, 0, []), (13, .iload_n 2, 0, 0, 0, 0, 0, []),
  (14, .invokestatic 479, 0, 1, 1, 0, 0, []), (17, .ifCond .ne 5, 0, 12, 0, 0, 0, []), (20, .iconst (-1), 0, 0, 0, (-1), 0, []), (21, .ireturn, 0, 0, 0, 0, 0, []),
  (22, .aload_n 0, 0, 0, 0, 0, 0, []), (23, .iload_n 2, 0, 0, 0, 0, 0, []), (24, .invokevirtual 558, 0, 0, 2, 0, 0, [(0, 0), (0, 0)]), (27, .aload_n 0, 0, 0, 0, 0, 0, []),
  (28, .getfield 151, 0, 12, 86, 0, 0, []), (31, .bipush 63, 0, 0, 0, 63, 0, []), (33, .iaload, 0, 0, 0, 0, 0, []), (34, .aload_n 0, 0, 0, 0, 0, 0, []),
  (35, .getfield 151, 0, 12, 86, 0, 0, []), (38, .bipush 63, 0, 0, 0, 63, 0, []), (40, .iconst 1, 0, 0, 0, 1, 0, []), (41, .iload_n 1, 0, 0, 0, 0, 0, []),
  (42, .ishl, 0, 0, 0, 0, 0, []), (43, .iconst (-1), 0, 0, 0, (-1), 0, []), (44, .ixor, 0, 0, 0, 0, 0, []), (45, .iand, 0, 0, 0, 0, 0, []),
  (46, .iaload, 0, 0, 0, 0, 0, []), (47, .isub, 0, 0, 0, 0, 0, []), (48, .ireturn, 0, 0, 0, 0, 0, [])]
noncomputable def pX12_worth (N : Nat) (a1 : Int32) (a2 : Int32) (w : Wd) : Option (Int32 × Wd) :=
  (callW (pX12_isPerson N a1) (setI w 16 0 2 (0 : Int32))).bind fun r1 =>
  if r1.1 = 0 then some ((-1 : Int32), r1.2) else
  (callW (pX12_isNight N a2) r1.2).bind fun r2 =>
  if r2.1 = 0 then some ((-1 : Int32), r2.2) else
  (callW (pX12_layShares N a2) r2.2).bind fun w3 =>
  (ldI w3 118 0 (63 : Int32) 576).bind fun x4 =>
  (ldI w3 118 0 ((63 : Int32) &&& (((1 : Int32) <<< (a1 &&& (31 : Int32))) ^^^ (-1 : Int32))) 576).bind fun x5 =>
  some ((x4 - x5), w3)
noncomputable def mX12_worth (N : Nat) (as : List AV) (w : Wd) : Option (Int32 × Wd) := xS1 16 as fun t => xI1 t fun a1 t => xI1 t fun a2 t => xN1 t (callW (pX12_worth N a1 a2) w)
set_option maxRecDepth 100000 in
set_option maxHeartbeats 4000000 in
theorem kX12_worth : TK cX12_worth RX12 3 tX12_worth := ⟨by decide +kernel, wok_of [1592, 1676, 1676] (by decide +kernel) (by decide +kernel)⟩
set_option maxRecDepth 100000 in
set_option maxHeartbeats 4000000 in
theorem crX12_worth {N : Nat} {X : XT} (G : GX X cX12_worth RX12) (hR : xR X = rmL 6) : CRs X tX12_worth (oF [(mX12_isPerson N), (mX12_isNight N)]) (oF []) (oF [(mX12_layShares N)]) := by
  have hl : tX12_worth.filter isInv = [(7, .invokevirtual 463, 0, 0, 2, 0, 0, []), (14, .invokestatic 479, 0, 1, 1, 0, 0, []), (24, .invokevirtual 558, 0, 0, 2, 0, 0, [(0, 0), (0, 0)])] := rfl
  intro e he
  rw [hl] at he
  simp only [List.mem_cons, List.not_mem_nil, or_false] at he
  rcases he with rfl | rfl | rfl
  · exact crI_V (idx := 463) G (by decide +kernel) (MX12_isPerson N) (cw_of (ps := [2070, 2072, 104, 162, 2073]) (by decide +kernel) (by decide +kernel)) ⟨by decide +kernel, by decide +kernel, by decide +kernel⟩ (by unfold rmOk; rw [hR]; exact ⟨by decide, by decide⟩)
  · exact crI_S (idx := 479) G (by decide +kernel) (MX12_isNight N) (cw_of (ps := [2106, 2107, 162, 2108]) (by decide +kernel) (by decide +kernel)) ⟨by decide +kernel, by decide +kernel, by decide +kernel⟩ (by unfold rmOk; rw [hR]; exact ⟨by decide, by decide⟩)
  · exact crV_V (idx := 558) G (by decide +kernel) (MX12_layShares N) (cw_of (ps := [2227, 2229, 128, 162, 2230]) (by decide +kernel) (by decide +kernel)) ⟨by decide +kernel, by decide +kernel, by decide +kernel⟩ (by unfold rmOk; rw [hR]; exact ⟨by decide, by decide⟩)
set_option maxRecDepth 100000 in
set_option maxHeartbeats 4000000 in
theorem MX12_worth (N : Nat) : SndI yX12_worth cX12_worth 3 (some .int) 6 3 true (mX12_worth N) := by
  refine SndI.of tX12_worth (by decide +kernel) rfl rfl ?_ ?_
  · intro as w x h
    obtain ⟨t1, rfl, h_1⟩ := xS1_some h
    obtain ⟨a1, t2, rfl, h_2⟩ := xI1_some h_1
    obtain ⟨a2, t3, rfl, h_3⟩ := xI1_some h_2
    obtain ⟨rfl, h_4⟩ := xN1_some h_3
    clear h h_1 h_2 h_3
    have h := h_4
    rw [callW_eq] at h
    exact ⟨fun _ => ⟨_, _, _, rfl, rfl, _, rfl, rfl⟩, rfl, Nat.le_of_ble_eq_true rfl⟩
  · intro X G hn hR as w r h hr
    have hC := crX12_worth (N := N) G hR
    obtain ⟨t1, rfl, h_1⟩ := xS1_some h
    obtain ⟨a1, t2, rfl, h_2⟩ := xI1_some h_1
    obtain ⟨a2, t3, rfl, h_3⟩ := xI1_some h_2
    obtain ⟨rfl, h_4⟩ := xN1_some h_3
    clear h h_1 h_2 h_3
    have h := h_4
    rw [callW_eq] at h
    refine run_sound (r := r) (X := X) (cc := cX12_worth) (own := RX12) (tab := tX12_worth) G (by rw [hn]; exact kX12_worth) (oI := (oF [(mX12_isPerson N), (mX12_isNight N)])) (oL := (oF [])) (oV := (oF [(mX12_layShares N)])) (rI := (fun x w => some (x, w))) (rL := (fun _ _ => none)) (rV := (fun _ => none))
      (K := (fun j ls st w => none)) (fun x w pc ls hx hd => hr x w pc ls (Option.some.inj hx) hd) (fun _ _ _ _ hx => by cases hx) (fun _ _ _ hx => by cases hx) hC (fun ls => lsb [some (.inr (.inr (16, 0))), some (.inl a1), some (.inl a2)] 0 ls) (keepsP_of rfl) ?_ 33 0 [some (.inr (.inr (16, 0))), some (.inl a1), some (.inl a2)] [] w ?_ h
    · intro j ls st w hfx h
      obtain ⟨e0, e1, e2, -⟩ : _ = _ ∧ _ = _ ∧ _ = _ ∧ True := hfx
      try dsimp only at h
      cases h
    · exact (show _ = _ ∧ _ = _ ∧ _ = _ ∧ True from ⟨rfl, rfl, rfl, trivial⟩)
-- MoorGuidesModel.areParts(I)Z
def tX12_areParts : List EN := [
  (0, .iload_n 1, 0, 0, 0, 0, 0, []), (1, .ifCond .lt 16, 0, 9, 0, 0, 0, []), (4, .iload_n 1, 0, 0, 0, 0, 0, []), (5, .aload_n 0, 0, 0, 0, 0, 0, []),
  (6, .getfield 295, 0, 12, 12, 0, 0, []), (9, .ishr, 0, 0, 0, 0, 0, []), (10, .ifCond .ne 7, 0, 9, 0, 0, 0, []), (13, .iconst 1, 0, 0, 0, 1, 0, []),
  (14, .goto 4, 0, 10, 0, 0, 0, []), (17, .iconst 0, 0, 0, 0, 0, 0, []), (18, .ireturn, 0, 0, 0, 0, 0, [])]
noncomputable def pX12_areParts (N : Nat) (a1 : Int32) (w : Wd) : Option (Int32 × Wd) :=
  if a1 < 0 then some ((0 : Int32), w) else
  if (a1 >>> ((gI w 16 0 12) &&& (31 : Int32))) = 0 then some ((1 : Int32), w) else
  some ((0 : Int32), w)
noncomputable def mX12_areParts (N : Nat) (as : List AV) (w : Wd) : Option (Int32 × Wd) := xS1 16 as fun t => xI1 t fun a1 t => xN1 t (callW (pX12_areParts N a1) w)
set_option maxRecDepth 100000 in
set_option maxHeartbeats 4000000 in
theorem kX12_areParts : TK cX12_areParts RX12 2 tX12_areParts := ⟨by decide +kernel, wok_of [1602] (by decide +kernel) (by decide +kernel)⟩
set_option maxRecDepth 100000 in
set_option maxHeartbeats 4000000 in
theorem crX12_areParts {N : Nat} {X : XT} (G : GX X cX12_areParts RX12) (hR : xR X = rmL 1) : CRs X tX12_areParts (oF []) (oF []) (oF []) := by
  have hl : tX12_areParts.filter isInv = [] := rfl
  intro e he
  rw [hl] at he
  cases he
set_option maxRecDepth 100000 in
set_option maxHeartbeats 4000000 in
theorem MX12_areParts (N : Nat) : SndI yX12_areParts cX12_areParts 2 (some .boolean) 1 2 true (mX12_areParts N) := by
  refine SndI.ofZ tX12_areParts (by decide +kernel) rfl rfl ?_ ?_
  · intro as w x h
    obtain ⟨t1, rfl, h_1⟩ := xS1_some h
    obtain ⟨a1, t2, rfl, h_2⟩ := xI1_some h_1
    obtain ⟨rfl, h_3⟩ := xN1_some h_2
    clear h h_1 h_2
    have h := h_3
    rw [callW_eq] at h
    exact ⟨fun _ => ⟨_, _, _, rfl, rfl, _, rfl, rfl⟩, rfl, Nat.le_of_ble_eq_true rfl⟩
  · intro X G hn hR as w r h hr
    have hC := crX12_areParts (N := N) G hR
    obtain ⟨t1, rfl, h_1⟩ := xS1_some h
    obtain ⟨a1, t2, rfl, h_2⟩ := xI1_some h_1
    obtain ⟨rfl, h_3⟩ := xN1_some h_2
    clear h h_1 h_2
    have h := h_3
    rw [callW_eq] at h
    refine run_sound (r := r) (X := X) (cc := cX12_areParts) (own := RX12) (tab := tX12_areParts) G (by rw [hn]; exact kX12_areParts) (oI := (oF [])) (oL := (oF [])) (oV := (oF [])) (rI := retZ) (rL := (fun _ _ => none)) (rV := (fun _ => none))
      (K := (fun j ls st w => none)) hr (fun _ _ _ _ hx => by cases hx) (fun _ _ _ hx => by cases hx) hC (fun ls => lsb [some (.inr (.inr (16, 0))), some (.inl a1)] 0 ls) (keepsP_of rfl) ?_ 13 0 [some (.inr (.inr (16, 0))), some (.inl a1)] [] w ?_ h
    · intro j ls st w hfx h
      obtain ⟨e0, e1, -⟩ : _ = _ ∧ _ = _ ∧ True := hfx
      try dsimp only at h
      cases h
    · exact (show _ = _ ∧ _ = _ ∧ True from ⟨rfl, rfl, trivial⟩)
-- MoorGuidesModel.priceLed(I)I
def tX12_priceLed : List EN := [
  (0, .iconst 0, 0, 0, 0, 0, 0, []), (1, .istore_n 2, 0, 0, 0, 0, 0, []), (2, .iconst 0, 0, 0, 0, 0, 0, []), (3, .istore_n 3, 0, 0, 0, 0, 0, []),
  (4, .iload_n 3, 5, 0, 0, 0, 0, []), (5, .aload_n 0, 0, 0, 0, 0, 0, []), (6, .getfield 301, 0, 12, 14, 0, 0, []), (9, .if_icmp .ge 40, 0, 29, 0, 0, 0, []),
  (12, .iload_n 2, 0, 0, 0, 0, 0, []), (13, .aload_n 0, 0, 0, 0, 0, 0, []), (14, .getfield 53, 0, 12, 42, 0, 0, []), (17, .iload_n 3, 0, 0, 0, 0, 0, []),
  (18, .iaload, 0, 0, 0, 0, 0, []), (19, .iload_n 1, 0, 0, 0, 0, 0, []), (20, .if_icmp .ne 20, 0, 24, 0, 0, 0, []), (23, .aload_n 0, 0, 0, 0, 0, 0, []),
  (24, .iload_n 3, 0, 0, 0, 0, 0, []), (25, .invokevirtual 564, 0, 0, 2, 0, 0, []), (28, .ifCond .eq 12, 0, 24, 0, 0, 0, []), (31, .aload_n 0, 0, 0, 0, 0, 0, []),
  (32, .getfield 56, 0, 12, 43, 0, 0, []), (35, .iload_n 3, 0, 0, 0, 0, 0, []), (36, .iaload, 0, 0, 0, 0, 0, []), (37, .goto 4, 0, 25, 0, 0, 0, []),
  (40, .iconst 0, 0, 0, 0, 0, 0, []), (41, .iadd, 0, 0, 0, 0, 0, []), (42, .istore_n 2, 0, 0, 0, 0, 0, []), (43, .iinc 3 1, 0, 0, 0, 1, 0, []),
  (46, .goto (-42), 0, 4, 0, 0, 0, []), (49, .iload_n 2, 0, 0, 0, 0, 0, []), (50, .ireturn, 0, 0, 0, 0, 0, [])]
noncomputable def fX12_priceLed_4 (N : Nat) (a1 : Int32) : Nat → Int32 → Int32 → Wd → Option (Int32 × Wd)
  | 0, _, _, _ => none
  | n + 1, v2, v3, w =>
    if v3 < (gI w 16 0 14) then
      (ldI w 86 0 v3 16).bind fun x1 =>
      if x1 = a1 then
        (callW (pX12_isLed N v3) w).bind fun r2 =>
        if r2.1 = 0 then callW (fX12_priceLed_4 N a1 n (v2 + (0 : Int32)) (v3 + (1 : Int32))) r2.2 else
        (ldI r2.2 87 0 v3 16).bind fun x3 =>
        callW (fX12_priceLed_4 N a1 n (v2 + x3) (v3 + (1 : Int32))) r2.2
      else
      callW (fX12_priceLed_4 N a1 n (v2 + (0 : Int32)) (v3 + (1 : Int32))) w
    else
    some (v2, w)
noncomputable def pX12_priceLed (N : Nat) (a1 : Int32) (w : Wd) : Option (Int32 × Wd) :=
  callW (fX12_priceLed_4 N a1 N (0 : Int32) (0 : Int32)) w
noncomputable def mX12_priceLed (N : Nat) (as : List AV) (w : Wd) : Option (Int32 × Wd) := xS1 16 as fun t => xI1 t fun a1 t => xN1 t (callW (pX12_priceLed N a1) w)
set_option maxRecDepth 100000 in
set_option maxHeartbeats 4000000 in
theorem kX12_priceLed : TK cX12_priceLed RX12 4 tX12_priceLed := ⟨by decide +kernel, wok_of [1604, 1632, 1633] (by decide +kernel) (by decide +kernel)⟩
set_option maxRecDepth 100000 in
set_option maxHeartbeats 4000000 in
theorem sX12_priceLed_4 {N : Nat} {X : XT} (G : GX X cX12_priceLed RX12) (hn : xnL X = 4) (hC : CRs X tX12_priceLed (oF [(mX12_isLed N)]) (oF []) (oF [])) {r : Int32 × Wd} (hr : RTI X cX12_priceLed r) (a1 : Int32) : ∀ (n : Nat) (v2 : Int32) (v3 : Int32) (w : Wd), fX12_priceLed_4 N a1 n v2 v3 w = some r → WW X (pcAt tX12_priceLed 4) [some (.inr (.inr (16, 0))), some (.inl a1), some (.inl v2), some (.inl v3)] [] w := by
  intro n
  induction n with
  | zero => intro v2 v3 w h; cases h
  | succ n ih =>
    intro v2 v3 w h
    refine run_sound (r := r) (X := X) (cc := cX12_priceLed) (own := RX12) (tab := tX12_priceLed) G (by rw [hn]; exact kX12_priceLed) (oI := (oF [(mX12_isLed N)])) (oL := (oF [])) (oV := (oF [])) (rI := (fun x w => some (x, w))) (rL := (fun _ _ => none)) (rV := (fun _ => none))
      (K := (fun j ls st w => if j = 4 then (lgI ls 2 fun v2 => lgI ls 3 fun v3 => st0 st (callW (fX12_priceLed_4 N a1 n v2 v3) w)) else none)) (fun x w pc ls hx hd => hr x w pc ls (Option.some.inj hx) hd) (fun _ _ _ _ hx => by cases hx) (fun _ _ _ hx => by cases hx) hC (fun ls => lsb [some (.inr (.inr (16, 0))), some (.inl a1), none, none] 0 ls) (keepsP_of rfl) ?_ 33 4 [some (.inr (.inr (16, 0))), some (.inl a1), some (.inl v2), some (.inl v3)] [] w ?_ h
    · intro j ls st w hfx h
      obtain ⟨e0, e1, -⟩ : _ = _ ∧ _ = _ ∧ True := hfx
      try dsimp only at h
      by_cases hj : j = 4
      · subst hj
        rw [if_pos rfl] at h
        obtain ⟨v2, e2, h_1⟩ := lgI_some h
        obtain ⟨v3, e3, h_2⟩ := lgI_some h_1
        obtain ⟨rfl, h_3⟩ := st0_some h_2
        clear h h_1 h_2
        have h := h_3
        try rw [callW_eq] at h
        exact WW.le (a := [some (.inr (.inr (16, 0))), some (.inl a1), some (.inl v2), some (.inl v3)]) (by rw [hn]; rfl) (show _ = _ ∧ _ = _ ∧ _ = _ ∧ _ = _ ∧ True from ⟨e0, e1, e2, e3, trivial⟩) (ih v2 v3 w h)
      rw [if_neg hj] at h
      cases h
    · exact (show _ = _ ∧ _ = _ ∧ True from ⟨rfl, rfl, trivial⟩)
set_option maxRecDepth 100000 in
set_option maxHeartbeats 4000000 in
theorem crX12_priceLed {N : Nat} {X : XT} (G : GX X cX12_priceLed RX12) (hR : xR X = rmL 6) : CRs X tX12_priceLed (oF [(mX12_isLed N)]) (oF []) (oF []) := by
  have hl : tX12_priceLed.filter isInv = [(25, .invokevirtual 564, 0, 0, 2, 0, 0, [])] := rfl
  intro e he
  rw [hl] at he
  simp only [List.mem_cons, List.not_mem_nil, or_false] at he
  rcases he with rfl
  · exact crI_V (idx := 564) G (by decide +kernel) (MX12_isLed N) (cw_of (ps := [2255, 2257, 133, 162, 2258]) (by decide +kernel) (by decide +kernel)) ⟨by decide +kernel, by decide +kernel, by decide +kernel⟩ (by unfold rmOk; rw [hR]; exact ⟨by decide, by decide⟩)
set_option maxRecDepth 100000 in
set_option maxHeartbeats 4000000 in
theorem MX12_priceLed (N : Nat) : SndI yX12_priceLed cX12_priceLed 4 (some .int) 6 2 true (mX12_priceLed N) := by
  refine SndI.of tX12_priceLed (by decide +kernel) rfl rfl ?_ ?_
  · intro as w x h
    obtain ⟨t1, rfl, h_1⟩ := xS1_some h
    obtain ⟨a1, t2, rfl, h_2⟩ := xI1_some h_1
    obtain ⟨rfl, h_3⟩ := xN1_some h_2
    clear h h_1 h_2
    have h := h_3
    rw [callW_eq] at h
    exact ⟨fun _ => ⟨_, _, _, rfl, rfl, _, rfl, rfl⟩, rfl, Nat.le_of_ble_eq_true rfl⟩
  · intro X G hn hR as w r h hr
    have hC := crX12_priceLed (N := N) G hR
    obtain ⟨t1, rfl, h_1⟩ := xS1_some h
    obtain ⟨a1, t2, rfl, h_2⟩ := xI1_some h_1
    obtain ⟨rfl, h_3⟩ := xN1_some h_2
    clear h h_1 h_2
    have h := h_3
    rw [callW_eq] at h
    refine run_sound (r := r) (X := X) (cc := cX12_priceLed) (own := RX12) (tab := tX12_priceLed) G (by rw [hn]; exact kX12_priceLed) (oI := (oF [(mX12_isLed N)])) (oL := (oF [])) (oV := (oF [])) (rI := (fun x w => some (x, w))) (rL := (fun _ _ => none)) (rV := (fun _ => none))
      (K := (fun j ls st w => if j = 4 then (lgI ls 2 fun v2 => lgI ls 3 fun v3 => st0 st (callW (fX12_priceLed_4 N a1 N v2 v3) w)) else none)) (fun x w pc ls hx hd => hr x w pc ls (Option.some.inj hx) hd) (fun _ _ _ _ hx => by cases hx) (fun _ _ _ hx => by cases hx) hC (fun ls => lsb [some (.inr (.inr (16, 0))), some (.inl a1), none, none] 0 ls) (keepsP_of rfl) ?_ 33 0 [some (.inr (.inr (16, 0))), some (.inl a1), none, none] [] w ?_ h
    · intro j ls st w hfx h
      obtain ⟨e0, e1, -⟩ : _ = _ ∧ _ = _ ∧ True := hfx
      try dsimp only at h
      by_cases hj : j = 4
      · subst hj
        rw [if_pos rfl] at h
        obtain ⟨v2, e2, h_1⟩ := lgI_some h
        obtain ⟨v3, e3, h_2⟩ := lgI_some h_1
        obtain ⟨rfl, h_3⟩ := st0_some h_2
        clear h h_1 h_2
        have h := h_3
        try rw [callW_eq] at h
        exact WW.le (a := [some (.inr (.inr (16, 0))), some (.inl a1), some (.inl v2), some (.inl v3)]) (by rw [hn]; rfl) (show _ = _ ∧ _ = _ ∧ _ = _ ∧ _ = _ ∧ True from ⟨e0, e1, e2, e3, trivial⟩) (sX12_priceLed_4 G hn hC hr a1 N v2 v3 w h)
      rw [if_neg hj] at h
      cases h
    · exact (show _ = _ ∧ _ = _ ∧ True from ⟨rfl, rfl, trivial⟩)
-- MoorGuidesModel.stranger(II)I
def tX12_stranger : List EN := [
  (0, .aload_n 0, 0, 0, 0, 0, 0, []), (1, .iconst 0, 0, 0, 0, 0, 0, []), (2, .putfield 196, 0, 12, 2, 0, 0, []), (5, .aload_n 0, 0, 0, 0, 0, 0, []),
  (6, .iload_n 1, 0, 0, 0, 0, 0, []), (7, .invokevirtual 567, 0, 0, 2, 0, 0, []), (10, .ifCond .eq 10, 0, 10, 0, 0, 0, []), (13, .iload_n 2, 0, 0, 0, 0, 0, []),
  (14, .invokestatic 479, 0, 1, 1, 0, 0, []), (17, .ifCond .ne 5, 0, 12, 0, 0, 0, []), (20, .iconst (-1), 0, 0, 0, (-1), 0, []), (21, .ireturn, 0, 0, 0, 0, 0, []),
  (22, .aload_n 0, 0, 0, 0, 0, 0, []), (23, .iconst 0, 0, 0, 0, 0, 0, []), (24, .iload_n 2, 0, 0, 0, 0, 0, []), (25, .iconst 0, 0, 0, 0, 0, 0, []),
  (26, .invokevirtual 549, 0, 0, 4, 0, 0, [(0, 0), (0, 0)]), (29, .aload_n 0, 0, 0, 0, 0, 0, []), (30, .iload_n 2, 0, 0, 0, 0, 0, []), (31, .invokevirtual 570, 0, 2, 2, 0, 0, []),
  (34, .istore_n 3, 0, 0, 0, 0, 0, []), (35, .aload_n 0, 0, 0, 0, 0, 0, []), (36, .getfield 130, 0, 12, 77, 0, 0, []), (39, .bipush 6, 0, 0, 0, 6, 0, []),
  (41, .iload_n 1, 0, 0, 0, 0, 0, []), (42, .iastore, 0, 0, 0, 0, 0, []), (43, .aload_n 0, 0, 0, 0, 0, 0, []), (44, .iload_n 2, 0, 0, 0, 0, 0, []),
  (45, .invokevirtual 570, 0, 2, 2, 0, 0, []), (48, .iload_n 3, 0, 0, 0, 0, 0, []), (49, .isub, 0, 0, 0, 0, 0, []), (50, .ireturn, 0, 0, 0, 0, 0, [])]
noncomputable def pX12_stranger (N : Nat) (a1 : Int32) (a2 : Int32) (w : Wd) : Option (Int32 × Wd) :=
  (callW (pX12_areParts N a1) (setI w 16 0 2 (0 : Int32))).bind fun r1 =>
  if r1.1 = 0 then some ((-1 : Int32), r1.2) else
  (callW (pX12_isNight N a2) r1.2).bind fun r2 =>
  if r2.1 = 0 then some ((-1 : Int32), r2.2) else
  (callW (pX12_layKnown N (0 : Int32) a2 (0 : Int32)) r2.2).bind fun w3 =>
  (callW (pX12_priceLed N a2) w3).bind fun r4 =>
  (stI r4.2 111 0 (6 : Int32) 7 a1).bind fun w5 =>
  (callW (pX12_priceLed N a2) w5).bind fun r6 =>
  some ((r6.1 - r4.1), r6.2)
noncomputable def mX12_stranger (N : Nat) (as : List AV) (w : Wd) : Option (Int32 × Wd) := xS1 16 as fun t => xI1 t fun a1 t => xI1 t fun a2 t => xN1 t (callW (pX12_stranger N a1 a2) w)
set_option maxRecDepth 100000 in
set_option maxHeartbeats 4000000 in
theorem kX12_stranger : TK cX12_stranger RX12 4 tX12_stranger := ⟨by decide +kernel, wok_of [1592, 1667] (by decide +kernel) (by decide +kernel)⟩
set_option maxRecDepth 100000 in
set_option maxHeartbeats 4000000 in
theorem crX12_stranger {N : Nat} {X : XT} (G : GX X cX12_stranger RX12) (hR : xR X = rmL 7) : CRs X tX12_stranger (oF [(mX12_areParts N), (mX12_isNight N), (mX12_priceLed N)]) (oF []) (oF [(mX12_layKnown N)]) := by
  have hl : tX12_stranger.filter isInv = [(7, .invokevirtual 567, 0, 0, 2, 0, 0, []), (14, .invokestatic 479, 0, 1, 1, 0, 0, []), (26, .invokevirtual 549, 0, 0, 4, 0, 0, [(0, 0), (0, 0)]), (31, .invokevirtual 570, 0, 2, 2, 0, 0, []), (45, .invokevirtual 570, 0, 2, 2, 0, 0, [])] := rfl
  intro e he
  rw [hl] at he
  simp only [List.mem_cons, List.not_mem_nil, or_false] at he
  rcases he with rfl | rfl | rfl | rfl | rfl
  · exact crI_V (idx := 567) G (by decide +kernel) (MX12_areParts N) (cw_of (ps := [2247, 2249, 131, 162, 2250]) (by decide +kernel) (by decide +kernel)) ⟨by decide +kernel, by decide +kernel, by decide +kernel⟩ (by unfold rmOk; rw [hR]; exact ⟨by decide, by decide⟩)
  · exact crI_S (idx := 479) G (by decide +kernel) (MX12_isNight N) (cw_of (ps := [2106, 2107, 162, 2108]) (by decide +kernel) (by decide +kernel)) ⟨by decide +kernel, by decide +kernel, by decide +kernel⟩ (by unfold rmOk; rw [hR]; exact ⟨by decide, by decide⟩)
  · exact crV_V (idx := 549) G (by decide +kernel) (MX12_layKnown N) (cw_of (ps := [2183, 2185, 120, 162, 2186]) (by decide +kernel) (by decide +kernel)) ⟨by decide +kernel, by decide +kernel, by decide +kernel⟩ (by unfold rmOk; rw [hR]; exact ⟨by decide, by decide⟩)
  · exact crI_V (idx := 570) G (by decide +kernel) (MX12_priceLed N) (cw_of (ps := [2251, 2253, 132, 162, 2254]) (by decide +kernel) (by decide +kernel)) ⟨by decide +kernel, by decide +kernel, by decide +kernel⟩ (by unfold rmOk; rw [hR]; exact ⟨by decide, by decide⟩)
  · exact crI_V (idx := 570) G (by decide +kernel) (MX12_priceLed N) (cw_of (ps := [2251, 2253, 132, 162, 2254]) (by decide +kernel) (by decide +kernel)) ⟨by decide +kernel, by decide +kernel, by decide +kernel⟩ (by unfold rmOk; rw [hR]; exact ⟨by decide, by decide⟩)
set_option maxRecDepth 100000 in
set_option maxHeartbeats 4000000 in
theorem MX12_stranger (N : Nat) : SndI yX12_stranger cX12_stranger 4 (some .int) 7 3 true (mX12_stranger N) := by
  refine SndI.of tX12_stranger (by decide +kernel) rfl rfl ?_ ?_
  · intro as w x h
    obtain ⟨t1, rfl, h_1⟩ := xS1_some h
    obtain ⟨a1, t2, rfl, h_2⟩ := xI1_some h_1
    obtain ⟨a2, t3, rfl, h_3⟩ := xI1_some h_2
    obtain ⟨rfl, h_4⟩ := xN1_some h_3
    clear h h_1 h_2 h_3
    have h := h_4
    rw [callW_eq] at h
    exact ⟨fun _ => ⟨_, _, _, rfl, rfl, _, rfl, rfl⟩, rfl, Nat.le_of_ble_eq_true rfl⟩
  · intro X G hn hR as w r h hr
    have hC := crX12_stranger (N := N) G hR
    obtain ⟨t1, rfl, h_1⟩ := xS1_some h
    obtain ⟨a1, t2, rfl, h_2⟩ := xI1_some h_1
    obtain ⟨a2, t3, rfl, h_3⟩ := xI1_some h_2
    obtain ⟨rfl, h_4⟩ := xN1_some h_3
    clear h h_1 h_2 h_3
    have h := h_4
    rw [callW_eq] at h
    refine run_sound (r := r) (X := X) (cc := cX12_stranger) (own := RX12) (tab := tX12_stranger) G (by rw [hn]; exact kX12_stranger) (oI := (oF [(mX12_areParts N), (mX12_isNight N), (mX12_priceLed N)])) (oL := (oF [])) (oV := (oF [(mX12_layKnown N)])) (rI := (fun x w => some (x, w))) (rL := (fun _ _ => none)) (rV := (fun _ => none))
      (K := (fun j ls st w => none)) (fun x w pc ls hx hd => hr x w pc ls (Option.some.inj hx) hd) (fun _ _ _ _ hx => by cases hx) (fun _ _ _ hx => by cases hx) hC (fun ls => lsb [some (.inr (.inr (16, 0))), some (.inl a1), some (.inl a2), none] 0 ls) (keepsP_of rfl) ?_ 34 0 [some (.inr (.inr (16, 0))), some (.inl a1), some (.inl a2), none] [] w ?_ h
    · intro j ls st w hfx h
      obtain ⟨e0, e1, e2, -⟩ : _ = _ ∧ _ = _ ∧ _ = _ ∧ True := hfx
      try dsimp only at h
      cases h
    · exact (show _ = _ ∧ _ = _ ∧ _ = _ ∧ True from ⟨rfl, rfl, rfl, trivial⟩)
-- MoorGuidesModel.allLed(II)Z
def tX12_allLed : List EN := [
  (0, .iconst 0, 0, 0, 0, 0, 0, []), (1, .istore_n 3, 0, 0, 0, 0, 0, []), (2, .iload_n 3, 3, 0, 0, 0, 0, []), (3, .aload_n 0, 0, 0, 0, 0, 0, []),
  (4, .getfield 301, 0, 12, 14, 0, 0, []), (7, .if_icmp .ge 42, 0, 27, 0, 0, 0, []), (10, .iload_n 1, 0, 0, 0, 0, 0, []), (11, .iload_n 3, 0, 0, 0, 0, 0, []),
  (12, .invokestatic 341, 0, 0, 2, 0, 0, []), (15, .ifCond .ne 6, 0, 11, 0, 0, 0, []), (18, .goto 25, 0, 25, 0, 0, 0, []), (21, .aload_n 0, 0, 0, 0, 0, 0, []),
  (22, .iconst 0, 0, 0, 0, 0, 0, []), (23, .aload_n 0, 0, 0, 0, 0, 0, []), (24, .getfield 53, 0, 12, 42, 0, 0, []), (27, .iload_n 3, 0, 0, 0, 0, 0, []),
  (28, .iaload, 0, 0, 0, 0, 0, []), (29, .iload_n 2, 0, 0, 0, 0, 0, []), (30, .invokevirtual 549, 0, 0, 4, 0, 0, [(0, 0), (0, 0)]), (33, .aload_n 0, 0, 0, 0, 0, 0, []),
  (34, .iload_n 3, 0, 0, 0, 0, 0, []), (35, .invokevirtual 564, 0, 1, 2, 0, 0, []), (38, .ifCond .ne 5, 0, 25, 0, 0, 0, []), (41, .iconst 0, 0, 0, 0, 0, 0, []),
  (42, .ireturn, 0, 0, 0, 0, 0, []), (43, .iinc 3 1, 0, 0, 0, 1, 0, []), (46, .goto (-44), 0, 2, 0, 0, 0, []), (49, .iconst 1, 0, 0, 0, 1, 0, []),
  (50, .ireturn, 0, 0, 0, 0, 0, [])]
noncomputable def fX12_allLed_2 (N : Nat) (a1 : Int32) (a2 : Int32) : Nat → Int32 → Wd → Option (Int32 × Wd)
  | 0, _, _ => none
  | n + 1, v3, w =>
    if v3 < (gI w 16 0 14) then
      (callW (pX12_isOf N a1 v3) w).bind fun r1 =>
      if r1.1 = 0 then callW (fX12_allLed_2 N a1 a2 n (v3 + (1 : Int32))) r1.2 else
      (ldI r1.2 86 0 v3 16).bind fun x2 =>
      (callW (pX12_layKnown N (0 : Int32) x2 a2) r1.2).bind fun w3 =>
      (callW (pX12_isLed N v3) w3).bind fun r4 =>
      if r4.1 = 0 then some ((0 : Int32), r4.2) else
      callW (fX12_allLed_2 N a1 a2 n (v3 + (1 : Int32))) r4.2
    else
    some ((1 : Int32), w)
noncomputable def pX12_allLed (N : Nat) (a1 : Int32) (a2 : Int32) (w : Wd) : Option (Int32 × Wd) :=
  callW (fX12_allLed_2 N a1 a2 N (0 : Int32)) w
noncomputable def mX12_allLed (N : Nat) (as : List AV) (w : Wd) : Option (Int32 × Wd) := xS1 16 as fun t => xI1 t fun a1 t => xI1 t fun a2 t => xN1 t (callW (pX12_allLed N a1 a2) w)
set_option maxRecDepth 100000 in
set_option maxHeartbeats 4000000 in
theorem kX12_allLed : TK cX12_allLed RX12 4 tX12_allLed := ⟨by decide +kernel, wok_of [1604, 1632] (by decide +kernel) (by decide +kernel)⟩
set_option maxRecDepth 100000 in
set_option maxHeartbeats 4000000 in
theorem sX12_allLed_2 {N : Nat} {X : XT} (G : GX X cX12_allLed RX12) (hn : xnL X = 4) (hC : CRs X tX12_allLed (oF [(mX12_isOf N), (mX12_isLed N)]) (oF []) (oF [(mX12_layKnown N)])) {r : Int32 × Wd} (hr : RTZ X cX12_allLed r) (a1 : Int32) (a2 : Int32) : ∀ (n : Nat) (v3 : Int32) (w : Wd), fX12_allLed_2 N a1 a2 n v3 w = some r → WW X (pcAt tX12_allLed 2) [some (.inr (.inr (16, 0))), some (.inl a1), some (.inl a2), some (.inl v3)] [] w := by
  intro n
  induction n with
  | zero => intro v3 w h; cases h
  | succ n ih =>
    intro v3 w h
    refine run_sound (r := r) (X := X) (cc := cX12_allLed) (own := RX12) (tab := tX12_allLed) G (by rw [hn]; exact kX12_allLed) (oI := (oF [(mX12_isOf N), (mX12_isLed N)])) (oL := (oF [])) (oV := (oF [(mX12_layKnown N)])) (rI := retZ) (rL := (fun _ _ => none)) (rV := (fun _ => none))
      (K := (fun j ls st w => if j = 2 then (lgI ls 3 fun v3 => st0 st (callW (fX12_allLed_2 N a1 a2 n v3) w)) else none)) hr (fun _ _ _ _ hx => by cases hx) (fun _ _ _ hx => by cases hx) hC (fun ls => lsb [some (.inr (.inr (16, 0))), some (.inl a1), some (.inl a2), none] 0 ls) (keepsP_of rfl) ?_ 31 2 [some (.inr (.inr (16, 0))), some (.inl a1), some (.inl a2), some (.inl v3)] [] w ?_ h
    · intro j ls st w hfx h
      obtain ⟨e0, e1, e2, -⟩ : _ = _ ∧ _ = _ ∧ _ = _ ∧ True := hfx
      try dsimp only at h
      by_cases hj : j = 2
      · subst hj
        rw [if_pos rfl] at h
        obtain ⟨v3, e3, h_1⟩ := lgI_some h
        obtain ⟨rfl, h_2⟩ := st0_some h_1
        clear h h_1
        have h := h_2
        try rw [callW_eq] at h
        exact WW.le (a := [some (.inr (.inr (16, 0))), some (.inl a1), some (.inl a2), some (.inl v3)]) (by rw [hn]; rfl) (show _ = _ ∧ _ = _ ∧ _ = _ ∧ _ = _ ∧ True from ⟨e0, e1, e2, e3, trivial⟩) (ih v3 w h)
      rw [if_neg hj] at h
      cases h
    · exact (show _ = _ ∧ _ = _ ∧ _ = _ ∧ True from ⟨rfl, rfl, rfl, trivial⟩)
set_option maxRecDepth 100000 in
set_option maxHeartbeats 4000000 in
theorem crX12_allLed {N : Nat} {X : XT} (G : GX X cX12_allLed RX12) (hR : xR X = rmL 6) : CRs X tX12_allLed (oF [(mX12_isOf N), (mX12_isLed N)]) (oF []) (oF [(mX12_layKnown N)]) := by
  have hl : tX12_allLed.filter isInv = [(12, .invokestatic 341, 0, 0, 2, 0, 0, []), (30, .invokevirtual 549, 0, 0, 4, 0, 0, [(0, 0), (0, 0)]), (35, .invokevirtual 564, 0, 1, 2, 0, 0, [])] := rfl
  intro e he
  rw [hl] at he
  simp only [List.mem_cons, List.not_mem_nil, or_false] at he
  rcases he with rfl | rfl | rfl
  · exact crI_S (idx := 341) G (by decide +kernel) (MX12_isOf N) (cw_of (ps := [1579, 1580, 162, 1581]) (by decide +kernel) (by decide +kernel)) ⟨by decide +kernel, by decide +kernel, by decide +kernel⟩ (by unfold rmOk; rw [hR]; exact ⟨by decide, by decide⟩)
  · exact crV_V (idx := 549) G (by decide +kernel) (MX12_layKnown N) (cw_of (ps := [2183, 2185, 120, 162, 2186]) (by decide +kernel) (by decide +kernel)) ⟨by decide +kernel, by decide +kernel, by decide +kernel⟩ (by unfold rmOk; rw [hR]; exact ⟨by decide, by decide⟩)
  · exact crI_V (idx := 564) G (by decide +kernel) (MX12_isLed N) (cw_of (ps := [2255, 2257, 133, 162, 2258]) (by decide +kernel) (by decide +kernel)) ⟨by decide +kernel, by decide +kernel, by decide +kernel⟩ (by unfold rmOk; rw [hR]; exact ⟨by decide, by decide⟩)
set_option maxRecDepth 100000 in
set_option maxHeartbeats 4000000 in
theorem MX12_allLed (N : Nat) : SndI yX12_allLed cX12_allLed 4 (some .boolean) 6 3 true (mX12_allLed N) := by
  refine SndI.ofZ tX12_allLed (by decide +kernel) rfl rfl ?_ ?_
  · intro as w x h
    obtain ⟨t1, rfl, h_1⟩ := xS1_some h
    obtain ⟨a1, t2, rfl, h_2⟩ := xI1_some h_1
    obtain ⟨a2, t3, rfl, h_3⟩ := xI1_some h_2
    obtain ⟨rfl, h_4⟩ := xN1_some h_3
    clear h h_1 h_2 h_3
    have h := h_4
    rw [callW_eq] at h
    exact ⟨fun _ => ⟨_, _, _, rfl, rfl, _, rfl, rfl⟩, rfl, Nat.le_of_ble_eq_true rfl⟩
  · intro X G hn hR as w r h hr
    have hC := crX12_allLed (N := N) G hR
    obtain ⟨t1, rfl, h_1⟩ := xS1_some h
    obtain ⟨a1, t2, rfl, h_2⟩ := xI1_some h_1
    obtain ⟨a2, t3, rfl, h_3⟩ := xI1_some h_2
    obtain ⟨rfl, h_4⟩ := xN1_some h_3
    clear h h_1 h_2 h_3
    have h := h_4
    rw [callW_eq] at h
    refine run_sound (r := r) (X := X) (cc := cX12_allLed) (own := RX12) (tab := tX12_allLed) G (by rw [hn]; exact kX12_allLed) (oI := (oF [(mX12_isOf N), (mX12_isLed N)])) (oL := (oF [])) (oV := (oF [(mX12_layKnown N)])) (rI := retZ) (rL := (fun _ _ => none)) (rV := (fun _ => none))
      (K := (fun j ls st w => if j = 2 then (lgI ls 3 fun v3 => st0 st (callW (fX12_allLed_2 N a1 a2 N v3) w)) else none)) hr (fun _ _ _ _ hx => by cases hx) (fun _ _ _ hx => by cases hx) hC (fun ls => lsb [some (.inr (.inr (16, 0))), some (.inl a1), some (.inl a2), none] 0 ls) (keepsP_of rfl) ?_ 31 0 [some (.inr (.inr (16, 0))), some (.inl a1), some (.inl a2), none] [] w ?_ h
    · intro j ls st w hfx h
      obtain ⟨e0, e1, e2, -⟩ : _ = _ ∧ _ = _ ∧ _ = _ ∧ True := hfx
      try dsimp only at h
      by_cases hj : j = 2
      · subst hj
        rw [if_pos rfl] at h
        obtain ⟨v3, e3, h_1⟩ := lgI_some h
        obtain ⟨rfl, h_2⟩ := st0_some h_1
        clear h h_1
        have h := h_2
        try rw [callW_eq] at h
        exact WW.le (a := [some (.inr (.inr (16, 0))), some (.inl a1), some (.inl a2), some (.inl v3)]) (by rw [hn]; rfl) (show _ = _ ∧ _ = _ ∧ _ = _ ∧ _ = _ ∧ True from ⟨e0, e1, e2, e3, trivial⟩) (sX12_allLed_2 G hn hC hr a1 a2 N v3 w h)
      rw [if_neg hj] at h
      cases h
    · exact (show _ = _ ∧ _ = _ ∧ _ = _ ∧ True from ⟨rfl, rfl, rfl, trivial⟩)
-- MoorGuidesModel.fewest(II)I
def tX12_fewest : List EN := [
  (0, .aload_n 0, 0, 0, 0, 0, 0, []), (1, .iconst 0, 0, 0, 0, 0, 0, []), (2, .putfield 196, 0, 12, 2, 0, 0, []), (5, .iload_n 1, 0, 0, 0, 0, 0, []),
  (6, .ifCond .lt 21, 0, 15, 0, 0, 0, []), (9, .iload_n 1, 0, 0, 0, 0, 0, []), (10, .aload_n 0, 0, 0, 0, 0, 0, []), (11, .getfield 301, 0, 12, 14, 0, 0, []),
  (14, .ishr, 0, 0, 0, 0, 0, []), (15, .ifCond .ne 12, 0, 15, 0, 0, 0, []), (18, .iload_n 2, 0, 0, 0, 0, 0, []), (19, .iconst 0, 0, 0, 0, 0, 0, []),
  (20, .iconst 1, 0, 0, 0, 1, 0, []), (21, .invokestatic 241, 0, 0, 3, 0, 0, []), (24, .ifCond .ne 5, 0, 17, 0, 0, 0, []), (27, .iconst (-1), 0, 0, 0, (-1), 0, []),
  (28, .ireturn, 0, 0, 0, 0, 0, []), (29, .iconst 0, 0, 0, 0, 0, 0, []), (30, .istore_n 3, 0, 0, 0, 0, 0, []), (31, .iload_n 3, 20, 0, 0, 0, 0, []),
  (32, .aload_n 0, 0, 0, 0, 0, 0, []), (33, .getfield 295, 0, 12, 12, 0, 0, []), (36, .if_icmp .gt 59, 0, 50, 0, 0, 0, []), (39, .iconst 0, 0, 0, 0, 0, 0, []),
  (40, .istore 4, 0, 0, 0, 0, 0, []), (42, .iload 4, 26, 0, 0, 0, 0, []), (44, .iconst 1, 0, 0, 0, 1, 0, []), (45, .aload_n 0, 0, 0, 0, 0, 0, []),
  (46, .getfield 295, 0, 12, 12, 0, 0, []), (49, .ishl, 0, 0, 0, 0, 0, []), (50, .if_icmp .ge 39, 0, 48, 0, 0, 0, []), (53, .iload 4, 0, 0, 0, 0, 0, []),
  (55, .invokestatic 485, 0, 1, 1, 0, 0, []), (58, .iload_n 3, 0, 0, 0, 0, 0, []), (59, .if_icmp .ne 24, 0, 46, 0, 0, 0, []), (62, .aload_n 0, 0, 0, 0, 0, 0, []),
  (63, .iload_n 1, 0, 0, 0, 0, 0, []), (64, .iload 4, 0, 0, 0, 0, 0, []), (66, .invokevirtual 573, 0, 2, 3, 0, 0, []), (69, .ifCond .eq 14, 0, 46, 0, 0, 0, []),
  (72, .iload_n 2, 0, 0, 0, 0, 0, []), (73, .ifCond .ne 7, 0, 44, 0, 0, 0, []), (76, .iload_n 3, 0, 0, 0, 0, 0, []), (77, .goto 5, 0, 45, 0, 0, 0, []),
  (80, .iload 4, 0, 0, 0, 0, 0, []), (82, .ireturn, 0, 0, 0, 0, 0, []), (83, .iinc 4 1, 0, 0, 0, 1, 0, []), (86, .goto (-44), 0, 25, 0, 0, 0, []),
  (89, .iinc 3 1, 49, 0, 0, 1, 0, []), (92, .goto (-61), 0, 19, 0, 0, 0, []), (95, .bipush (-2), 0, 0, 0, (-2), 0, []), (97, .ireturn, 0, 0, 0, 0, 0, [])]
noncomputable def fX12_fewest_48 (N : Nat) (a1 : Int32) (a2 : Int32) (k19 : Int32 → Wd → Option (Int32 × Wd)) (v3 : Int32) (w : Wd) : Option (Int32 × Wd) :=
  k19 (v3 + (1 : Int32)) w
noncomputable def fX12_fewest_25 (N : Nat) (a1 : Int32) (a2 : Int32) : Nat → (Int32 → Wd → Option (Int32 × Wd)) → Int32 → Int32 → Wd → Option (Int32 × Wd)
  | 0, _, _, _, _ => none
  | n + 1, k48, v3, v4, w =>
    if v4 < ((1 : Int32) <<< ((gI w 16 0 12) &&& (31 : Int32))) then
      (callW (pX12_manyOf N v4) w).bind fun r1 =>
      if r1.1 = v3 then
        (callW (pX12_allLed N a1 v4) r1.2).bind fun r2 =>
        if r2.1 = 0 then callW (fX12_fewest_25 N a1 a2 n k48 v3 (v4 + (1 : Int32))) r2.2 else
        if a2 = 0 then some (v3, r2.2) else
        some (v4, r2.2)
      else
      callW (fX12_fewest_25 N a1 a2 n k48 v3 (v4 + (1 : Int32))) r1.2
    else
    k48 v3 w
noncomputable def fX12_fewest_19 (N : Nat) (a1 : Int32) (a2 : Int32) : Nat → Int32 → Wd → Option (Int32 × Wd)
  | 0, _, _ => none
  | n + 1, v3, w =>
    if (gI w 16 0 12) < v3 then some ((-2 : Int32), w) else
    callW (fX12_fewest_25 N a1 a2 N (fX12_fewest_48 N a1 a2 (fX12_fewest_19 N a1 a2 n)) v3 (0 : Int32)) w
noncomputable def pX12_fewest (N : Nat) (a1 : Int32) (a2 : Int32) (w : Wd) : Option (Int32 × Wd) :=
  if a1 < 0 then some ((-1 : Int32), (setI w 16 0 2 (0 : Int32))) else
  if (a1 >>> ((gI (setI w 16 0 2 (0 : Int32)) 16 0 14) &&& (31 : Int32))) = 0 then
    (callW (pX12_isIn N a2 (0 : Int32) (1 : Int32)) (setI w 16 0 2 (0 : Int32))).bind fun r1 =>
    if r1.1 = 0 then some ((-1 : Int32), r1.2) else
    callW (fX12_fewest_19 N a1 a2 N (0 : Int32)) r1.2
  else
  some ((-1 : Int32), (setI w 16 0 2 (0 : Int32)))
noncomputable def mX12_fewest (N : Nat) (as : List AV) (w : Wd) : Option (Int32 × Wd) := xS1 16 as fun t => xI1 t fun a1 t => xI1 t fun a2 t => xN1 t (callW (pX12_fewest N a1 a2) w)
set_option maxRecDepth 100000 in
set_option maxHeartbeats 4000000 in
theorem kX12_fewest : TK cX12_fewest RX12 5 tX12_fewest := ⟨by decide +kernel, wok_of [1592, 1604, 1602, 1602] (by decide +kernel) (by decide +kernel)⟩
set_option maxRecDepth 100000 in
set_option maxHeartbeats 4000000 in
theorem sX12_fewest_48 {N : Nat} {X : XT} (G : GX X cX12_fewest RX12) (hn : xnL X = 5) (hC : CRs X tX12_fewest (oF [(mX12_isIn N), (mX12_manyOf N), (mX12_allLed N)]) (oF []) (oF [])) {r : Int32 × Wd} (hr : RTI X cX12_fewest r) (a1 : Int32) (a2 : Int32) : ∀ (k19 : Int32 → Wd → Option (Int32 × Wd)) (v3 : Int32) (w : Wd), fX12_fewest_48 N a1 a2 k19 v3 w = some r → (∀ (v3 : Int32) (w : Wd), k19 v3 w = some r → WW X (pcAt tX12_fewest 19) [some (.inr (.inr (16, 0))), some (.inl a1), some (.inl a2), some (.inl v3), none] [] w) → WW X (pcAt tX12_fewest 48) [some (.inr (.inr (16, 0))), some (.inl a1), some (.inl a2), some (.inl v3), none] [] w := by
  intro k19 v3 w h h19
  refine run_sound (r := r) (X := X) (cc := cX12_fewest) (own := RX12) (tab := tX12_fewest) G (by rw [hn]; exact kX12_fewest) (oI := (oF [(mX12_isIn N), (mX12_manyOf N), (mX12_allLed N)])) (oL := (oF [])) (oV := (oF [])) (rI := (fun x w => some (x, w))) (rL := (fun _ _ => none)) (rV := (fun _ => none))
    (K := (fun j ls st w => if j = 19 then (lgI ls 3 fun v3 => st0 st (k19 v3 w)) else none)) (fun x w pc ls hx hd => hr x w pc ls (Option.some.inj hx) hd) (fun _ _ _ _ hx => by cases hx) (fun _ _ _ hx => by cases hx) hC (fun ls => lsb [some (.inr (.inr (16, 0))), some (.inl a1), some (.inl a2), none, none] 0 ls) (keepsP_of rfl) ?_ 54 48 [some (.inr (.inr (16, 0))), some (.inl a1), some (.inl a2), some (.inl v3), none] [] w ?_ h
  · intro j ls st w hfx h
    obtain ⟨e0, e1, e2, -⟩ : _ = _ ∧ _ = _ ∧ _ = _ ∧ True := hfx
    try dsimp only at h
    by_cases hj : j = 19
    · subst hj
      rw [if_pos rfl] at h
      obtain ⟨v3, e3, h_1⟩ := lgI_some h
      obtain ⟨rfl, h_2⟩ := st0_some h_1
      clear h h_1
      have h := h_2
      try rw [callW_eq] at h
      exact WW.le (a := [some (.inr (.inr (16, 0))), some (.inl a1), some (.inl a2), some (.inl v3), none]) (by rw [hn]; rfl) (show _ = _ ∧ _ = _ ∧ _ = _ ∧ _ = _ ∧ True from ⟨e0, e1, e2, e3, trivial⟩) (h19 v3 w h)
    rw [if_neg hj] at h
    cases h
  · exact (show _ = _ ∧ _ = _ ∧ _ = _ ∧ True from ⟨rfl, rfl, rfl, trivial⟩)
set_option maxRecDepth 100000 in
set_option maxHeartbeats 4000000 in
theorem sX12_fewest_25 {N : Nat} {X : XT} (G : GX X cX12_fewest RX12) (hn : xnL X = 5) (hC : CRs X tX12_fewest (oF [(mX12_isIn N), (mX12_manyOf N), (mX12_allLed N)]) (oF []) (oF [])) {r : Int32 × Wd} (hr : RTI X cX12_fewest r) (a1 : Int32) (a2 : Int32) : ∀ (n : Nat) (k48 : Int32 → Wd → Option (Int32 × Wd)) (v3 : Int32) (v4 : Int32) (w : Wd), fX12_fewest_25 N a1 a2 n k48 v3 v4 w = some r → (∀ (v3 : Int32) (w : Wd), k48 v3 w = some r → WW X (pcAt tX12_fewest 48) [some (.inr (.inr (16, 0))), some (.inl a1), some (.inl a2), some (.inl v3), none] [] w) → WW X (pcAt tX12_fewest 25) [some (.inr (.inr (16, 0))), some (.inl a1), some (.inl a2), some (.inl v3), some (.inl v4)] [] w := by
  intro n
  induction n with
  | zero => intro k48 v3 v4 w h h48; cases h
  | succ n ih =>
    intro k48 v3 v4 w h h48
    refine run_sound (r := r) (X := X) (cc := cX12_fewest) (own := RX12) (tab := tX12_fewest) G (by rw [hn]; exact kX12_fewest) (oI := (oF [(mX12_isIn N), (mX12_manyOf N), (mX12_allLed N)])) (oL := (oF [])) (oV := (oF [])) (rI := (fun x w => some (x, w))) (rL := (fun _ _ => none)) (rV := (fun _ => none))
      (K := (fun j ls st w => if j = 25 then (lgI ls 3 fun v3 => lgI ls 4 fun v4 => st0 st (callW (fX12_fewest_25 N a1 a2 n k48 v3 v4) w)) else if j = 48 then (lgI ls 3 fun v3 => st0 st (k48 v3 w)) else none)) (fun x w pc ls hx hd => hr x w pc ls (Option.some.inj hx) hd) (fun _ _ _ _ hx => by cases hx) (fun _ _ _ hx => by cases hx) hC (fun ls => lsb [some (.inr (.inr (16, 0))), some (.inl a1), some (.inl a2), none, none] 0 ls) (keepsP_of rfl) ?_ 54 25 [some (.inr (.inr (16, 0))), some (.inl a1), some (.inl a2), some (.inl v3), some (.inl v4)] [] w ?_ h
    · intro j ls st w hfx h
      obtain ⟨e0, e1, e2, -⟩ : _ = _ ∧ _ = _ ∧ _ = _ ∧ True := hfx
      try dsimp only at h
      by_cases hj : j = 25
      · subst hj
        rw [if_pos rfl] at h
        obtain ⟨v3, e3, h_1⟩ := lgI_some h
        obtain ⟨v4, e4, h_2⟩ := lgI_some h_1
        obtain ⟨rfl, h_3⟩ := st0_some h_2
        clear h h_1 h_2
        have h := h_3
        try rw [callW_eq] at h
        exact WW.le (a := [some (.inr (.inr (16, 0))), some (.inl a1), some (.inl a2), some (.inl v3), some (.inl v4)]) (by rw [hn]; rfl) (show _ = _ ∧ _ = _ ∧ _ = _ ∧ _ = _ ∧ _ = _ ∧ True from ⟨e0, e1, e2, e3, e4, trivial⟩) (ih k48 v3 v4 w h h48)
      rw [if_neg hj] at h
      by_cases hj : j = 48
      · subst hj
        rw [if_pos rfl] at h
        obtain ⟨v3, e3, h_1⟩ := lgI_some h
        obtain ⟨rfl, h_2⟩ := st0_some h_1
        clear h h_1
        have h := h_2
        try rw [callW_eq] at h
        exact WW.le (a := [some (.inr (.inr (16, 0))), some (.inl a1), some (.inl a2), some (.inl v3), none]) (by rw [hn]; rfl) (show _ = _ ∧ _ = _ ∧ _ = _ ∧ _ = _ ∧ True from ⟨e0, e1, e2, e3, trivial⟩) (h48 v3 w h)
      rw [if_neg hj] at h
      cases h
    · exact (show _ = _ ∧ _ = _ ∧ _ = _ ∧ True from ⟨rfl, rfl, rfl, trivial⟩)
set_option maxRecDepth 100000 in
set_option maxHeartbeats 4000000 in
theorem sX12_fewest_19 {N : Nat} {X : XT} (G : GX X cX12_fewest RX12) (hn : xnL X = 5) (hC : CRs X tX12_fewest (oF [(mX12_isIn N), (mX12_manyOf N), (mX12_allLed N)]) (oF []) (oF [])) {r : Int32 × Wd} (hr : RTI X cX12_fewest r) (a1 : Int32) (a2 : Int32) : ∀ (n : Nat) (v3 : Int32) (w : Wd), fX12_fewest_19 N a1 a2 n v3 w = some r → WW X (pcAt tX12_fewest 19) [some (.inr (.inr (16, 0))), some (.inl a1), some (.inl a2), some (.inl v3), none] [] w := by
  intro n
  induction n with
  | zero => intro v3 w h; cases h
  | succ n ih =>
    intro v3 w h
    refine run_sound (r := r) (X := X) (cc := cX12_fewest) (own := RX12) (tab := tX12_fewest) G (by rw [hn]; exact kX12_fewest) (oI := (oF [(mX12_isIn N), (mX12_manyOf N), (mX12_allLed N)])) (oL := (oF [])) (oV := (oF [])) (rI := (fun x w => some (x, w))) (rL := (fun _ _ => none)) (rV := (fun _ => none))
      (K := (fun j ls st w => if j = 25 then (lgI ls 3 fun v3 => lgI ls 4 fun v4 => st0 st (callW (fX12_fewest_25 N a1 a2 N (fX12_fewest_48 N a1 a2 (fX12_fewest_19 N a1 a2 n)) v3 v4) w)) else none)) (fun x w pc ls hx hd => hr x w pc ls (Option.some.inj hx) hd) (fun _ _ _ _ hx => by cases hx) (fun _ _ _ hx => by cases hx) hC (fun ls => lsb [some (.inr (.inr (16, 0))), some (.inl a1), some (.inl a2), none, none] 0 ls) (keepsP_of rfl) ?_ 54 19 [some (.inr (.inr (16, 0))), some (.inl a1), some (.inl a2), some (.inl v3), none] [] w ?_ h
    · intro j ls st w hfx h
      obtain ⟨e0, e1, e2, -⟩ : _ = _ ∧ _ = _ ∧ _ = _ ∧ True := hfx
      try dsimp only at h
      by_cases hj : j = 25
      · subst hj
        rw [if_pos rfl] at h
        obtain ⟨v3, e3, h_1⟩ := lgI_some h
        obtain ⟨v4, e4, h_2⟩ := lgI_some h_1
        obtain ⟨rfl, h_3⟩ := st0_some h_2
        clear h h_1 h_2
        have h := h_3
        try rw [callW_eq] at h
        exact WW.le (a := [some (.inr (.inr (16, 0))), some (.inl a1), some (.inl a2), some (.inl v3), some (.inl v4)]) (by rw [hn]; rfl) (show _ = _ ∧ _ = _ ∧ _ = _ ∧ _ = _ ∧ _ = _ ∧ True from ⟨e0, e1, e2, e3, e4, trivial⟩) (sX12_fewest_25 G hn hC hr a1 a2 N (fX12_fewest_48 N a1 a2 (fX12_fewest_19 N a1 a2 n)) v3 v4 w h (fun v3 w h => (sX12_fewest_48 G hn hC hr a1 a2 (fX12_fewest_19 N a1 a2 n) v3 w h (fun v3 w h => (ih v3 w h)))))
      rw [if_neg hj] at h
      cases h
    · exact (show _ = _ ∧ _ = _ ∧ _ = _ ∧ True from ⟨rfl, rfl, rfl, trivial⟩)
set_option maxRecDepth 100000 in
set_option maxHeartbeats 4000000 in
theorem crX12_fewest {N : Nat} {X : XT} (G : GX X cX12_fewest RX12) (hR : xR X = rmL 7) : CRs X tX12_fewest (oF [(mX12_isIn N), (mX12_manyOf N), (mX12_allLed N)]) (oF []) (oF []) := by
  have hl : tX12_fewest.filter isInv = [(21, .invokestatic 241, 0, 0, 3, 0, 0, []), (55, .invokestatic 485, 0, 1, 1, 0, 0, []), (66, .invokevirtual 573, 0, 2, 3, 0, 0, [])] := rfl
  intro e he
  rw [hl] at he
  simp only [List.mem_cons, List.not_mem_nil, or_false] at he
  rcases he with rfl | rfl | rfl
  · exact crI_S (idx := 241) G (by decide +kernel) (MX12_isIn N) (cw_of (ps := [1976, 1977, 162, 1978]) (by decide +kernel) (by decide +kernel)) ⟨by decide +kernel, by decide +kernel, by decide +kernel⟩ (by unfold rmOk; rw [hR]; exact ⟨by decide, by decide⟩)
  · exact crI_S (idx := 485) G (by decide +kernel) (MX12_manyOf N) (cw_of (ps := [2125, 2126, 162, 2127]) (by decide +kernel) (by decide +kernel)) ⟨by decide +kernel, by decide +kernel, by decide +kernel⟩ (by unfold rmOk; rw [hR]; exact ⟨by decide, by decide⟩)
  · exact crI_V (idx := 573) G (by decide +kernel) (MX12_allLed N) (cw_of (ps := [2263, 2265, 134, 162, 2266]) (by decide +kernel) (by decide +kernel)) ⟨by decide +kernel, by decide +kernel, by decide +kernel⟩ (by unfold rmOk; rw [hR]; exact ⟨by decide, by decide⟩)
set_option maxRecDepth 100000 in
set_option maxHeartbeats 4000000 in
theorem MX12_fewest (N : Nat) : SndI yX12_fewest cX12_fewest 5 (some .int) 7 3 true (mX12_fewest N) := by
  refine SndI.of tX12_fewest (by decide +kernel) rfl rfl ?_ ?_
  · intro as w x h
    obtain ⟨t1, rfl, h_1⟩ := xS1_some h
    obtain ⟨a1, t2, rfl, h_2⟩ := xI1_some h_1
    obtain ⟨a2, t3, rfl, h_3⟩ := xI1_some h_2
    obtain ⟨rfl, h_4⟩ := xN1_some h_3
    clear h h_1 h_2 h_3
    have h := h_4
    rw [callW_eq] at h
    exact ⟨fun _ => ⟨_, _, _, rfl, rfl, _, rfl, rfl⟩, rfl, Nat.le_of_ble_eq_true rfl⟩
  · intro X G hn hR as w r h hr
    have hC := crX12_fewest (N := N) G hR
    obtain ⟨t1, rfl, h_1⟩ := xS1_some h
    obtain ⟨a1, t2, rfl, h_2⟩ := xI1_some h_1
    obtain ⟨a2, t3, rfl, h_3⟩ := xI1_some h_2
    obtain ⟨rfl, h_4⟩ := xN1_some h_3
    clear h h_1 h_2 h_3
    have h := h_4
    rw [callW_eq] at h
    refine run_sound (r := r) (X := X) (cc := cX12_fewest) (own := RX12) (tab := tX12_fewest) G (by rw [hn]; exact kX12_fewest) (oI := (oF [(mX12_isIn N), (mX12_manyOf N), (mX12_allLed N)])) (oL := (oF [])) (oV := (oF [])) (rI := (fun x w => some (x, w))) (rL := (fun _ _ => none)) (rV := (fun _ => none))
      (K := (fun j ls st w => if j = 19 then (lgI ls 3 fun v3 => st0 st (callW (fX12_fewest_19 N a1 a2 N v3) w)) else none)) (fun x w pc ls hx hd => hr x w pc ls (Option.some.inj hx) hd) (fun _ _ _ _ hx => by cases hx) (fun _ _ _ hx => by cases hx) hC (fun ls => lsb [some (.inr (.inr (16, 0))), some (.inl a1), some (.inl a2), none, none] 0 ls) (keepsP_of rfl) ?_ 54 0 [some (.inr (.inr (16, 0))), some (.inl a1), some (.inl a2), none, none] [] w ?_ h
    · intro j ls st w hfx h
      obtain ⟨e0, e1, e2, -⟩ : _ = _ ∧ _ = _ ∧ _ = _ ∧ True := hfx
      try dsimp only at h
      by_cases hj : j = 19
      · subst hj
        rw [if_pos rfl] at h
        obtain ⟨v3, e3, h_1⟩ := lgI_some h
        obtain ⟨rfl, h_2⟩ := st0_some h_1
        clear h h_1
        have h := h_2
        try rw [callW_eq] at h
        exact WW.le (a := [some (.inr (.inr (16, 0))), some (.inl a1), some (.inl a2), some (.inl v3), none]) (by rw [hn]; rfl) (show _ = _ ∧ _ = _ ∧ _ = _ ∧ _ = _ ∧ True from ⟨e0, e1, e2, e3, trivial⟩) (sX12_fewest_19 G hn hC hr a1 a2 N v3 w h)
      rw [if_neg hj] at h
      cases h
    · exact (show _ = _ ∧ _ = _ ∧ _ = _ ∧ True from ⟨rfl, rfl, rfl, trivial⟩)
-- MoorGuidesModel.turn(II)V
def tX12_turn : List EN := [
  (0, .aload_n 0, 0, 0, 0, 0, 0, []), (1, .getfield 154, 0, 12, 88, 0, 0, []), (4, .iload_n 1, 0, 0, 0, 0, 0, []), (5, .iaload, 0, 0, 0, 0, 0, []),
  (6, .istore_n 3, 0, 0, 0, 0, 0, []), (7, .aload_n 0, 0, 0, 0, 0, 0, []), (8, .getfield 154, 0, 12, 88, 0, 0, []), (11, .iload_n 1, 0, 0, 0, 0, 0, []),
  (12, .aload_n 0, 0, 0, 0, 0, 0, []), (13, .getfield 154, 0, 12, 88, 0, 0, []), (16, .iload_n 2, 0, 0, 0, 0, 0, []), (17, .iaload, 0, 0, 0, 0, 0, []),
  (18, .iastore, 0, 0, 0, 0, 0, []), (19, .aload_n 0, 0, 0, 0, 0, 0, []), (20, .getfield 154, 0, 12, 88, 0, 0, []), (23, .iload_n 2, 0, 0, 0, 0, 0, []),
  (24, .iload_n 3, 0, 0, 0, 0, 0, []), (25, .iastore, 0, 0, 0, 0, 0, []), (26, .return_, 0, 0, 0, 0, 0, [])]
noncomputable def pX12_turn (N : Nat) (a1 : Int32) (a2 : Int32) (w : Wd) : Option (Wd) :=
  (ldI w 119 0 a1 8).bind fun x1 =>
  (ldI w 119 0 a2 8).bind fun x2 =>
  (stI w 119 0 a1 8 x2).bind fun w3 =>
  (stI w3 119 0 a2 8 x1).bind fun w4 =>
  some w4
noncomputable def mX12_turn (N : Nat) (as : List AV) (w : Wd) : Option (Wd) := xS1 16 as fun t => xI1 t fun a1 t => xI1 t fun a2 t => xN1 t (callW (pX12_turn N a1 a2) w)
set_option maxRecDepth 100000 in
set_option maxHeartbeats 4000000 in
theorem kX12_turn : TK cX12_turn RX12 4 tX12_turn := ⟨by decide +kernel, wok_of [1678, 1678, 1678, 1678] (by decide +kernel) (by decide +kernel)⟩
set_option maxRecDepth 100000 in
set_option maxHeartbeats 4000000 in
theorem crX12_turn {N : Nat} {X : XT} (G : GX X cX12_turn RX12) (hR : xR X = rmL 1) : CRs X tX12_turn (oF []) (oF []) (oF []) := by
  have hl : tX12_turn.filter isInv = [] := rfl
  intro e he
  rw [hl] at he
  cases he
set_option maxRecDepth 100000 in
set_option maxHeartbeats 4000000 in
theorem MX12_turn (N : Nat) : SndV yX12_turn cX12_turn 4 none 1 3 true (mX12_turn N) := by
  refine SndV.of tX12_turn (by decide +kernel) rfl rfl ?_ ?_
  · intro as w x h
    obtain ⟨t1, rfl, h_1⟩ := xS1_some h
    obtain ⟨a1, t2, rfl, h_2⟩ := xI1_some h_1
    obtain ⟨a2, t3, rfl, h_3⟩ := xI1_some h_2
    obtain ⟨rfl, h_4⟩ := xN1_some h_3
    clear h h_1 h_2 h_3
    have h := h_4
    rw [callW_eq] at h
    exact ⟨fun _ => ⟨_, _, _, rfl, rfl, _, rfl, rfl⟩, rfl, Nat.le_of_ble_eq_true rfl⟩
  · intro X G hn hR as w r h hr
    have hC := crX12_turn (N := N) G hR
    obtain ⟨t1, rfl, h_1⟩ := xS1_some h
    obtain ⟨a1, t2, rfl, h_2⟩ := xI1_some h_1
    obtain ⟨a2, t3, rfl, h_3⟩ := xI1_some h_2
    obtain ⟨rfl, h_4⟩ := xN1_some h_3
    clear h h_1 h_2 h_3
    have h := h_4
    rw [callW_eq] at h
    refine run_sound (r := r) (X := X) (cc := cX12_turn) (own := RX12) (tab := tX12_turn) G (by rw [hn]; exact kX12_turn) (oI := (oF [])) (oL := (oF [])) (oV := (oF [])) (rI := (fun _ _ => none)) (rL := (fun _ _ => none)) (rV := (fun w => some w))
      (K := (fun j ls st w => none)) (fun _ _ _ _ hx => by cases hx) (fun _ _ _ _ hx => by cases hx) (fun w pc ls hx hd => hr w pc ls (Option.some.inj hx) hd) hC (fun ls => lsb [some (.inr (.inr (16, 0))), some (.inl a1), some (.inl a2), none] 0 ls) (keepsP_of rfl) ?_ 21 0 [some (.inr (.inr (16, 0))), some (.inl a1), some (.inl a2), none] [] w ?_ h
    · intro j ls st w hfx h
      obtain ⟨e0, e1, e2, -⟩ : _ = _ ∧ _ = _ ∧ _ = _ ∧ True := hfx
      try dsimp only at h
      cases h
    · exact (show _ = _ ∧ _ = _ ∧ _ = _ ∧ True from ⟨rfl, rfl, rfl, trivial⟩)
-- MoorGuidesModel.nextRow(I)Z
def tX12_nextRow : List EN := [
  (0, .iload_n 1, 0, 0, 0, 0, 0, []), (1, .iconst 2, 0, 0, 0, 2, 0, []), (2, .isub, 0, 0, 0, 0, 0, []), (3, .istore_n 2, 0, 0, 0, 0, 0, []),
  (4, .iload_n 2, 5, 0, 0, 0, 0, []), (5, .ifCond .lt 26, 0, 19, 0, 0, 0, []), (8, .aload_n 0, 0, 0, 0, 0, 0, []), (9, .getfield 154, 0, 12, 88, 0, 0, []),
  (12, .iload_n 2, 0, 0, 0, 0, 0, []), (13, .iaload, 0, 0, 0, 0, 0, []), (14, .aload_n 0, 0, 0, 0, 0, 0, []), (15, .getfield 154, 0, 12, 88, 0, 0, []),
  (18, .iload_n 2, 0, 0, 0, 0, 0, []), (19, .iconst 1, 0, 0, 0, 1, 0, []), (20, .iadd, 0, 0, 0, 0, 0, []), (21, .iaload, 0, 0, 0, 0, 0, []),
  (22, .if_icmp .le 9, 0, 19, 0, 0, 0, []), (25, .iinc 2 (-1), 0, 0, 0, (-1), 0, []), (28, .goto (-24), 0, 4, 0, 0, 0, []), (31, .iload_n 2, 20, 0, 0, 0, 0, []),
  (32, .ifCond .ge 5, 0, 23, 0, 0, 0, []), (35, .iconst 0, 0, 0, 0, 0, 0, []), (36, .ireturn, 0, 0, 0, 0, 0, []), (37, .iload_n 1, 0, 0, 0, 0, 0, []),
  (38, .iconst 1, 0, 0, 0, 1, 0, []), (39, .isub, 0, 0, 0, 0, 0, []), (40, .istore_n 3, 0, 0, 0, 0, 0, []), (41, .aload_n 0, 28, 0, 0, 0, 0, []),
  (42, .getfield 154, 0, 12, 88, 0, 0, []), (45, .iload_n 3, 0, 0, 0, 0, 0, []), (46, .iaload, 0, 0, 0, 0, 0, []), (47, .aload_n 0, 0, 0, 0, 0, 0, []),
  (48, .getfield 154, 0, 12, 88, 0, 0, []), (51, .iload_n 2, 0, 0, 0, 0, 0, []), (52, .iaload, 0, 0, 0, 0, 0, []), (53, .if_icmp .ge 9, 0, 38, 0, 0, 0, []),
  (56, .iinc 3 (-1), 0, 0, 0, (-1), 0, []), (59, .goto (-18), 0, 27, 0, 0, 0, []), (62, .aload_n 0, 39, 0, 0, 0, 0, []), (63, .iload_n 2, 0, 0, 0, 0, 0, []),
  (64, .iload_n 3, 0, 0, 0, 0, 0, []), (65, .invokevirtual 576, 0, 0, 3, 0, 0, [(0, 0), (0, 0)]), (68, .iload_n 2, 0, 0, 0, 0, 0, []), (69, .iconst 1, 0, 0, 0, 1, 0, []),
  (70, .iadd, 0, 0, 0, 0, 0, []), (71, .istore 4, 0, 0, 0, 0, 0, []), (73, .iload_n 1, 0, 0, 0, 0, 0, []), (74, .iconst 1, 0, 0, 0, 1, 0, []),
  (75, .isub, 0, 0, 0, 0, 0, []), (76, .istore 5, 0, 0, 0, 0, 0, []), (78, .iload 4, 51, 0, 0, 0, 0, []), (80, .iload 5, 0, 0, 0, 0, 0, []),
  (82, .if_icmp .ge 20, 0, 60, 0, 0, 0, []), (85, .aload_n 0, 0, 0, 0, 0, 0, []), (86, .iload 4, 0, 0, 0, 0, 0, []), (88, .iload 5, 0, 0, 0, 0, 0, []),
  (90, .invokevirtual 576, 0, 0, 3, 0, 0, [(0, 0), (0, 0)]), (93, .iinc 4 1, 0, 0, 0, 1, 0, []), (96, .iinc 5 (-1), 0, 0, 0, (-1), 0, []), (99, .goto (-21), 0, 50, 0, 0, 0, []),
  (102, .iconst 1, 0, 0, 0, 1, 0, []), (103, .ireturn, 0, 0, 0, 0, 0, [])]
noncomputable def fX12_nextRow_50 (N : Nat) : Nat → Int32 → Int32 → Wd → Option (Int32 × Wd)
  | 0, _, _, _ => none
  | n + 1, v4, v5, w =>
    if v4 < v5 then
      (callW (pX12_turn N v4 v5) w).bind fun w1 =>
      callW (fX12_nextRow_50 N n (v4 + (1 : Int32)) (v5 + (-1 : Int32))) w1
    else
    some ((1 : Int32), w)
noncomputable def fX12_nextRow_38 (N : Nat) (a1 : Int32) (v2 : Int32) (v3 : Int32) (w : Wd) : Option (Int32 × Wd) :=
  (callW (pX12_turn N v2 v3) w).bind fun w1 =>
  callW (fX12_nextRow_50 N N (v2 + (1 : Int32)) (a1 - (1 : Int32))) w1
noncomputable def fX12_nextRow_27 (N : Nat) (a1 : Int32) : Nat → (Int32 → Int32 → Wd → Option (Int32 × Wd)) → Int32 → Int32 → Wd → Option (Int32 × Wd)
  | 0, _, _, _, _ => none
  | n + 1, k38, v2, v3, w =>
    (ldI w 119 0 v3 8).bind fun x1 =>
    (ldI w 119 0 v2 8).bind fun x2 =>
    if x1 < x2 then callW (fX12_nextRow_27 N a1 n k38 v2 (v3 + (-1 : Int32))) w else
    k38 v2 v3 w
noncomputable def fX12_nextRow_19 (N : Nat) (a1 : Int32) (v2 : Int32) (w : Wd) : Option (Int32 × Wd) :=
  if v2 < 0 then some ((0 : Int32), w) else
  callW (fX12_nextRow_27 N a1 N (fX12_nextRow_38 N a1) v2 (a1 - (1 : Int32))) w
noncomputable def fX12_nextRow_4 (N : Nat) (a1 : Int32) : Nat → (Int32 → Wd → Option (Int32 × Wd)) → Int32 → Wd → Option (Int32 × Wd)
  | 0, _, _, _ => none
  | n + 1, k19, v2, w =>
    if v2 < 0 then k19 v2 w else
    (ldI w 119 0 v2 8).bind fun x1 =>
    (ldI w 119 0 (v2 + (1 : Int32)) 8).bind fun x2 =>
    if x2 < x1 then callW (fX12_nextRow_4 N a1 n k19 (v2 + (-1 : Int32))) w else
    k19 v2 w
noncomputable def pX12_nextRow (N : Nat) (a1 : Int32) (w : Wd) : Option (Int32 × Wd) :=
  callW (fX12_nextRow_4 N a1 N (fX12_nextRow_19 N a1) (a1 - (2 : Int32))) w
noncomputable def mX12_nextRow (N : Nat) (as : List AV) (w : Wd) : Option (Int32 × Wd) := xS1 16 as fun t => xI1 t fun a1 t => xN1 t (callW (pX12_nextRow N a1) w)
set_option maxRecDepth 100000 in
set_option maxHeartbeats 4000000 in
theorem kX12_nextRow : TK cX12_nextRow RX12 6 tX12_nextRow := ⟨by decide +kernel, wok_of [1678, 1678, 1678, 1678] (by decide +kernel) (by decide +kernel)⟩
set_option maxRecDepth 100000 in
set_option maxHeartbeats 4000000 in
theorem sX12_nextRow_50 {N : Nat} {X : XT} (G : GX X cX12_nextRow RX12) (hn : xnL X = 6) (hC : CRs X tX12_nextRow (oF []) (oF []) (oF [(mX12_turn N)])) {r : Int32 × Wd} (hr : RTZ X cX12_nextRow r) (a1 : Int32) : ∀ (n : Nat) (v4 : Int32) (v5 : Int32) (w : Wd), fX12_nextRow_50 N n v4 v5 w = some r → WW X (pcAt tX12_nextRow 50) [some (.inr (.inr (16, 0))), some (.inl a1), none, none, some (.inl v4), some (.inl v5)] [] w := by
  intro n
  induction n with
  | zero => intro v4 v5 w h; cases h
  | succ n ih =>
    intro v4 v5 w h
    refine run_sound (r := r) (X := X) (cc := cX12_nextRow) (own := RX12) (tab := tX12_nextRow) G (by rw [hn]; exact kX12_nextRow) (oI := (oF [])) (oL := (oF [])) (oV := (oF [(mX12_turn N)])) (rI := retZ) (rL := (fun _ _ => none)) (rV := (fun _ => none))
      (K := (fun j ls st w => if j = 50 then (lgI ls 4 fun v4 => lgI ls 5 fun v5 => st0 st (callW (fX12_nextRow_50 N n v4 v5) w)) else none)) hr (fun _ _ _ _ hx => by cases hx) (fun _ _ _ hx => by cases hx) hC (fun ls => lsb [some (.inr (.inr (16, 0))), some (.inl a1), none, none, none, none] 0 ls) (keepsP_of rfl) ?_ 64 50 [some (.inr (.inr (16, 0))), some (.inl a1), none, none, some (.inl v4), some (.inl v5)] [] w ?_ h
    · intro j ls st w hfx h
      obtain ⟨e0, e1, -⟩ : _ = _ ∧ _ = _ ∧ True := hfx
      try dsimp only at h
      by_cases hj : j = 50
      · subst hj
        rw [if_pos rfl] at h
        obtain ⟨v4, e4, h_1⟩ := lgI_some h
        obtain ⟨v5, e5, h_2⟩ := lgI_some h_1
        obtain ⟨rfl, h_3⟩ := st0_some h_2
        clear h h_1 h_2
        have h := h_3
        try rw [callW_eq] at h
        exact WW.le (a := [some (.inr (.inr (16, 0))), some (.inl a1), none, none, some (.inl v4), some (.inl v5)]) (by rw [hn]; rfl) (show _ = _ ∧ _ = _ ∧ _ = _ ∧ _ = _ ∧ True from ⟨e0, e1, e4, e5, trivial⟩) (ih v4 v5 w h)
      rw [if_neg hj] at h
      cases h
    · exact (show _ = _ ∧ _ = _ ∧ True from ⟨rfl, rfl, trivial⟩)
set_option maxRecDepth 100000 in
set_option maxHeartbeats 4000000 in
theorem sX12_nextRow_38 {N : Nat} {X : XT} (G : GX X cX12_nextRow RX12) (hn : xnL X = 6) (hC : CRs X tX12_nextRow (oF []) (oF []) (oF [(mX12_turn N)])) {r : Int32 × Wd} (hr : RTZ X cX12_nextRow r) (a1 : Int32) : ∀ (v2 : Int32) (v3 : Int32) (w : Wd), fX12_nextRow_38 N a1 v2 v3 w = some r → WW X (pcAt tX12_nextRow 38) [some (.inr (.inr (16, 0))), some (.inl a1), some (.inl v2), some (.inl v3), none, none] [] w := by
  intro v2 v3 w h
  refine run_sound (r := r) (X := X) (cc := cX12_nextRow) (own := RX12) (tab := tX12_nextRow) G (by rw [hn]; exact kX12_nextRow) (oI := (oF [])) (oL := (oF [])) (oV := (oF [(mX12_turn N)])) (rI := retZ) (rL := (fun _ _ => none)) (rV := (fun _ => none))
    (K := (fun j ls st w => if j = 50 then (lgI ls 4 fun v4 => lgI ls 5 fun v5 => st0 st (callW (fX12_nextRow_50 N N v4 v5) w)) else none)) hr (fun _ _ _ _ hx => by cases hx) (fun _ _ _ hx => by cases hx) hC (fun ls => lsb [some (.inr (.inr (16, 0))), some (.inl a1), none, none, none, none] 0 ls) (keepsP_of rfl) ?_ 64 38 [some (.inr (.inr (16, 0))), some (.inl a1), some (.inl v2), some (.inl v3), none, none] [] w ?_ h
  · intro j ls st w hfx h
    obtain ⟨e0, e1, -⟩ : _ = _ ∧ _ = _ ∧ True := hfx
    try dsimp only at h
    by_cases hj : j = 50
    · subst hj
      rw [if_pos rfl] at h
      obtain ⟨v4, e4, h_1⟩ := lgI_some h
      obtain ⟨v5, e5, h_2⟩ := lgI_some h_1
      obtain ⟨rfl, h_3⟩ := st0_some h_2
      clear h h_1 h_2
      have h := h_3
      try rw [callW_eq] at h
      exact WW.le (a := [some (.inr (.inr (16, 0))), some (.inl a1), none, none, some (.inl v4), some (.inl v5)]) (by rw [hn]; rfl) (show _ = _ ∧ _ = _ ∧ _ = _ ∧ _ = _ ∧ True from ⟨e0, e1, e4, e5, trivial⟩) (sX12_nextRow_50 G hn hC hr a1 N v4 v5 w h)
    rw [if_neg hj] at h
    cases h
  · exact (show _ = _ ∧ _ = _ ∧ True from ⟨rfl, rfl, trivial⟩)
set_option maxRecDepth 100000 in
set_option maxHeartbeats 4000000 in
theorem sX12_nextRow_27 {N : Nat} {X : XT} (G : GX X cX12_nextRow RX12) (hn : xnL X = 6) (hC : CRs X tX12_nextRow (oF []) (oF []) (oF [(mX12_turn N)])) {r : Int32 × Wd} (hr : RTZ X cX12_nextRow r) (a1 : Int32) : ∀ (n : Nat) (k38 : Int32 → Int32 → Wd → Option (Int32 × Wd)) (v2 : Int32) (v3 : Int32) (w : Wd), fX12_nextRow_27 N a1 n k38 v2 v3 w = some r → (∀ (v2 : Int32) (v3 : Int32) (w : Wd), k38 v2 v3 w = some r → WW X (pcAt tX12_nextRow 38) [some (.inr (.inr (16, 0))), some (.inl a1), some (.inl v2), some (.inl v3), none, none] [] w) → WW X (pcAt tX12_nextRow 27) [some (.inr (.inr (16, 0))), some (.inl a1), some (.inl v2), some (.inl v3), none, none] [] w := by
  intro n
  induction n with
  | zero => intro k38 v2 v3 w h h38; cases h
  | succ n ih =>
    intro k38 v2 v3 w h h38
    refine run_sound (r := r) (X := X) (cc := cX12_nextRow) (own := RX12) (tab := tX12_nextRow) G (by rw [hn]; exact kX12_nextRow) (oI := (oF [])) (oL := (oF [])) (oV := (oF [(mX12_turn N)])) (rI := retZ) (rL := (fun _ _ => none)) (rV := (fun _ => none))
      (K := (fun j ls st w => if j = 27 then (lgI ls 2 fun v2 => lgI ls 3 fun v3 => st0 st (callW (fX12_nextRow_27 N a1 n k38 v2 v3) w)) else if j = 38 then (lgI ls 2 fun v2 => lgI ls 3 fun v3 => st0 st (k38 v2 v3 w)) else none)) hr (fun _ _ _ _ hx => by cases hx) (fun _ _ _ hx => by cases hx) hC (fun ls => lsb [some (.inr (.inr (16, 0))), some (.inl a1), none, none, none, none] 0 ls) (keepsP_of rfl) ?_ 64 27 [some (.inr (.inr (16, 0))), some (.inl a1), some (.inl v2), some (.inl v3), none, none] [] w ?_ h
    · intro j ls st w hfx h
      obtain ⟨e0, e1, -⟩ : _ = _ ∧ _ = _ ∧ True := hfx
      try dsimp only at h
      by_cases hj : j = 27
      · subst hj
        rw [if_pos rfl] at h
        obtain ⟨v2, e2, h_1⟩ := lgI_some h
        obtain ⟨v3, e3, h_2⟩ := lgI_some h_1
        obtain ⟨rfl, h_3⟩ := st0_some h_2
        clear h h_1 h_2
        have h := h_3
        try rw [callW_eq] at h
        exact WW.le (a := [some (.inr (.inr (16, 0))), some (.inl a1), some (.inl v2), some (.inl v3), none, none]) (by rw [hn]; rfl) (show _ = _ ∧ _ = _ ∧ _ = _ ∧ _ = _ ∧ True from ⟨e0, e1, e2, e3, trivial⟩) (ih k38 v2 v3 w h h38)
      rw [if_neg hj] at h
      by_cases hj : j = 38
      · subst hj
        rw [if_pos rfl] at h
        obtain ⟨v2, e2, h_1⟩ := lgI_some h
        obtain ⟨v3, e3, h_2⟩ := lgI_some h_1
        obtain ⟨rfl, h_3⟩ := st0_some h_2
        clear h h_1 h_2
        have h := h_3
        try rw [callW_eq] at h
        exact WW.le (a := [some (.inr (.inr (16, 0))), some (.inl a1), some (.inl v2), some (.inl v3), none, none]) (by rw [hn]; rfl) (show _ = _ ∧ _ = _ ∧ _ = _ ∧ _ = _ ∧ True from ⟨e0, e1, e2, e3, trivial⟩) (h38 v2 v3 w h)
      rw [if_neg hj] at h
      cases h
    · exact (show _ = _ ∧ _ = _ ∧ True from ⟨rfl, rfl, trivial⟩)
set_option maxRecDepth 100000 in
set_option maxHeartbeats 4000000 in
theorem sX12_nextRow_19 {N : Nat} {X : XT} (G : GX X cX12_nextRow RX12) (hn : xnL X = 6) (hC : CRs X tX12_nextRow (oF []) (oF []) (oF [(mX12_turn N)])) {r : Int32 × Wd} (hr : RTZ X cX12_nextRow r) (a1 : Int32) : ∀ (v2 : Int32) (w : Wd), fX12_nextRow_19 N a1 v2 w = some r → WW X (pcAt tX12_nextRow 19) [some (.inr (.inr (16, 0))), some (.inl a1), some (.inl v2), none, none, none] [] w := by
  intro v2 w h
  refine run_sound (r := r) (X := X) (cc := cX12_nextRow) (own := RX12) (tab := tX12_nextRow) G (by rw [hn]; exact kX12_nextRow) (oI := (oF [])) (oL := (oF [])) (oV := (oF [(mX12_turn N)])) (rI := retZ) (rL := (fun _ _ => none)) (rV := (fun _ => none))
    (K := (fun j ls st w => if j = 27 then (lgI ls 2 fun v2 => lgI ls 3 fun v3 => st0 st (callW (fX12_nextRow_27 N a1 N (fX12_nextRow_38 N a1) v2 v3) w)) else none)) hr (fun _ _ _ _ hx => by cases hx) (fun _ _ _ hx => by cases hx) hC (fun ls => lsb [some (.inr (.inr (16, 0))), some (.inl a1), none, none, none, none] 0 ls) (keepsP_of rfl) ?_ 64 19 [some (.inr (.inr (16, 0))), some (.inl a1), some (.inl v2), none, none, none] [] w ?_ h
  · intro j ls st w hfx h
    obtain ⟨e0, e1, -⟩ : _ = _ ∧ _ = _ ∧ True := hfx
    try dsimp only at h
    by_cases hj : j = 27
    · subst hj
      rw [if_pos rfl] at h
      obtain ⟨v2, e2, h_1⟩ := lgI_some h
      obtain ⟨v3, e3, h_2⟩ := lgI_some h_1
      obtain ⟨rfl, h_3⟩ := st0_some h_2
      clear h h_1 h_2
      have h := h_3
      try rw [callW_eq] at h
      exact WW.le (a := [some (.inr (.inr (16, 0))), some (.inl a1), some (.inl v2), some (.inl v3), none, none]) (by rw [hn]; rfl) (show _ = _ ∧ _ = _ ∧ _ = _ ∧ _ = _ ∧ True from ⟨e0, e1, e2, e3, trivial⟩) (sX12_nextRow_27 G hn hC hr a1 N (fX12_nextRow_38 N a1) v2 v3 w h (fun v2 v3 w h => (sX12_nextRow_38 G hn hC hr a1 v2 v3 w h)))
    rw [if_neg hj] at h
    cases h
  · exact (show _ = _ ∧ _ = _ ∧ True from ⟨rfl, rfl, trivial⟩)
set_option maxRecDepth 100000 in
set_option maxHeartbeats 4000000 in
theorem sX12_nextRow_4 {N : Nat} {X : XT} (G : GX X cX12_nextRow RX12) (hn : xnL X = 6) (hC : CRs X tX12_nextRow (oF []) (oF []) (oF [(mX12_turn N)])) {r : Int32 × Wd} (hr : RTZ X cX12_nextRow r) (a1 : Int32) : ∀ (n : Nat) (k19 : Int32 → Wd → Option (Int32 × Wd)) (v2 : Int32) (w : Wd), fX12_nextRow_4 N a1 n k19 v2 w = some r → (∀ (v2 : Int32) (w : Wd), k19 v2 w = some r → WW X (pcAt tX12_nextRow 19) [some (.inr (.inr (16, 0))), some (.inl a1), some (.inl v2), none, none, none] [] w) → WW X (pcAt tX12_nextRow 4) [some (.inr (.inr (16, 0))), some (.inl a1), some (.inl v2), none, none, none] [] w := by
  intro n
  induction n with
  | zero => intro k19 v2 w h h19; cases h
  | succ n ih =>
    intro k19 v2 w h h19
    refine run_sound (r := r) (X := X) (cc := cX12_nextRow) (own := RX12) (tab := tX12_nextRow) G (by rw [hn]; exact kX12_nextRow) (oI := (oF [])) (oL := (oF [])) (oV := (oF [(mX12_turn N)])) (rI := retZ) (rL := (fun _ _ => none)) (rV := (fun _ => none))
      (K := (fun j ls st w => if j = 4 then (lgI ls 2 fun v2 => st0 st (callW (fX12_nextRow_4 N a1 n k19 v2) w)) else if j = 19 then (lgI ls 2 fun v2 => st0 st (k19 v2 w)) else none)) hr (fun _ _ _ _ hx => by cases hx) (fun _ _ _ hx => by cases hx) hC (fun ls => lsb [some (.inr (.inr (16, 0))), some (.inl a1), none, none, none, none] 0 ls) (keepsP_of rfl) ?_ 64 4 [some (.inr (.inr (16, 0))), some (.inl a1), some (.inl v2), none, none, none] [] w ?_ h
    · intro j ls st w hfx h
      obtain ⟨e0, e1, -⟩ : _ = _ ∧ _ = _ ∧ True := hfx
      try dsimp only at h
      by_cases hj : j = 4
      · subst hj
        rw [if_pos rfl] at h
        obtain ⟨v2, e2, h_1⟩ := lgI_some h
        obtain ⟨rfl, h_2⟩ := st0_some h_1
        clear h h_1
        have h := h_2
        try rw [callW_eq] at h
        exact WW.le (a := [some (.inr (.inr (16, 0))), some (.inl a1), some (.inl v2), none, none, none]) (by rw [hn]; rfl) (show _ = _ ∧ _ = _ ∧ _ = _ ∧ True from ⟨e0, e1, e2, trivial⟩) (ih k19 v2 w h h19)
      rw [if_neg hj] at h
      by_cases hj : j = 19
      · subst hj
        rw [if_pos rfl] at h
        obtain ⟨v2, e2, h_1⟩ := lgI_some h
        obtain ⟨rfl, h_2⟩ := st0_some h_1
        clear h h_1
        have h := h_2
        try rw [callW_eq] at h
        exact WW.le (a := [some (.inr (.inr (16, 0))), some (.inl a1), some (.inl v2), none, none, none]) (by rw [hn]; rfl) (show _ = _ ∧ _ = _ ∧ _ = _ ∧ True from ⟨e0, e1, e2, trivial⟩) (h19 v2 w h)
      rw [if_neg hj] at h
      cases h
    · exact (show _ = _ ∧ _ = _ ∧ True from ⟨rfl, rfl, trivial⟩)
set_option maxRecDepth 100000 in
set_option maxHeartbeats 4000000 in
theorem crX12_nextRow {N : Nat} {X : XT} (G : GX X cX12_nextRow RX12) (hR : xR X = rmL 2) : CRs X tX12_nextRow (oF []) (oF []) (oF [(mX12_turn N)]) := by
  have hl : tX12_nextRow.filter isInv = [(65, .invokevirtual 576, 0, 0, 3, 0, 0, [(0, 0), (0, 0)]), (90, .invokevirtual 576, 0, 0, 3, 0, 0, [(0, 0), (0, 0)])] := rfl
  intro e he
  rw [hl] at he
  simp only [List.mem_cons, List.not_mem_nil, or_false] at he
  rcases he with rfl | rfl
  · exact crV_V (idx := 576) G (by decide +kernel) (MX12_turn N) (cw_of (ps := [2288, 2290, 139, 162, 2291]) (by decide +kernel) (by decide +kernel)) ⟨by decide +kernel, by decide +kernel, by decide +kernel⟩ (by unfold rmOk; rw [hR]; exact ⟨by decide, by decide⟩)
  · exact crV_V (idx := 576) G (by decide +kernel) (MX12_turn N) (cw_of (ps := [2288, 2290, 139, 162, 2291]) (by decide +kernel) (by decide +kernel)) ⟨by decide +kernel, by decide +kernel, by decide +kernel⟩ (by unfold rmOk; rw [hR]; exact ⟨by decide, by decide⟩)
set_option maxRecDepth 100000 in
set_option maxHeartbeats 4000000 in
theorem MX12_nextRow (N : Nat) : SndI yX12_nextRow cX12_nextRow 6 (some .boolean) 2 2 true (mX12_nextRow N) := by
  refine SndI.ofZ tX12_nextRow (by decide +kernel) rfl rfl ?_ ?_
  · intro as w x h
    obtain ⟨t1, rfl, h_1⟩ := xS1_some h
    obtain ⟨a1, t2, rfl, h_2⟩ := xI1_some h_1
    obtain ⟨rfl, h_3⟩ := xN1_some h_2
    clear h h_1 h_2
    have h := h_3
    rw [callW_eq] at h
    exact ⟨fun _ => ⟨_, _, _, rfl, rfl, _, rfl, rfl⟩, rfl, Nat.le_of_ble_eq_true rfl⟩
  · intro X G hn hR as w r h hr
    have hC := crX12_nextRow (N := N) G hR
    obtain ⟨t1, rfl, h_1⟩ := xS1_some h
    obtain ⟨a1, t2, rfl, h_2⟩ := xI1_some h_1
    obtain ⟨rfl, h_3⟩ := xN1_some h_2
    clear h h_1 h_2
    have h := h_3
    rw [callW_eq] at h
    refine run_sound (r := r) (X := X) (cc := cX12_nextRow) (own := RX12) (tab := tX12_nextRow) G (by rw [hn]; exact kX12_nextRow) (oI := (oF [])) (oL := (oF [])) (oV := (oF [(mX12_turn N)])) (rI := retZ) (rL := (fun _ _ => none)) (rV := (fun _ => none))
      (K := (fun j ls st w => if j = 4 then (lgI ls 2 fun v2 => st0 st (callW (fX12_nextRow_4 N a1 N (fX12_nextRow_19 N a1) v2) w)) else none)) hr (fun _ _ _ _ hx => by cases hx) (fun _ _ _ hx => by cases hx) hC (fun ls => lsb [some (.inr (.inr (16, 0))), some (.inl a1), none, none, none, none] 0 ls) (keepsP_of rfl) ?_ 64 0 [some (.inr (.inr (16, 0))), some (.inl a1), none, none, none, none] [] w ?_ h
    · intro j ls st w hfx h
      obtain ⟨e0, e1, -⟩ : _ = _ ∧ _ = _ ∧ True := hfx
      try dsimp only at h
      by_cases hj : j = 4
      · subst hj
        rw [if_pos rfl] at h
        obtain ⟨v2, e2, h_1⟩ := lgI_some h
        obtain ⟨rfl, h_2⟩ := st0_some h_1
        clear h h_1
        have h := h_2
        try rw [callW_eq] at h
        exact WW.le (a := [some (.inr (.inr (16, 0))), some (.inl a1), some (.inl v2), none, none, none]) (by rw [hn]; rfl) (show _ = _ ∧ _ = _ ∧ _ = _ ∧ True from ⟨e0, e1, e2, trivial⟩) (sX12_nextRow_4 G hn hC hr a1 N (fX12_nextRow_19 N a1) v2 w h (fun v2 w h => (sX12_nextRow_19 G hn hC hr a1 v2 w h)))
      rw [if_neg hj] at h
      cases h
    · exact (show _ = _ ∧ _ = _ ∧ True from ⟨rfl, rfl, trivial⟩)

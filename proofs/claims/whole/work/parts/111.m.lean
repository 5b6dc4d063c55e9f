-- MoorGuidesModel.partyLine()Z
def tX12_partyLine : List EN := [
  (0, .aload_n 0, 0, 0, 0, 0, 0, []), (1, .getfield 264, 0, 12, 22, 0, 0, []), (4, .bipush 8, 0, 0, 0, 8, 0, []), (6, .if_icmp .ne 9, 0, 8, 0, 0, 0, []),
  (9, .aload_n 0, 0, 0, 0, 0, 0, []), (10, .iconst 2, 0, 0, 0, 2, 0, []), (11, .invokevirtual 238, 0, 0, 2, 0, 0, []), (14, .ireturn, 0, 0, 0, 0, 0, []),
  (15, .aload_n 0, 0, 0, 0, 0, 0, []), (16, .invokevirtual 248, 0, 0, 1, 0, 0, [(0, 0), (0, 0)]), (19, .bipush 8, 0, 0, 0, 8, 0, []), (21, .aload_n 0, 0, 0, 0, 0, 0, []),
  (22, .getfield 264, 0, 12, 22, 0, 0, []), (25, .iadd, 0, 0, 0, 0, 0, []), (26, .istore_n 1, 0, 0, 0, 0, 0, []), (27, .aload_n 0, 0, 0, 0, 0, 0, []),
  (28, .invokevirtual 347, 0, 1, 1, 0, 0, []), (31, .ifCond .ne 5, 0, 20, 0, 0, 0, []), (34, .iconst 0, 0, 0, 0, 0, 0, []), (35, .ireturn, 0, 0, 0, 0, 0, []),
  (36, .aload_n 0, 0, 0, 0, 0, 0, []), (37, .getfield 47, 0, 12, 40, 0, 0, []), (40, .iload_n 1, 0, 0, 0, 0, 0, []), (41, .aload_n 0, 0, 0, 0, 0, 0, []),
  (42, .getfield 245, 0, 12, 11, 0, 0, []), (45, .iastore, 0, 0, 0, 0, 0, []), (46, .aload_n 0, 0, 0, 0, 0, 0, []), (47, .invokevirtual 347, 0, 1, 1, 0, 0, []),
  (50, .ifCond .ne 5, 0, 31, 0, 0, 0, []), (53, .iconst 0, 0, 0, 0, 0, 0, []), (54, .ireturn, 0, 0, 0, 0, 0, []), (55, .aload_n 0, 0, 0, 0, 0, 0, []),
  (56, .getfield 50, 0, 12, 41, 0, 0, []), (59, .iload_n 1, 0, 0, 0, 0, 0, []), (60, .aload_n 0, 0, 0, 0, 0, 0, []), (61, .getfield 245, 0, 12, 11, 0, 0, []),
  (64, .iastore, 0, 0, 0, 0, 0, []), (65, .aload_n 0, 0, 0, 0, 0, 0, []), (66, .iconst 0, 0, 0, 0, 0, 0, []), (67, .sipush 999, 0, 0, 0, 999, 0, []),
  (70, .invokevirtual 254, 0, 2, 3, 0, 0, []), (73, .ifCond .ne 5, 0, 44, 0, 0, 0, []), (76, .iconst 0, 0, 0, 0, 0, 0, []), (77, .ireturn, 0, 0, 0, 0, 0, []),
  (78, .aload_n 0, 0, 0, 0, 0, 0, []), (79, .getfield 53, 0, 12, 42, 0, 0, []), (82, .iload_n 1, 0, 0, 0, 0, 0, []), (83, .aload_n 0, 0, 0, 0, 0, 0, []),
  (84, .getfield 245, 0, 12, 11, 0, 0, []), (87, .iastore, 0, 0, 0, 0, 0, []), (88, .aload_n 0, 0, 0, 0, 0, 0, []), (89, .iconst 0, 0, 0, 0, 0, 0, []),
  (90, .bipush 99, 0, 0, 0, 99, 0, []), (92, .invokevirtual 254, 0, 2, 3, 0, 0, []), (95, .ifCond .ne 5, 0, 57, 0, 0, 0, []), (98, .iconst 0, 0, 0, 0, 0, 0, []),
  (99, .ireturn, 0, 0, 0, 0, 0, []), (100, .aload_n 0, 0, 0, 0, 0, 0, []), (101, .getfield 56, 0, 12, 43, 0, 0, []), (104, .iload_n 1, 0, 0, 0, 0, 0, []),
  (105, .aload_n 0, 0, 0, 0, 0, 0, []), (106, .getfield 245, 0, 12, 11, 0, 0, []), (109, .iastore, 0, 0, 0, 0, 0, []), (110, .aload_n 0, 0, 0, 0, 0, 0, []),
  (111, .dup, 0, 0, 0, 0, 0, []), (112, .getfield 264, 0, 12, 22, 0, 0, []), (115, .iconst 1, 0, 0, 0, 1, 0, []), (116, .iadd, 0, 0, 0, 0, 0, []),
  (117, .putfield 264, 0, 12, 22, 0, 0, []), (120, .iconst 1, 0, 0, 0, 1, 0, []), (121, .ireturn, 0, 0, 0, 0, 0, [])]
noncomputable def pX12_partyLine (N : Nat) (w : Wd) : Option (Int32 × Wd) :=
  if (gI w 16 0 22) = (8 : Int32) then
    (callW (pX12_wrong N (2 : Int32)) w).bind fun r1 =>
    retZ r1.1 r1.2
  else
  (callW (pX12_token N) w).bind fun w2 =>
  (callW (pX12_partRead1 N) w2).bind fun r3 =>
  if r3.1 = 0 then some ((0 : Int32), r3.2) else
  (stI r3.2 84 0 ((8 : Int32) + (gI w2 16 0 22)) 16 (gI r3.2 16 0 11)).bind fun w4 =>
  (callW (pX12_partRead1 N) w4).bind fun r5 =>
  if r5.1 = 0 then some ((0 : Int32), r5.2) else
  (stI r5.2 85 0 ((8 : Int32) + (gI w2 16 0 22)) 16 (gI r5.2 16 0 11)).bind fun w6 =>
  (callW (pX12_number N (0 : Int32) (999 : Int32)) w6).bind fun r7 =>
  if r7.1 = 0 then some ((0 : Int32), r7.2) else
  (stI r7.2 86 0 ((8 : Int32) + (gI w2 16 0 22)) 16 (gI r7.2 16 0 11)).bind fun w8 =>
  (callW (pX12_number N (0 : Int32) (99 : Int32)) w8).bind fun r9 =>
  if r9.1 = 0 then some ((0 : Int32), r9.2) else
  (stI r9.2 87 0 ((8 : Int32) + (gI w2 16 0 22)) 16 (gI r9.2 16 0 11)).bind fun w10 =>
  some ((1 : Int32), (setI w10 16 0 22 ((gI w10 16 0 22) + (1 : Int32))))
noncomputable def mX12_partyLine (N : Nat) (as : List AV) (w : Wd) : Option (Int32 × Wd) := xS1 16 as fun t => xN1 t (callW (pX12_partyLine N) w)
set_option maxRecDepth 100000 in
set_option maxHeartbeats 4000000 in
theorem kX12_partyLine : TK cX12_partyLine RX12 2 tX12_partyLine := ⟨by decide +kernel, wok_of [1622, 1622, 1640, 1611, 1641, 1611, 1642, 1611, 1643, 1611, 1622, 1622] (by decide +kernel) (by decide +kernel)⟩
set_option maxRecDepth 100000 in
set_option maxHeartbeats 4000000 in
theorem crX12_partyLine {N : Nat} {X : XT} (G : GX X cX12_partyLine RX12) (hR : xR X = rmL 4) : CRs X tX12_partyLine (oF [(mX12_wrong N), (mX12_partRead1 N), (mX12_number N)]) (oF []) (oF [(mX12_token N)]) := by
  have hl : tX12_partyLine.filter isInv = [(11, .invokevirtual 238, 0, 0, 2, 0, 0, []), (16, .invokevirtual 248, 0, 0, 1, 0, 0, [(0, 0), (0, 0)]), (28, .invokevirtual 347, 0, 1, 1, 0, 0, []), (47, .invokevirtual 347, 0, 1, 1, 0, 0, []), (70, .invokevirtual 254, 0, 2, 3, 0, 0, []), (92, .invokevirtual 254, 0, 2, 3, 0, 0, [])] := rfl
  intro e he
  rw [hl] at he
  simp only [List.mem_cons, List.not_mem_nil, or_false] at he
  rcases he with rfl | rfl | rfl | rfl | rfl | rfl
  · exact crI_V (idx := 238) G (by decide +kernel) (MX12_wrong N) (cw_of (ps := [1967, 1969, 83, 164, 1970]) (by decide +kernel) (by decide +kernel)) ⟨by decide +kernel, by decide +kernel, by decide +kernel⟩ (by unfold rmOk; rw [hR]; exact ⟨by decide, by decide⟩)
  · exact crV_V (idx := 248) G (by decide +kernel) (MX12_token N) (cw_of (ps := [1938, 1940, 76, 164, 1941]) (by decide +kernel) (by decide +kernel)) ⟨by decide +kernel, by decide +kernel, by decide +kernel⟩ (by unfold rmOk; rw [hR]; exact ⟨by decide, by decide⟩)
  · exact crI_V (idx := 347) G (by decide +kernel) (MX12_partRead1 N) (cw_of (ps := [2009, 2011, 92, 164, 2012]) (by decide +kernel) (by decide +kernel)) ⟨by decide +kernel, by decide +kernel, by decide +kernel⟩ (by unfold rmOk; rw [hR]; exact ⟨by decide, by decide⟩)
  · exact crI_V (idx := 347) G (by decide +kernel) (MX12_partRead1 N) (cw_of (ps := [2009, 2011, 92, 164, 2012]) (by decide +kernel) (by decide +kernel)) ⟨by decide +kernel, by decide +kernel, by decide +kernel⟩ (by unfold rmOk; rw [hR]; exact ⟨by decide, by decide⟩)
  · exact crI_V (idx := 254) G (by decide +kernel) (MX12_number N) (cw_of (ps := [1982, 1984, 86, 164, 1985]) (by decide +kernel) (by decide +kernel)) ⟨by decide +kernel, by decide +kernel, by decide +kernel⟩ (by unfold rmOk; rw [hR]; exact ⟨by decide, by decide⟩)
  · exact crI_V (idx := 254) G (by decide +kernel) (MX12_number N) (cw_of (ps := [1982, 1984, 86, 164, 1985]) (by decide +kernel) (by decide +kernel)) ⟨by decide +kernel, by decide +kernel, by decide +kernel⟩ (by unfold rmOk; rw [hR]; exact ⟨by decide, by decide⟩)
set_option maxRecDepth 100000 in
set_option maxHeartbeats 4000000 in
theorem MX12_partyLine (N : Nat) : SndI yX12_partyLine cX12_partyLine 2 (some .boolean) 4 1 true (mX12_partyLine N) := by
  refine SndI.ofZ tX12_partyLine (by decide +kernel) rfl rfl ?_ ?_
  · intro as w x h
    obtain ⟨t1, rfl, h_1⟩ := xS1_some h
    obtain ⟨rfl, h_2⟩ := xN1_some h_1
    clear h h_1
    have h := h_2
    rw [callW_eq] at h
    exact ⟨fun _ => ⟨_, _, _, rfl, rfl, _, rfl, rfl⟩, rfl, Nat.le_of_ble_eq_true rfl⟩
  · intro X G hn hR as w r h hr
    have hC := crX12_partyLine (N := N) G hR
    obtain ⟨t1, rfl, h_1⟩ := xS1_some h
    obtain ⟨rfl, h_2⟩ := xN1_some h_1
    clear h h_1
    have h := h_2
    rw [callW_eq] at h
    refine run_sound (r := r) (X := X) (cc := cX12_partyLine) (own := RX12) (tab := tX12_partyLine) G (by rw [hn]; exact kX12_partyLine) (oI := (oF [(mX12_wrong N), (mX12_partRead1 N), (mX12_number N)])) (oL := (oF [])) (oV := (oF [(mX12_token N)])) (rI := retZ) (rL := (fun _ _ => none)) (rV := (fun _ => none))
      (K := (fun j ls st w => none)) hr (fun _ _ _ _ hx => by cases hx) (fun _ _ _ hx => by cases hx) hC (fun ls => lsb [some (.inr (.inr (16, 0))), none] 0 ls) (keepsP_of rfl) ?_ 73 0 [some (.inr (.inr (16, 0))), none] [] w ?_ h
    · intro j ls st w hfx h
      obtain ⟨e0, -⟩ : _ = _ ∧ True := hfx
      try dsimp only at h
      cases h
    · exact (show _ = _ ∧ True from ⟨rfl, trivial⟩)
-- MoorGuidesModel.weatherLine()Z
def tX12_weatherLine : List EN := [
  (0, .aload_n 0, 0, 0, 0, 0, 0, []), (1, .getfield 285, 0, 12, 28, 0, 0, []), (4, .ifCond .eq 9, 0, 7, 0, 0, 0, []), (7, .aload_n 0, 0, 0, 0, 0, 0, []),
  (8, .iconst 3, 0, 0, 0, 3, 0, []), (9, .invokevirtual 238, 0, 0, 2, 0, 0, []), (12, .ireturn, 0, 0, 0, 0, 0, []), (13, .aload_n 0, 0, 0, 0, 0, 0, []),
  (14, .iconst 1, 0, 0, 0, 1, 0, []), (15, .putfield 285, 0, 12, 28, 0, 0, [(0, 0)]), (18, .aload_n 0, 0, 0, 0, 0, 0, []), (19, .invokevirtual 248, 0, 0, 1, 0, 0, [(0, 0), (0, 0)]),
  (22, .iconst 1, 0, 0, 0, 1, 0, []), (23, .istore_n 1, 0, 0, 0, 0, 0, []), (24, .iload_n 1, 15, 0, 0, 0, 0, []), (25, .ifCond .eq 81, 0, 59, 0, 0, 0, []),
  (28, .aload_n 0, 0, 0, 0, 0, 0, []), (29, .getfield 214, 0, 12, 8, 0, 0, []), (32, .iconst 3, 0, 0, 0, 3, 0, []), (33, .if_icmp .ne 18, 0, 28, 0, 0, 0, []),
  (36, .aload_n 0, 0, 0, 0, 0, 0, []), (37, .getfield 267, 0, 12, 23, 0, 0, []), (40, .bipush 14, 0, 0, 0, 14, 0, []), (42, .if_icmp .ne 9, 0, 28, 0, 0, 0, []),
  (45, .aload_n 0, 0, 0, 0, 0, 0, []), (46, .iconst 2, 0, 0, 0, 2, 0, []), (47, .invokevirtual 238, 0, 0, 2, 0, 0, []), (50, .ireturn, 0, 0, 0, 0, 0, []),
  (51, .aload_n 0, 29, 0, 0, 0, 0, []), (52, .iconst 0, 0, 0, 0, 0, 0, []), (53, .bipush 9, 0, 0, 0, 9, 0, []), (55, .invokevirtual 254, 0, 1, 3, 0, 0, []),
  (58, .ifCond .ne 5, 0, 35, 0, 0, 0, []), (61, .iconst 0, 0, 0, 0, 0, 0, []), (62, .ireturn, 0, 0, 0, 0, 0, []), (63, .aload_n 0, 0, 0, 0, 0, 0, []),
  (64, .getfield 59, 0, 12, 44, 0, 0, []), (67, .bipush 14, 0, 0, 0, 14, 0, []), (69, .aload_n 0, 0, 0, 0, 0, 0, []), (70, .getfield 267, 0, 12, 23, 0, 0, []),
  (73, .iadd, 0, 0, 0, 0, 0, []), (74, .aload_n 0, 0, 0, 0, 0, 0, []), (75, .getfield 245, 0, 12, 11, 0, 0, []), (78, .iastore, 0, 0, 0, 0, 0, []),
  (79, .aload_n 0, 0, 0, 0, 0, 0, []), (80, .dup, 0, 0, 0, 0, 0, []), (81, .getfield 267, 0, 12, 23, 0, 0, []), (84, .iconst 1, 0, 0, 0, 1, 0, []),
  (85, .iadd, 0, 0, 0, 0, 0, []), (86, .putfield 267, 0, 12, 23, 0, 0, []), (89, .aload_n 0, 0, 0, 0, 0, 0, []), (90, .getfield 214, 0, 12, 8, 0, 0, []),
  (93, .iconst 3, 0, 0, 0, 3, 0, []), (94, .if_icmp .ne 7, 0, 56, 0, 0, 0, []), (97, .iconst 1, 0, 0, 0, 1, 0, []), (98, .goto 4, 0, 57, 0, 0, 0, []),
  (101, .iconst 0, 0, 0, 0, 0, 0, []), (102, .istore_n 1, 0, 0, 0, 0, 0, []), (103, .goto (-79), 0, 14, 0, 0, 0, []), (106, .iconst 1, 0, 0, 0, 1, 0, []),
  (107, .ireturn, 0, 0, 0, 0, 0, [])]
noncomputable def fX12_weatherLine_28 (N : Nat) (k14 : Int32 → Wd → Option (Int32 × Wd)) (w : Wd) : Option (Int32 × Wd) :=
  (callW (pX12_number N (0 : Int32) (9 : Int32)) w).bind fun r1 =>
  if r1.1 = 0 then some ((0 : Int32), r1.2) else
  (stI r1.2 88 0 ((14 : Int32) + (gI r1.2 16 0 23)) 28 (gI r1.2 16 0 11)).bind fun w2 =>
  if (gI (setI w2 16 0 23 ((gI w2 16 0 23) + (1 : Int32))) 16 0 8) = (3 : Int32) then k14 (1 : Int32) (setI w2 16 0 23 ((gI w2 16 0 23) + (1 : Int32))) else
  k14 (0 : Int32) (setI w2 16 0 23 ((gI w2 16 0 23) + (1 : Int32)))
noncomputable def fX12_weatherLine_14 (N : Nat) : Nat → Int32 → Wd → Option (Int32 × Wd)
  | 0, _, _ => none
  | n + 1, v1, w =>
    if v1 = 0 then some ((1 : Int32), w) else
    if (gI w 16 0 8) = (3 : Int32) then
      if (gI w 16 0 23) = (14 : Int32) then
        (callW (pX12_wrong N (2 : Int32)) w).bind fun r1 =>
        retZ r1.1 r1.2
      else
      callW (fX12_weatherLine_28 N (fX12_weatherLine_14 N n)) w
    else
    callW (fX12_weatherLine_28 N (fX12_weatherLine_14 N n)) w
noncomputable def pX12_weatherLine (N : Nat) (w : Wd) : Option (Int32 × Wd) :=
  if (gI w 16 0 28) = 0 then
    (callW (pX12_token N) (setI w 16 0 28 (1 : Int32))).bind fun w1 =>
    callW (fX12_weatherLine_14 N N (1 : Int32)) w1
  else
  (callW (pX12_wrong N (3 : Int32)) w).bind fun r2 =>
  retZ r2.1 r2.2
noncomputable def mX12_weatherLine (N : Nat) (as : List AV) (w : Wd) : Option (Int32 × Wd) := xS1 16 as fun t => xN1 t (callW (pX12_weatherLine N) w)
set_option maxRecDepth 100000 in
set_option maxHeartbeats 4000000 in
theorem kX12_weatherLine : TK cX12_weatherLine RX12 2 tX12_weatherLine := ⟨by decide +kernel, wok_of [1628, 1628, 1608, 1623, 1644, 1623, 1611, 1623, 1623, 1608] (by decide +kernel) (by decide +kernel)⟩
set_option maxRecDepth 100000 in
set_option maxHeartbeats 4000000 in
theorem sX12_weatherLine_28 {N : Nat} {X : XT} (G : GX X cX12_weatherLine RX12) (hn : xnL X = 2) (hC : CRs X tX12_weatherLine (oF [(mX12_wrong N), (mX12_number N)]) (oF []) (oF [(mX12_token N)])) {r : Int32 × Wd} (hr : RTZ X cX12_weatherLine r)  : ∀ (k14 : Int32 → Wd → Option (Int32 × Wd)) (w : Wd), fX12_weatherLine_28 N k14 w = some r → (∀ (v1 : Int32) (w : Wd), k14 v1 w = some r → WW X (pcAt tX12_weatherLine 14) [some (.inr (.inr (16, 0))), some (.inl v1)] [] w) → WW X (pcAt tX12_weatherLine 28) [some (.inr (.inr (16, 0))), none] [] w := by
  intro k14 w h h14
  refine run_sound (r := r) (X := X) (cc := cX12_weatherLine) (own := RX12) (tab := tX12_weatherLine) G (by rw [hn]; exact kX12_weatherLine) (oI := (oF [(mX12_wrong N), (mX12_number N)])) (oL := (oF [])) (oV := (oF [(mX12_token N)])) (rI := retZ) (rL := (fun _ _ => none)) (rV := (fun _ => none))
    (K := (fun j ls st w => if j = 14 then (lgI ls 1 fun v1 => st0 st (k14 v1 w)) else none)) hr (fun _ _ _ _ hx => by cases hx) (fun _ _ _ hx => by cases hx) hC (fun ls => lsb [some (.inr (.inr (16, 0))), none] 0 ls) (keepsP_of rfl) ?_ 63 28 [some (.inr (.inr (16, 0))), none] [] w ?_ h
  · intro j ls st w hfx h
    obtain ⟨e0, -⟩ : _ = _ ∧ True := hfx
    try dsimp only at h
    by_cases hj : j = 14
    · subst hj
      rw [if_pos rfl] at h
      obtain ⟨v1, e1, h_1⟩ := lgI_some h
      obtain ⟨rfl, h_2⟩ := st0_some h_1
      clear h h_1
      have h := h_2
      try rw [callW_eq] at h
      exact WW.le (a := [some (.inr (.inr (16, 0))), some (.inl v1)]) (by rw [hn]; rfl) (show _ = _ ∧ _ = _ ∧ True from ⟨e0, e1, trivial⟩) (h14 v1 w h)
    rw [if_neg hj] at h
    cases h
  · exact (show _ = _ ∧ True from ⟨rfl, trivial⟩)
set_option maxRecDepth 100000 in
set_option maxHeartbeats 4000000 in
theorem sX12_weatherLine_14 {N : Nat} {X : XT} (G : GX X cX12_weatherLine RX12) (hn : xnL X = 2) (hC : CRs X tX12_weatherLine (oF [(mX12_wrong N), (mX12_number N)]) (oF []) (oF [(mX12_token N)])) {r : Int32 × Wd} (hr : RTZ X cX12_weatherLine r)  : ∀ (n : Nat) (v1 : Int32) (w : Wd), fX12_weatherLine_14 N n v1 w = some r → WW X (pcAt tX12_weatherLine 14) [some (.inr (.inr (16, 0))), some (.inl v1)] [] w := by
  intro n
  induction n with
  | zero => intro v1 w h; cases h
  | succ n ih =>
    intro v1 w h
    refine run_sound (r := r) (X := X) (cc := cX12_weatherLine) (own := RX12) (tab := tX12_weatherLine) G (by rw [hn]; exact kX12_weatherLine) (oI := (oF [(mX12_wrong N), (mX12_number N)])) (oL := (oF [])) (oV := (oF [(mX12_token N)])) (rI := retZ) (rL := (fun _ _ => none)) (rV := (fun _ => none))
      (K := (fun j ls st w => if j = 28 then (st0 st (callW (fX12_weatherLine_28 N (fX12_weatherLine_14 N n)) w)) else none)) hr (fun _ _ _ _ hx => by cases hx) (fun _ _ _ hx => by cases hx) hC (fun ls => lsb [some (.inr (.inr (16, 0))), none] 0 ls) (keepsP_of rfl) ?_ 63 14 [some (.inr (.inr (16, 0))), some (.inl v1)] [] w ?_ h
    · intro j ls st w hfx h
      obtain ⟨e0, -⟩ : _ = _ ∧ True := hfx
      try dsimp only at h
      by_cases hj : j = 28
      · subst hj
        rw [if_pos rfl] at h
        obtain ⟨rfl, h_1⟩ := st0_some h
        clear h
        have h := h_1
        try rw [callW_eq] at h
        exact WW.le (a := [some (.inr (.inr (16, 0))), none]) (by rw [hn]; rfl) (show _ = _ ∧ True from ⟨e0, trivial⟩) (sX12_weatherLine_28 G hn hC hr (fX12_weatherLine_14 N n) w h (fun v1 w h => (ih v1 w h)))
      rw [if_neg hj] at h
      cases h
    · exact (show _ = _ ∧ True from ⟨rfl, trivial⟩)
set_option maxRecDepth 100000 in
set_option maxHeartbeats 4000000 in
theorem crX12_weatherLine {N : Nat} {X : XT} (G : GX X cX12_weatherLine RX12) (hR : xR X = rmL 4) : CRs X tX12_weatherLine (oF [(mX12_wrong N), (mX12_number N)]) (oF []) (oF [(mX12_token N)]) := by
  have hl : tX12_weatherLine.filter isInv = [(9, .invokevirtual 238, 0, 0, 2, 0, 0, []), (19, .invokevirtual 248, 0, 0, 1, 0, 0, [(0, 0), (0, 0)]), (47, .invokevirtual 238, 0, 0, 2, 0, 0, []), (55, .invokevirtual 254, 0, 1, 3, 0, 0, [])] := rfl
  intro e he
  rw [hl] at he
  simp only [List.mem_cons, List.not_mem_nil, or_false] at he
  rcases he with rfl | rfl | rfl | rfl
  · exact crI_V (idx := 238) G (by decide +kernel) (MX12_wrong N) (cw_of (ps := [1967, 1969, 83, 164, 1970]) (by decide +kernel) (by decide +kernel)) ⟨by decide +kernel, by decide +kernel, by decide +kernel⟩ (by unfold rmOk; rw [hR]; exact ⟨by decide, by decide⟩)
  · exact crV_V (idx := 248) G (by decide +kernel) (MX12_token N) (cw_of (ps := [1938, 1940, 76, 164, 1941]) (by decide +kernel) (by decide +kernel)) ⟨by decide +kernel, by decide +kernel, by decide +kernel⟩ (by unfold rmOk; rw [hR]; exact ⟨by decide, by decide⟩)
  · exact crI_V (idx := 238) G (by decide +kernel) (MX12_wrong N) (cw_of (ps := [1967, 1969, 83, 164, 1970]) (by decide +kernel) (by decide +kernel)) ⟨by decide +kernel, by decide +kernel, by decide +kernel⟩ (by unfold rmOk; rw [hR]; exact ⟨by decide, by decide⟩)
  · exact crI_V (idx := 254) G (by decide +kernel) (MX12_number N) (cw_of (ps := [1982, 1984, 86, 164, 1985]) (by decide +kernel) (by decide +kernel)) ⟨by decide +kernel, by decide +kernel, by decide +kernel⟩ (by unfold rmOk; rw [hR]; exact ⟨by decide, by decide⟩)
set_option maxRecDepth 100000 in
set_option maxHeartbeats 4000000 in
theorem MX12_weatherLine (N : Nat) : SndI yX12_weatherLine cX12_weatherLine 2 (some .boolean) 4 1 true (mX12_weatherLine N) := by
  refine SndI.ofZ tX12_weatherLine (by decide +kernel) rfl rfl ?_ ?_
  · intro as w x h
    obtain ⟨t1, rfl, h_1⟩ := xS1_some h
    obtain ⟨rfl, h_2⟩ := xN1_some h_1
    clear h h_1
    have h := h_2
    rw [callW_eq] at h
    exact ⟨fun _ => ⟨_, _, _, rfl, rfl, _, rfl, rfl⟩, rfl, Nat.le_of_ble_eq_true rfl⟩
  · intro X G hn hR as w r h hr
    have hC := crX12_weatherLine (N := N) G hR
    obtain ⟨t1, rfl, h_1⟩ := xS1_some h
    obtain ⟨rfl, h_2⟩ := xN1_some h_1
    clear h h_1
    have h := h_2
    rw [callW_eq] at h
    refine run_sound (r := r) (X := X) (cc := cX12_weatherLine) (own := RX12) (tab := tX12_weatherLine) G (by rw [hn]; exact kX12_weatherLine) (oI := (oF [(mX12_wrong N), (mX12_number N)])) (oL := (oF [])) (oV := (oF [(mX12_token N)])) (rI := retZ) (rL := (fun _ _ => none)) (rV := (fun _ => none))
      (K := (fun j ls st w => if j = 14 then (lgI ls 1 fun v1 => st0 st (callW (fX12_weatherLine_14 N N v1) w)) else none)) hr (fun _ _ _ _ hx => by cases hx) (fun _ _ _ hx => by cases hx) hC (fun ls => lsb [some (.inr (.inr (16, 0))), none] 0 ls) (keepsP_of rfl) ?_ 63 0 [some (.inr (.inr (16, 0))), none] [] w ?_ h
    · intro j ls st w hfx h
      obtain ⟨e0, -⟩ : _ = _ ∧ True := hfx
      try dsimp only at h
      by_cases hj : j = 14
      · subst hj
        rw [if_pos rfl] at h
        obtain ⟨v1, e1, h_1⟩ := lgI_some h
        obtain ⟨rfl, h_2⟩ := st0_some h_1
        clear h h_1
        have h := h_2
        try rw [callW_eq] at h
        exact WW.le (a := [some (.inr (.inr (16, 0))), some (.inl v1)]) (by rw [hn]; rfl) (show _ = _ ∧ _ = _ ∧ True from ⟨e0, e1, trivial⟩) (sX12_weatherLine_14 G hn hC hr N v1 w h)
      rw [if_neg hj] at h
      cases h
    · exact (show _ = _ ∧ True from ⟨rfl, trivial⟩)
-- MoorGuidesModel.slideLine()Z
def tX12_slideLine : List EN := [
  (0, .aload_n 0, 0, 0, 0, 0, 0, []), (1, .getfield 270, 0, 12, 24, 0, 0, []), (4, .iconst 4, 0, 0, 0, 4, 0, []), (5, .if_icmp .ne 9, 0, 8, 0, 0, 0, []),
  (8, .aload_n 0, 0, 0, 0, 0, 0, []), (9, .iconst 2, 0, 0, 0, 2, 0, []), (10, .invokevirtual 238, 0, 0, 2, 0, 0, []), (13, .ireturn, 0, 0, 0, 0, 0, []),
  (14, .aload_n 0, 0, 0, 0, 0, 0, []), (15, .invokevirtual 248, 0, 0, 1, 0, 0, [(0, 0), (0, 0)]), (18, .aload_n 0, 0, 0, 0, 0, 0, []), (19, .invokevirtual 347, 0, 1, 1, 0, 0, []),
  (22, .ifCond .ne 5, 0, 15, 0, 0, 0, []), (25, .iconst 0, 0, 0, 0, 0, 0, []), (26, .ireturn, 0, 0, 0, 0, 0, []), (27, .aload_n 0, 0, 0, 0, 0, 0, []),
  (28, .getfield 62, 0, 12, 45, 0, 0, []), (31, .bipush 12, 0, 0, 0, 12, 0, []), (33, .aload_n 0, 0, 0, 0, 0, 0, []), (34, .getfield 270, 0, 12, 24, 0, 0, []),
  (37, .iadd, 0, 0, 0, 0, 0, []), (38, .aload_n 0, 0, 0, 0, 0, 0, []), (39, .getfield 245, 0, 12, 11, 0, 0, []), (42, .iastore, 0, 0, 0, 0, 0, []),
  (43, .aload_n 0, 0, 0, 0, 0, 0, []), (44, .iconst 0, 0, 0, 0, 0, 0, []), (45, .sipush 999, 0, 0, 0, 999, 0, []), (48, .invokevirtual 254, 0, 2, 3, 0, 0, []),
  (51, .ifCond .ne 5, 0, 31, 0, 0, 0, []), (54, .iconst 0, 0, 0, 0, 0, 0, []), (55, .ireturn, 0, 0, 0, 0, 0, []), (56, .aload_n 0, 0, 0, 0, 0, 0, []),
  (57, .getfield 65, 0, 12, 46, 0, 0, []), (60, .bipush 12, 0, 0, 0, 12, 0, []), (62, .aload_n 0, 0, 0, 0, 0, 0, []), (63, .getfield 270, 0, 12, 24, 0, 0, []),
  (66, .iadd, 0, 0, 0, 0, 0, []), (67, .aload_n 0, 0, 0, 0, 0, 0, []), (68, .getfield 245, 0, 12, 11, 0, 0, []), (71, .iastore, 0, 0, 0, 0, 0, []),
  (72, .aload_n 0, 0, 0, 0, 0, 0, []), (73, .dup, 0, 0, 0, 0, 0, []), (74, .getfield 270, 0, 12, 24, 0, 0, []), (77, .iconst 1, 0, 0, 0, 1, 0, []),
  (78, .iadd, 0, 0, 0, 0, 0, []), (79, .putfield 270, 0, 12, 24, 0, 0, []), (82, .iconst 1, 0, 0, 0, 1, 0, []), (83, .ireturn, 0, 0, 0, 0, 0, [])]
noncomputable def pX12_slideLine (N : Nat) (w : Wd) : Option (Int32 × Wd) :=
  if (gI w 16 0 24) = (4 : Int32) then
    (callW (pX12_wrong N (2 : Int32)) w).bind fun r1 =>
    retZ r1.1 r1.2
  else
  (callW (pX12_token N) w).bind fun w2 =>
  (callW (pX12_partRead1 N) w2).bind fun r3 =>
  if r3.1 = 0 then some ((0 : Int32), r3.2) else
  (stI r3.2 89 0 ((12 : Int32) + (gI r3.2 16 0 24)) 24 (gI r3.2 16 0 11)).bind fun w4 =>
  (callW (pX12_number N (0 : Int32) (999 : Int32)) w4).bind fun r5 =>
  if r5.1 = 0 then some ((0 : Int32), r5.2) else
  (stI r5.2 90 0 ((12 : Int32) + (gI r5.2 16 0 24)) 24 (gI r5.2 16 0 11)).bind fun w6 =>
  some ((1 : Int32), (setI w6 16 0 24 ((gI w6 16 0 24) + (1 : Int32))))
noncomputable def mX12_slideLine (N : Nat) (as : List AV) (w : Wd) : Option (Int32 × Wd) := xS1 16 as fun t => xN1 t (callW (pX12_slideLine N) w)
set_option maxRecDepth 100000 in
set_option maxHeartbeats 4000000 in
theorem kX12_slideLine : TK cX12_slideLine RX12 1 tX12_slideLine := ⟨by decide +kernel, wok_of [1624, 1645, 1624, 1611, 1646, 1624, 1611, 1624, 1624] (by decide +kernel) (by decide +kernel)⟩
set_option maxRecDepth 100000 in
set_option maxHeartbeats 4000000 in
theorem crX12_slideLine {N : Nat} {X : XT} (G : GX X cX12_slideLine RX12) (hR : xR X = rmL 4) : CRs X tX12_slideLine (oF [(mX12_wrong N), (mX12_partRead1 N), (mX12_number N)]) (oF []) (oF [(mX12_token N)]) := by
  have hl : tX12_slideLine.filter isInv = [(10, .invokevirtual 238, 0, 0, 2, 0, 0, []), (15, .invokevirtual 248, 0, 0, 1, 0, 0, [(0, 0), (0, 0)]), (19, .invokevirtual 347, 0, 1, 1, 0, 0, []), (48, .invokevirtual 254, 0, 2, 3, 0, 0, [])] := rfl
  intro e he
  rw [hl] at he
  simp only [List.mem_cons, List.not_mem_nil, or_false] at he
  rcases he with rfl | rfl | rfl | rfl
  · exact crI_V (idx := 238) G (by decide +kernel) (MX12_wrong N) (cw_of (ps := [1967, 1969, 83, 164, 1970]) (by decide +kernel) (by decide +kernel)) ⟨by decide +kernel, by decide +kernel, by decide +kernel⟩ (by unfold rmOk; rw [hR]; exact ⟨by decide, by decide⟩)
  · exact crV_V (idx := 248) G (by decide +kernel) (MX12_token N) (cw_of (ps := [1938, 1940, 76, 164, 1941]) (by decide +kernel) (by decide +kernel)) ⟨by decide +kernel, by decide +kernel, by decide +kernel⟩ (by unfold rmOk; rw [hR]; exact ⟨by decide, by decide⟩)
  · exact crI_V (idx := 347) G (by decide +kernel) (MX12_partRead1 N) (cw_of (ps := [2009, 2011, 92, 164, 2012]) (by decide +kernel) (by decide +kernel)) ⟨by decide +kernel, by decide +kernel, by decide +kernel⟩ (by unfold rmOk; rw [hR]; exact ⟨by decide, by decide⟩)
  · exact crI_V (idx := 254) G (by decide +kernel) (MX12_number N) (cw_of (ps := [1982, 1984, 86, 164, 1985]) (by decide +kernel) (by decide +kernel)) ⟨by decide +kernel, by decide +kernel, by decide +kernel⟩ (by unfold rmOk; rw [hR]; exact ⟨by decide, by decide⟩)
set_option maxRecDepth 100000 in
set_option maxHeartbeats 4000000 in
theorem MX12_slideLine (N : Nat) : SndI yX12_slideLine cX12_slideLine 1 (some .boolean) 4 1 true (mX12_slideLine N) := by
  refine SndI.ofZ tX12_slideLine (by decide +kernel) rfl rfl ?_ ?_
  · intro as w x h
    obtain ⟨t1, rfl, h_1⟩ := xS1_some h
    obtain ⟨rfl, h_2⟩ := xN1_some h_1
    clear h h_1
    have h := h_2
    rw [callW_eq] at h
    exact ⟨fun _ => ⟨_, _, _, rfl, rfl, _, rfl, rfl⟩, rfl, Nat.le_of_ble_eq_true rfl⟩
  · intro X G hn hR as w r h hr
    have hC := crX12_slideLine (N := N) G hR
    obtain ⟨t1, rfl, h_1⟩ := xS1_some h
    obtain ⟨rfl, h_2⟩ := xN1_some h_1
    clear h h_1
    have h := h_2
    rw [callW_eq] at h
    refine run_sound (r := r) (X := X) (cc := cX12_slideLine) (own := RX12) (tab := tX12_slideLine) G (by rw [hn]; exact kX12_slideLine) (oI := (oF [(mX12_wrong N), (mX12_partRead1 N), (mX12_number N)])) (oL := (oF [])) (oV := (oF [(mX12_token N)])) (rI := retZ) (rL := (fun _ _ => none)) (rV := (fun _ => none))
      (K := (fun j ls st w => none)) hr (fun _ _ _ _ hx => by cases hx) (fun _ _ _ hx => by cases hx) hC (fun ls => lsb [some (.inr (.inr (16, 0)))] 0 ls) (keepsP_of rfl) ?_ 50 0 [some (.inr (.inr (16, 0)))] [] w ?_ h
    · intro j ls st w hfx h
      obtain ⟨e0, -⟩ : _ = _ ∧ True := hfx
      try dsimp only at h
      cases h
    · exact (show _ = _ ∧ True from ⟨rfl, trivial⟩)
-- MoorGuidesModel.isCounted()Z
def tX12_isCounted : List EN := [
  (0, .aload_n 0, 0, 0, 0, 0, 0, []), (1, .getfield 282, 0, 12, 58, 0, 0, []), (4, .bipush 64, 0, 0, 0, 64, 0, []), (6, .if_icmp .ne 9, 0, 8, 0, 0, 0, []),
  (9, .aload_n 0, 0, 0, 0, 0, 0, []), (10, .iconst 2, 0, 0, 0, 2, 0, []), (11, .invokevirtual 238, 0, 0, 2, 0, 0, []), (14, .ireturn, 0, 0, 0, 0, 0, []),
  (15, .aload_n 0, 0, 0, 0, 0, 0, []), (16, .dup, 0, 0, 0, 0, 0, []), (17, .getfield 282, 0, 12, 58, 0, 0, []), (20, .iconst 1, 0, 0, 0, 1, 0, []),
  (21, .iadd, 0, 0, 0, 0, 0, []), (22, .putfield 282, 0, 12, 58, 0, 0, []), (25, .iconst 1, 0, 0, 0, 1, 0, []), (26, .ireturn, 0, 0, 0, 0, 0, [])]
noncomputable def pX12_isCounted (N : Nat) (w : Wd) : Option (Int32 × Wd) :=
  if (gI w 16 0 58) = (64 : Int32) then
    (callW (pX12_wrong N (2 : Int32)) w).bind fun r1 =>
    retZ r1.1 r1.2
  else
  some ((1 : Int32), (setI w 16 0 58 ((gI w 16 0 58) + (1 : Int32))))
noncomputable def mX12_isCounted (N : Nat) (as : List AV) (w : Wd) : Option (Int32 × Wd) := xS1 16 as fun t => xN1 t (callW (pX12_isCounted N) w)
set_option maxRecDepth 100000 in
set_option maxHeartbeats 4000000 in
theorem kX12_isCounted : TK cX12_isCounted RX12 1 tX12_isCounted := ⟨by decide +kernel, wok_of [1658, 1658, 1658] (by decide +kernel) (by decide +kernel)⟩
set_option maxRecDepth 100000 in
set_option maxHeartbeats 4000000 in
theorem crX12_isCounted {N : Nat} {X : XT} (G : GX X cX12_isCounted RX12) (hR : xR X = rmL 2) : CRs X tX12_isCounted (oF [(mX12_wrong N)]) (oF []) (oF []) := by
  have hl : tX12_isCounted.filter isInv = [(11, .invokevirtual 238, 0, 0, 2, 0, 0, [])] := rfl
  intro e he
  rw [hl] at he
  simp only [List.mem_cons, List.not_mem_nil, or_false] at he
  rcases he with rfl
  · exact crI_V (idx := 238) G (by decide +kernel) (MX12_wrong N) (cw_of (ps := [1967, 1969, 83, 164, 1970]) (by decide +kernel) (by decide +kernel)) ⟨by decide +kernel, by decide +kernel, by decide +kernel⟩ (by unfold rmOk; rw [hR]; exact ⟨by decide, by decide⟩)
set_option maxRecDepth 100000 in
set_option maxHeartbeats 4000000 in
theorem MX12_isCounted (N : Nat) : SndI yX12_isCounted cX12_isCounted 1 (some .boolean) 2 1 true (mX12_isCounted N) := by
  refine SndI.ofZ tX12_isCounted (by decide +kernel) rfl rfl ?_ ?_
  · intro as w x h
    obtain ⟨t1, rfl, h_1⟩ := xS1_some h
    obtain ⟨rfl, h_2⟩ := xN1_some h_1
    clear h h_1
    have h := h_2
    rw [callW_eq] at h
    exact ⟨fun _ => ⟨_, _, _, rfl, rfl, _, rfl, rfl⟩, rfl, Nat.le_of_ble_eq_true rfl⟩
  · intro X G hn hR as w r h hr
    have hC := crX12_isCounted (N := N) G hR
    obtain ⟨t1, rfl, h_1⟩ := xS1_some h
    obtain ⟨rfl, h_2⟩ := xN1_some h_1
    clear h h_1
    have h := h_2
    rw [callW_eq] at h
    refine run_sound (r := r) (X := X) (cc := cX12_isCounted) (own := RX12) (tab := tX12_isCounted) G (by rw [hn]; exact kX12_isCounted) (oI := (oF [(mX12_wrong N)])) (oL := (oF [])) (oV := (oF [])) (rI := retZ) (rL := (fun _ _ => none)) (rV := (fun _ => none))
      (K := (fun j ls st w => none)) hr (fun _ _ _ _ hx => by cases hx) (fun _ _ _ hx => by cases hx) hC (fun ls => lsb [some (.inr (.inr (16, 0)))] 0 ls) (keepsP_of rfl) ?_ 18 0 [some (.inr (.inr (16, 0)))] [] w ?_ h
    · intro j ls st w hfx h
      obtain ⟨e0, -⟩ : _ = _ ∧ True := hfx
      try dsimp only at h
      cases h
    · exact (show _ = _ ∧ True from ⟨rfl, trivial⟩)
-- MoorGuidesModel.nameMet()I
def tX12_nameMet : List EN := [
  (0, .aload_n 0, 0, 0, 0, 0, 0, []), (1, .getfield 214, 0, 12, 8, 0, 0, []), (4, .iconst 1, 0, 0, 0, 1, 0, []), (5, .if_icmp .eq 5, 0, 6, 0, 0, 0, []),
  (8, .iconst (-1), 0, 0, 0, (-1), 0, []), (9, .ireturn, 0, 0, 0, 0, 0, []), (10, .aload_n 0, 0, 0, 0, 0, 0, []), (11, .getfield 225, 0, 12, 9, 0, 0, []),
  (14, .tableswitch 113 3 23 #[102, 113, 113, 113, 113, 113, 113, 108, 113, 113, 113, 113, 113, 113, 113, 113, 98, 100, 104, 106, 110], 0, 23, 98, 0, 0, [(3, 13), (4, 23), (5, 23), (6, 23), (7, 23), (8, 23), (9, 23), (10, 19), (11, 23), (12, 23), (13, 23), (14, 23), (15, 23), (16, 23), (17, 23), (18, 23), (19, 9), (20, 11), (21, 15), (22, 17), (23, 21)]), (112, .iconst 0, 0, 0, 0, 0, 0, []), (113, .ireturn, 0, 0, 0, 0, 0, []), (114, .iconst 1, 0, 0, 0, 1, 0, []),
  (115, .ireturn, 0, 0, 0, 0, 0, []), (116, .iconst 2, 0, 0, 0, 2, 0, []), (117, .ireturn, 0, 0, 0, 0, 0, []), (118, .iconst 3, 0, 0, 0, 3, 0, []),
  (119, .ireturn, 0, 0, 0, 0, 0, []), (120, .iconst 4, 0, 0, 0, 4, 0, []), (121, .ireturn, 0, 0, 0, 0, 0, []), (122, .iconst 5, 0, 0, 0, 5, 0, []),
  (123, .ireturn, 0, 0, 0, 0, 0, []), (124, .bipush 6, 0, 0, 0, 6, 0, []), (126, .ireturn, 0, 0, 0, 0, 0, []), (127, .iconst (-1), 0, 0, 0, (-1), 0, []),
  (128, .ireturn, 0, 0, 0, 0, 0, [])]
noncomputable def pX12_nameMet (N : Nat) (w : Wd) : Option (Int32 × Wd) :=
  if (gI w 16 0 8) = (1 : Int32) then
    if (gI w 16 0 9) = (3 : Int32) then some ((2 : Int32), w) else
    if (gI w 16 0 9) = (4 : Int32) then some ((-1 : Int32), w) else
    if (gI w 16 0 9) = (5 : Int32) then some ((-1 : Int32), w) else
    if (gI w 16 0 9) = (6 : Int32) then some ((-1 : Int32), w) else
    if (gI w 16 0 9) = (7 : Int32) then some ((-1 : Int32), w) else
    if (gI w 16 0 9) = (8 : Int32) then some ((-1 : Int32), w) else
    if (gI w 16 0 9) = (9 : Int32) then some ((-1 : Int32), w) else
    if (gI w 16 0 9) = (10 : Int32) then some ((5 : Int32), w) else
    if (gI w 16 0 9) = (11 : Int32) then some ((-1 : Int32), w) else
    if (gI w 16 0 9) = (12 : Int32) then some ((-1 : Int32), w) else
    if (gI w 16 0 9) = (13 : Int32) then some ((-1 : Int32), w) else
    if (gI w 16 0 9) = (14 : Int32) then some ((-1 : Int32), w) else
    if (gI w 16 0 9) = (15 : Int32) then some ((-1 : Int32), w) else
    if (gI w 16 0 9) = (16 : Int32) then some ((-1 : Int32), w) else
    if (gI w 16 0 9) = (17 : Int32) then some ((-1 : Int32), w) else
    if (gI w 16 0 9) = (18 : Int32) then some ((-1 : Int32), w) else
    if (gI w 16 0 9) = (19 : Int32) then some ((0 : Int32), w) else
    if (gI w 16 0 9) = (20 : Int32) then some ((1 : Int32), w) else
    if (gI w 16 0 9) = (21 : Int32) then some ((3 : Int32), w) else
    if (gI w 16 0 9) = (22 : Int32) then some ((4 : Int32), w) else
    if (gI w 16 0 9) = (23 : Int32) then some ((6 : Int32), w) else
    some ((-1 : Int32), w)
  else
  some ((-1 : Int32), w)
noncomputable def mX12_nameMet (N : Nat) (as : List AV) (w : Wd) : Option (Int32 × Wd) := xS1 16 as fun t => xN1 t (callW (pX12_nameMet N) w)
set_option maxRecDepth 100000 in
set_option maxHeartbeats 4000000 in
theorem kX12_nameMet : TK cX12_nameMet RX12 1 tX12_nameMet := ⟨by decide +kernel, wok_of [1608, 1609] (by decide +kernel) (by decide +kernel)⟩
set_option maxRecDepth 100000 in
set_option maxHeartbeats 4000000 in
theorem crX12_nameMet {N : Nat} {X : XT} (G : GX X cX12_nameMet RX12) (hR : xR X = rmL 1) : CRs X tX12_nameMet (oF []) (oF []) (oF []) := by
  have hl : tX12_nameMet.filter isInv = [] := rfl
  intro e he
  rw [hl] at he
  cases he
set_option maxRecDepth 100000 in
set_option maxHeartbeats 4000000 in
theorem MX12_nameMet (N : Nat) : SndI yX12_nameMet cX12_nameMet 1 (some .int) 1 1 true (mX12_nameMet N) := by
  refine SndI.of tX12_nameMet (by decide +kernel) rfl rfl ?_ ?_
  · intro as w x h
    obtain ⟨t1, rfl, h_1⟩ := xS1_some h
    obtain ⟨rfl, h_2⟩ := xN1_some h_1
    clear h h_1
    have h := h_2
    rw [callW_eq] at h
    exact ⟨fun _ => ⟨_, _, _, rfl, rfl, _, rfl, rfl⟩, rfl, Nat.le_of_ble_eq_true rfl⟩
  · intro X G hn hR as w r h hr
    have hC := crX12_nameMet (N := N) G hR
    obtain ⟨t1, rfl, h_1⟩ := xS1_some h
    obtain ⟨rfl, h_2⟩ := xN1_some h_1
    clear h h_1
    have h := h_2
    rw [callW_eq] at h
    refine run_sound (r := r) (X := X) (cc := cX12_nameMet) (own := RX12) (tab := tX12_nameMet) G (by rw [hn]; exact kX12_nameMet) (oI := (oF [])) (oL := (oF [])) (oV := (oF [])) (rI := (fun x w => some (x, w))) (rL := (fun _ _ => none)) (rV := (fun _ => none))
      (K := (fun j ls st w => none)) (fun x w pc ls hx hd => hr x w pc ls (Option.some.inj hx) hd) (fun _ _ _ _ hx => by cases hx) (fun _ _ _ hx => by cases hx) hC (fun ls => lsb [some (.inr (.inr (16, 0)))] 0 ls) (keepsP_of rfl) ?_ 27 0 [some (.inr (.inr (16, 0)))] [] w ?_ h
    · intro j ls st w hfx h
      obtain ⟨e0, -⟩ : _ = _ ∧ True := hfx
      try dsimp only at h
      cases h
    · exact (show _ = _ ∧ True from ⟨rfl, trivial⟩)
-- MoorGuidesModel.waitsFor(I)V
def tX12_waitsFor : List EN := [
  (0, .aload_n 0, 0, 0, 0, 0, 0, []), (1, .getfield 87, 0, 12, 53, 0, 0, []), (4, .aload_n 0, 0, 0, 0, 0, 0, []), (5, .getfield 377, 0, 12, 55, 0, 0, []),
  (8, .iload_n 1, 0, 0, 0, 0, 0, []), (9, .iastore, 0, 0, 0, 0, 0, []), (10, .aload_n 0, 0, 0, 0, 0, 0, []), (11, .dup, 0, 0, 0, 0, 0, []),
  (12, .getfield 377, 0, 12, 55, 0, 0, []), (15, .iconst 1, 0, 0, 0, 1, 0, []), (16, .iadd, 0, 0, 0, 0, 0, []), (17, .putfield 377, 0, 12, 55, 0, 0, []),
  (20, .return_, 0, 0, 0, 0, 0, [])]
noncomputable def pX12_waitsFor (N : Nat) (a1 : Int32) (w : Wd) : Option (Wd) :=
  (stI w 97 0 (gI w 16 0 55) 96 a1).bind fun w1 =>
  some (setI w1 16 0 55 ((gI w1 16 0 55) + (1 : Int32)))
noncomputable def mX12_waitsFor (N : Nat) (as : List AV) (w : Wd) : Option (Wd) := xS1 16 as fun t => xI1 t fun a1 t => xN1 t (callW (pX12_waitsFor N a1) w)
set_option maxRecDepth 100000 in
set_option maxHeartbeats 4000000 in
theorem kX12_waitsFor : TK cX12_waitsFor RX12 2 tX12_waitsFor := ⟨by decide +kernel, wok_of [1653, 1655, 1655, 1655] (by decide +kernel) (by decide +kernel)⟩
set_option maxRecDepth 100000 in
set_option maxHeartbeats 4000000 in
theorem crX12_waitsFor {N : Nat} {X : XT} (G : GX X cX12_waitsFor RX12) (hR : xR X = rmL 1) : CRs X tX12_waitsFor (oF []) (oF []) (oF []) := by
  have hl : tX12_waitsFor.filter isInv = [] := rfl
  intro e he
  rw [hl] at he
  cases he
set_option maxRecDepth 100000 in
set_option maxHeartbeats 4000000 in
theorem MX12_waitsFor (N : Nat) : SndV yX12_waitsFor cX12_waitsFor 2 none 1 2 true (mX12_waitsFor N) := by
  refine SndV.of tX12_waitsFor (by decide +kernel) rfl rfl ?_ ?_
  · intro as w x h
    obtain ⟨t1, rfl, h_1⟩ := xS1_some h
    obtain ⟨a1, t2, rfl, h_2⟩ := xI1_some h_1
    obtain ⟨rfl, h_3⟩ := xN1_some h_2
    clear h h_1 h_2
    have h := h_3
    rw [callW_eq] at h
    exact ⟨fun _ => ⟨_, _, _, rfl, rfl, _, rfl, rfl⟩, rfl, Nat.le_of_ble_eq_true rfl⟩
  · intro X G hn hR as w r h hr
    have hC := crX12_waitsFor (N := N) G hR
    obtain ⟨t1, rfl, h_1⟩ := xS1_some h
    obtain ⟨a1, t2, rfl, h_2⟩ := xI1_some h_1
    obtain ⟨rfl, h_3⟩ := xN1_some h_2
    clear h h_1 h_2
    have h := h_3
    rw [callW_eq] at h
    refine run_sound (r := r) (X := X) (cc := cX12_waitsFor) (own := RX12) (tab := tX12_waitsFor) G (by rw [hn]; exact kX12_waitsFor) (oI := (oF [])) (oL := (oF [])) (oV := (oF [])) (rI := (fun _ _ => none)) (rL := (fun _ _ => none)) (rV := (fun w => some w))
      (K := (fun j ls st w => none)) (fun _ _ _ _ hx => by cases hx) (fun _ _ _ _ hx => by cases hx) (fun w pc ls hx hd => hr w pc ls (Option.some.inj hx) hd) hC (fun ls => lsb [some (.inr (.inr (16, 0))), some (.inl a1)] 0 ls) (keepsP_of rfl) ?_ 15 0 [some (.inr (.inr (16, 0))), some (.inl a1)] [] w ?_ h
    · intro j ls st w hfx h
      obtain ⟨e0, e1, -⟩ : _ = _ ∧ _ = _ ∧ True := hfx
      try dsimp only at h
      cases h
    · exact (show _ = _ ∧ _ = _ ∧ True from ⟨rfl, rfl, trivial⟩)
-- MoorGuidesModel.grown(III)V
def tX12_grown : List EN := [
  (0, .aload_n 0, 0, 0, 0, 0, 0, []), (1, .getfield 78, 0, 12, 50, 0, 0, []), (4, .bipush 64, 0, 0, 0, 64, 0, []), (6, .aload_n 0, 0, 0, 0, 0, 0, []),
  (7, .getfield 279, 0, 12, 27, 0, 0, []), (10, .iadd, 0, 0, 0, 0, 0, []), (11, .iload_n 1, 0, 0, 0, 0, 0, []), (12, .iastore, 0, 0, 0, 0, 0, []),
  (13, .aload_n 0, 0, 0, 0, 0, 0, []), (14, .getfield 81, 0, 12, 51, 0, 0, []), (17, .bipush 64, 0, 0, 0, 64, 0, []), (19, .aload_n 0, 0, 0, 0, 0, 0, []),
  (20, .getfield 279, 0, 12, 27, 0, 0, []), (23, .iadd, 0, 0, 0, 0, 0, []), (24, .iload_n 2, 0, 0, 0, 0, 0, []), (25, .iastore, 0, 0, 0, 0, 0, []),
  (26, .aload_n 0, 0, 0, 0, 0, 0, []), (27, .getfield 84, 0, 12, 52, 0, 0, []), (30, .bipush 64, 0, 0, 0, 64, 0, []), (32, .aload_n 0, 0, 0, 0, 0, 0, []),
  (33, .getfield 279, 0, 12, 27, 0, 0, []), (36, .iadd, 0, 0, 0, 0, 0, []), (37, .iload_n 3, 0, 0, 0, 0, 0, []), (38, .iastore, 0, 0, 0, 0, 0, []),
  (39, .aload_n 0, 0, 0, 0, 0, 0, []), (40, .getfield 90, 0, 12, 54, 0, 0, []), (43, .aload_n 0, 0, 0, 0, 0, 0, []), (44, .getfield 374, 0, 12, 56, 0, 0, []),
  (47, .aload_n 0, 0, 0, 0, 0, 0, []), (48, .getfield 279, 0, 12, 27, 0, 0, []), (51, .iastore, 0, 0, 0, 0, 0, []), (52, .aload_n 0, 0, 0, 0, 0, 0, []),
  (53, .dup, 0, 0, 0, 0, 0, []), (54, .getfield 374, 0, 12, 56, 0, 0, []), (57, .iconst 1, 0, 0, 0, 1, 0, []), (58, .iadd, 0, 0, 0, 0, 0, []),
  (59, .putfield 374, 0, 12, 56, 0, 0, []), (62, .aload_n 0, 0, 0, 0, 0, 0, []), (63, .dup, 0, 0, 0, 0, 0, []), (64, .getfield 279, 0, 12, 27, 0, 0, []),
  (67, .iconst 1, 0, 0, 0, 1, 0, []), (68, .iadd, 0, 0, 0, 0, 0, []), (69, .putfield 279, 0, 12, 27, 0, 0, []), (72, .return_, 0, 0, 0, 0, 0, [])]
noncomputable def pX12_grown (N : Nat) (a1 : Int32) (a2 : Int32) (a3 : Int32) (w : Wd) : Option (Wd) :=
  (stI w 94 0 ((64 : Int32) + (gI w 16 0 27)) 128 a1).bind fun w1 =>
  (stI w1 95 0 ((64 : Int32) + (gI w1 16 0 27)) 128 a2).bind fun w2 =>
  (stI w2 96 0 ((64 : Int32) + (gI w2 16 0 27)) 128 a3).bind fun w3 =>
  (stI w3 98 0 (gI w3 16 0 56) 96 (gI w3 16 0 27)).bind fun w4 =>
  some (setI (setI w4 16 0 56 ((gI w4 16 0 56) + (1 : Int32))) 16 0 27 ((gI (setI w4 16 0 56 ((gI w4 16 0 56) + (1 : Int32))) 16 0 27) + (1 : Int32)))
noncomputable def mX12_grown (N : Nat) (as : List AV) (w : Wd) : Option (Wd) := xS1 16 as fun t => xI1 t fun a1 t => xI1 t fun a2 t => xI1 t fun a3 t => xN1 t (callW (pX12_grown N a1 a2 a3) w)
set_option maxRecDepth 100000 in
set_option maxHeartbeats 4000000 in
theorem kX12_grown : TK cX12_grown RX12 4 tX12_grown := ⟨by decide +kernel, wok_of [1650, 1627, 1651, 1627, 1652, 1627, 1654, 1656, 1627, 1656, 1656, 1627, 1627] (by decide +kernel) (by decide +kernel)⟩
set_option maxRecDepth 100000 in
set_option maxHeartbeats 4000000 in
theorem crX12_grown {N : Nat} {X : XT} (G : GX X cX12_grown RX12) (hR : xR X = rmL 1) : CRs X tX12_grown (oF []) (oF []) (oF []) := by
  have hl : tX12_grown.filter isInv = [] := rfl
  intro e he
  rw [hl] at he
  cases he
set_option maxRecDepth 100000 in
set_option maxHeartbeats 4000000 in
theorem MX12_grown (N : Nat) : SndV yX12_grown cX12_grown 4 none 1 4 true (mX12_grown N) := by
  refine SndV.of tX12_grown (by decide +kernel) rfl rfl ?_ ?_
  · intro as w x h
    obtain ⟨t1, rfl, h_1⟩ := xS1_some h
    obtain ⟨a1, t2, rfl, h_2⟩ := xI1_some h_1
    obtain ⟨a2, t3, rfl, h_3⟩ := xI1_some h_2
    obtain ⟨a3, t4, rfl, h_4⟩ := xI1_some h_3
    obtain ⟨rfl, h_5⟩ := xN1_some h_4
    clear h h_1 h_2 h_3 h_4
    have h := h_5
    rw [callW_eq] at h
    exact ⟨fun _ => ⟨_, _, _, rfl, rfl, _, rfl, rfl⟩, rfl, Nat.le_of_ble_eq_true rfl⟩
  · intro X G hn hR as w r h hr
    have hC := crX12_grown (N := N) G hR
    obtain ⟨t1, rfl, h_1⟩ := xS1_some h
    obtain ⟨a1, t2, rfl, h_2⟩ := xI1_some h_1
    obtain ⟨a2, t3, rfl, h_3⟩ := xI1_some h_2
    obtain ⟨a3, t4, rfl, h_4⟩ := xI1_some h_3
    obtain ⟨rfl, h_5⟩ := xN1_some h_4
    clear h h_1 h_2 h_3 h_4
    have h := h_5
    rw [callW_eq] at h
    refine run_sound (r := r) (X := X) (cc := cX12_grown) (own := RX12) (tab := tX12_grown) G (by rw [hn]; exact kX12_grown) (oI := (oF [])) (oL := (oF [])) (oV := (oF [])) (rI := (fun _ _ => none)) (rL := (fun _ _ => none)) (rV := (fun w => some w))
      (K := (fun j ls st w => none)) (fun _ _ _ _ hx => by cases hx) (fun _ _ _ _ hx => by cases hx) (fun w pc ls hx hd => hr w pc ls (Option.some.inj hx) hd) hC (fun ls => lsb [some (.inr (.inr (16, 0))), some (.inl a1), some (.inl a2), some (.inl a3)] 0 ls) (keepsP_of rfl) ?_ 46 0 [some (.inr (.inr (16, 0))), some (.inl a1), some (.inl a2), some (.inl a3)] [] w ?_ h
    · intro j ls st w hfx h
      obtain ⟨e0, e1, e2, e3, -⟩ : _ = _ ∧ _ = _ ∧ _ = _ ∧ _ = _ ∧ True := hfx
      try dsimp only at h
      cases h
    · exact (show _ = _ ∧ _ = _ ∧ _ = _ ∧ _ = _ ∧ True from ⟨rfl, rfl, rfl, rfl, trivial⟩)
-- MoorGuidesModel.leafRead()Z
def tX12_leafRead : List EN := [
  (0, .aload_n 0, 0, 0, 0, 0, 0, []), (1, .bipush 40, 0, 0, 0, 40, 0, []), (3, .invokevirtual 251, 0, 0, 2, 0, 0, []), (6, .ifCond .eq 44, 0, 28, 0, 0, 0, []),
  (9, .aload_n 0, 0, 0, 0, 0, 0, []), (10, .getfield 392, 0, 12, 57, 0, 0, []), (13, .bipush 8, 0, 0, 0, 8, 0, []), (15, .if_icmp .ne 9, 0, 12, 0, 0, 0, []),
  (18, .aload_n 0, 0, 0, 0, 0, 0, []), (19, .iconst 2, 0, 0, 0, 2, 0, []), (20, .invokevirtual 238, 0, 1, 2, 0, 0, []), (23, .ireturn, 0, 0, 0, 0, 0, []),
  (24, .aload_n 0, 0, 0, 0, 0, 0, []), (25, .dup, 0, 0, 0, 0, 0, []), (26, .getfield 392, 0, 12, 57, 0, 0, []), (29, .iconst 1, 0, 0, 0, 1, 0, []),
  (30, .iadd, 0, 0, 0, 0, 0, []), (31, .putfield 392, 0, 12, 57, 0, 0, []), (34, .aload_n 0, 0, 0, 0, 0, 0, []), (35, .iconst 0, 0, 0, 0, 0, 0, []),
  (36, .invokevirtual 395, 0, 0, 2, 0, 0, [(0, 0), (0, 0)]), (39, .aload_n 0, 0, 0, 0, 0, 0, []), (40, .iconst 1, 0, 0, 0, 1, 0, []), (41, .putfield 399, 0, 12, 60, 0, 0, [(0, 0)]),
  (44, .aload_n 0, 0, 0, 0, 0, 0, []), (45, .invokevirtual 248, 0, 1, 1, 0, 0, [(0, 0), (0, 0)]), (48, .iconst 1, 0, 0, 0, 1, 0, []), (49, .ireturn, 0, 0, 0, 0, 0, []),
  (50, .aload_n 0, 0, 0, 0, 0, 0, []), (51, .bipush 18, 0, 0, 0, 18, 0, []), (53, .invokevirtual 338, 0, 2, 2, 0, 0, []), (56, .ifCond .eq 30, 0, 47, 0, 0, 0, []),
  (59, .aload_n 0, 0, 0, 0, 0, 0, []), (60, .getfield 399, 0, 12, 60, 0, 0, []), (63, .ifCond .eq 23, 0, 47, 0, 0, 0, []), (66, .aload_n 0, 0, 0, 0, 0, 0, []),
  (67, .invokevirtual 402, 0, 3, 1, 0, 0, []), (70, .ifCond .ne 5, 0, 40, 0, 0, 0, []), (73, .iconst 0, 0, 0, 0, 0, 0, []), (74, .ireturn, 0, 0, 0, 0, 0, []),
  (75, .aload_n 0, 0, 0, 0, 0, 0, []), (76, .iconst 2, 0, 0, 0, 2, 0, []), (77, .invokevirtual 395, 0, 0, 2, 0, 0, [(0, 0), (0, 0)]), (80, .aload_n 0, 0, 0, 0, 0, 0, []),
  (81, .invokevirtual 248, 0, 1, 1, 0, 0, [(0, 0), (0, 0)]), (84, .iconst 1, 0, 0, 0, 1, 0, []), (85, .ireturn, 0, 0, 0, 0, 0, []), (86, .aload_n 0, 48, 0, 0, 0, 0, []),
  (87, .invokevirtual 405, 0, 4, 1, 0, 0, []), (90, .istore_n 1, 0, 0, 0, 0, 0, []), (91, .iload_n 1, 0, 0, 0, 0, 0, []), (92, .ifCond .ge 17, 0, 60, 0, 0, 0, []),
  (95, .aload_n 0, 0, 0, 0, 0, 0, []), (96, .getfield 214, 0, 12, 8, 0, 0, []), (99, .iconst 3, 0, 0, 0, 3, 0, []), (100, .if_icmp .eq 9, 0, 60, 0, 0, 0, []),
  (103, .aload_n 0, 0, 0, 0, 0, 0, []), (104, .iconst 1, 0, 0, 0, 1, 0, []), (105, .invokevirtual 238, 0, 1, 2, 0, 0, []), (108, .ireturn, 0, 0, 0, 0, 0, []),
  (109, .iload_n 1, 61, 0, 0, 0, 0, []), (110, .ifCond .ge 19, 0, 70, 0, 0, 0, []), (113, .aload_n 0, 0, 0, 0, 0, 0, []), (114, .getfield 225, 0, 12, 9, 0, 0, []),
  (117, .sipush 9999, 0, 0, 0, 9999, 0, []), (120, .if_icmp .le 9, 0, 70, 0, 0, 0, []), (123, .aload_n 0, 0, 0, 0, 0, 0, []), (124, .iconst 2, 0, 0, 0, 2, 0, []),
  (125, .invokevirtual 238, 0, 1, 2, 0, 0, []), (128, .ireturn, 0, 0, 0, 0, 0, []), (129, .aload_n 0, 71, 0, 0, 0, 0, []), (130, .invokevirtual 402, 0, 3, 1, 0, 0, []),
  (133, .ifCond .ne 5, 0, 75, 0, 0, 0, []), (136, .iconst 0, 0, 0, 0, 0, 0, []), (137, .ireturn, 0, 0, 0, 0, 0, []), (138, .aload_n 0, 0, 0, 0, 0, 0, []),
  (139, .iload_n 1, 0, 0, 0, 0, 0, []), (140, .ifCond .lt 7, 0, 80, 0, 0, 0, []), (143, .iconst 1, 0, 0, 0, 1, 0, []), (144, .goto 4, 0, 81, 0, 0, 0, []),
  (147, .iconst 0, 0, 0, 0, 0, 0, []), (148, .iload_n 1, 82, 0, 0, 0, 0, []), (149, .ifCond .lt 7, 0, 85, 0, 0, 0, []), (152, .iload_n 1, 0, 0, 0, 0, 0, []),
  (153, .goto 7, 0, 87, 0, 0, 0, []), (156, .aload_n 0, 0, 0, 0, 0, 0, []), (157, .getfield 225, 0, 12, 9, 0, 0, []), (160, .iconst 0, 88, 0, 0, 0, 0, []),
  (161, .invokevirtual 388, 0, 2, 4, 0, 0, [(0, 0), (0, 0)]), (164, .aload_n 0, 0, 0, 0, 0, 0, []), (165, .iconst 0, 0, 0, 0, 0, 0, []), (166, .putfield 408, 0, 12, 59, 0, 0, [(0, 0)]),
  (169, .aload_n 0, 0, 0, 0, 0, 0, []), (170, .invokevirtual 248, 0, 1, 1, 0, 0, [(0, 0), (0, 0)]), (173, .iconst 1, 0, 0, 0, 1, 0, []), (174, .ireturn, 0, 0, 0, 0, 0, [])]
noncomputable def fX12_leafRead_87 (N : Nat) (s0 : Int32) (s1 : Int32) (w : Wd) : Option (Int32 × Wd) :=
  (callW (pX12_grown N s1 s0 (0 : Int32)) w).bind fun w1 =>
  (callW (pX12_token N) (setI w1 16 0 59 (0 : Int32))).bind fun w2 =>
  some ((1 : Int32), w2)
noncomputable def fX12_leafRead_81 (N : Nat) (v1 : Int32) (s0 : Int32) (w : Wd) : Option (Int32 × Wd) :=
  if v1 < 0 then callW (fX12_leafRead_87 N (gI w 16 0 9) s0) w else
  callW (fX12_leafRead_87 N v1 s0) w
noncomputable def fX12_leafRead_70 (N : Nat) (v1 : Int32) (w : Wd) : Option (Int32 × Wd) :=
  (callW (pX12_isCounted N) w).bind fun r1 =>
  if r1.1 = 0 then some ((0 : Int32), r1.2) else
  if v1 < 0 then callW (fX12_leafRead_81 N v1 (0 : Int32)) r1.2 else
  callW (fX12_leafRead_81 N v1 (1 : Int32)) r1.2
noncomputable def fX12_leafRead_60 (N : Nat) (v1 : Int32) (w : Wd) : Option (Int32 × Wd) :=
  if v1 < 0 then
    if (9999 : Int32) < (gI w 16 0 9) then
      (callW (pX12_wrong N (2 : Int32)) w).bind fun r1 =>
      retZ r1.1 r1.2
    else
    callW (fX12_leafRead_70 N v1) w
  else
  callW (fX12_leafRead_70 N v1) w
noncomputable def fX12_leafRead_47 (N : Nat) (w : Wd) : Option (Int32 × Wd) :=
  (callW (pX12_nameMet N) w).bind fun r1 =>
  if r1.1 < 0 then
    if (gI r1.2 16 0 8) = (3 : Int32) then callW (fX12_leafRead_60 N r1.1) r1.2 else
    (callW (pX12_wrong N (1 : Int32)) r1.2).bind fun r2 =>
    retZ r2.1 r2.2
  else
  callW (fX12_leafRead_60 N r1.1) r1.2
noncomputable def pX12_leafRead (N : Nat) (w : Wd) : Option (Int32 × Wd) :=
  (callW (pX12_isSign N (40 : Int32)) w).bind fun r1 =>
  if r1.1 = 0 then
    (callW (pX12_isKey N (18 : Int32)) r1.2).bind fun r2 =>
    if r2.1 = 0 then callW (fX12_leafRead_47 N) r2.2 else
    if (gI r2.2 16 0 60) = 0 then callW (fX12_leafRead_47 N) r2.2 else
    (callW (pX12_isCounted N) r2.2).bind fun r3 =>
    if r3.1 = 0 then some ((0 : Int32), r3.2) else
    (callW (pX12_waitsFor N (2 : Int32)) r3.2).bind fun w4 =>
    (callW (pX12_token N) w4).bind fun w5 =>
    some ((1 : Int32), w5)
  else
  if (gI r1.2 16 0 57) = (8 : Int32) then
    (callW (pX12_wrong N (2 : Int32)) r1.2).bind fun r6 =>
    retZ r6.1 r6.2
  else
  (callW (pX12_waitsFor N (0 : Int32)) (setI r1.2 16 0 57 ((gI r1.2 16 0 57) + (1 : Int32)))).bind fun w7 =>
  (callW (pX12_token N) (setI w7 16 0 60 (1 : Int32))).bind fun w8 =>
  some ((1 : Int32), w8)
noncomputable def mX12_leafRead (N : Nat) (as : List AV) (w : Wd) : Option (Int32 × Wd) := xS1 16 as fun t => xN1 t (callW (pX12_leafRead N) w)
set_option maxRecDepth 100000 in
set_option maxHeartbeats 4000000 in
theorem kX12_leafRead : TK cX12_leafRead RX12 2 tX12_leafRead := ⟨by decide +kernel, wok_of [1657, 1657, 1657, 1660, 1660, 1608, 1609, 1609, 1659] (by decide +kernel) (by decide +kernel)⟩
set_option maxRecDepth 100000 in
set_option maxHeartbeats 4000000 in
theorem sX12_leafRead_87 {N : Nat} {X : XT} (G : GX X cX12_leafRead RX12) (hn : xnL X = 2) (hC : CRs X tX12_leafRead (oF [(mX12_isSign N), (mX12_wrong N), (mX12_isKey N), (mX12_isCounted N), (mX12_nameMet N)]) (oF []) (oF [(mX12_waitsFor N), (mX12_token N), (mX12_grown N)])) {r : Int32 × Wd} (hr : RTZ X cX12_leafRead r)  : ∀ (s0 : Int32) (s1 : Int32) (w : Wd), fX12_leafRead_87 N s0 s1 w = some r → WW X (pcAt tX12_leafRead 87) [some (.inr (.inr (16, 0))), none] [.inl s0, .inl s1, .inr (.inr (16, 0))] w := by
  intro s0 s1 w h
  refine run_sound (r := r) (X := X) (cc := cX12_leafRead) (own := RX12) (tab := tX12_leafRead) G (by rw [hn]; exact kX12_leafRead) (oI := (oF [(mX12_isSign N), (mX12_wrong N), (mX12_isKey N), (mX12_isCounted N), (mX12_nameMet N)])) (oL := (oF [])) (oV := (oF [(mX12_waitsFor N), (mX12_token N), (mX12_grown N)])) (rI := retZ) (rL := (fun _ _ => none)) (rV := (fun _ => none))
    (K := (fun j ls st w => none)) hr (fun _ _ _ _ hx => by cases hx) (fun _ _ _ hx => by cases hx) hC (fun ls => lsb [some (.inr (.inr (16, 0))), none] 0 ls) (keepsP_of rfl) ?_ 98 87 [some (.inr (.inr (16, 0))), none] [.inl s0, .inl s1, .inr (.inr (16, 0))] w ?_ h
  · intro j ls st w hfx h
    obtain ⟨e0, -⟩ : _ = _ ∧ True := hfx
    try dsimp only at h
    cases h
  · exact (show _ = _ ∧ True from ⟨rfl, trivial⟩)
set_option maxRecDepth 100000 in
set_option maxHeartbeats 4000000 in
theorem sX12_leafRead_81 {N : Nat} {X : XT} (G : GX X cX12_leafRead RX12) (hn : xnL X = 2) (hC : CRs X tX12_leafRead (oF [(mX12_isSign N), (mX12_wrong N), (mX12_isKey N), (mX12_isCounted N), (mX12_nameMet N)]) (oF []) (oF [(mX12_waitsFor N), (mX12_token N), (mX12_grown N)])) {r : Int32 × Wd} (hr : RTZ X cX12_leafRead r)  : ∀ (v1 : Int32) (s0 : Int32) (w : Wd), fX12_leafRead_81 N v1 s0 w = some r → WW X (pcAt tX12_leafRead 81) [some (.inr (.inr (16, 0))), some (.inl v1)] [.inl s0, .inr (.inr (16, 0))] w := by
  intro v1 s0 w h
  refine run_sound (r := r) (X := X) (cc := cX12_leafRead) (own := RX12) (tab := tX12_leafRead) G (by rw [hn]; exact kX12_leafRead) (oI := (oF [(mX12_isSign N), (mX12_wrong N), (mX12_isKey N), (mX12_isCounted N), (mX12_nameMet N)])) (oL := (oF [])) (oV := (oF [(mX12_waitsFor N), (mX12_token N), (mX12_grown N)])) (rI := retZ) (rL := (fun _ _ => none)) (rV := (fun _ => none))
    (K := (fun j ls st w => if j = 87 then (po1 st fun s0 st => po1 st fun s1 st => pr1 st fun kk qq st => if kk = 16 ∧ qq = 0 then st0 st (callW (fX12_leafRead_87 N s0 s1) w) else none) else none)) hr (fun _ _ _ _ hx => by cases hx) (fun _ _ _ hx => by cases hx) hC (fun ls => lsb [some (.inr (.inr (16, 0))), none] 0 ls) (keepsP_of rfl) ?_ 98 81 [some (.inr (.inr (16, 0))), some (.inl v1)] [.inl s0, .inr (.inr (16, 0))] w ?_ h
  · intro j ls st w hfx h
    obtain ⟨e0, -⟩ : _ = _ ∧ True := hfx
    try dsimp only at h
    by_cases hj : j = 87
    · subst hj
      rw [if_pos rfl] at h
      obtain ⟨s0, st0, rfl, h_1⟩ := po1_some h
      obtain ⟨s1, st1, rfl, h_2⟩ := po1_some h_1
      obtain ⟨kkk2, s2, st2, rfl, h_3⟩ := pr1_some h_2
      obtain ⟨⟨rfl, rfl⟩, h_4⟩ := if_some _ h_3
      obtain ⟨rfl, h_5⟩ := st0_some h_4
      clear h h_1 h_2 h_3 h_4
      have h := h_5
      try rw [callW_eq] at h
      exact WW.le (a := [some (.inr (.inr (16, 0))), none]) (by rw [hn]; rfl) (show _ = _ ∧ True from ⟨e0, trivial⟩) (sX12_leafRead_87 G hn hC hr s0 s1 w h)
    rw [if_neg hj] at h
    cases h
  · exact (show _ = _ ∧ True from ⟨rfl, trivial⟩)
set_option maxRecDepth 100000 in
set_option maxHeartbeats 4000000 in
theorem sX12_leafRead_70 {N : Nat} {X : XT} (G : GX X cX12_leafRead RX12) (hn : xnL X = 2) (hC : CRs X tX12_leafRead (oF [(mX12_isSign N), (mX12_wrong N), (mX12_isKey N), (mX12_isCounted N), (mX12_nameMet N)]) (oF []) (oF [(mX12_waitsFor N), (mX12_token N), (mX12_grown N)])) {r : Int32 × Wd} (hr : RTZ X cX12_leafRead r)  : ∀ (v1 : Int32) (w : Wd), fX12_leafRead_70 N v1 w = some r → WW X (pcAt tX12_leafRead 70) [some (.inr (.inr (16, 0))), some (.inl v1)] [] w := by
  intro v1 w h
  refine run_sound (r := r) (X := X) (cc := cX12_leafRead) (own := RX12) (tab := tX12_leafRead) G (by rw [hn]; exact kX12_leafRead) (oI := (oF [(mX12_isSign N), (mX12_wrong N), (mX12_isKey N), (mX12_isCounted N), (mX12_nameMet N)])) (oL := (oF [])) (oV := (oF [(mX12_waitsFor N), (mX12_token N), (mX12_grown N)])) (rI := retZ) (rL := (fun _ _ => none)) (rV := (fun _ => none))
    (K := (fun j ls st w => if j = 81 then (lgI ls 1 fun v1 => po1 st fun s0 st => pr1 st fun kk qq st => if kk = 16 ∧ qq = 0 then st0 st (callW (fX12_leafRead_81 N v1 s0) w) else none) else none)) hr (fun _ _ _ _ hx => by cases hx) (fun _ _ _ hx => by cases hx) hC (fun ls => lsb [some (.inr (.inr (16, 0))), none] 0 ls) (keepsP_of rfl) ?_ 98 70 [some (.inr (.inr (16, 0))), some (.inl v1)] [] w ?_ h
  · intro j ls st w hfx h
    obtain ⟨e0, -⟩ : _ = _ ∧ True := hfx
    try dsimp only at h
    by_cases hj : j = 81
    · subst hj
      rw [if_pos rfl] at h
      obtain ⟨v1, e1, h_1⟩ := lgI_some h
      obtain ⟨s0, st0, rfl, h_2⟩ := po1_some h_1
      obtain ⟨kkk1, s1, st1, rfl, h_3⟩ := pr1_some h_2
      obtain ⟨⟨rfl, rfl⟩, h_4⟩ := if_some _ h_3
      obtain ⟨rfl, h_5⟩ := st0_some h_4
      clear h h_1 h_2 h_3 h_4
      have h := h_5
      try rw [callW_eq] at h
      exact WW.le (a := [some (.inr (.inr (16, 0))), some (.inl v1)]) (by rw [hn]; rfl) (show _ = _ ∧ _ = _ ∧ True from ⟨e0, e1, trivial⟩) (sX12_leafRead_81 G hn hC hr v1 s0 w h)
    rw [if_neg hj] at h
    cases h
  · exact (show _ = _ ∧ True from ⟨rfl, trivial⟩)
set_option maxRecDepth 100000 in
set_option maxHeartbeats 4000000 in
theorem sX12_leafRead_60 {N : Nat} {X : XT} (G : GX X cX12_leafRead RX12) (hn : xnL X = 2) (hC : CRs X tX12_leafRead (oF [(mX12_isSign N), (mX12_wrong N), (mX12_isKey N), (mX12_isCounted N), (mX12_nameMet N)]) (oF []) (oF [(mX12_waitsFor N), (mX12_token N), (mX12_grown N)])) {r : Int32 × Wd} (hr : RTZ X cX12_leafRead r)  : ∀ (v1 : Int32) (w : Wd), fX12_leafRead_60 N v1 w = some r → WW X (pcAt tX12_leafRead 60) [some (.inr (.inr (16, 0))), some (.inl v1)] [] w := by
  intro v1 w h
  refine run_sound (r := r) (X := X) (cc := cX12_leafRead) (own := RX12) (tab := tX12_leafRead) G (by rw [hn]; exact kX12_leafRead) (oI := (oF [(mX12_isSign N), (mX12_wrong N), (mX12_isKey N), (mX12_isCounted N), (mX12_nameMet N)])) (oL := (oF [])) (oV := (oF [(mX12_waitsFor N), (mX12_token N), (mX12_grown N)])) (rI := retZ) (rL := (fun _ _ => none)) (rV := (fun _ => none))
    (K := (fun j ls st w => if j = 70 then (lgI ls 1 fun v1 => st0 st (callW (fX12_leafRead_70 N v1) w)) else none)) hr (fun _ _ _ _ hx => by cases hx) (fun _ _ _ hx => by cases hx) hC (fun ls => lsb [some (.inr (.inr (16, 0))), none] 0 ls) (keepsP_of rfl) ?_ 98 60 [some (.inr (.inr (16, 0))), some (.inl v1)] [] w ?_ h
  · intro j ls st w hfx h
    obtain ⟨e0, -⟩ : _ = _ ∧ True := hfx
    try dsimp only at h
    by_cases hj : j = 70
    · subst hj
      rw [if_pos rfl] at h
      obtain ⟨v1, e1, h_1⟩ := lgI_some h
      obtain ⟨rfl, h_2⟩ := st0_some h_1
      clear h h_1
      have h := h_2
      try rw [callW_eq] at h
      exact WW.le (a := [some (.inr (.inr (16, 0))), some (.inl v1)]) (by rw [hn]; rfl) (show _ = _ ∧ _ = _ ∧ True from ⟨e0, e1, trivial⟩) (sX12_leafRead_70 G hn hC hr v1 w h)
    rw [if_neg hj] at h
    cases h
  · exact (show _ = _ ∧ True from ⟨rfl, trivial⟩)
set_option maxRecDepth 100000 in
set_option maxHeartbeats 4000000 in
theorem sX12_leafRead_47 {N : Nat} {X : XT} (G : GX X cX12_leafRead RX12) (hn : xnL X = 2) (hC : CRs X tX12_leafRead (oF [(mX12_isSign N), (mX12_wrong N), (mX12_isKey N), (mX12_isCounted N), (mX12_nameMet N)]) (oF []) (oF [(mX12_waitsFor N), (mX12_token N), (mX12_grown N)])) {r : Int32 × Wd} (hr : RTZ X cX12_leafRead r)  : ∀ (w : Wd), fX12_leafRead_47 N w = some r → WW X (pcAt tX12_leafRead 47) [some (.inr (.inr (16, 0))), none] [] w := by
  intro w h
  refine run_sound (r := r) (X := X) (cc := cX12_leafRead) (own := RX12) (tab := tX12_leafRead) G (by rw [hn]; exact kX12_leafRead) (oI := (oF [(mX12_isSign N), (mX12_wrong N), (mX12_isKey N), (mX12_isCounted N), (mX12_nameMet N)])) (oL := (oF [])) (oV := (oF [(mX12_waitsFor N), (mX12_token N), (mX12_grown N)])) (rI := retZ) (rL := (fun _ _ => none)) (rV := (fun _ => none))
    (K := (fun j ls st w => if j = 60 then (lgI ls 1 fun v1 => st0 st (callW (fX12_leafRead_60 N v1) w)) else none)) hr (fun _ _ _ _ hx => by cases hx) (fun _ _ _ hx => by cases hx) hC (fun ls => lsb [some (.inr (.inr (16, 0))), none] 0 ls) (keepsP_of rfl) ?_ 98 47 [some (.inr (.inr (16, 0))), none] [] w ?_ h
  · intro j ls st w hfx h
    obtain ⟨e0, -⟩ : _ = _ ∧ True := hfx
    try dsimp only at h
    by_cases hj : j = 60
    · subst hj
      rw [if_pos rfl] at h
      obtain ⟨v1, e1, h_1⟩ := lgI_some h
      obtain ⟨rfl, h_2⟩ := st0_some h_1
      clear h h_1
      have h := h_2
      try rw [callW_eq] at h
      exact WW.le (a := [some (.inr (.inr (16, 0))), some (.inl v1)]) (by rw [hn]; rfl) (show _ = _ ∧ _ = _ ∧ True from ⟨e0, e1, trivial⟩) (sX12_leafRead_60 G hn hC hr v1 w h)
    rw [if_neg hj] at h
    cases h
  · exact (show _ = _ ∧ True from ⟨rfl, trivial⟩)
set_option maxRecDepth 100000 in
set_option maxHeartbeats 4000000 in
theorem crX12_leafRead {N : Nat} {X : XT} (G : GX X cX12_leafRead RX12) (hR : xR X = rmL 3) : CRs X tX12_leafRead (oF [(mX12_isSign N), (mX12_wrong N), (mX12_isKey N), (mX12_isCounted N), (mX12_nameMet N)]) (oF []) (oF [(mX12_waitsFor N), (mX12_token N), (mX12_grown N)]) := by
  have hl : tX12_leafRead.filter isInv = [(3, .invokevirtual 251, 0, 0, 2, 0, 0, []), (20, .invokevirtual 238, 0, 1, 2, 0, 0, []), (36, .invokevirtual 395, 0, 0, 2, 0, 0, [(0, 0), (0, 0)]), (45, .invokevirtual 248, 0, 1, 1, 0, 0, [(0, 0), (0, 0)]), (53, .invokevirtual 338, 0, 2, 2, 0, 0, []), (67, .invokevirtual 402, 0, 3, 1, 0, 0, []), (77, .invokevirtual 395, 0, 0, 2, 0, 0, [(0, 0), (0, 0)]), (81, .invokevirtual 248, 0, 1, 1, 0, 0, [(0, 0), (0, 0)]), (87, .invokevirtual 405, 0, 4, 1, 0, 0, []), (105, .invokevirtual 238, 0, 1, 2, 0, 0, []), (125, .invokevirtual 238, 0, 1, 2, 0, 0, []), (130, .invokevirtual 402, 0, 3, 1, 0, 0, []), (161, .invokevirtual 388, 0, 2, 4, 0, 0, [(0, 0), (0, 0)]), (170, .invokevirtual 248, 0, 1, 1, 0, 0, [(0, 0), (0, 0)])] := rfl
  intro e he
  rw [hl] at he
  simp only [List.mem_cons, List.not_mem_nil, or_false] at he
  rcases he with rfl | rfl | rfl | rfl | rfl | rfl | rfl | rfl | rfl | rfl | rfl | rfl | rfl | rfl
  · exact crI_V (idx := 251) G (by decide +kernel) (MX12_isSign N) (cw_of (ps := [2029, 2031, 97, 164, 2032]) (by decide +kernel) (by decide +kernel)) ⟨by decide +kernel, by decide +kernel, by decide +kernel⟩ (by unfold rmOk; rw [hR]; exact ⟨by decide, by decide⟩)
  · exact crI_V (idx := 238) G (by decide +kernel) (MX12_wrong N) (cw_of (ps := [1967, 1969, 83, 164, 1970]) (by decide +kernel) (by decide +kernel)) ⟨by decide +kernel, by decide +kernel, by decide +kernel⟩ (by unfold rmOk; rw [hR]; exact ⟨by decide, by decide⟩)
  · exact crV_V (idx := 395) G (by decide +kernel) (MX12_waitsFor N) (cw_of (ps := [2037, 2039, 99, 164, 2040]) (by decide +kernel) (by decide +kernel)) ⟨by decide +kernel, by decide +kernel, by decide +kernel⟩ (by unfold rmOk; rw [hR]; exact ⟨by decide, by decide⟩)
  · exact crV_V (idx := 248) G (by decide +kernel) (MX12_token N) (cw_of (ps := [1938, 1940, 76, 164, 1941]) (by decide +kernel) (by decide +kernel)) ⟨by decide +kernel, by decide +kernel, by decide +kernel⟩ (by unfold rmOk; rw [hR]; exact ⟨by decide, by decide⟩)
  · exact crI_V (idx := 338) G (by decide +kernel) (MX12_isKey N) (cw_of (ps := [1989, 1991, 87, 164, 1992]) (by decide +kernel) (by decide +kernel)) ⟨by decide +kernel, by decide +kernel, by decide +kernel⟩ (by unfold rmOk; rw [hR]; exact ⟨by decide, by decide⟩)
  · exact crI_V (idx := 402) G (by decide +kernel) (MX12_isCounted N) (cw_of (ps := [2041, 2043, 100, 164, 2044]) (by decide +kernel) (by decide +kernel)) ⟨by decide +kernel, by decide +kernel, by decide +kernel⟩ (by unfold rmOk; rw [hR]; exact ⟨by decide, by decide⟩)
  · exact crV_V (idx := 395) G (by decide +kernel) (MX12_waitsFor N) (cw_of (ps := [2037, 2039, 99, 164, 2040]) (by decide +kernel) (by decide +kernel)) ⟨by decide +kernel, by decide +kernel, by decide +kernel⟩ (by unfold rmOk; rw [hR]; exact ⟨by decide, by decide⟩)
  · exact crV_V (idx := 248) G (by decide +kernel) (MX12_token N) (cw_of (ps := [1938, 1940, 76, 164, 1941]) (by decide +kernel) (by decide +kernel)) ⟨by decide +kernel, by decide +kernel, by decide +kernel⟩ (by unfold rmOk; rw [hR]; exact ⟨by decide, by decide⟩)
  · exact crI_V (idx := 405) G (by decide +kernel) (MX12_nameMet N) (cw_of (ps := [2045, 2047, 101, 164, 2048]) (by decide +kernel) (by decide +kernel)) ⟨by decide +kernel, by decide +kernel, by decide +kernel⟩ (by unfold rmOk; rw [hR]; exact ⟨by decide, by decide⟩)
  · exact crI_V (idx := 238) G (by decide +kernel) (MX12_wrong N) (cw_of (ps := [1967, 1969, 83, 164, 1970]) (by decide +kernel) (by decide +kernel)) ⟨by decide +kernel, by decide +kernel, by decide +kernel⟩ (by unfold rmOk; rw [hR]; exact ⟨by decide, by decide⟩)
  · exact crI_V (idx := 238) G (by decide +kernel) (MX12_wrong N) (cw_of (ps := [1967, 1969, 83, 164, 1970]) (by decide +kernel) (by decide +kernel)) ⟨by decide +kernel, by decide +kernel, by decide +kernel⟩ (by unfold rmOk; rw [hR]; exact ⟨by decide, by decide⟩)
  · exact crI_V (idx := 402) G (by decide +kernel) (MX12_isCounted N) (cw_of (ps := [2041, 2043, 100, 164, 2044]) (by decide +kernel) (by decide +kernel)) ⟨by decide +kernel, by decide +kernel, by decide +kernel⟩ (by unfold rmOk; rw [hR]; exact ⟨by decide, by decide⟩)
  · exact crV_V (idx := 388) G (by decide +kernel) (MX12_grown N) (cw_of (ps := [2049, 2051, 102, 164, 2052]) (by decide +kernel) (by decide +kernel)) ⟨by decide +kernel, by decide +kernel, by decide +kernel⟩ (by unfold rmOk; rw [hR]; exact ⟨by decide, by decide⟩)
  · exact crV_V (idx := 248) G (by decide +kernel) (MX12_token N) (cw_of (ps := [1938, 1940, 76, 164, 1941]) (by decide +kernel) (by decide +kernel)) ⟨by decide +kernel, by decide +kernel, by decide +kernel⟩ (by unfold rmOk; rw [hR]; exact ⟨by decide, by decide⟩)
set_option maxRecDepth 100000 in
set_option maxHeartbeats 4000000 in
theorem MX12_leafRead (N : Nat) : SndI yX12_leafRead cX12_leafRead 2 (some .boolean) 3 1 true (mX12_leafRead N) := by
  refine SndI.ofZ tX12_leafRead (by decide +kernel) rfl rfl ?_ ?_
  · intro as w x h
    obtain ⟨t1, rfl, h_1⟩ := xS1_some h
    obtain ⟨rfl, h_2⟩ := xN1_some h_1
    clear h h_1
    have h := h_2
    rw [callW_eq] at h
    exact ⟨fun _ => ⟨_, _, _, rfl, rfl, _, rfl, rfl⟩, rfl, Nat.le_of_ble_eq_true rfl⟩
  · intro X G hn hR as w r h hr
    have hC := crX12_leafRead (N := N) G hR
    obtain ⟨t1, rfl, h_1⟩ := xS1_some h
    obtain ⟨rfl, h_2⟩ := xN1_some h_1
    clear h h_1
    have h := h_2
    rw [callW_eq] at h
    refine run_sound (r := r) (X := X) (cc := cX12_leafRead) (own := RX12) (tab := tX12_leafRead) G (by rw [hn]; exact kX12_leafRead) (oI := (oF [(mX12_isSign N), (mX12_wrong N), (mX12_isKey N), (mX12_isCounted N), (mX12_nameMet N)])) (oL := (oF [])) (oV := (oF [(mX12_waitsFor N), (mX12_token N), (mX12_grown N)])) (rI := retZ) (rL := (fun _ _ => none)) (rV := (fun _ => none))
      (K := (fun j ls st w => if j = 47 then (st0 st (callW (fX12_leafRead_47 N) w)) else none)) hr (fun _ _ _ _ hx => by cases hx) (fun _ _ _ hx => by cases hx) hC (fun ls => lsb [some (.inr (.inr (16, 0))), none] 0 ls) (keepsP_of rfl) ?_ 98 0 [some (.inr (.inr (16, 0))), none] [] w ?_ h
    · intro j ls st w hfx h
      obtain ⟨e0, -⟩ : _ = _ ∧ True := hfx
      try dsimp only at h
      by_cases hj : j = 47
      · subst hj
        rw [if_pos rfl] at h
        obtain ⟨rfl, h_1⟩ := st0_some h
        clear h
        have h := h_1
        try rw [callW_eq] at h
        exact WW.le (a := [some (.inr (.inr (16, 0))), none]) (by rw [hn]; rfl) (show _ = _ ∧ True from ⟨e0, trivial⟩) (sX12_leafRead_47 G hn hC hr w h)
      rw [if_neg hj] at h
      cases h
    · exact (show _ = _ ∧ True from ⟨rfl, trivial⟩)
-- MoorGuidesModel.rank(I)I
def tX12_rank : List EN := [
  (0, .iload_n 0, 0, 0, 0, 0, 0, []), (1, .bipush 13, 0, 0, 0, 13, 0, []), (3, .if_icmp .lt 8, 0, 5, 0, 0, 0, []), (6, .bipush 6, 0, 0, 0, 6, 0, []),
  (8, .goto 50, 0, 31, 0, 0, 0, []), (11, .iload_n 0, 0, 0, 0, 0, 0, []), (12, .bipush 11, 0, 0, 0, 11, 0, []), (14, .if_icmp .lt 7, 0, 10, 0, 0, 0, []),
  (17, .iconst 5, 0, 0, 0, 5, 0, []), (18, .goto 40, 0, 31, 0, 0, 0, []), (21, .iload_n 0, 0, 0, 0, 0, 0, []), (22, .iconst 5, 0, 0, 0, 5, 0, []),
  (23, .if_icmp .lt 7, 0, 15, 0, 0, 0, []), (26, .iconst 4, 0, 0, 0, 4, 0, []), (27, .goto 31, 0, 31, 0, 0, 0, []), (30, .iload_n 0, 0, 0, 0, 0, 0, []),
  (31, .iconst 2, 0, 0, 0, 2, 0, []), (32, .if_icmp .ne 7, 0, 20, 0, 0, 0, []), (35, .iconst 3, 0, 0, 0, 3, 0, []), (36, .goto 22, 0, 31, 0, 0, 0, []),
  (39, .iload_n 0, 0, 0, 0, 0, 0, []), (40, .iconst 3, 0, 0, 0, 3, 0, []), (41, .if_icmp .ne 7, 0, 25, 0, 0, 0, []), (44, .iconst 2, 0, 0, 0, 2, 0, []),
  (45, .goto 13, 0, 31, 0, 0, 0, []), (48, .iload_n 0, 0, 0, 0, 0, 0, []), (49, .iconst 4, 0, 0, 0, 4, 0, []), (50, .if_icmp .ne 7, 0, 30, 0, 0, 0, []),
  (53, .iconst 1, 0, 0, 0, 1, 0, []), (54, .goto 4, 0, 31, 0, 0, 0, []), (57, .iconst 0, 0, 0, 0, 0, 0, []), (58, .ireturn, 0, 0, 0, 0, 0, [])]
noncomputable def pX12_rank (N : Nat) (a0 : Int32) (w : Wd) : Option (Int32 × Wd) :=
  if a0 < (13 : Int32) then
    if a0 < (11 : Int32) then
      if a0 < (5 : Int32) then
        if a0 = (2 : Int32) then some ((3 : Int32), w) else
        if a0 = (3 : Int32) then some ((2 : Int32), w) else
        if a0 = (4 : Int32) then some ((1 : Int32), w) else
        some ((0 : Int32), w)
      else
      some ((4 : Int32), w)
    else
    some ((5 : Int32), w)
  else
  some ((6 : Int32), w)
noncomputable def mX12_rank (N : Nat) (as : List AV) (w : Wd) : Option (Int32 × Wd) := xI1 as fun a0 t => xN1 t (callW (pX12_rank N a0) w)
set_option maxRecDepth 100000 in
set_option maxHeartbeats 4000000 in
theorem kX12_rank : TK cX12_rank RX12 1 tX12_rank := ⟨by decide +kernel, wok_of [] (by decide +kernel) (by decide +kernel)⟩
set_option maxRecDepth 100000 in
set_option maxHeartbeats 4000000 in
theorem crX12_rank {N : Nat} {X : XT} (G : GX X cX12_rank RX12) (hR : xR X = rmL 1) : CRs X tX12_rank (oF []) (oF []) (oF []) := by
  have hl : tX12_rank.filter isInv = [] := rfl
  intro e he
  rw [hl] at he
  cases he
set_option maxRecDepth 100000 in
set_option maxHeartbeats 4000000 in
theorem MX12_rank (N : Nat) : SndI yX12_rank cX12_rank 1 (some .int) 1 1 false (mX12_rank N) := by
  refine SndI.of tX12_rank (by decide +kernel) rfl rfl ?_ ?_
  · intro as w x h
    obtain ⟨a0, t1, rfl, h_1⟩ := xI1_some h
    obtain ⟨rfl, h_2⟩ := xN1_some h_1
    clear h h_1
    have h := h_2
    rw [callW_eq] at h
    exact ⟨(fun z => by cases z), rfl, Nat.le_of_ble_eq_true rfl⟩
  · intro X G hn hR as w r h hr
    have hC := crX12_rank (N := N) G hR
    obtain ⟨a0, t1, rfl, h_1⟩ := xI1_some h
    obtain ⟨rfl, h_2⟩ := xN1_some h_1
    clear h h_1
    have h := h_2
    rw [callW_eq] at h
    refine run_sound (r := r) (X := X) (cc := cX12_rank) (own := RX12) (tab := tX12_rank) G (by rw [hn]; exact kX12_rank) (oI := (oF [])) (oL := (oF [])) (oV := (oF [])) (rI := (fun x w => some (x, w))) (rL := (fun _ _ => none)) (rV := (fun _ => none))
      (K := (fun j ls st w => none)) (fun x w pc ls hx hd => hr x w pc ls (Option.some.inj hx) hd) (fun _ _ _ _ hx => by cases hx) (fun _ _ _ hx => by cases hx) hC (fun ls => lsb [some (.inl a0)] 0 ls) (keepsP_of rfl) ?_ 34 0 [some (.inl a0)] [] w ?_ h
    · intro j ls st w hfx h
      obtain ⟨e0, -⟩ : _ = _ ∧ True := hfx
      try dsimp only at h
      cases h
    · exact (show _ = _ ∧ True from ⟨rfl, trivial⟩)
-- MoorGuidesModel.dropHeld()I
def tX12_dropHeld : List EN := [
  (0, .aload_n 0, 0, 0, 0, 0, 0, []), (1, .dup, 0, 0, 0, 0, 0, []), (2, .getfield 374, 0, 12, 56, 0, 0, []), (5, .iconst 1, 0, 0, 0, 1, 0, []),
  (6, .isub, 0, 0, 0, 0, 0, []), (7, .putfield 374, 0, 12, 56, 0, 0, []), (10, .aload_n 0, 0, 0, 0, 0, 0, []), (11, .getfield 90, 0, 12, 54, 0, 0, []),
  (14, .aload_n 0, 0, 0, 0, 0, 0, []), (15, .getfield 374, 0, 12, 56, 0, 0, []), (18, .iaload, 0, 0, 0, 0, 0, []), (19, .ireturn, 0, 0, 0, 0, 0, [])]
noncomputable def pX12_dropHeld (N : Nat) (w : Wd) : Option (Int32 × Wd) :=
  (ldI (setI w 16 0 56 ((gI w 16 0 56) - (1 : Int32))) 98 0 (gI (setI w 16 0 56 ((gI w 16 0 56) - (1 : Int32))) 16 0 56) 96).bind fun x1 =>
  some (x1, (setI w 16 0 56 ((gI w 16 0 56) - (1 : Int32))))
noncomputable def mX12_dropHeld (N : Nat) (as : List AV) (w : Wd) : Option (Int32 × Wd) := xS1 16 as fun t => xN1 t (callW (pX12_dropHeld N) w)
set_option maxRecDepth 100000 in
set_option maxHeartbeats 4000000 in
theorem kX12_dropHeld : TK cX12_dropHeld RX12 1 tX12_dropHeld := ⟨by decide +kernel, wok_of [1656, 1656, 1654, 1656] (by decide +kernel) (by decide +kernel)⟩
set_option maxRecDepth 100000 in
set_option maxHeartbeats 4000000 in
theorem crX12_dropHeld {N : Nat} {X : XT} (G : GX X cX12_dropHeld RX12) (hR : xR X = rmL 1) : CRs X tX12_dropHeld (oF []) (oF []) (oF []) := by
  have hl : tX12_dropHeld.filter isInv = [] := rfl
  intro e he
  rw [hl] at he
  cases he
set_option maxRecDepth 100000 in
set_option maxHeartbeats 4000000 in
theorem MX12_dropHeld (N : Nat) : SndI yX12_dropHeld cX12_dropHeld 1 (some .int) 1 1 true (mX12_dropHeld N) := by
  refine SndI.of tX12_dropHeld (by decide +kernel) rfl rfl ?_ ?_
  · intro as w x h
    obtain ⟨t1, rfl, h_1⟩ := xS1_some h
    obtain ⟨rfl, h_2⟩ := xN1_some h_1
    clear h h_1
    have h := h_2
    rw [callW_eq] at h
    exact ⟨fun _ => ⟨_, _, _, rfl, rfl, _, rfl, rfl⟩, rfl, Nat.le_of_ble_eq_true rfl⟩
  · intro X G hn hR as w r h hr
    have hC := crX12_dropHeld (N := N) G hR
    obtain ⟨t1, rfl, h_1⟩ := xS1_some h
    obtain ⟨rfl, h_2⟩ := xN1_some h_1
    clear h h_1
    have h := h_2
    rw [callW_eq] at h
    refine run_sound (r := r) (X := X) (cc := cX12_dropHeld) (own := RX12) (tab := tX12_dropHeld) G (by rw [hn]; exact kX12_dropHeld) (oI := (oF [])) (oL := (oF [])) (oV := (oF [])) (rI := (fun x w => some (x, w))) (rL := (fun _ _ => none)) (rV := (fun _ => none))
      (K := (fun j ls st w => none)) (fun x w pc ls hx hd => hr x w pc ls (Option.some.inj hx) hd) (fun _ _ _ _ hx => by cases hx) (fun _ _ _ hx => by cases hx) hC (fun ls => lsb [some (.inr (.inr (16, 0)))] 0 ls) (keepsP_of rfl) ?_ 14 0 [some (.inr (.inr (16, 0)))] [] w ?_ h
    · intro j ls st w hfx h
      obtain ⟨e0, -⟩ : _ = _ ∧ True := hfx
      try dsimp only at h
      cases h
    · exact (show _ = _ ∧ True from ⟨rfl, trivial⟩)
-- MoorGuidesModel.bind(I)V
def tX12_bind : List EN := [
  (0, .aload_n 0, 1, 0, 0, 0, 0, []), (1, .getfield 377, 0, 12, 55, 0, 0, []), (4, .ifCond .le 72, 0, 42, 0, 0, 0, []), (7, .aload_n 0, 0, 0, 0, 0, 0, []),
  (8, .getfield 87, 0, 12, 53, 0, 0, []), (11, .aload_n 0, 0, 0, 0, 0, 0, []), (12, .getfield 377, 0, 12, 55, 0, 0, []), (15, .iconst 1, 0, 0, 0, 1, 0, []),
  (16, .isub, 0, 0, 0, 0, 0, []), (17, .iaload, 0, 0, 0, 0, 0, []), (18, .invokestatic 380, 0, 0, 1, 0, 0, []), (21, .iload_n 1, 0, 0, 0, 0, 0, []),
  (22, .if_icmp .lt 54, 0, 42, 0, 0, 0, []), (25, .aload_n 0, 0, 0, 0, 0, 0, []), (26, .dup, 0, 0, 0, 0, 0, []), (27, .getfield 377, 0, 12, 55, 0, 0, []),
  (30, .iconst 1, 0, 0, 0, 1, 0, []), (31, .isub, 0, 0, 0, 0, 0, []), (32, .putfield 377, 0, 12, 55, 0, 0, []), (35, .aload_n 0, 0, 0, 0, 0, 0, []),
  (36, .getfield 87, 0, 12, 53, 0, 0, []), (39, .aload_n 0, 0, 0, 0, 0, 0, []), (40, .getfield 377, 0, 12, 55, 0, 0, []), (43, .iaload, 0, 0, 0, 0, 0, []),
  (44, .istore_n 2, 0, 0, 0, 0, 0, []), (45, .iload_n 2, 0, 0, 0, 0, 0, []), (46, .iconst 2, 0, 0, 0, 2, 0, []), (47, .if_icmp .ne 7, 0, 30, 0, 0, 0, []),
  (50, .iconst (-1), 0, 0, 0, (-1), 0, []), (51, .goto 7, 0, 32, 0, 0, 0, []), (54, .aload_n 0, 0, 0, 0, 0, 0, []), (55, .invokevirtual 384, 0, 1, 1, 0, 0, []),
  (58, .istore_n 3, 33, 0, 0, 0, 0, []), (59, .aload_n 0, 0, 0, 0, 0, 0, []), (60, .invokevirtual 384, 0, 1, 1, 0, 0, []), (63, .istore 4, 0, 0, 0, 0, 0, []),
  (65, .aload_n 0, 0, 0, 0, 0, 0, []), (66, .iload_n 2, 0, 0, 0, 0, 0, []), (67, .iload 4, 0, 0, 0, 0, 0, []), (69, .iload_n 3, 0, 0, 0, 0, 0, []),
  (70, .invokevirtual 388, 0, 0, 4, 0, 0, [(0, 0), (0, 0)]), (73, .goto (-73), 0, 0, 0, 0, 0, []), (76, .return_, 0, 0, 0, 0, 0, [])]
noncomputable def fX12_bind_32 (N : Nat) (a1 : Int32) (k0 : Wd → Option (Wd)) (v2 : Int32) (s0 : Int32) (w : Wd) : Option (Wd) :=
  (callW (pX12_dropHeld N) w).bind fun r1 =>
  (callW (pX12_grown N v2 r1.1 s0) r1.2).bind fun w2 =>
  k0 w2
noncomputable def fX12_bind_0 (N : Nat) (a1 : Int32) : Nat → Wd → Option (Wd)
  | 0, _ => none
  | n + 1, w =>
    if 0 < (gI w 16 0 55) then
      (ldI w 97 0 ((gI w 16 0 55) - (1 : Int32)) 96).bind fun x1 =>
      (callW (pX12_rank N x1) w).bind fun r2 =>
      if r2.1 < a1 then some r2.2 else
      (ldI (setI r2.2 16 0 55 ((gI r2.2 16 0 55) - (1 : Int32))) 97 0 (gI (setI r2.2 16 0 55 ((gI r2.2 16 0 55) - (1 : Int32))) 16 0 55) 96).bind fun x3 =>
      if x3 = (2 : Int32) then
        callW (fX12_bind_32 N a1 (fX12_bind_0 N a1 n) x3 (-1 : Int32)) (setI r2.2 16 0 55 ((gI r2.2 16 0 55) - (1 : Int32)))
      else
      (callW (pX12_dropHeld N) (setI r2.2 16 0 55 ((gI r2.2 16 0 55) - (1 : Int32)))).bind fun r4 =>
      callW (fX12_bind_32 N a1 (fX12_bind_0 N a1 n) x3 r4.1) r4.2
    else
    some w
noncomputable def pX12_bind (N : Nat) (a1 : Int32) (w : Wd) : Option (Wd) :=
  callW (fX12_bind_0 N a1 N) w
noncomputable def mX12_bind (N : Nat) (as : List AV) (w : Wd) : Option (Wd) := xS1 16 as fun t => xI1 t fun a1 t => xN1 t (callW (pX12_bind N a1) w)
set_option maxRecDepth 100000 in
set_option maxHeartbeats 4000000 in
theorem kX12_bind : TK cX12_bind RX12 5 tX12_bind := ⟨by decide +kernel, wok_of [1655, 1653, 1655, 1655, 1655, 1653, 1655] (by decide +kernel) (by decide +kernel)⟩
set_option maxRecDepth 100000 in
set_option maxHeartbeats 4000000 in
theorem sX12_bind_32 {N : Nat} {X : XT} (G : GX X cX12_bind RX12) (hn : xnL X = 5) (hC : CRs X tX12_bind (oF [(mX12_rank N), (mX12_dropHeld N)]) (oF []) (oF [(mX12_grown N)])) {r : Wd} (hr : RTV X cX12_bind r) (a1 : Int32) : ∀ (k0 : Wd → Option (Wd)) (v2 : Int32) (s0 : Int32) (w : Wd), fX12_bind_32 N a1 k0 v2 s0 w = some r → (∀ (w : Wd), k0 w = some r → WW X (pcAt tX12_bind 0) [some (.inr (.inr (16, 0))), some (.inl a1), none, none, none] [] w) → WW X (pcAt tX12_bind 32) [some (.inr (.inr (16, 0))), some (.inl a1), some (.inl v2), none, none] [.inl s0] w := by
  intro k0 v2 s0 w h h0
  refine run_sound (r := r) (X := X) (cc := cX12_bind) (own := RX12) (tab := tX12_bind) G (by rw [hn]; exact kX12_bind) (oI := (oF [(mX12_rank N), (mX12_dropHeld N)])) (oL := (oF [])) (oV := (oF [(mX12_grown N)])) (rI := (fun _ _ => none)) (rL := (fun _ _ => none)) (rV := (fun w => some w))
    (K := (fun j ls st w => if j = 0 then (st0 st (k0 w)) else none)) (fun _ _ _ _ hx => by cases hx) (fun _ _ _ _ hx => by cases hx) (fun w pc ls hx hd => hr w pc ls (Option.some.inj hx) hd) hC (fun ls => lsb [some (.inr (.inr (16, 0))), some (.inl a1), none, none, none] 0 ls) (keepsP_of rfl) ?_ 45 32 [some (.inr (.inr (16, 0))), some (.inl a1), some (.inl v2), none, none] [.inl s0] w ?_ h
  · intro j ls st w hfx h
    obtain ⟨e0, e1, -⟩ : _ = _ ∧ _ = _ ∧ True := hfx
    try dsimp only at h
    by_cases hj : j = 0
    · subst hj
      rw [if_pos rfl] at h
      obtain ⟨rfl, h_1⟩ := st0_some h
      clear h
      have h := h_1
      try rw [callW_eq] at h
      exact WW.le (a := [some (.inr (.inr (16, 0))), some (.inl a1), none, none, none]) (by rw [hn]; rfl) (show _ = _ ∧ _ = _ ∧ True from ⟨e0, e1, trivial⟩) (h0 w h)
    rw [if_neg hj] at h
    cases h
  · exact (show _ = _ ∧ _ = _ ∧ True from ⟨rfl, rfl, trivial⟩)
set_option maxRecDepth 100000 in
set_option maxHeartbeats 4000000 in
theorem sX12_bind_0 {N : Nat} {X : XT} (G : GX X cX12_bind RX12) (hn : xnL X = 5) (hC : CRs X tX12_bind (oF [(mX12_rank N), (mX12_dropHeld N)]) (oF []) (oF [(mX12_grown N)])) {r : Wd} (hr : RTV X cX12_bind r) (a1 : Int32) : ∀ (n : Nat) (w : Wd), fX12_bind_0 N a1 n w = some r → WW X (pcAt tX12_bind 0) [some (.inr (.inr (16, 0))), some (.inl a1), none, none, none] [] w := by
  intro n
  induction n with
  | zero => intro w h; cases h
  | succ n ih =>
    intro w h
    refine run_sound (r := r) (X := X) (cc := cX12_bind) (own := RX12) (tab := tX12_bind) G (by rw [hn]; exact kX12_bind) (oI := (oF [(mX12_rank N), (mX12_dropHeld N)])) (oL := (oF [])) (oV := (oF [(mX12_grown N)])) (rI := (fun _ _ => none)) (rL := (fun _ _ => none)) (rV := (fun w => some w))
      (K := (fun j ls st w => if j = 32 then (lgI ls 2 fun v2 => po1 st fun s0 st => st0 st (callW (fX12_bind_32 N a1 (fX12_bind_0 N a1 n) v2 s0) w)) else none)) (fun _ _ _ _ hx => by cases hx) (fun _ _ _ _ hx => by cases hx) (fun w pc ls hx hd => hr w pc ls (Option.some.inj hx) hd) hC (fun ls => lsb [some (.inr (.inr (16, 0))), some (.inl a1), none, none, none] 0 ls) (keepsP_of rfl) ?_ 45 0 [some (.inr (.inr (16, 0))), some (.inl a1), none, none, none] [] w ?_ h
    · intro j ls st w hfx h
      obtain ⟨e0, e1, -⟩ : _ = _ ∧ _ = _ ∧ True := hfx
      try dsimp only at h
      by_cases hj : j = 32
      · subst hj
        rw [if_pos rfl] at h
        obtain ⟨v2, e2, h_1⟩ := lgI_some h
        obtain ⟨s0, st0, rfl, h_2⟩ := po1_some h_1
        obtain ⟨rfl, h_3⟩ := st0_some h_2
        clear h h_1 h_2
        have h := h_3
        try rw [callW_eq] at h
        exact WW.le (a := [some (.inr (.inr (16, 0))), some (.inl a1), some (.inl v2), none, none]) (by rw [hn]; rfl) (show _ = _ ∧ _ = _ ∧ _ = _ ∧ True from ⟨e0, e1, e2, trivial⟩) (sX12_bind_32 G hn hC hr a1 (fX12_bind_0 N a1 n) v2 s0 w h (fun w h => (ih w h)))
      rw [if_neg hj] at h
      cases h
    · exact (show _ = _ ∧ _ = _ ∧ True from ⟨rfl, rfl, trivial⟩)
set_option maxRecDepth 100000 in
set_option maxHeartbeats 4000000 in
theorem crX12_bind {N : Nat} {X : XT} (G : GX X cX12_bind RX12) (hR : xR X = rmL 2) : CRs X tX12_bind (oF [(mX12_rank N), (mX12_dropHeld N)]) (oF []) (oF [(mX12_grown N)]) := by
  have hl : tX12_bind.filter isInv = [(18, .invokestatic 380, 0, 0, 1, 0, 0, []), (55, .invokevirtual 384, 0, 1, 1, 0, 0, []), (60, .invokevirtual 384, 0, 1, 1, 0, 0, []), (70, .invokevirtual 388, 0, 0, 4, 0, 0, [(0, 0), (0, 0)])] := rfl
  intro e he
  rw [hl] at he
  simp only [List.mem_cons, List.not_mem_nil, or_false] at he
  rcases he with rfl | rfl | rfl | rfl
  · exact crI_S (idx := 380) G (by decide +kernel) (MX12_rank N) (cw_of (ps := [2061, 2062, 164, 2063]) (by decide +kernel) (by decide +kernel)) ⟨by decide +kernel, by decide +kernel, by decide +kernel⟩ (by unfold rmOk; rw [hR]; exact ⟨by decide, by decide⟩)
  · exact crI_V (idx := 384) G (by decide +kernel) (MX12_dropHeld N) (cw_of (ps := [2064, 2066, 105, 164, 2067]) (by decide +kernel) (by decide +kernel)) ⟨by decide +kernel, by decide +kernel, by decide +kernel⟩ (by unfold rmOk; rw [hR]; exact ⟨by decide, by decide⟩)
  · exact crI_V (idx := 384) G (by decide +kernel) (MX12_dropHeld N) (cw_of (ps := [2064, 2066, 105, 164, 2067]) (by decide +kernel) (by decide +kernel)) ⟨by decide +kernel, by decide +kernel, by decide +kernel⟩ (by unfold rmOk; rw [hR]; exact ⟨by decide, by decide⟩)
  · exact crV_V (idx := 388) G (by decide +kernel) (MX12_grown N) (cw_of (ps := [2049, 2051, 102, 164, 2052]) (by decide +kernel) (by decide +kernel)) ⟨by decide +kernel, by decide +kernel, by decide +kernel⟩ (by unfold rmOk; rw [hR]; exact ⟨by decide, by decide⟩)
set_option maxRecDepth 100000 in
set_option maxHeartbeats 4000000 in
theorem MX12_bind (N : Nat) : SndV yX12_bind cX12_bind 5 none 2 2 true (mX12_bind N) := by
  refine SndV.of tX12_bind (by decide +kernel) rfl rfl ?_ ?_
  · intro as w x h
    obtain ⟨t1, rfl, h_1⟩ := xS1_some h
    obtain ⟨a1, t2, rfl, h_2⟩ := xI1_some h_1
    obtain ⟨rfl, h_3⟩ := xN1_some h_2
    clear h h_1 h_2
    have h := h_3
    rw [callW_eq] at h
    exact ⟨fun _ => ⟨_, _, _, rfl, rfl, _, rfl, rfl⟩, rfl, Nat.le_of_ble_eq_true rfl⟩
  · intro X G hn hR as w r h hr
    have hC := crX12_bind (N := N) G hR
    obtain ⟨t1, rfl, h_1⟩ := xS1_some h
    obtain ⟨a1, t2, rfl, h_2⟩ := xI1_some h_1
    obtain ⟨rfl, h_3⟩ := xN1_some h_2
    clear h h_1 h_2
    have h := h_3
    rw [callW_eq] at h
    unfold pX12_bind at h
    rw [callW_eq] at h
    have k0 := sX12_bind_0 G hn hC hr a1 N w h
    exact WW.le (a := [some (.inr (.inr (16, 0))), some (.inl a1), none, none, none]) (by rw [hn]; rfl) (show _ = _ ∧ _ = _ ∧ True from ⟨rfl, rfl, trivial⟩) k0
-- MoorGuidesModel.signs()Z
def tX12_signs : List EN := [
  (0, .aload_n 0, 0, 0, 0, 0, 0, []), (1, .bipush 41, 0, 0, 0, 41, 0, []), (3, .invokevirtual 251, 0, 0, 2, 0, 0, []), (6, .ifCond .eq 41, 0, 26, 0, 0, 0, []),
  (9, .aload_n 0, 0, 0, 0, 0, 0, []), (10, .getfield 392, 0, 12, 57, 0, 0, []), (13, .ifCond .le 34, 0, 26, 0, 0, 0, []), (16, .aload_n 0, 0, 0, 0, 0, 0, []),
  (17, .iconst 1, 0, 0, 0, 1, 0, []), (18, .invokevirtual 411, 0, 0, 2, 0, 0, [(0, 0), (0, 0)]), (21, .aload_n 0, 0, 0, 0, 0, 0, []), (22, .dup, 0, 0, 0, 0, 0, []),
  (23, .getfield 377, 0, 12, 55, 0, 0, []), (26, .iconst 1, 0, 0, 0, 1, 0, []), (27, .isub, 0, 0, 0, 0, 0, []), (28, .putfield 377, 0, 12, 55, 0, 0, []),
  (31, .aload_n 0, 0, 0, 0, 0, 0, []), (32, .dup, 0, 0, 0, 0, 0, []), (33, .getfield 392, 0, 12, 57, 0, 0, []), (36, .iconst 1, 0, 0, 0, 1, 0, []),
  (37, .isub, 0, 0, 0, 0, 0, []), (38, .putfield 392, 0, 12, 57, 0, 0, []), (41, .aload_n 0, 0, 0, 0, 0, 0, []), (42, .invokevirtual 248, 0, 1, 1, 0, 0, [(0, 0), (0, 0)]),
  (45, .iconst 1, 0, 0, 0, 1, 0, []), (46, .ireturn, 0, 0, 0, 0, 0, []), (47, .aload_n 0, 27, 0, 0, 0, 0, []), (48, .bipush 16, 0, 0, 0, 16, 0, []),
  (50, .invokevirtual 338, 0, 1, 2, 0, 0, []), (53, .ifCond .eq 7, 0, 32, 0, 0, 0, []), (56, .iconst 3, 0, 0, 0, 3, 0, []), (57, .goto 90, 0, 72, 0, 0, 0, []),
  (60, .aload_n 0, 0, 0, 0, 0, 0, []), (61, .bipush 17, 0, 0, 0, 17, 0, []), (63, .invokevirtual 338, 0, 1, 2, 0, 0, []), (66, .ifCond .eq 7, 0, 38, 0, 0, 0, []),
  (69, .iconst 4, 0, 0, 0, 4, 0, []), (70, .goto 77, 0, 72, 0, 0, 0, []), (73, .aload_n 0, 0, 0, 0, 0, 0, []), (74, .getfield 214, 0, 12, 8, 0, 0, []),
  (77, .iconst 5, 0, 0, 0, 5, 0, []), (78, .if_icmp .ne 12, 0, 47, 0, 0, 0, []), (81, .iconst 5, 0, 0, 0, 5, 0, []), (82, .aload_n 0, 0, 0, 0, 0, 0, []),
  (83, .getfield 225, 0, 12, 9, 0, 0, []), (86, .iadd, 0, 0, 0, 0, 0, []), (87, .goto 60, 0, 72, 0, 0, 0, []), (90, .aload_n 0, 0, 0, 0, 0, 0, []),
  (91, .bipush 43, 0, 0, 0, 43, 0, []), (93, .invokevirtual 251, 0, 0, 2, 0, 0, []), (96, .ifCond .eq 8, 0, 53, 0, 0, 0, []), (99, .bipush 11, 0, 0, 0, 11, 0, []),
  (101, .goto 46, 0, 72, 0, 0, 0, []), (104, .aload_n 0, 0, 0, 0, 0, 0, []), (105, .bipush 45, 0, 0, 0, 45, 0, []), (107, .invokevirtual 251, 0, 0, 2, 0, 0, []),
  (110, .ifCond .eq 8, 0, 59, 0, 0, 0, []), (113, .bipush 12, 0, 0, 0, 12, 0, []), (115, .goto 32, 0, 72, 0, 0, 0, []), (118, .aload_n 0, 0, 0, 0, 0, 0, []),
  (119, .bipush 42, 0, 0, 0, 42, 0, []), (121, .invokevirtual 251, 0, 0, 2, 0, 0, []), (124, .ifCond .eq 8, 0, 65, 0, 0, 0, []), (127, .bipush 13, 0, 0, 0, 13, 0, []),
  (129, .goto 18, 0, 72, 0, 0, 0, []), (132, .aload_n 0, 0, 0, 0, 0, 0, []), (133, .bipush 47, 0, 0, 0, 47, 0, []), (135, .invokevirtual 251, 0, 0, 2, 0, 0, []),
  (138, .ifCond .eq 8, 0, 71, 0, 0, 0, []), (141, .bipush 14, 0, 0, 0, 14, 0, []), (143, .goto 4, 0, 72, 0, 0, 0, []), (146, .iconst 0, 0, 0, 0, 0, 0, []),
  (147, .istore_n 1, 73, 0, 0, 0, 0, []), (148, .iload_n 1, 0, 0, 0, 0, 0, []), (149, .ifCond .ne 9, 0, 79, 0, 0, 0, []), (152, .aload_n 0, 0, 0, 0, 0, 0, []),
  (153, .iconst 1, 0, 0, 0, 1, 0, []), (154, .invokevirtual 238, 0, 2, 2, 0, 0, []), (157, .ireturn, 0, 0, 0, 0, 0, []), (158, .aload_n 0, 0, 0, 0, 0, 0, []),
  (159, .iload_n 1, 0, 0, 0, 0, 0, []), (160, .invokestatic 380, 0, 3, 1, 0, 0, []), (163, .iconst 4, 0, 0, 0, 4, 0, []), (164, .if_icmp .ne 7, 0, 86, 0, 0, 0, []),
  (167, .iconst 5, 0, 0, 0, 5, 0, []), (168, .goto 7, 0, 88, 0, 0, 0, []), (171, .iload_n 1, 0, 0, 0, 0, 0, []), (172, .invokestatic 380, 0, 3, 1, 0, 0, []),
  (175, .invokevirtual 411, 89, 0, 2, 0, 0, [(0, 0), (0, 0)]), (178, .iload_n 1, 0, 0, 0, 0, 0, []), (179, .invokestatic 380, 0, 3, 1, 0, 0, []), (182, .iconst 4, 0, 0, 0, 4, 0, []),
  (183, .if_icmp .ne 34, 0, 110, 0, 0, 0, []), (186, .aload_n 0, 0, 0, 0, 0, 0, []), (187, .getfield 377, 0, 12, 55, 0, 0, []), (190, .ifCond .le 27, 0, 110, 0, 0, 0, []),
  (193, .aload_n 0, 0, 0, 0, 0, 0, []), (194, .getfield 87, 0, 12, 53, 0, 0, []), (197, .aload_n 0, 0, 0, 0, 0, 0, []), (198, .getfield 377, 0, 12, 55, 0, 0, []),
  (201, .iconst 1, 0, 0, 0, 1, 0, []), (202, .isub, 0, 0, 0, 0, 0, []), (203, .iaload, 0, 0, 0, 0, 0, []), (204, .invokestatic 380, 0, 3, 1, 0, 0, []),
  (207, .iconst 4, 0, 0, 0, 4, 0, []), (208, .if_icmp .ne 9, 0, 110, 0, 0, 0, []), (211, .aload_n 0, 0, 0, 0, 0, 0, []), (212, .iconst 1, 0, 0, 0, 1, 0, []),
  (213, .invokevirtual 238, 0, 2, 2, 0, 0, []), (216, .ireturn, 0, 0, 0, 0, 0, []), (217, .aload_n 0, 111, 0, 0, 0, 0, []), (218, .invokevirtual 402, 0, 4, 1, 0, 0, []),
  (221, .ifCond .ne 5, 0, 115, 0, 0, 0, []), (224, .iconst 0, 0, 0, 0, 0, 0, []), (225, .ireturn, 0, 0, 0, 0, 0, []), (226, .aload_n 0, 0, 0, 0, 0, 0, []),
  (227, .iload_n 1, 0, 0, 0, 0, 0, []), (228, .invokevirtual 395, 0, 2, 2, 0, 0, [(0, 0), (0, 0)]), (231, .aload_n 0, 0, 0, 0, 0, 0, []), (232, .iconst 1, 0, 0, 0, 1, 0, []),
  (233, .putfield 408, 0, 12, 59, 0, 0, [(0, 0)]), (236, .aload_n 0, 0, 0, 0, 0, 0, []), (237, .iload_n 1, 0, 0, 0, 0, 0, []), (238, .invokestatic 380, 0, 3, 1, 0, 0, []),
  (241, .iconst 3, 0, 0, 0, 3, 0, []), (242, .if_icmp .ge 7, 0, 128, 0, 0, 0, []), (245, .iconst 1, 0, 0, 0, 1, 0, []), (246, .goto 4, 0, 129, 0, 0, 0, []),
  (249, .iconst 0, 0, 0, 0, 0, 0, []), (250, .putfield 399, 0, 12, 60, 0, 0, [(0, 0)]), (253, .aload_n 0, 0, 0, 0, 0, 0, []), (254, .invokevirtual 248, 0, 1, 1, 0, 0, [(0, 0), (0, 0)]),
  (257, .iconst 1, 0, 0, 0, 1, 0, []), (258, .ireturn, 0, 0, 0, 0, 0, [])]
noncomputable def fX12_signs_110 (N : Nat) (v1 : Int32) (w : Wd) : Option (Int32 × Wd) :=
  (callW (pX12_isCounted N) w).bind fun r1 =>
  if r1.1 = 0 then some ((0 : Int32), r1.2) else
  (callW (pX12_waitsFor N v1) r1.2).bind fun w2 =>
  (callW (pX12_rank N v1) (setI w2 16 0 59 (1 : Int32))).bind fun r3 =>
  if r3.1 < (3 : Int32) then
    (callW (pX12_token N) (setI r3.2 16 0 60 (1 : Int32))).bind fun w4 =>
    some ((1 : Int32), w4)
  else
  (callW (pX12_token N) (setI r3.2 16 0 60 (0 : Int32))).bind fun w5 =>
  some ((1 : Int32), w5)
noncomputable def fX12_signs_88 (N : Nat) (v1 : Int32) (s0 : Int32) (w : Wd) : Option (Int32 × Wd) :=
  (callW (pX12_bind N s0) w).bind fun w1 =>
  (callW (pX12_rank N v1) w1).bind fun r2 =>
  if r2.1 = (4 : Int32) then
    if 0 < (gI r2.2 16 0 55) then
      (ldI r2.2 97 0 ((gI r2.2 16 0 55) - (1 : Int32)) 96).bind fun x3 =>
      (callW (pX12_rank N x3) r2.2).bind fun r4 =>
      if r4.1 = (4 : Int32) then
        (callW (pX12_wrong N (1 : Int32)) r4.2).bind fun r5 =>
        retZ r5.1 r5.2
      else
      callW (fX12_signs_110 N v1) r4.2
    else
    callW (fX12_signs_110 N v1) r2.2
  else
  callW (fX12_signs_110 N v1) r2.2
noncomputable def fX12_signs_72 (N : Nat) (s0 : Int32) (w : Wd) : Option (Int32 × Wd) :=
  if s0 = 0 then
    (callW (pX12_wrong N (1 : Int32)) w).bind fun r1 =>
    retZ r1.1 r1.2
  else
  (callW (pX12_rank N s0) w).bind fun r2 =>
  if r2.1 = (4 : Int32) then callW (fX12_signs_88 N s0 (5 : Int32)) r2.2 else
  (callW (pX12_rank N s0) r2.2).bind fun r3 =>
  callW (fX12_signs_88 N s0 r3.1) r3.2
noncomputable def fX12_signs_26 (N : Nat) (w : Wd) : Option (Int32 × Wd) :=
  (callW (pX12_isKey N (16 : Int32)) w).bind fun r1 =>
  if r1.1 = 0 then
    (callW (pX12_isKey N (17 : Int32)) r1.2).bind fun r2 =>
    if r2.1 = 0 then
      if (gI r2.2 16 0 8) = (5 : Int32) then callW (fX12_signs_72 N ((5 : Int32) + (gI r2.2 16 0 9))) r2.2 else
      (callW (pX12_isSign N (43 : Int32)) r2.2).bind fun r3 =>
      if r3.1 = 0 then
        (callW (pX12_isSign N (45 : Int32)) r3.2).bind fun r4 =>
        if r4.1 = 0 then
          (callW (pX12_isSign N (42 : Int32)) r4.2).bind fun r5 =>
          if r5.1 = 0 then
            (callW (pX12_isSign N (47 : Int32)) r5.2).bind fun r6 =>
            if r6.1 = 0 then callW (fX12_signs_72 N (0 : Int32)) r6.2 else
            callW (fX12_signs_72 N (14 : Int32)) r6.2
          else
          callW (fX12_signs_72 N (13 : Int32)) r5.2
        else
        callW (fX12_signs_72 N (12 : Int32)) r4.2
      else
      callW (fX12_signs_72 N (11 : Int32)) r3.2
    else
    callW (fX12_signs_72 N (4 : Int32)) r2.2
  else
  callW (fX12_signs_72 N (3 : Int32)) r1.2
noncomputable def pX12_signs (N : Nat) (w : Wd) : Option (Int32 × Wd) :=
  (callW (pX12_isSign N (41 : Int32)) w).bind fun r1 =>
  if r1.1 = 0 then callW (fX12_signs_26 N) r1.2 else
  if 0 < (gI r1.2 16 0 57) then
    (callW (pX12_bind N (1 : Int32)) r1.2).bind fun w2 =>
    (callW (pX12_token N) (setI (setI w2 16 0 55 ((gI w2 16 0 55) - (1 : Int32))) 16 0 57 ((gI (setI w2 16 0 55 ((gI w2 16 0 55) - (1 : Int32))) 16 0 57) - (1 : Int32)))).bind fun w3 =>
    some ((1 : Int32), w3)
  else
  callW (fX12_signs_26 N) r1.2
noncomputable def mX12_signs (N : Nat) (as : List AV) (w : Wd) : Option (Int32 × Wd) := xS1 16 as fun t => xN1 t (callW (pX12_signs N) w)
set_option maxRecDepth 100000 in
set_option maxHeartbeats 4000000 in
theorem kX12_signs : TK cX12_signs RX12 2 tX12_signs := ⟨by decide +kernel, wok_of [1657, 1655, 1655, 1657, 1657, 1608, 1609, 1655, 1653, 1655, 1659, 1660] (by decide +kernel) (by decide +kernel)⟩
set_option maxRecDepth 100000 in
set_option maxHeartbeats 4000000 in
theorem sX12_signs_110 {N : Nat} {X : XT} (G : GX X cX12_signs RX12) (hn : xnL X = 2) (hC : CRs X tX12_signs (oF [(mX12_isSign N), (mX12_isKey N), (mX12_wrong N), (mX12_rank N), (mX12_isCounted N)]) (oF []) (oF [(mX12_bind N), (mX12_token N), (mX12_waitsFor N)])) {r : Int32 × Wd} (hr : RTZ X cX12_signs r)  : ∀ (v1 : Int32) (w : Wd), fX12_signs_110 N v1 w = some r → WW X (pcAt tX12_signs 110) [some (.inr (.inr (16, 0))), some (.inl v1)] [] w := by
  intro v1 w h
  refine run_sound (r := r) (X := X) (cc := cX12_signs) (own := RX12) (tab := tX12_signs) G (by rw [hn]; exact kX12_signs) (oI := (oF [(mX12_isSign N), (mX12_isKey N), (mX12_wrong N), (mX12_rank N), (mX12_isCounted N)])) (oL := (oF [])) (oV := (oF [(mX12_bind N), (mX12_token N), (mX12_waitsFor N)])) (rI := retZ) (rL := (fun _ _ => none)) (rV := (fun _ => none))
    (K := (fun j ls st w => none)) hr (fun _ _ _ _ hx => by cases hx) (fun _ _ _ hx => by cases hx) hC (fun ls => lsb [some (.inr (.inr (16, 0))), none] 0 ls) (keepsP_of rfl) ?_ 136 110 [some (.inr (.inr (16, 0))), some (.inl v1)] [] w ?_ h
  · intro j ls st w hfx h
    obtain ⟨e0, -⟩ : _ = _ ∧ True := hfx
    try dsimp only at h
    cases h
  · exact (show _ = _ ∧ True from ⟨rfl, trivial⟩)
set_option maxRecDepth 100000 in
set_option maxHeartbeats 4000000 in
theorem sX12_signs_88 {N : Nat} {X : XT} (G : GX X cX12_signs RX12) (hn : xnL X = 2) (hC : CRs X tX12_signs (oF [(mX12_isSign N), (mX12_isKey N), (mX12_wrong N), (mX12_rank N), (mX12_isCounted N)]) (oF []) (oF [(mX12_bind N), (mX12_token N), (mX12_waitsFor N)])) {r : Int32 × Wd} (hr : RTZ X cX12_signs r)  : ∀ (v1 : Int32) (s0 : Int32) (w : Wd), fX12_signs_88 N v1 s0 w = some r → WW X (pcAt tX12_signs 88) [some (.inr (.inr (16, 0))), some (.inl v1)] [.inl s0, .inr (.inr (16, 0))] w := by
  intro v1 s0 w h
  refine run_sound (r := r) (X := X) (cc := cX12_signs) (own := RX12) (tab := tX12_signs) G (by rw [hn]; exact kX12_signs) (oI := (oF [(mX12_isSign N), (mX12_isKey N), (mX12_wrong N), (mX12_rank N), (mX12_isCounted N)])) (oL := (oF [])) (oV := (oF [(mX12_bind N), (mX12_token N), (mX12_waitsFor N)])) (rI := retZ) (rL := (fun _ _ => none)) (rV := (fun _ => none))
    (K := (fun j ls st w => if j = 110 then (lgI ls 1 fun v1 => st0 st (callW (fX12_signs_110 N v1) w)) else none)) hr (fun _ _ _ _ hx => by cases hx) (fun _ _ _ hx => by cases hx) hC (fun ls => lsb [some (.inr (.inr (16, 0))), none] 0 ls) (keepsP_of rfl) ?_ 136 88 [some (.inr (.inr (16, 0))), some (.inl v1)] [.inl s0, .inr (.inr (16, 0))] w ?_ h
  · intro j ls st w hfx h
    obtain ⟨e0, -⟩ : _ = _ ∧ True := hfx
    try dsimp only at h
    by_cases hj : j = 110
    · subst hj
      rw [if_pos rfl] at h
      obtain ⟨v1, e1, h_1⟩ := lgI_some h
      obtain ⟨rfl, h_2⟩ := st0_some h_1
      clear h h_1
      have h := h_2
      try rw [callW_eq] at h
      exact WW.le (a := [some (.inr (.inr (16, 0))), some (.inl v1)]) (by rw [hn]; rfl) (show _ = _ ∧ _ = _ ∧ True from ⟨e0, e1, trivial⟩) (sX12_signs_110 G hn hC hr v1 w h)
    rw [if_neg hj] at h
    cases h
  · exact (show _ = _ ∧ True from ⟨rfl, trivial⟩)
set_option maxRecDepth 100000 in
set_option maxHeartbeats 4000000 in
theorem sX12_signs_72 {N : Nat} {X : XT} (G : GX X cX12_signs RX12) (hn : xnL X = 2) (hC : CRs X tX12_signs (oF [(mX12_isSign N), (mX12_isKey N), (mX12_wrong N), (mX12_rank N), (mX12_isCounted N)]) (oF []) (oF [(mX12_bind N), (mX12_token N), (mX12_waitsFor N)])) {r : Int32 × Wd} (hr : RTZ X cX12_signs r)  : ∀ (s0 : Int32) (w : Wd), fX12_signs_72 N s0 w = some r → WW X (pcAt tX12_signs 72) [some (.inr (.inr (16, 0))), none] [.inl s0] w := by
  intro s0 w h
  refine run_sound (r := r) (X := X) (cc := cX12_signs) (own := RX12) (tab := tX12_signs) G (by rw [hn]; exact kX12_signs) (oI := (oF [(mX12_isSign N), (mX12_isKey N), (mX12_wrong N), (mX12_rank N), (mX12_isCounted N)])) (oL := (oF [])) (oV := (oF [(mX12_bind N), (mX12_token N), (mX12_waitsFor N)])) (rI := retZ) (rL := (fun _ _ => none)) (rV := (fun _ => none))
    (K := (fun j ls st w => if j = 88 then (lgI ls 1 fun v1 => po1 st fun s0 st => pr1 st fun kk qq st => if kk = 16 ∧ qq = 0 then st0 st (callW (fX12_signs_88 N v1 s0) w) else none) else none)) hr (fun _ _ _ _ hx => by cases hx) (fun _ _ _ hx => by cases hx) hC (fun ls => lsb [some (.inr (.inr (16, 0))), none] 0 ls) (keepsP_of rfl) ?_ 136 72 [some (.inr (.inr (16, 0))), none] [.inl s0] w ?_ h
  · intro j ls st w hfx h
    obtain ⟨e0, -⟩ : _ = _ ∧ True := hfx
    try dsimp only at h
    by_cases hj : j = 88
    · subst hj
      rw [if_pos rfl] at h
      obtain ⟨v1, e1, h_1⟩ := lgI_some h
      obtain ⟨s0, st0, rfl, h_2⟩ := po1_some h_1
      obtain ⟨kkk1, s1, st1, rfl, h_3⟩ := pr1_some h_2
      obtain ⟨⟨rfl, rfl⟩, h_4⟩ := if_some _ h_3
      obtain ⟨rfl, h_5⟩ := st0_some h_4
      clear h h_1 h_2 h_3 h_4
      have h := h_5
      try rw [callW_eq] at h
      exact WW.le (a := [some (.inr (.inr (16, 0))), some (.inl v1)]) (by rw [hn]; rfl) (show _ = _ ∧ _ = _ ∧ True from ⟨e0, e1, trivial⟩) (sX12_signs_88 G hn hC hr v1 s0 w h)
    rw [if_neg hj] at h
    cases h
  · exact (show _ = _ ∧ True from ⟨rfl, trivial⟩)
set_option maxRecDepth 100000 in
set_option maxHeartbeats 4000000 in
theorem sX12_signs_26 {N : Nat} {X : XT} (G : GX X cX12_signs RX12) (hn : xnL X = 2) (hC : CRs X tX12_signs (oF [(mX12_isSign N), (mX12_isKey N), (mX12_wrong N), (mX12_rank N), (mX12_isCounted N)]) (oF []) (oF [(mX12_bind N), (mX12_token N), (mX12_waitsFor N)])) {r : Int32 × Wd} (hr : RTZ X cX12_signs r)  : ∀ (w : Wd), fX12_signs_26 N w = some r → WW X (pcAt tX12_signs 26) [some (.inr (.inr (16, 0))), none] [] w := by
  intro w h
  refine run_sound (r := r) (X := X) (cc := cX12_signs) (own := RX12) (tab := tX12_signs) G (by rw [hn]; exact kX12_signs) (oI := (oF [(mX12_isSign N), (mX12_isKey N), (mX12_wrong N), (mX12_rank N), (mX12_isCounted N)])) (oL := (oF [])) (oV := (oF [(mX12_bind N), (mX12_token N), (mX12_waitsFor N)])) (rI := retZ) (rL := (fun _ _ => none)) (rV := (fun _ => none))
    (K := (fun j ls st w => if j = 72 then (po1 st fun s0 st => st0 st (callW (fX12_signs_72 N s0) w)) else none)) hr (fun _ _ _ _ hx => by cases hx) (fun _ _ _ hx => by cases hx) hC (fun ls => lsb [some (.inr (.inr (16, 0))), none] 0 ls) (keepsP_of rfl) ?_ 136 26 [some (.inr (.inr (16, 0))), none] [] w ?_ h
  · intro j ls st w hfx h
    obtain ⟨e0, -⟩ : _ = _ ∧ True := hfx
    try dsimp only at h
    by_cases hj : j = 72
    · subst hj
      rw [if_pos rfl] at h
      obtain ⟨s0, st0, rfl, h_1⟩ := po1_some h
      obtain ⟨rfl, h_2⟩ := st0_some h_1
      clear h h_1
      have h := h_2
      try rw [callW_eq] at h
      exact WW.le (a := [some (.inr (.inr (16, 0))), none]) (by rw [hn]; rfl) (show _ = _ ∧ True from ⟨e0, trivial⟩) (sX12_signs_72 G hn hC hr s0 w h)
    rw [if_neg hj] at h
    cases h
  · exact (show _ = _ ∧ True from ⟨rfl, trivial⟩)
set_option maxRecDepth 100000 in
set_option maxHeartbeats 4000000 in
theorem crX12_signs {N : Nat} {X : XT} (G : GX X cX12_signs RX12) (hR : xR X = rmL 3) : CRs X tX12_signs (oF [(mX12_isSign N), (mX12_isKey N), (mX12_wrong N), (mX12_rank N), (mX12_isCounted N)]) (oF []) (oF [(mX12_bind N), (mX12_token N), (mX12_waitsFor N)]) := by
  have hl : tX12_signs.filter isInv = [(3, .invokevirtual 251, 0, 0, 2, 0, 0, []), (18, .invokevirtual 411, 0, 0, 2, 0, 0, [(0, 0), (0, 0)]), (42, .invokevirtual 248, 0, 1, 1, 0, 0, [(0, 0), (0, 0)]), (50, .invokevirtual 338, 0, 1, 2, 0, 0, []), (63, .invokevirtual 338, 0, 1, 2, 0, 0, []), (93, .invokevirtual 251, 0, 0, 2, 0, 0, []), (107, .invokevirtual 251, 0, 0, 2, 0, 0, []), (121, .invokevirtual 251, 0, 0, 2, 0, 0, []), (135, .invokevirtual 251, 0, 0, 2, 0, 0, []), (154, .invokevirtual 238, 0, 2, 2, 0, 0, []), (160, .invokestatic 380, 0, 3, 1, 0, 0, []), (172, .invokestatic 380, 0, 3, 1, 0, 0, []), (175, .invokevirtual 411, 89, 0, 2, 0, 0, [(0, 0), (0, 0)]), (179, .invokestatic 380, 0, 3, 1, 0, 0, []), (204, .invokestatic 380, 0, 3, 1, 0, 0, []), (213, .invokevirtual 238, 0, 2, 2, 0, 0, []), (218, .invokevirtual 402, 0, 4, 1, 0, 0, []), (228, .invokevirtual 395, 0, 2, 2, 0, 0, [(0, 0), (0, 0)]), (238, .invokestatic 380, 0, 3, 1, 0, 0, []), (254, .invokevirtual 248, 0, 1, 1, 0, 0, [(0, 0), (0, 0)])] := rfl
  intro e he
  rw [hl] at he
  simp only [List.mem_cons, List.not_mem_nil, or_false] at he
  rcases he with rfl | rfl | rfl | rfl | rfl | rfl | rfl | rfl | rfl | rfl | rfl | rfl | rfl | rfl | rfl | rfl | rfl | rfl | rfl | rfl
  · exact crI_V (idx := 251) G (by decide +kernel) (MX12_isSign N) (cw_of (ps := [2029, 2031, 97, 164, 2032]) (by decide +kernel) (by decide +kernel)) ⟨by decide +kernel, by decide +kernel, by decide +kernel⟩ (by unfold rmOk; rw [hR]; exact ⟨by decide, by decide⟩)
  · exact crV_V (idx := 411) G (by decide +kernel) (MX12_bind N) (cw_of (ps := [2057, 2059, 104, 164, 2060]) (by decide +kernel) (by decide +kernel)) ⟨by decide +kernel, by decide +kernel, by decide +kernel⟩ (by unfold rmOk; rw [hR]; exact ⟨by decide, by decide⟩)
  · exact crV_V (idx := 248) G (by decide +kernel) (MX12_token N) (cw_of (ps := [1938, 1940, 76, 164, 1941]) (by decide +kernel) (by decide +kernel)) ⟨by decide +kernel, by decide +kernel, by decide +kernel⟩ (by unfold rmOk; rw [hR]; exact ⟨by decide, by decide⟩)
  · exact crI_V (idx := 338) G (by decide +kernel) (MX12_isKey N) (cw_of (ps := [1989, 1991, 87, 164, 1992]) (by decide +kernel) (by decide +kernel)) ⟨by decide +kernel, by decide +kernel, by decide +kernel⟩ (by unfold rmOk; rw [hR]; exact ⟨by decide, by decide⟩)
  · exact crI_V (idx := 338) G (by decide +kernel) (MX12_isKey N) (cw_of (ps := [1989, 1991, 87, 164, 1992]) (by decide +kernel) (by decide +kernel)) ⟨by decide +kernel, by decide +kernel, by decide +kernel⟩ (by unfold rmOk; rw [hR]; exact ⟨by decide, by decide⟩)
  · exact crI_V (idx := 251) G (by decide +kernel) (MX12_isSign N) (cw_of (ps := [2029, 2031, 97, 164, 2032]) (by decide +kernel) (by decide +kernel)) ⟨by decide +kernel, by decide +kernel, by decide +kernel⟩ (by unfold rmOk; rw [hR]; exact ⟨by decide, by decide⟩)
  · exact crI_V (idx := 251) G (by decide +kernel) (MX12_isSign N) (cw_of (ps := [2029, 2031, 97, 164, 2032]) (by decide +kernel) (by decide +kernel)) ⟨by decide +kernel, by decide +kernel, by decide +kernel⟩ (by unfold rmOk; rw [hR]; exact ⟨by decide, by decide⟩)
  · exact crI_V (idx := 251) G (by decide +kernel) (MX12_isSign N) (cw_of (ps := [2029, 2031, 97, 164, 2032]) (by decide +kernel) (by decide +kernel)) ⟨by decide +kernel, by decide +kernel, by decide +kernel⟩ (by unfold rmOk; rw [hR]; exact ⟨by decide, by decide⟩)
  · exact crI_V (idx := 251) G (by decide +kernel) (MX12_isSign N) (cw_of (ps := [2029, 2031, 97, 164, 2032]) (by decide +kernel) (by decide +kernel)) ⟨by decide +kernel, by decide +kernel, by decide +kernel⟩ (by unfold rmOk; rw [hR]; exact ⟨by decide, by decide⟩)
  · exact crI_V (idx := 238) G (by decide +kernel) (MX12_wrong N) (cw_of (ps := [1967, 1969, 83, 164, 1970]) (by decide +kernel) (by decide +kernel)) ⟨by decide +kernel, by decide +kernel, by decide +kernel⟩ (by unfold rmOk; rw [hR]; exact ⟨by decide, by decide⟩)
  · exact crI_S (idx := 380) G (by decide +kernel) (MX12_rank N) (cw_of (ps := [2061, 2062, 164, 2063]) (by decide +kernel) (by decide +kernel)) ⟨by decide +kernel, by decide +kernel, by decide +kernel⟩ (by unfold rmOk; rw [hR]; exact ⟨by decide, by decide⟩)
  · exact crI_S (idx := 380) G (by decide +kernel) (MX12_rank N) (cw_of (ps := [2061, 2062, 164, 2063]) (by decide +kernel) (by decide +kernel)) ⟨by decide +kernel, by decide +kernel, by decide +kernel⟩ (by unfold rmOk; rw [hR]; exact ⟨by decide, by decide⟩)
  · exact crV_V (idx := 411) G (by decide +kernel) (MX12_bind N) (cw_of (ps := [2057, 2059, 104, 164, 2060]) (by decide +kernel) (by decide +kernel)) ⟨by decide +kernel, by decide +kernel, by decide +kernel⟩ (by unfold rmOk; rw [hR]; exact ⟨by decide, by decide⟩)
  · exact crI_S (idx := 380) G (by decide +kernel) (MX12_rank N) (cw_of (ps := [2061, 2062, 164, 2063]) (by decide +kernel) (by decide +kernel)) ⟨by decide +kernel, by decide +kernel, by decide +kernel⟩ (by unfold rmOk; rw [hR]; exact ⟨by decide, by decide⟩)
  · exact crI_S (idx := 380) G (by decide +kernel) (MX12_rank N) (cw_of (ps := [2061, 2062, 164, 2063]) (by decide +kernel) (by decide +kernel)) ⟨by decide +kernel, by decide +kernel, by decide +kernel⟩ (by unfold rmOk; rw [hR]; exact ⟨by decide, by decide⟩)
  · exact crI_V (idx := 238) G (by decide +kernel) (MX12_wrong N) (cw_of (ps := [1967, 1969, 83, 164, 1970]) (by decide +kernel) (by decide +kernel)) ⟨by decide +kernel, by decide +kernel, by decide +kernel⟩ (by unfold rmOk; rw [hR]; exact ⟨by decide, by decide⟩)
  · exact crI_V (idx := 402) G (by decide +kernel) (MX12_isCounted N) (cw_of (ps := [2041, 2043, 100, 164, 2044]) (by decide +kernel) (by decide +kernel)) ⟨by decide +kernel, by decide +kernel, by decide +kernel⟩ (by unfold rmOk; rw [hR]; exact ⟨by decide, by decide⟩)
  · exact crV_V (idx := 395) G (by decide +kernel) (MX12_waitsFor N) (cw_of (ps := [2037, 2039, 99, 164, 2040]) (by decide +kernel) (by decide +kernel)) ⟨by decide +kernel, by decide +kernel, by decide +kernel⟩ (by unfold rmOk; rw [hR]; exact ⟨by decide, by decide⟩)
  · exact crI_S (idx := 380) G (by decide +kernel) (MX12_rank N) (cw_of (ps := [2061, 2062, 164, 2063]) (by decide +kernel) (by decide +kernel)) ⟨by decide +kernel, by decide +kernel, by decide +kernel⟩ (by unfold rmOk; rw [hR]; exact ⟨by decide, by decide⟩)
  · exact crV_V (idx := 248) G (by decide +kernel) (MX12_token N) (cw_of (ps := [1938, 1940, 76, 164, 1941]) (by decide +kernel) (by decide +kernel)) ⟨by decide +kernel, by decide +kernel, by decide +kernel⟩ (by unfold rmOk; rw [hR]; exact ⟨by decide, by decide⟩)
set_option maxRecDepth 100000 in
set_option maxHeartbeats 4000000 in
theorem MX12_signs (N : Nat) : SndI yX12_signs cX12_signs 2 (some .boolean) 3 1 true (mX12_signs N) := by
  refine SndI.ofZ tX12_signs (by decide +kernel) rfl rfl ?_ ?_
  · intro as w x h
    obtain ⟨t1, rfl, h_1⟩ := xS1_some h
    obtain ⟨rfl, h_2⟩ := xN1_some h_1
    clear h h_1
    have h := h_2
    rw [callW_eq] at h
    exact ⟨fun _ => ⟨_, _, _, rfl, rfl, _, rfl, rfl⟩, rfl, Nat.le_of_ble_eq_true rfl⟩
  · intro X G hn hR as w r h hr
    have hC := crX12_signs (N := N) G hR
    obtain ⟨t1, rfl, h_1⟩ := xS1_some h
    obtain ⟨rfl, h_2⟩ := xN1_some h_1
    clear h h_1
    have h := h_2
    rw [callW_eq] at h
    refine run_sound (r := r) (X := X) (cc := cX12_signs) (own := RX12) (tab := tX12_signs) G (by rw [hn]; exact kX12_signs) (oI := (oF [(mX12_isSign N), (mX12_isKey N), (mX12_wrong N), (mX12_rank N), (mX12_isCounted N)])) (oL := (oF [])) (oV := (oF [(mX12_bind N), (mX12_token N), (mX12_waitsFor N)])) (rI := retZ) (rL := (fun _ _ => none)) (rV := (fun _ => none))
      (K := (fun j ls st w => if j = 26 then (st0 st (callW (fX12_signs_26 N) w)) else none)) hr (fun _ _ _ _ hx => by cases hx) (fun _ _ _ hx => by cases hx) hC (fun ls => lsb [some (.inr (.inr (16, 0))), none] 0 ls) (keepsP_of rfl) ?_ 136 0 [some (.inr (.inr (16, 0))), none] [] w ?_ h
    · intro j ls st w hfx h
      obtain ⟨e0, -⟩ : _ = _ ∧ True := hfx
      try dsimp only at h
      by_cases hj : j = 26
      · subst hj
        rw [if_pos rfl] at h
        obtain ⟨rfl, h_1⟩ := st0_some h
        clear h
        have h := h_1
        try rw [callW_eq] at h
        exact WW.le (a := [some (.inr (.inr (16, 0))), none]) (by rw [hn]; rfl) (show _ = _ ∧ True from ⟨e0, trivial⟩) (sX12_signs_26 G hn hC hr w h)
      rw [if_neg hj] at h
      cases h
    · exact (show _ = _ ∧ True from ⟨rfl, trivial⟩)
-- MoorGuidesModel.sumRead()Z
def tX12_sumRead : List EN := [
  (0, .aload_n 0, 0, 0, 0, 0, 0, []), (1, .iconst 0, 0, 0, 0, 0, 0, []), (2, .putfield 377, 0, 12, 55, 0, 0, []), (5, .aload_n 0, 0, 0, 0, 0, 0, []),
  (6, .iconst 0, 0, 0, 0, 0, 0, []), (7, .putfield 374, 0, 12, 56, 0, 0, []), (10, .aload_n 0, 0, 0, 0, 0, 0, []), (11, .iconst 0, 0, 0, 0, 0, 0, []),
  (12, .putfield 392, 0, 12, 57, 0, 0, []), (15, .aload_n 0, 0, 0, 0, 0, 0, []), (16, .iconst 1, 0, 0, 0, 1, 0, []), (17, .putfield 408, 0, 12, 59, 0, 0, [(0, 0)]),
  (20, .aload_n 0, 0, 0, 0, 0, 0, []), (21, .iconst 1, 0, 0, 0, 1, 0, []), (22, .putfield 399, 0, 12, 60, 0, 0, [(0, 0)]), (25, .aload_n 0, 16, 0, 0, 0, 0, []),
  (26, .bipush 59, 0, 0, 0, 59, 0, []), (28, .invokevirtual 251, 0, 0, 2, 0, 0, []), (31, .ifCond .eq 17, 0, 25, 0, 0, 0, []), (34, .aload_n 0, 0, 0, 0, 0, 0, []),
  (35, .getfield 408, 0, 12, 59, 0, 0, []), (38, .ifCond .ne 10, 0, 25, 0, 0, 0, []), (41, .aload_n 0, 0, 0, 0, 0, 0, []), (42, .getfield 392, 0, 12, 57, 0, 0, []),
  (45, .ifCond .le 29, 0, 37, 0, 0, 0, []), (48, .aload_n 0, 26, 0, 0, 0, 0, []), (49, .getfield 408, 0, 12, 59, 0, 0, []), (52, .ifCond .eq 13, 0, 32, 0, 0, 0, []),
  (55, .aload_n 0, 0, 0, 0, 0, 0, []), (56, .invokevirtual 414, 0, 1, 1, 0, 0, []), (59, .ifCond .eq 13, 0, 35, 0, 0, 0, []), (62, .goto (-37), 0, 15, 0, 0, 0, []),
  (65, .aload_n 0, 0, 0, 0, 0, 0, []), (66, .invokevirtual 417, 0, 2, 1, 0, 0, []), (69, .ifCond .ne (-44), 0, 15, 0, 0, 0, []), (72, .iconst 0, 0, 0, 0, 0, 0, []),
  (73, .ireturn, 0, 0, 0, 0, 0, []), (74, .aload_n 0, 38, 0, 0, 0, 0, []), (75, .iconst 1, 0, 0, 0, 1, 0, []), (76, .invokevirtual 411, 0, 0, 2, 0, 0, [(0, 0), (0, 0)]),
  (79, .iconst 1, 0, 0, 0, 1, 0, []), (80, .ireturn, 0, 0, 0, 0, 0, [])]
noncomputable def fX12_sumRead_37 (N : Nat) (w : Wd) : Option (Int32 × Wd) :=
  (callW (pX12_bind N (1 : Int32)) w).bind fun w1 =>
  some ((1 : Int32), w1)
noncomputable def fX12_sumRead_25 (N : Nat) (k15 : Wd → Option (Int32 × Wd)) (w : Wd) : Option (Int32 × Wd) :=
  if (gI w 16 0 59) = 0 then
    (callW (pX12_signs N) w).bind fun r1 =>
    if r1.1 = 0 then some ((0 : Int32), r1.2) else
    k15 r1.2
  else
  (callW (pX12_leafRead N) w).bind fun r2 =>
  if r2.1 = 0 then some ((0 : Int32), r2.2) else
  k15 r2.2
noncomputable def fX12_sumRead_15 (N : Nat) : Nat → (Wd → Option (Int32 × Wd)) → Wd → Option (Int32 × Wd)
  | 0, _, _ => none
  | n + 1, k37, w =>
    (callW (pX12_isSign N (59 : Int32)) w).bind fun r1 =>
    if r1.1 = 0 then callW (fX12_sumRead_25 N (fX12_sumRead_15 N n k37)) r1.2 else
    if (gI r1.2 16 0 59) = 0 then
      if 0 < (gI r1.2 16 0 57) then callW (fX12_sumRead_25 N (fX12_sumRead_15 N n k37)) r1.2 else
      k37 r1.2
    else
    callW (fX12_sumRead_25 N (fX12_sumRead_15 N n k37)) r1.2
noncomputable def pX12_sumRead (N : Nat) (w : Wd) : Option (Int32 × Wd) :=
  callW (fX12_sumRead_15 N N (fX12_sumRead_37 N)) (setI (setI (setI (setI (setI w 16 0 55 (0 : Int32)) 16 0 56 (0 : Int32)) 16 0 57 (0 : Int32)) 16 0 59 (1 : Int32)) 16 0 60 (1 : Int32))
noncomputable def mX12_sumRead (N : Nat) (as : List AV) (w : Wd) : Option (Int32 × Wd) := xS1 16 as fun t => xN1 t (callW (pX12_sumRead N) w)
set_option maxRecDepth 100000 in
set_option maxHeartbeats 4000000 in
theorem kX12_sumRead : TK cX12_sumRead RX12 1 tX12_sumRead := ⟨by decide +kernel, wok_of [1655, 1656, 1657, 1659, 1660, 1659, 1657, 1659] (by decide +kernel) (by decide +kernel)⟩
set_option maxRecDepth 100000 in
set_option maxHeartbeats 4000000 in
theorem sX12_sumRead_37 {N : Nat} {X : XT} (G : GX X cX12_sumRead RX12) (hn : xnL X = 1) (hC : CRs X tX12_sumRead (oF [(mX12_isSign N), (mX12_leafRead N), (mX12_signs N)]) (oF []) (oF [(mX12_bind N)])) {r : Int32 × Wd} (hr : RTZ X cX12_sumRead r)  : ∀ (w : Wd), fX12_sumRead_37 N w = some r → WW X (pcAt tX12_sumRead 37) [some (.inr (.inr (16, 0)))] [] w := by
  intro w h
  refine run_sound (r := r) (X := X) (cc := cX12_sumRead) (own := RX12) (tab := tX12_sumRead) G (by rw [hn]; exact kX12_sumRead) (oI := (oF [(mX12_isSign N), (mX12_leafRead N), (mX12_signs N)])) (oL := (oF [])) (oV := (oF [(mX12_bind N)])) (rI := retZ) (rL := (fun _ _ => none)) (rV := (fun _ => none))
    (K := (fun j ls st w => none)) hr (fun _ _ _ _ hx => by cases hx) (fun _ _ _ hx => by cases hx) hC (fun ls => lsb [some (.inr (.inr (16, 0)))] 0 ls) (keepsP_of rfl) ?_ 44 37 [some (.inr (.inr (16, 0)))] [] w ?_ h
  · intro j ls st w hfx h
    obtain ⟨e0, -⟩ : _ = _ ∧ True := hfx
    try dsimp only at h
    cases h
  · exact (show _ = _ ∧ True from ⟨rfl, trivial⟩)
set_option maxRecDepth 100000 in
set_option maxHeartbeats 4000000 in
theorem sX12_sumRead_25 {N : Nat} {X : XT} (G : GX X cX12_sumRead RX12) (hn : xnL X = 1) (hC : CRs X tX12_sumRead (oF [(mX12_isSign N), (mX12_leafRead N), (mX12_signs N)]) (oF []) (oF [(mX12_bind N)])) {r : Int32 × Wd} (hr : RTZ X cX12_sumRead r)  : ∀ (k15 : Wd → Option (Int32 × Wd)) (w : Wd), fX12_sumRead_25 N k15 w = some r → (∀ (w : Wd), k15 w = some r → WW X (pcAt tX12_sumRead 15) [some (.inr (.inr (16, 0)))] [] w) → WW X (pcAt tX12_sumRead 25) [some (.inr (.inr (16, 0)))] [] w := by
  intro k15 w h h15
  refine run_sound (r := r) (X := X) (cc := cX12_sumRead) (own := RX12) (tab := tX12_sumRead) G (by rw [hn]; exact kX12_sumRead) (oI := (oF [(mX12_isSign N), (mX12_leafRead N), (mX12_signs N)])) (oL := (oF [])) (oV := (oF [(mX12_bind N)])) (rI := retZ) (rL := (fun _ _ => none)) (rV := (fun _ => none))
    (K := (fun j ls st w => if j = 15 then (st0 st (k15 w)) else none)) hr (fun _ _ _ _ hx => by cases hx) (fun _ _ _ hx => by cases hx) hC (fun ls => lsb [some (.inr (.inr (16, 0)))] 0 ls) (keepsP_of rfl) ?_ 44 25 [some (.inr (.inr (16, 0)))] [] w ?_ h
  · intro j ls st w hfx h
    obtain ⟨e0, -⟩ : _ = _ ∧ True := hfx
    try dsimp only at h
    by_cases hj : j = 15
    · subst hj
      rw [if_pos rfl] at h
      obtain ⟨rfl, h_1⟩ := st0_some h
      clear h
      have h := h_1
      try rw [callW_eq] at h
      exact WW.le (a := [some (.inr (.inr (16, 0)))]) (by rw [hn]; rfl) (show _ = _ ∧ True from ⟨e0, trivial⟩) (h15 w h)
    rw [if_neg hj] at h
    cases h
  · exact (show _ = _ ∧ True from ⟨rfl, trivial⟩)
set_option maxRecDepth 100000 in
set_option maxHeartbeats 4000000 in
theorem sX12_sumRead_15 {N : Nat} {X : XT} (G : GX X cX12_sumRead RX12) (hn : xnL X = 1) (hC : CRs X tX12_sumRead (oF [(mX12_isSign N), (mX12_leafRead N), (mX12_signs N)]) (oF []) (oF [(mX12_bind N)])) {r : Int32 × Wd} (hr : RTZ X cX12_sumRead r)  : ∀ (n : Nat) (k37 : Wd → Option (Int32 × Wd)) (w : Wd), fX12_sumRead_15 N n k37 w = some r → (∀ (w : Wd), k37 w = some r → WW X (pcAt tX12_sumRead 37) [some (.inr (.inr (16, 0)))] [] w) → WW X (pcAt tX12_sumRead 15) [some (.inr (.inr (16, 0)))] [] w := by
  intro n
  induction n with
  | zero => intro k37 w h h37; cases h
  | succ n ih =>
    intro k37 w h h37
    refine run_sound (r := r) (X := X) (cc := cX12_sumRead) (own := RX12) (tab := tX12_sumRead) G (by rw [hn]; exact kX12_sumRead) (oI := (oF [(mX12_isSign N), (mX12_leafRead N), (mX12_signs N)])) (oL := (oF [])) (oV := (oF [(mX12_bind N)])) (rI := retZ) (rL := (fun _ _ => none)) (rV := (fun _ => none))
      (K := (fun j ls st w => if j = 25 then (st0 st (callW (fX12_sumRead_25 N (fX12_sumRead_15 N n k37)) w)) else if j = 37 then (st0 st (k37 w)) else none)) hr (fun _ _ _ _ hx => by cases hx) (fun _ _ _ hx => by cases hx) hC (fun ls => lsb [some (.inr (.inr (16, 0)))] 0 ls) (keepsP_of rfl) ?_ 44 15 [some (.inr (.inr (16, 0)))] [] w ?_ h
    · intro j ls st w hfx h
      obtain ⟨e0, -⟩ : _ = _ ∧ True := hfx
      try dsimp only at h
      by_cases hj : j = 25
      · subst hj
        rw [if_pos rfl] at h
        obtain ⟨rfl, h_1⟩ := st0_some h
        clear h
        have h := h_1
        try rw [callW_eq] at h
        exact WW.le (a := [some (.inr (.inr (16, 0)))]) (by rw [hn]; rfl) (show _ = _ ∧ True from ⟨e0, trivial⟩) (sX12_sumRead_25 G hn hC hr (fX12_sumRead_15 N n k37) w h (fun w h => (ih k37 w h h37)))
      rw [if_neg hj] at h
      by_cases hj : j = 37
      · subst hj
        rw [if_pos rfl] at h
        obtain ⟨rfl, h_1⟩ := st0_some h
        clear h
        have h := h_1
        try rw [callW_eq] at h
        exact WW.le (a := [some (.inr (.inr (16, 0)))]) (by rw [hn]; rfl) (show _ = _ ∧ True from ⟨e0, trivial⟩) (h37 w h)
      rw [if_neg hj] at h
      cases h
    · exact (show _ = _ ∧ True from ⟨rfl, trivial⟩)
set_option maxRecDepth 100000 in
set_option maxHeartbeats 4000000 in
theorem crX12_sumRead {N : Nat} {X : XT} (G : GX X cX12_sumRead RX12) (hR : xR X = rmL 4) : CRs X tX12_sumRead (oF [(mX12_isSign N), (mX12_leafRead N), (mX12_signs N)]) (oF []) (oF [(mX12_bind N)]) := by
  have hl : tX12_sumRead.filter isInv = [(28, .invokevirtual 251, 0, 0, 2, 0, 0, []), (56, .invokevirtual 414, 0, 1, 1, 0, 0, []), (66, .invokevirtual 417, 0, 2, 1, 0, 0, []), (76, .invokevirtual 411, 0, 0, 2, 0, 0, [(0, 0), (0, 0)])] := rfl
  intro e he
  rw [hl] at he
  simp only [List.mem_cons, List.not_mem_nil, or_false] at he
  rcases he with rfl | rfl | rfl | rfl
  · exact crI_V (idx := 251) G (by decide +kernel) (MX12_isSign N) (cw_of (ps := [2029, 2031, 97, 164, 2032]) (by decide +kernel) (by decide +kernel)) ⟨by decide +kernel, by decide +kernel, by decide +kernel⟩ (by unfold rmOk; rw [hR]; exact ⟨by decide, by decide⟩)
  · exact crI_V (idx := 414) G (by decide +kernel) (MX12_leafRead N) (cw_of (ps := [2033, 2035, 98, 164, 2036]) (by decide +kernel) (by decide +kernel)) ⟨by decide +kernel, by decide +kernel, by decide +kernel⟩ (by unfold rmOk; rw [hR]; exact ⟨by decide, by decide⟩)
  · exact crI_V (idx := 417) G (by decide +kernel) (MX12_signs N) (cw_of (ps := [2053, 2055, 103, 164, 2056]) (by decide +kernel) (by decide +kernel)) ⟨by decide +kernel, by decide +kernel, by decide +kernel⟩ (by unfold rmOk; rw [hR]; exact ⟨by decide, by decide⟩)
  · exact crV_V (idx := 411) G (by decide +kernel) (MX12_bind N) (cw_of (ps := [2057, 2059, 104, 164, 2060]) (by decide +kernel) (by decide +kernel)) ⟨by decide +kernel, by decide +kernel, by decide +kernel⟩ (by unfold rmOk; rw [hR]; exact ⟨by decide, by decide⟩)
set_option maxRecDepth 100000 in
set_option maxHeartbeats 4000000 in
theorem MX12_sumRead (N : Nat) : SndI yX12_sumRead cX12_sumRead 1 (some .boolean) 4 1 true (mX12_sumRead N) := by
  refine SndI.ofZ tX12_sumRead (by decide +kernel) rfl rfl ?_ ?_
  · intro as w x h
    obtain ⟨t1, rfl, h_1⟩ := xS1_some h
    obtain ⟨rfl, h_2⟩ := xN1_some h_1
    clear h h_1
    have h := h_2
    rw [callW_eq] at h
    exact ⟨fun _ => ⟨_, _, _, rfl, rfl, _, rfl, rfl⟩, rfl, Nat.le_of_ble_eq_true rfl⟩
  · intro X G hn hR as w r h hr
    have hC := crX12_sumRead (N := N) G hR
    obtain ⟨t1, rfl, h_1⟩ := xS1_some h
    obtain ⟨rfl, h_2⟩ := xN1_some h_1
    clear h h_1
    have h := h_2
    rw [callW_eq] at h
    refine run_sound (r := r) (X := X) (cc := cX12_sumRead) (own := RX12) (tab := tX12_sumRead) G (by rw [hn]; exact kX12_sumRead) (oI := (oF [(mX12_isSign N), (mX12_leafRead N), (mX12_signs N)])) (oL := (oF [])) (oV := (oF [(mX12_bind N)])) (rI := retZ) (rL := (fun _ _ => none)) (rV := (fun _ => none))
      (K := (fun j ls st w => if j = 15 then (st0 st (callW (fX12_sumRead_15 N N (fX12_sumRead_37 N)) w)) else none)) hr (fun _ _ _ _ hx => by cases hx) (fun _ _ _ hx => by cases hx) hC (fun ls => lsb [some (.inr (.inr (16, 0)))] 0 ls) (keepsP_of rfl) ?_ 44 0 [some (.inr (.inr (16, 0)))] [] w ?_ h
    · intro j ls st w hfx h
      obtain ⟨e0, -⟩ : _ = _ ∧ True := hfx
      try dsimp only at h
      by_cases hj : j = 15
      · subst hj
        rw [if_pos rfl] at h
        obtain ⟨rfl, h_1⟩ := st0_some h
        clear h
        have h := h_1
        try rw [callW_eq] at h
        exact WW.le (a := [some (.inr (.inr (16, 0)))]) (by rw [hn]; rfl) (show _ = _ ∧ True from ⟨e0, trivial⟩) (sX12_sumRead_15 G hn hC hr N (fX12_sumRead_37 N) w h (fun w h => (sX12_sumRead_37 G hn hC hr w h)))
      rw [if_neg hj] at h
      cases h
    · exact (show _ = _ ∧ True from ⟨rfl, trivial⟩)
-- MoorGuidesModel.lawLine()Z
def tX12_lawLine : List EN := [
  (0, .aload_n 0, 0, 0, 0, 0, 0, []), (1, .invokevirtual 248, 0, 0, 1, 0, 0, [(0, 0), (0, 0)]), (4, .aload_n 0, 0, 0, 0, 0, 0, []), (5, .bipush 14, 0, 0, 0, 14, 0, []),
  (7, .invokevirtual 338, 0, 0, 2, 0, 0, []), (10, .ifCond .ne 18, 0, 14, 0, 0, 0, []), (13, .aload_n 0, 0, 0, 0, 0, 0, []), (14, .bipush 15, 0, 0, 0, 15, 0, []),
  (16, .invokevirtual 338, 0, 0, 2, 0, 0, []), (19, .ifCond .ne 9, 0, 14, 0, 0, 0, []), (22, .aload_n 0, 0, 0, 0, 0, 0, []), (23, .iconst 1, 0, 0, 0, 1, 0, []),
  (24, .invokevirtual 238, 0, 1, 2, 0, 0, []), (27, .ireturn, 0, 0, 0, 0, 0, []), (28, .iconst 2, 15, 0, 0, 2, 0, []), (29, .aload_n 0, 0, 0, 0, 0, 0, []),
  (30, .getfield 225, 0, 12, 9, 0, 0, []), (33, .iadd, 0, 0, 0, 0, 0, []), (34, .bipush 14, 0, 0, 0, 14, 0, []), (36, .isub, 0, 0, 0, 0, 0, []),
  (37, .istore_n 1, 0, 0, 0, 0, 0, []), (38, .aload_n 0, 0, 0, 0, 0, 0, []), (39, .getfield 68, 0, 12, 47, 0, 0, []), (42, .iload_n 1, 0, 0, 0, 0, 0, []),
  (43, .baload, 0, 0, 0, 0, 0, []), (44, .ifCond .eq 9, 0, 30, 0, 0, 0, []), (47, .aload_n 0, 0, 0, 0, 0, 0, []), (48, .iconst 3, 0, 0, 0, 3, 0, []),
  (49, .invokevirtual 238, 0, 1, 2, 0, 0, []), (52, .ireturn, 0, 0, 0, 0, 0, []), (53, .aload_n 0, 0, 0, 0, 0, 0, []), (54, .getfield 68, 0, 12, 47, 0, 0, []),
  (57, .iload_n 1, 0, 0, 0, 0, 0, []), (58, .iconst 1, 0, 0, 0, 1, 0, []), (59, .bastore, 0, 0, 0, 0, 0, []), (60, .aload_n 0, 0, 0, 0, 0, 0, []),
  (61, .invokevirtual 248, 0, 0, 1, 0, 0, [(0, 0), (0, 0)]), (64, .aload_n 0, 0, 0, 0, 0, 0, []), (65, .getfield 72, 0, 12, 48, 0, 0, []), (68, .iload_n 1, 0, 0, 0, 0, 0, []),
  (69, .aload_n 0, 0, 0, 0, 0, 0, []), (70, .getfield 279, 0, 12, 27, 0, 0, []), (73, .iastore, 0, 0, 0, 0, 0, []), (74, .aload_n 0, 0, 0, 0, 0, 0, []),
  (75, .invokevirtual 350, 0, 2, 1, 0, 0, []), (78, .ifCond .ne 5, 0, 48, 0, 0, 0, []), (81, .iconst 0, 0, 0, 0, 0, 0, []), (82, .ireturn, 0, 0, 0, 0, 0, []),
  (83, .aload_n 0, 0, 0, 0, 0, 0, []), (84, .getfield 75, 0, 12, 49, 0, 0, []), (87, .iload_n 1, 0, 0, 0, 0, 0, []), (88, .aload_n 0, 0, 0, 0, 0, 0, []),
  (89, .getfield 279, 0, 12, 27, 0, 0, []), (92, .iastore, 0, 0, 0, 0, 0, []), (93, .iconst 1, 0, 0, 0, 1, 0, []), (94, .ireturn, 0, 0, 0, 0, 0, [])]
noncomputable def fX12_lawLine_14 (N : Nat) (w : Wd) : Option (Int32 × Wd) :=
  (ldI w 91 0 (((2 : Int32) + (gI w 16 0 9)) - (14 : Int32)) 4).bind fun x1 =>
  if x1 = 0 then
    (stI w 91 0 (((2 : Int32) + (gI w 16 0 9)) - (14 : Int32)) 4 ((1 : Int32) &&& 1)).bind fun w2 =>
    (callW (pX12_token N) w2).bind fun w3 =>
    (stI w3 92 0 (((2 : Int32) + (gI w 16 0 9)) - (14 : Int32)) 4 (gI w3 16 0 27)).bind fun w4 =>
    (callW (pX12_sumRead N) w4).bind fun r5 =>
    if r5.1 = 0 then some ((0 : Int32), r5.2) else
    (stI r5.2 93 0 (((2 : Int32) + (gI w 16 0 9)) - (14 : Int32)) 4 (gI r5.2 16 0 27)).bind fun w6 =>
    some ((1 : Int32), w6)
  else
  (callW (pX12_wrong N (3 : Int32)) w).bind fun r7 =>
  retZ r7.1 r7.2
noncomputable def pX12_lawLine (N : Nat) (w : Wd) : Option (Int32 × Wd) :=
  (callW (pX12_token N) w).bind fun w1 =>
  (callW (pX12_isKey N (14 : Int32)) w1).bind fun r2 =>
  if r2.1 = 0 then
    (callW (pX12_isKey N (15 : Int32)) r2.2).bind fun r3 =>
    if r3.1 = 0 then
      (callW (pX12_wrong N (1 : Int32)) r3.2).bind fun r4 =>
      retZ r4.1 r4.2
    else
    callW (fX12_lawLine_14 N) r3.2
  else
  callW (fX12_lawLine_14 N) r2.2
noncomputable def mX12_lawLine (N : Nat) (as : List AV) (w : Wd) : Option (Int32 × Wd) := xS1 16 as fun t => xN1 t (callW (pX12_lawLine N) w)
set_option maxRecDepth 100000 in
set_option maxHeartbeats 4000000 in
theorem kX12_lawLine : TK cX12_lawLine RX12 2 tX12_lawLine := ⟨by decide +kernel, wok_of [1609, 1647, 1647, 1648, 1627, 1649, 1627] (by decide +kernel) (by decide +kernel)⟩
set_option maxRecDepth 100000 in
set_option maxHeartbeats 4000000 in
theorem sX12_lawLine_14 {N : Nat} {X : XT} (G : GX X cX12_lawLine RX12) (hn : xnL X = 2) (hC : CRs X tX12_lawLine (oF [(mX12_isKey N), (mX12_wrong N), (mX12_sumRead N)]) (oF []) (oF [(mX12_token N)])) {r : Int32 × Wd} (hr : RTZ X cX12_lawLine r)  : ∀ (w : Wd), fX12_lawLine_14 N w = some r → WW X (pcAt tX12_lawLine 14) [some (.inr (.inr (16, 0))), none] [] w := by
  intro w h
  refine run_sound (r := r) (X := X) (cc := cX12_lawLine) (own := RX12) (tab := tX12_lawLine) G (by rw [hn]; exact kX12_lawLine) (oI := (oF [(mX12_isKey N), (mX12_wrong N), (mX12_sumRead N)])) (oL := (oF [])) (oV := (oF [(mX12_token N)])) (rI := retZ) (rL := (fun _ _ => none)) (rV := (fun _ => none))
    (K := (fun j ls st w => none)) hr (fun _ _ _ _ hx => by cases hx) (fun _ _ _ hx => by cases hx) hC (fun ls => lsb [some (.inr (.inr (16, 0))), none] 0 ls) (keepsP_of rfl) ?_ 58 14 [some (.inr (.inr (16, 0))), none] [] w ?_ h
  · intro j ls st w hfx h
    obtain ⟨e0, -⟩ : _ = _ ∧ True := hfx
    try dsimp only at h
    cases h
  · exact (show _ = _ ∧ True from ⟨rfl, trivial⟩)
set_option maxRecDepth 100000 in
set_option maxHeartbeats 4000000 in
theorem crX12_lawLine {N : Nat} {X : XT} (G : GX X cX12_lawLine RX12) (hR : xR X = rmL 5) : CRs X tX12_lawLine (oF [(mX12_isKey N), (mX12_wrong N), (mX12_sumRead N)]) (oF []) (oF [(mX12_token N)]) := by
  have hl : tX12_lawLine.filter isInv = [(1, .invokevirtual 248, 0, 0, 1, 0, 0, [(0, 0), (0, 0)]), (7, .invokevirtual 338, 0, 0, 2, 0, 0, []), (16, .invokevirtual 338, 0, 0, 2, 0, 0, []), (24, .invokevirtual 238, 0, 1, 2, 0, 0, []), (49, .invokevirtual 238, 0, 1, 2, 0, 0, []), (61, .invokevirtual 248, 0, 0, 1, 0, 0, [(0, 0), (0, 0)]), (75, .invokevirtual 350, 0, 2, 1, 0, 0, [])] := rfl
  intro e he
  rw [hl] at he
  simp only [List.mem_cons, List.not_mem_nil, or_false] at he
  rcases he with rfl | rfl | rfl | rfl | rfl | rfl | rfl
  · exact crV_V (idx := 248) G (by decide +kernel) (MX12_token N) (cw_of (ps := [1938, 1940, 76, 164, 1941]) (by decide +kernel) (by decide +kernel)) ⟨by decide +kernel, by decide +kernel, by decide +kernel⟩ (by unfold rmOk; rw [hR]; exact ⟨by decide, by decide⟩)
  · exact crI_V (idx := 338) G (by decide +kernel) (MX12_isKey N) (cw_of (ps := [1989, 1991, 87, 164, 1992]) (by decide +kernel) (by decide +kernel)) ⟨by decide +kernel, by decide +kernel, by decide +kernel⟩ (by unfold rmOk; rw [hR]; exact ⟨by decide, by decide⟩)
  · exact crI_V (idx := 338) G (by decide +kernel) (MX12_isKey N) (cw_of (ps := [1989, 1991, 87, 164, 1992]) (by decide +kernel) (by decide +kernel)) ⟨by decide +kernel, by decide +kernel, by decide +kernel⟩ (by unfold rmOk; rw [hR]; exact ⟨by decide, by decide⟩)
  · exact crI_V (idx := 238) G (by decide +kernel) (MX12_wrong N) (cw_of (ps := [1967, 1969, 83, 164, 1970]) (by decide +kernel) (by decide +kernel)) ⟨by decide +kernel, by decide +kernel, by decide +kernel⟩ (by unfold rmOk; rw [hR]; exact ⟨by decide, by decide⟩)
  · exact crI_V (idx := 238) G (by decide +kernel) (MX12_wrong N) (cw_of (ps := [1967, 1969, 83, 164, 1970]) (by decide +kernel) (by decide +kernel)) ⟨by decide +kernel, by decide +kernel, by decide +kernel⟩ (by unfold rmOk; rw [hR]; exact ⟨by decide, by decide⟩)
  · exact crV_V (idx := 248) G (by decide +kernel) (MX12_token N) (cw_of (ps := [1938, 1940, 76, 164, 1941]) (by decide +kernel) (by decide +kernel)) ⟨by decide +kernel, by decide +kernel, by decide +kernel⟩ (by unfold rmOk; rw [hR]; exact ⟨by decide, by decide⟩)
  · exact crI_V (idx := 350) G (by decide +kernel) (MX12_sumRead N) (cw_of (ps := [2025, 2027, 96, 164, 2028]) (by decide +kernel) (by decide +kernel)) ⟨by decide +kernel, by decide +kernel, by decide +kernel⟩ (by unfold rmOk; rw [hR]; exact ⟨by decide, by decide⟩)
set_option maxRecDepth 100000 in
set_option maxHeartbeats 4000000 in
theorem MX12_lawLine (N : Nat) : SndI yX12_lawLine cX12_lawLine 2 (some .boolean) 5 1 true (mX12_lawLine N) := by
  refine SndI.ofZ tX12_lawLine (by decide +kernel) rfl rfl ?_ ?_
  · intro as w x h
    obtain ⟨t1, rfl, h_1⟩ := xS1_some h
    obtain ⟨rfl, h_2⟩ := xN1_some h_1
    clear h h_1
    have h := h_2
    rw [callW_eq] at h
    exact ⟨fun _ => ⟨_, _, _, rfl, rfl, _, rfl, rfl⟩, rfl, Nat.le_of_ble_eq_true rfl⟩
  · intro X G hn hR as w r h hr
    have hC := crX12_lawLine (N := N) G hR
    obtain ⟨t1, rfl, h_1⟩ := xS1_some h
    obtain ⟨rfl, h_2⟩ := xN1_some h_1
    clear h h_1
    have h := h_2
    rw [callW_eq] at h
    refine run_sound (r := r) (X := X) (cc := cX12_lawLine) (own := RX12) (tab := tX12_lawLine) G (by rw [hn]; exact kX12_lawLine) (oI := (oF [(mX12_isKey N), (mX12_wrong N), (mX12_sumRead N)])) (oL := (oF [])) (oV := (oF [(mX12_token N)])) (rI := retZ) (rL := (fun _ _ => none)) (rV := (fun _ => none))
      (K := (fun j ls st w => if j = 14 then (st0 st (callW (fX12_lawLine_14 N) w)) else none)) hr (fun _ _ _ _ hx => by cases hx) (fun _ _ _ hx => by cases hx) hC (fun ls => lsb [some (.inr (.inr (16, 0))), none] 0 ls) (keepsP_of rfl) ?_ 58 0 [some (.inr (.inr (16, 0))), none] [] w ?_ h
    · intro j ls st w hfx h
      obtain ⟨e0, -⟩ : _ = _ ∧ True := hfx
      try dsimp only at h
      by_cases hj : j = 14
      · subst hj
        rw [if_pos rfl] at h
        obtain ⟨rfl, h_1⟩ := st0_some h
        clear h
        have h := h_1
        try rw [callW_eq] at h
        exact WW.le (a := [some (.inr (.inr (16, 0))), none]) (by rw [hn]; rfl) (show _ = _ ∧ True from ⟨e0, trivial⟩) (sX12_lawLine_14 G hn hC hr w h)
      rw [if_neg hj] at h
      cases h
    · exact (show _ = _ ∧ True from ⟨rfl, trivial⟩)

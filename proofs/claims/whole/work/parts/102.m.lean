-- MoorGuides$Moor.weatherOn(I)I
def tX4_weatherOn : List EN := [
  (0, .aload_n 0, 0, 0, 0, 0, 0, []), (1, .getfield 69, 0, 4, 10, 0, 0, []), (4, .ifCond .le 19, 0, 11, 0, 0, 0, []), (7, .aload_n 0, 0, 0, 0, 0, 0, []),
  (8, .getfield 40, 0, 4, 11, 0, 0, []), (11, .iload_n 1, 0, 0, 0, 0, 0, []), (12, .aload_n 0, 0, 0, 0, 0, 0, []), (13, .getfield 69, 0, 4, 10, 0, 0, []),
  (16, .invokestatic 87, 0, 0, 2, 0, 0, []), (19, .iaload, 0, 0, 0, 0, 0, []), (20, .goto 4, 0, 12, 0, 0, 0, []), (23, .iconst 0, 0, 0, 0, 0, 0, []),
  (24, .ireturn, 0, 0, 0, 0, 0, [])]
noncomputable def pX4_weatherOn (N : Nat) (i0 : Nat) (a1 : Int32) (w : Wd) : Option (Int32 × Wd) :=
  if 0 < (gI w 8 i0 10) then
    (callW (pJ9_floorMod_7cf53 N a1 (gI w 8 i0 10)) w).bind fun r1 =>
    (ldI r1.2 37 i0 r1.1 14).bind fun x2 =>
    some (x2, r1.2)
  else
  some ((0 : Int32), w)
noncomputable def mX4_weatherOn (N : Nat) (as : List AV) (w : Wd) : Option (Int32 × Wd) := xR1 8 as fun i0 t => xI1 t fun a1 t => xN1 t (callW (pX4_weatherOn N i0 a1) w)
set_option maxRecDepth 100000 in
set_option maxHeartbeats 4000000 in
theorem kX4_weatherOn : TK cX4_weatherOn RX4 2 tX4_weatherOn := ⟨by decide +kernel, wok_of [301, 303, 301] (by decide +kernel) (by decide +kernel)⟩
set_option maxRecDepth 100000 in
set_option maxHeartbeats 4000000 in
theorem crX4_weatherOn {N : Nat} {X : XT} (G : GX X cX4_weatherOn RX4) (hR : xR X = rmL 2) : CRs X tX4_weatherOn (oF [(mJ9_floorMod_7cf53 N)]) (oF []) (oF []) := by
  have hl : tX4_weatherOn.filter isInv = [(16, .invokestatic 87, 0, 0, 2, 0, 0, [])] := rfl
  intro e he
  rw [hl] at he
  simp only [List.mem_cons, List.not_mem_nil, or_false] at he
  rcases he with rfl
  · exact crI_S (idx := 87) G (by decide +kernel) (MJ9_floorMod_7cf53 N) (cw_of (ps := [1088, 1089, 165, 1090]) (by decide +kernel) (by decide +kernel)) ⟨by decide +kernel, by decide +kernel, by decide +kernel⟩ (by unfold rmOk; rw [hR]; exact ⟨by decide, by decide⟩)
set_option maxRecDepth 100000 in
set_option maxHeartbeats 4000000 in
theorem MX4_weatherOn (N : Nat) : SndI yX4_weatherOn cX4_weatherOn 2 (some .int) 2 2 true (mX4_weatherOn N) := by
  refine SndI.of tX4_weatherOn (by decide +kernel) rfl rfl ?_ ?_
  · intro as w x h
    obtain ⟨i0, t1, rfl, h_1⟩ := xR1_some h
    obtain ⟨a1, t2, rfl, h_2⟩ := xI1_some h_1
    obtain ⟨rfl, h_3⟩ := xN1_some h_2
    clear h h_1 h_2
    have h := h_3
    rw [callW_eq] at h
    exact ⟨fun _ => ⟨_, _, _, rfl, rfl, _, rfl, rfl⟩, rfl, Nat.le_of_ble_eq_true rfl⟩
  · intro X G hn hR as w r h hr
    have hC := crX4_weatherOn (N := N) G hR
    obtain ⟨i0, t1, rfl, h_1⟩ := xR1_some h
    obtain ⟨a1, t2, rfl, h_2⟩ := xI1_some h_1
    obtain ⟨rfl, h_3⟩ := xN1_some h_2
    clear h h_1 h_2
    have h := h_3
    rw [callW_eq] at h
    refine run_sound (r := r) (X := X) (cc := cX4_weatherOn) (own := RX4) (tab := tX4_weatherOn) G (by rw [hn]; exact kX4_weatherOn) (oI := (oF [(mJ9_floorMod_7cf53 N)])) (oL := (oF [])) (oV := (oF [])) (rI := (fun x w => some (x, w))) (rL := (fun _ _ => none)) (rV := (fun _ => none))
      (K := (fun j ls st w => none)) (fun x w pc ls hx hd => hr x w pc ls (Option.some.inj hx) hd) (fun _ _ _ _ hx => by cases hx) (fun _ _ _ hx => by cases hx) hC (fun ls => lsb [some (.inr (.inr (8, i0))), some (.inl a1)] 0 ls) (keepsP_of rfl) ?_ 15 0 [some (.inr (.inr (8, i0))), some (.inl a1)] [] w ?_ h
    · intro j ls st w hfx h
      obtain ⟨e0, e1, -⟩ : _ = _ ∧ _ = _ ∧ True := hfx
      try dsimp only at h
      cases h
    · exact (show _ = _ ∧ _ = _ ∧ True from ⟨rfl, rfl, trivial⟩)
-- MoorGuides$Stand.tellNames(IIIII)V
def tX9_tellNames : List EN := [
  (0, .aload_n 0, 0, 0, 0, 0, 0, []), (1, .getfield 31, 0, 9, 10, 0, 0, []), (4, .bipush 19, 0, 0, 0, 19, 0, []), (6, .aload_n 0, 0, 0, 0, 0, 0, []),
  (7, .getfield 39, 0, 9, 0, 0, 0, []), (10, .getfield 142, 0, 4, 2, 0, 0, []), (13, .iload_n 2, 0, 0, 0, 0, 0, []), (14, .iaload, 0, 0, 0, 0, 0, []),
  (15, .i2l, 0, 0, 0, 0, 0, []), (16, .lastore, 0, 0, 0, 0, 0, []), (17, .aload_n 0, 0, 0, 0, 0, 0, []), (18, .getfield 31, 0, 9, 10, 0, 0, []),
  (21, .bipush 20, 0, 0, 0, 20, 0, []), (23, .iload 4, 0, 0, 0, 0, 0, []), (25, .i2l, 0, 0, 0, 0, 0, []), (26, .lastore, 0, 0, 0, 0, 0, []),
  (27, .aload_n 0, 0, 0, 0, 0, 0, []), (28, .getfield 31, 0, 9, 10, 0, 0, []), (31, .bipush 9, 0, 0, 0, 9, 0, []), (33, .aload_n 0, 0, 0, 0, 0, 0, []),
  (34, .getfield 39, 0, 9, 0, 0, 0, []), (37, .iload_n 3, 0, 0, 0, 0, 0, []), (38, .invokevirtual 149, 0, 0, 2, 0, 0, []), (41, .i2l, 0, 0, 0, 0, 0, []),
  (42, .lastore, 0, 0, 0, 0, 0, []), (43, .aload_n 0, 0, 0, 0, 0, 0, []), (44, .getfield 31, 0, 9, 10, 0, 0, []), (47, .bipush 21, 0, 0, 0, 21, 0, []),
  (49, .iload 5, 0, 0, 0, 0, 0, []), (51, .i2l, 0, 0, 0, 0, 0, []), (52, .lastore, 0, 0, 0, 0, 0, []), (53, .aload_n 0, 0, 0, 0, 0, 0, []),
  (54, .getfield 31, 0, 9, 10, 0, 0, []), (57, .bipush 22, 0, 0, 0, 22, 0, []), (59, .aload_n 0, 0, 0, 0, 0, 0, []), (60, .getfield 39, 0, 9, 0, 0, 0, []),
  (63, .iload_n 2, 0, 0, 0, 0, 0, []), (64, .iload_n 3, 0, 0, 0, 0, 0, []), (65, .invokevirtual 152, 0, 1, 3, 0, 0, []), (68, .i2l, 0, 0, 0, 0, 0, []),
  (69, .lastore, 0, 0, 0, 0, 0, []), (70, .aload_n 0, 0, 0, 0, 0, 0, []), (71, .getfield 31, 0, 9, 10, 0, 0, []), (74, .iconst 4, 0, 0, 0, 4, 0, []),
  (75, .aload_n 0, 0, 0, 0, 0, 0, []), (76, .getfield 39, 0, 9, 0, 0, 0, []), (79, .getfield 59, 0, 4, 4, 0, 0, []), (82, .getfield 155, 0, 6, 3, 0, 0, []),
  (85, .iload_n 1, 0, 0, 0, 0, 0, []), (86, .iaload, 0, 0, 0, 0, 0, []), (87, .i2l, 0, 0, 0, 0, 0, []), (88, .lastore, 0, 0, 0, 0, 0, []),
  (89, .aload_n 0, 0, 0, 0, 0, 0, []), (90, .getfield 31, 0, 9, 10, 0, 0, []), (93, .bipush 23, 0, 0, 0, 23, 0, []), (95, .iload_n 3, 0, 0, 0, 0, 0, []),
  (96, .i2l, 0, 0, 0, 0, 0, []), (97, .lastore, 0, 0, 0, 0, 0, []), (98, .return_, 0, 0, 0, 0, 0, [])]
noncomputable def pX9_tellNames (N : Nat) (i0 : Nat) (a1 : Int32) (a2 : Int32) (a3 : Int32) (a4 : Int32) (a5 : Int32) (w : Wd) : Option (Wd) :=
  (ldI w 31 (gR w 13 i0 0) a2 8).bind fun x1 =>
  (stL w 66 i0 (19 : Int32) 24 x1.toInt64).bind fun w2 =>
  (stL w2 66 i0 (20 : Int32) 24 a4.toInt64).bind fun w3 =>
  (callW (pX4_weatherOn N (gR w3 13 i0 0) a3) w3).bind fun r4 =>
  (stL r4.2 66 i0 (9 : Int32) 24 r4.1.toInt64).bind fun w5 =>
  (stL w5 66 i0 (21 : Int32) 24 a5.toInt64).bind fun w6 =>
  (callW (pX4_wantedOn N (gR w6 13 i0 0) a2 a3) w6).bind fun r7 =>
  (stL r7.2 66 i0 (22 : Int32) 24 r7.1.toInt64).bind fun w8 =>
  (ldI w8 50 (gR w8 13 i0 0) a1 6).bind fun x9 =>
  (stL w8 66 i0 (4 : Int32) 24 x9.toInt64).bind fun w10 =>
  (stL w10 66 i0 (23 : Int32) 24 a3.toInt64).bind fun w11 =>
  some w11
noncomputable def mX9_tellNames (N : Nat) (as : List AV) (w : Wd) : Option (Wd) := xR1 13 as fun i0 t => xI1 t fun a1 t => xI1 t fun a2 t => xI1 t fun a3 t => xI1 t fun a4 t => xI1 t fun a5 t => xN1 t (callW (pX9_tellNames N i0 a1 a2 a3 a4 a5) w)
set_option maxRecDepth 100000 in
set_option maxHeartbeats 4000000 in
theorem kX9_tellNames : TK cX9_tellNames RX9 6 tX9_tellNames := ⟨by decide +kernel, wok_of [542, 516, 269, 542, 542, 516, 542, 542, 516, 542, 516, 279, 210, 542] (by decide +kernel) (by decide +kernel)⟩
set_option maxRecDepth 100000 in
set_option maxHeartbeats 4000000 in
theorem crX9_tellNames {N : Nat} {X : XT} (G : GX X cX9_tellNames RX9) (hR : xR X = rmL 3) : CRs X tX9_tellNames (oF [(mX4_weatherOn N), (mX4_wantedOn N)]) (oF []) (oF []) := by
  have hl : tX9_tellNames.filter isInv = [(38, .invokevirtual 149, 0, 0, 2, 0, 0, []), (65, .invokevirtual 152, 0, 1, 3, 0, 0, [])] := rfl
  intro e he
  rw [hl] at he
  simp only [List.mem_cons, List.not_mem_nil, or_false] at he
  rcases he with rfl | rfl
  · exact crI_V (idx := 149) G (by decide +kernel) (MX4_weatherOn N) (cw_of (ps := [1084, 1085, 1086, 149, 1087]) (by decide +kernel) (by decide +kernel)) ⟨by decide +kernel, by decide +kernel, by decide +kernel⟩ (by unfold rmOk; rw [hR]; exact ⟨by decide, by decide⟩)
  · exact crI_V (idx := 152) G (by decide +kernel) (MX4_wantedOn N) (cw_of (ps := [1091, 1014, 1015, 149, 1016]) (by decide +kernel) (by decide +kernel)) ⟨by decide +kernel, by decide +kernel, by decide +kernel⟩ (by unfold rmOk; rw [hR]; exact ⟨by decide, by decide⟩)
set_option maxRecDepth 100000 in
set_option maxHeartbeats 4000000 in
theorem MX9_tellNames (N : Nat) : SndV yX9_tellNames cX9_tellNames 6 none 3 6 true (mX9_tellNames N) := by
  refine SndV.of tX9_tellNames (by decide +kernel) rfl rfl ?_ ?_
  · intro as w x h
    obtain ⟨i0, t1, rfl, h_1⟩ := xR1_some h
    obtain ⟨a1, t2, rfl, h_2⟩ := xI1_some h_1
    obtain ⟨a2, t3, rfl, h_3⟩ := xI1_some h_2
    obtain ⟨a3, t4, rfl, h_4⟩ := xI1_some h_3
    obtain ⟨a4, t5, rfl, h_5⟩ := xI1_some h_4
    obtain ⟨a5, t6, rfl, h_6⟩ := xI1_some h_5
    obtain ⟨rfl, h_7⟩ := xN1_some h_6
    clear h h_1 h_2 h_3 h_4 h_5 h_6
    have h := h_7
    rw [callW_eq] at h
    exact ⟨fun _ => ⟨_, _, _, rfl, rfl, _, rfl, rfl⟩, rfl, Nat.le_of_ble_eq_true rfl⟩
  · intro X G hn hR as w r h hr
    have hC := crX9_tellNames (N := N) G hR
    obtain ⟨i0, t1, rfl, h_1⟩ := xR1_some h
    obtain ⟨a1, t2, rfl, h_2⟩ := xI1_some h_1
    obtain ⟨a2, t3, rfl, h_3⟩ := xI1_some h_2
    obtain ⟨a3, t4, rfl, h_4⟩ := xI1_some h_3
    obtain ⟨a4, t5, rfl, h_5⟩ := xI1_some h_4
    obtain ⟨a5, t6, rfl, h_6⟩ := xI1_some h_5
    obtain ⟨rfl, h_7⟩ := xN1_some h_6
    clear h h_1 h_2 h_3 h_4 h_5 h_6
    have h := h_7
    rw [callW_eq] at h
    refine run_sound (r := r) (X := X) (cc := cX9_tellNames) (own := RX9) (tab := tX9_tellNames) G (by rw [hn]; exact kX9_tellNames) (oI := (oF [(mX4_weatherOn N), (mX4_wantedOn N)])) (oL := (oF [])) (oV := (oF [])) (rI := (fun _ _ => none)) (rL := (fun _ _ => none)) (rV := (fun w => some w))
      (K := (fun j ls st w => none)) (fun _ _ _ _ hx => by cases hx) (fun _ _ _ _ hx => by cases hx) (fun w pc ls hx hd => hr w pc ls (Option.some.inj hx) hd) hC (fun ls => lsb [some (.inr (.inr (13, i0))), some (.inl a1), some (.inl a2), some (.inl a3), some (.inl a4), some (.inl a5)] 0 ls) (keepsP_of rfl) ?_ 61 0 [some (.inr (.inr (13, i0))), some (.inl a1), some (.inl a2), some (.inl a3), some (.inl a4), some (.inl a5)] [] w ?_ h
    · intro j ls st w hfx h
      obtain ⟨e0, e1, e2, e3, e4, e5, -⟩ : _ = _ ∧ _ = _ ∧ _ = _ ∧ _ = _ ∧ _ = _ ∧ _ = _ ∧ True := hfx
      try dsimp only at h
      cases h
    · exact (show _ = _ ∧ _ = _ ∧ _ = _ ∧ _ = _ ∧ _ = _ ∧ _ = _ ∧ True from ⟨rfl, rfl, rfl, rfl, rfl, rfl, trivial⟩)
-- MoorGuides$Stand.chanceOn(IIIII)I
def tX9_chanceOn : List EN := [
  (0, .aload_n 0, 0, 0, 0, 0, 0, []), (1, .getfield 39, 0, 9, 0, 0, 0, []), (4, .getfield 137, 0, 4, 18, 0, 0, []), (7, .getfield 141, 0, 1, 2, 0, 0, []),
  (10, .ifCond .ne 13, 0, 11, 0, 0, 0, []), (13, .aload_n 0, 0, 0, 0, 0, 0, []), (14, .getfield 39, 0, 9, 0, 0, 0, []), (17, .getfield 142, 0, 4, 2, 0, 0, []),
  (20, .iload_n 2, 0, 0, 0, 0, 0, []), (21, .iaload, 0, 0, 0, 0, 0, []), (22, .ireturn, 0, 0, 0, 0, 0, []), (23, .aload_n 0, 0, 0, 0, 0, 0, []),
  (24, .iload_n 1, 0, 0, 0, 0, 0, []), (25, .iload_n 2, 0, 0, 0, 0, 0, []), (26, .iload_n 3, 0, 0, 0, 0, 0, []), (27, .iload 4, 0, 0, 0, 0, 0, []),
  (29, .iload 5, 0, 0, 0, 0, 0, []), (31, .invokevirtual 118, 0, 0, 6, 0, 0, [(0, 0), (0, 0)]), (34, .aload_n 0, 0, 0, 0, 0, 0, []), (35, .getfield 39, 0, 9, 0, 0, 0, []),
  (38, .getfield 137, 0, 4, 18, 0, 0, []), (41, .aload_n 0, 0, 0, 0, 0, 0, []), (42, .getfield 31, 0, 9, 10, 0, 0, []), (45, .invokevirtual 122, 0, 0, 2, 0, 0, [(0, 0)]),
  (48, .lstore 6, 0, 0, 0, 0, 0, []), (50, .lload 6, 0, 0, 0, 0, 0, []), (52, .ldc2_w 145, 0, 0, 0, 0, (-9223372036854775808), []), (55, .lcmp, 0, 0, 0, 0, 0, []),
  (56, .ifCond .ne 13, 0, 35, 0, 0, 0, []), (59, .aload_n 0, 0, 0, 0, 0, 0, []), (60, .getfield 39, 0, 9, 0, 0, 0, []), (63, .getfield 142, 0, 4, 2, 0, 0, []),
  (66, .iload_n 2, 0, 0, 0, 0, 0, []), (67, .iaload, 0, 0, 0, 0, 0, []), (68, .ireturn, 0, 0, 0, 0, 0, []), (69, .lload 6, 0, 0, 0, 0, 0, []),
  (71, .ldc2_w 147, 0, 0, 0, 0, 100, []), (74, .lcmp, 0, 0, 0, 0, 0, []), (75, .ifCond .le 8, 0, 41, 0, 0, 0, []), (78, .bipush 100, 0, 0, 0, 100, 0, []),
  (80, .goto 17, 0, 49, 0, 0, 0, []), (83, .lload 6, 0, 0, 0, 0, 0, []), (85, .lconst 0, 0, 0, 0, 0, 0, []), (86, .lcmp, 0, 0, 0, 0, 0, []),
  (87, .ifCond .ge 7, 0, 47, 0, 0, 0, []), (90, .iconst 0, 0, 0, 0, 0, 0, []), (91, .goto 6, 0, 49, 0, 0, 0, []), (94, .lload 6, 0, 0, 0, 0, 0, []),
  (96, .l2i, 0, 0, 0, 0, 0, []), (97, .ireturn, 0, 0, 0, 0, 0, [])]
noncomputable def pX9_chanceOn (N : Nat) (i0 : Nat) (a1 : Int32) (a2 : Int32) (a3 : Int32) (a4 : Int32) (a5 : Int32) (w : Wd) : Option (Int32 × Wd) :=
  if (gI w 5 (2 * (gR w 13 i0 0) + 0) 2) = 0 then
    (ldI w 31 (gR w 13 i0 0) a2 8).bind fun x1 =>
    some (x1, w)
  else
  (callW (pX9_tellNames N i0 a1 a2 a3 a4 a5) w).bind fun w2 =>
  (callW (pX1_workOut N (2 * (gR w2 13 i0 0) + 0) i0) w2).bind fun r3 =>
  if (lg_cmp r3.1 (-9223372036854775808 : Int64)) = 0 then
    (ldI r3.2 31 (gR r3.2 13 i0 0) a2 8).bind fun x4 =>
    some (x4, r3.2)
  else
  if 0 < (lg_cmp r3.1 (100 : Int64)) then some ((100 : Int32), r3.2) else
  if (lg_cmp r3.1 (0 : Int64)) < 0 then some ((0 : Int32), r3.2) else
  some (r3.1.toInt32, r3.2)
noncomputable def mX9_chanceOn (N : Nat) (as : List AV) (w : Wd) : Option (Int32 × Wd) := xR1 13 as fun i0 t => xI1 t fun a1 t => xI1 t fun a2 t => xI1 t fun a3 t => xI1 t fun a4 t => xI1 t fun a5 t => xN1 t (callW (pX9_chanceOn N i0 a1 a2 a3 a4 a5) w)
set_option maxRecDepth 100000 in
set_option maxHeartbeats 4000000 in
theorem kX9_chanceOn : TK cX9_chanceOn RX9 8 tX9_chanceOn := ⟨by decide +kernel, wok_of [516, 321, 247, 516, 269, 516, 321, 542, 1106, 516, 269, 1107] (by decide +kernel) (by decide +kernel)⟩
set_option maxRecDepth 100000 in
set_option maxHeartbeats 4000000 in
theorem crX9_chanceOn {N : Nat} {X : XT} (G : GX X cX9_chanceOn RX9) (hR : xR X = rmL 4) : CRs X tX9_chanceOn (oF []) (oF [(mX1_workOut N)]) (oF [(mX9_tellNames N)]) := by
  have hl : tX9_chanceOn.filter isInv = [(31, .invokevirtual 118, 0, 0, 6, 0, 0, [(0, 0), (0, 0)]), (45, .invokevirtual 122, 0, 0, 2, 0, 0, [(0, 0)])] := rfl
  intro e he
  rw [hl] at he
  simp only [List.mem_cons, List.not_mem_nil, or_false] at he
  rcases he with rfl | rfl
  · exact crV_V (idx := 118) G (by decide +kernel) (MX9_tellNames N) (cw_of (ps := [1080, 1082, 37, 158, 1083]) (by decide +kernel) (by decide +kernel)) ⟨by decide +kernel, by decide +kernel, by decide +kernel⟩ (by unfold rmOk; rw [hR]; exact ⟨by decide, by decide⟩)
  · exact crL_V (idx := 122) G (by decide +kernel) (MX1_workOut N) (cw_of (ps := [1092, 1093, 1094, 151, 1095]) (by decide +kernel) (by decide +kernel)) ⟨by decide +kernel, by decide +kernel, by decide +kernel⟩ (by unfold rmOk; rw [hR]; exact ⟨by decide, by decide⟩)
set_option maxRecDepth 100000 in
set_option maxHeartbeats 4000000 in
theorem MX9_chanceOn (N : Nat) : SndI yX9_chanceOn cX9_chanceOn 8 (some .int) 4 6 true (mX9_chanceOn N) := by
  refine SndI.of tX9_chanceOn (by decide +kernel) rfl rfl ?_ ?_
  · intro as w x h
    obtain ⟨i0, t1, rfl, h_1⟩ := xR1_some h
    obtain ⟨a1, t2, rfl, h_2⟩ := xI1_some h_1
    obtain ⟨a2, t3, rfl, h_3⟩ := xI1_some h_2
    obtain ⟨a3, t4, rfl, h_4⟩ := xI1_some h_3
    obtain ⟨a4, t5, rfl, h_5⟩ := xI1_some h_4
    obtain ⟨a5, t6, rfl, h_6⟩ := xI1_some h_5
    obtain ⟨rfl, h_7⟩ := xN1_some h_6
    clear h h_1 h_2 h_3 h_4 h_5 h_6
    have h := h_7
    rw [callW_eq] at h
    exact ⟨fun _ => ⟨_, _, _, rfl, rfl, _, rfl, rfl⟩, rfl, Nat.le_of_ble_eq_true rfl⟩
  · intro X G hn hR as w r h hr
    have hC := crX9_chanceOn (N := N) G hR
    obtain ⟨i0, t1, rfl, h_1⟩ := xR1_some h
    obtain ⟨a1, t2, rfl, h_2⟩ := xI1_some h_1
    obtain ⟨a2, t3, rfl, h_3⟩ := xI1_some h_2
    obtain ⟨a3, t4, rfl, h_4⟩ := xI1_some h_3
    obtain ⟨a4, t5, rfl, h_5⟩ := xI1_some h_4
    obtain ⟨a5, t6, rfl, h_6⟩ := xI1_some h_5
    obtain ⟨rfl, h_7⟩ := xN1_some h_6
    clear h h_1 h_2 h_3 h_4 h_5 h_6
    have h := h_7
    rw [callW_eq] at h
    refine run_sound (r := r) (X := X) (cc := cX9_chanceOn) (own := RX9) (tab := tX9_chanceOn) G (by rw [hn]; exact kX9_chanceOn) (oI := (oF [])) (oL := (oF [(mX1_workOut N)])) (oV := (oF [(mX9_tellNames N)])) (rI := (fun x w => some (x, w))) (rL := (fun _ _ => none)) (rV := (fun _ => none))
      (K := (fun j ls st w => none)) (fun x w pc ls hx hd => hr x w pc ls (Option.some.inj hx) hd) (fun _ _ _ _ hx => by cases hx) (fun _ _ _ hx => by cases hx) hC (fun ls => lsb [some (.inr (.inr (13, i0))), some (.inl a1), some (.inl a2), some (.inl a3), some (.inl a4), some (.inl a5), none, none] 0 ls) (keepsP_of rfl) ?_ 52 0 [some (.inr (.inr (13, i0))), some (.inl a1), some (.inl a2), some (.inl a3), some (.inl a4), some (.inl a5), none, none] [] w ?_ h
    · intro j ls st w hfx h
      obtain ⟨e0, e1, e2, e3, e4, e5, -⟩ : _ = _ ∧ _ = _ ∧ _ = _ ∧ _ = _ ∧ _ = _ ∧ _ = _ ∧ True := hfx
      try dsimp only at h
      cases h
    · exact (show _ = _ ∧ _ = _ ∧ _ = _ ∧ _ = _ ∧ _ = _ ∧ _ = _ ∧ True from ⟨rfl, rfl, rfl, rfl, rfl, rfl, trivial⟩)
-- MoorGuides$Stand.aroundTonight(II)I
def tX9_aroundTonight : List EN := [
  (0, .aload_n 0, 0, 0, 0, 0, 0, []), (1, .getfield 39, 0, 9, 0, 0, 0, []), (4, .getfield 128, 0, 4, 3, 0, 0, []), (7, .iload_n 2, 0, 0, 0, 0, 0, []),
  (8, .iaload, 0, 0, 0, 0, 0, []), (9, .aload_n 0, 0, 0, 0, 0, 0, []), (10, .iload_n 1, 0, 0, 0, 0, 0, []), (11, .aload_n 0, 0, 0, 0, 0, 0, []),
  (12, .getfield 43, 0, 9, 1, 0, 0, []), (15, .invokevirtual 102, 0, 0, 3, 0, 0, []), (18, .iand, 0, 0, 0, 0, 0, []), (19, .invokestatic 131, 0, 1, 1, 0, 0, []),
  (22, .ireturn, 0, 0, 0, 0, 0, [])]
noncomputable def pX9_aroundTonight (N : Nat) (i0 : Nat) (a1 : Int32) (a2 : Int32) (w : Wd) : Option (Int32 × Wd) :=
  (ldI w 32 (gR w 13 i0 0) a2 8).bind fun x1 =>
  (callW (pX9_knownBits N i0 a1 (gI w 13 i0 1)) w).bind fun r2 =>
  (callW (pJ6_bitCount_0f7a4 N (x1 &&& r2.1)) r2.2).bind fun r3 =>
  some (r3.1, r3.2)
noncomputable def mX9_aroundTonight (N : Nat) (as : List AV) (w : Wd) : Option (Int32 × Wd) := xR1 13 as fun i0 t => xI1 t fun a1 t => xI1 t fun a2 t => xN1 t (callW (pX9_aroundTonight N i0 a1 a2) w)
set_option maxRecDepth 100000 in
set_option maxHeartbeats 4000000 in
theorem kX9_aroundTonight : TK cX9_aroundTonight RX9 3 tX9_aroundTonight := ⟨by decide +kernel, wok_of [516, 275, 521] (by decide +kernel) (by decide +kernel)⟩
set_option maxRecDepth 100000 in
set_option maxHeartbeats 4000000 in
theorem crX9_aroundTonight {N : Nat} {X : XT} (G : GX X cX9_aroundTonight RX9) (hR : xR X = rmL 3) : CRs X tX9_aroundTonight (oF [(mX9_knownBits N), (mJ6_bitCount_0f7a4 N)]) (oF []) (oF []) := by
  have hl : tX9_aroundTonight.filter isInv = [(15, .invokevirtual 102, 0, 0, 3, 0, 0, []), (19, .invokestatic 131, 0, 1, 1, 0, 0, [])] := rfl
  intro e he
  rw [hl] at he
  simp only [List.mem_cons, List.not_mem_nil, or_false] at he
  rcases he with rfl | rfl
  · exact crI_V (idx := 102) G (by decide +kernel) (MX9_knownBits N) (cw_of (ps := [1021, 1022, 1023, 158, 1024]) (by decide +kernel) (by decide +kernel)) ⟨by decide +kernel, by decide +kernel, by decide +kernel⟩ (by unfold rmOk; rw [hR]; exact ⟨by decide, by decide⟩)
  · exact crI_S (idx := 131) G (by decide +kernel) (MJ6_bitCount_0f7a4 N) (cw_of (ps := [1070, 1071, 171, 1072]) (by decide +kernel) (by decide +kernel)) ⟨by decide +kernel, by decide +kernel, by decide +kernel⟩ (by unfold rmOk; rw [hR]; exact ⟨by decide, by decide⟩)
set_option maxRecDepth 100000 in
set_option maxHeartbeats 4000000 in
theorem MX9_aroundTonight (N : Nat) : SndI yX9_aroundTonight cX9_aroundTonight 3 (some .int) 3 3 true (mX9_aroundTonight N) := by
  refine SndI.of tX9_aroundTonight (by decide +kernel) rfl rfl ?_ ?_
  · intro as w x h
    obtain ⟨i0, t1, rfl, h_1⟩ := xR1_some h
    obtain ⟨a1, t2, rfl, h_2⟩ := xI1_some h_1
    obtain ⟨a2, t3, rfl, h_3⟩ := xI1_some h_2
    obtain ⟨rfl, h_4⟩ := xN1_some h_3
    clear h h_1 h_2 h_3
    have h := h_4
    rw [callW_eq] at h
    exact ⟨fun _ => ⟨_, _, _, rfl, rfl, _, rfl, rfl⟩, rfl, Nat.le_of_ble_eq_true rfl⟩
  · intro X G hn hR as w r h hr
    have hC := crX9_aroundTonight (N := N) G hR
    obtain ⟨i0, t1, rfl, h_1⟩ := xR1_some h
    obtain ⟨a1, t2, rfl, h_2⟩ := xI1_some h_1
    obtain ⟨a2, t3, rfl, h_3⟩ := xI1_some h_2
    obtain ⟨rfl, h_4⟩ := xN1_some h_3
    clear h h_1 h_2 h_3
    have h := h_4
    rw [callW_eq] at h
    refine run_sound (r := r) (X := X) (cc := cX9_aroundTonight) (own := RX9) (tab := tX9_aroundTonight) G (by rw [hn]; exact kX9_aroundTonight) (oI := (oF [(mX9_knownBits N), (mJ6_bitCount_0f7a4 N)])) (oL := (oF [])) (oV := (oF [])) (rI := (fun x w => some (x, w))) (rL := (fun _ _ => none)) (rV := (fun _ => none))
      (K := (fun j ls st w => none)) (fun x w pc ls hx hd => hr x w pc ls (Option.some.inj hx) hd) (fun _ _ _ _ hx => by cases hx) (fun _ _ _ hx => by cases hx) hC (fun ls => lsb [some (.inr (.inr (13, i0))), some (.inl a1), some (.inl a2)] 0 ls) (keepsP_of rfl) ?_ 15 0 [some (.inr (.inr (13, i0))), some (.inl a1), some (.inl a2)] [] w ?_ h
    · intro j ls st w hfx h
      obtain ⟨e0, e1, e2, -⟩ : _ = _ ∧ _ = _ ∧ _ = _ ∧ True := hfx
      try dsimp only at h
      cases h
    · exact (show _ = _ ∧ _ = _ ∧ _ = _ ∧ True from ⟨rfl, rfl, rfl, trivial⟩)
-- MoorGuides$Stand.lawTonight(LMoorGuides$Law;II)J
def tX9_lawTonight : List EN := [
  (0, .aload_n 0, 0, 0, 0, 0, 0, []), (1, .iload_n 2, 0, 0, 0, 0, 0, []), (2, .iload_n 3, 0, 0, 0, 0, 0, []), (3, .aload_n 0, 0, 0, 0, 0, 0, []),
  (4, .getfield 43, 0, 9, 1, 0, 0, []), (7, .aload_n 0, 0, 0, 0, 0, 0, []), (8, .iload_n 2, 0, 0, 0, 0, 0, []), (9, .iload_n 3, 0, 0, 0, 0, 0, []),
  (10, .invokevirtual 111, 0, 0, 3, 0, 0, []), (13, .aload_n 0, 0, 0, 0, 0, 0, []), (14, .getfield 9, 0, 9, 4, 0, 0, []), (17, .iload_n 2, 0, 0, 0, 0, 0, []),
  (18, .iaload, 0, 0, 0, 0, 0, []), (19, .invokevirtual 118, 0, 0, 6, 0, 0, [(0, 0), (0, 0)]), (22, .aload_n 1, 0, 0, 0, 0, 0, []), (23, .aload_n 0, 0, 0, 0, 0, 0, []),
  (24, .getfield 31, 0, 9, 10, 0, 0, []), (27, .invokevirtual 122, 0, 0, 2, 0, 0, [(0, 0)]), (30, .lreturn, 0, 0, 0, 0, 0, [])]
noncomputable def pX9_lawTonight (N : Nat) (i0 : Nat) (i1 : Nat) (a2 : Int32) (a3 : Int32) (w : Wd) : Option (Int64 × Wd) :=
  (callW (pX9_aroundTonight N i0 a2 a3) w).bind fun r1 =>
  (ldI r1.2 60 i0 a2 6).bind fun x2 =>
  (callW (pX9_tellNames N i0 a2 a3 (gI w 13 i0 1) r1.1 x2) r1.2).bind fun w3 =>
  (callW (pX1_workOut N i1 i0) w3).bind fun r4 =>
  some (r4.1, r4.2)
noncomputable def mX9_lawTonight (N : Nat) (as : List AV) (w : Wd) : Option (Int64 × Wd) := xR1 13 as fun i0 t => xR1 5 t fun i1 t => xI1 t fun a2 t => xI1 t fun a3 t => xN1 t (callW (pX9_lawTonight N i0 i1 a2 a3) w)
set_option maxRecDepth 100000 in
set_option maxHeartbeats 4000000 in
theorem kX9_lawTonight : TK cX9_lawTonight RX9 4 tX9_lawTonight := ⟨by decide +kernel, wok_of [521, 530, 542] (by decide +kernel) (by decide +kernel)⟩
set_option maxRecDepth 100000 in
set_option maxHeartbeats 4000000 in
theorem crX9_lawTonight {N : Nat} {X : XT} (G : GX X cX9_lawTonight RX9) (hR : xR X = rmL 4) : CRs X tX9_lawTonight (oF [(mX9_aroundTonight N)]) (oF [(mX1_workOut N)]) (oF [(mX9_tellNames N)]) := by
  have hl : tX9_lawTonight.filter isInv = [(10, .invokevirtual 111, 0, 0, 3, 0, 0, []), (19, .invokevirtual 118, 0, 0, 6, 0, 0, [(0, 0), (0, 0)]), (27, .invokevirtual 122, 0, 0, 2, 0, 0, [(0, 0)])] := rfl
  intro e he
  rw [hl] at he
  simp only [List.mem_cons, List.not_mem_nil, or_false] at he
  rcases he with rfl | rfl | rfl
  · exact crI_V (idx := 111) G (by decide +kernel) (MX9_aroundTonight N) (cw_of (ps := [1066, 1068, 36, 158, 1069]) (by decide +kernel) (by decide +kernel)) ⟨by decide +kernel, by decide +kernel, by decide +kernel⟩ (by unfold rmOk; rw [hR]; exact ⟨by decide, by decide⟩)
  · exact crV_V (idx := 118) G (by decide +kernel) (MX9_tellNames N) (cw_of (ps := [1080, 1082, 37, 158, 1083]) (by decide +kernel) (by decide +kernel)) ⟨by decide +kernel, by decide +kernel, by decide +kernel⟩ (by unfold rmOk; rw [hR]; exact ⟨by decide, by decide⟩)
  · exact crL_V (idx := 122) G (by decide +kernel) (MX1_workOut N) (cw_of (ps := [1092, 1093, 1094, 151, 1095]) (by decide +kernel) (by decide +kernel)) ⟨by decide +kernel, by decide +kernel, by decide +kernel⟩ (by unfold rmOk; rw [hR]; exact ⟨by decide, by decide⟩)
set_option maxRecDepth 100000 in
set_option maxHeartbeats 4000000 in
theorem MX9_lawTonight (N : Nat) : SndL yX9_lawTonight cX9_lawTonight 4 (some .long) 4 4 true (mX9_lawTonight N) := by
  refine SndL.of tX9_lawTonight (by decide +kernel) rfl rfl ?_ ?_
  · intro as w x h
    obtain ⟨i0, t1, rfl, h_1⟩ := xR1_some h
    obtain ⟨i1, t2, rfl, h_2⟩ := xR1_some h_1
    obtain ⟨a2, t3, rfl, h_3⟩ := xI1_some h_2
    obtain ⟨a3, t4, rfl, h_4⟩ := xI1_some h_3
    obtain ⟨rfl, h_5⟩ := xN1_some h_4
    clear h h_1 h_2 h_3 h_4
    have h := h_5
    rw [callW_eq] at h
    exact ⟨fun _ => ⟨_, _, _, rfl, rfl, _, rfl, rfl⟩, rfl, Nat.le_of_ble_eq_true rfl⟩
  · intro X G hn hR as w r h hr
    have hC := crX9_lawTonight (N := N) G hR
    obtain ⟨i0, t1, rfl, h_1⟩ := xR1_some h
    obtain ⟨i1, t2, rfl, h_2⟩ := xR1_some h_1
    obtain ⟨a2, t3, rfl, h_3⟩ := xI1_some h_2
    obtain ⟨a3, t4, rfl, h_4⟩ := xI1_some h_3
    obtain ⟨rfl, h_5⟩ := xN1_some h_4
    clear h h_1 h_2 h_3 h_4
    have h := h_5
    rw [callW_eq] at h
    refine run_sound (r := r) (X := X) (cc := cX9_lawTonight) (own := RX9) (tab := tX9_lawTonight) G (by rw [hn]; exact kX9_lawTonight) (oI := (oF [(mX9_aroundTonight N)])) (oL := (oF [(mX1_workOut N)])) (oV := (oF [(mX9_tellNames N)])) (rI := (fun _ _ => none)) (rL := (fun x w => some (x, w))) (rV := (fun _ => none))
      (K := (fun j ls st w => none)) (fun _ _ _ _ hx => by cases hx) (fun x w pc ls hx hd => hr x w pc ls (Option.some.inj hx) hd) (fun _ _ _ hx => by cases hx) hC (fun ls => lsb [some (.inr (.inr (13, i0))), some (.inr (.inr (5, i1))), some (.inl a2), some (.inl a3)] 0 ls) (keepsP_of rfl) ?_ 21 0 [some (.inr (.inr (13, i0))), some (.inr (.inr (5, i1))), some (.inl a2), some (.inl a3)] [] w ?_ h
    · intro j ls st w hfx h
      obtain ⟨e0, e1, e2, e3, -⟩ : _ = _ ∧ _ = _ ∧ _ = _ ∧ _ = _ ∧ True := hfx
      try dsimp only at h
      cases h
    · exact (show _ = _ ∧ _ = _ ∧ _ = _ ∧ _ = _ ∧ True from ⟨rfl, rfl, rfl, rfl, trivial⟩)
-- MoorGuides$Masters.rate(LMoorGuides$Stand;IIII)J
def tX3_rate : List EN := [
  (0, .iload_n 1, 0, 0, 0, 0, 0, []), (1, .tableswitch 72 0 2 #[27, 38, 52], 0, 29, 27, 0, 0, [(0, 2), (1, 8), (2, 16)]), (28, .iload 4, 0, 0, 0, 0, 0, []), (30, .ifCond .le 7, 0, 6, 0, 0, 0, []),
  (33, .lconst 1, 0, 0, 0, 0, 1, []), (34, .goto 4, 0, 7, 0, 0, 0, []), (37, .lconst 0, 0, 0, 0, 0, 0, []), (38, .lreturn, 0, 0, 0, 0, 0, []),
  (39, .aload_n 0, 0, 0, 0, 0, 0, []), (40, .getfield 31, 0, 9, 0, 0, 0, []), (43, .iload_n 3, 0, 0, 0, 0, 0, []), (44, .aload_n 0, 0, 0, 0, 0, 0, []),
  (45, .getfield 46, 0, 9, 1, 0, 0, []), (48, .invokevirtual 78, 0, 0, 3, 0, 0, []), (51, .i2l, 0, 0, 0, 0, 0, []), (52, .lreturn, 0, 0, 0, 0, 0, []),
  (53, .aload_n 0, 0, 0, 0, 0, 0, []), (54, .iload_n 2, 0, 0, 0, 0, 0, []), (55, .iload_n 3, 0, 0, 0, 0, 0, []), (56, .aload_n 0, 0, 0, 0, 0, 0, []),
  (57, .getfield 46, 0, 9, 1, 0, 0, []), (60, .iload 4, 0, 0, 0, 0, 0, []), (62, .aload_n 0, 0, 0, 0, 0, 0, []), (63, .getfield 81, 0, 9, 4, 0, 0, []),
  (66, .iload_n 2, 0, 0, 0, 0, 0, []), (67, .iaload, 0, 0, 0, 0, 0, []), (68, .invokevirtual 84, 0, 1, 6, 0, 0, []), (71, .i2l, 0, 0, 0, 0, 0, []),
  (72, .lreturn, 0, 0, 0, 0, 0, []), (73, .aload_n 0, 0, 0, 0, 0, 0, []), (74, .aload_n 0, 0, 0, 0, 0, 0, []), (75, .getfield 31, 0, 9, 0, 0, 0, []),
  (78, .getfield 88, 0, 4, 19, 0, 0, []), (81, .iload_n 2, 0, 0, 0, 0, 0, []), (82, .iload_n 3, 0, 0, 0, 0, 0, []), (83, .invokevirtual 92, 0, 0, 4, 0, 0, [(0, 0)]),
  (86, .lstore 5, 0, 0, 0, 0, 0, []), (88, .lload 5, 0, 0, 0, 0, 0, []), (90, .ldc2_w 29, 0, 0, 0, 0, (-9223372036854775808), []), (93, .lcmp, 0, 0, 0, 0, 0, []),
  (94, .ifCond .ne 7, 0, 43, 0, 0, 0, []), (97, .lconst 0, 0, 0, 0, 0, 0, []), (98, .goto 5, 0, 44, 0, 0, 0, []), (101, .lload 5, 0, 0, 0, 0, 0, []),
  (103, .lreturn, 0, 0, 0, 0, 0, [])]
noncomputable def pX3_rate (N : Nat) (i0 : Nat) (a1 : Int32) (a2 : Int32) (a3 : Int32) (a4 : Int32) (w : Wd) : Option (Int64 × Wd) :=
  if a1 = (0 : Int32) then
    if 0 < a4 then some ((1 : Int64), w) else
    some ((0 : Int64), w)
  else
  if a1 = (1 : Int32) then
    (callW (pX4_wantedOn N (gR w 13 i0 0) a3 (gI w 13 i0 1)) w).bind fun r1 =>
    some (r1.1.toInt64, r1.2)
  else
  if a1 = (2 : Int32) then
    (ldI w 60 i0 a2 6).bind fun x2 =>
    (callW (pX9_chanceOn N i0 a2 a3 (gI w 13 i0 1) a4 x2) w).bind fun r3 =>
    some (r3.1.toInt64, r3.2)
  else
  (callW (pX9_lawTonight N i0 (2 * (gR w 13 i0 0) + 1) a2 a3) w).bind fun r4 =>
  if (lg_cmp r4.1 (-9223372036854775808 : Int64)) = 0 then some ((0 : Int64), r4.2) else
  some (r4.1, r4.2)
noncomputable def mX3_rate (N : Nat) (as : List AV) (w : Wd) : Option (Int64 × Wd) := xR1 13 as fun i0 t => xI1 t fun a1 t => xI1 t fun a2 t => xI1 t fun a3 t => xI1 t fun a4 t => xN1 t (callW (pX3_rate N i0 a1 a2 a3 a4) w)
set_option maxRecDepth 100000 in
set_option maxHeartbeats 4000000 in
theorem kX3_rate : TK cX3_rate RX3 7 tX3_rate := ⟨by decide +kernel, wok_of [518, 522, 522, 531, 518, 324, 1383] (by decide +kernel) (by decide +kernel)⟩
set_option maxRecDepth 100000 in
set_option maxHeartbeats 4000000 in
theorem crX3_rate {N : Nat} {X : XT} (G : GX X cX3_rate RX3) (hR : xR X = rmL 5) : CRs X tX3_rate (oF [(mX4_wantedOn N), (mX9_chanceOn N)]) (oF [(mX9_lawTonight N)]) (oF []) := by
  have hl : tX3_rate.filter isInv = [(48, .invokevirtual 78, 0, 0, 3, 0, 0, []), (68, .invokevirtual 84, 0, 1, 6, 0, 0, []), (83, .invokevirtual 92, 0, 0, 4, 0, 0, [(0, 0)])] := rfl
  intro e he
  rw [hl] at he
  simp only [List.mem_cons, List.not_mem_nil, or_false] at he
  rcases he with rfl | rfl | rfl
  · exact crI_V (idx := 78) G (by decide +kernel) (MX4_wantedOn N) (cw_of (ps := [1391, 1014, 1015, 149, 1016]) (by decide +kernel) (by decide +kernel)) ⟨by decide +kernel, by decide +kernel, by decide +kernel⟩ (by unfold rmOk; rw [hR]; exact ⟨by decide, by decide⟩)
  · exact crI_V (idx := 84) G (by decide +kernel) (MX9_chanceOn N) (cw_of (ps := [1392, 1077, 1078, 158, 1079]) (by decide +kernel) (by decide +kernel)) ⟨by decide +kernel, by decide +kernel, by decide +kernel⟩ (by unfold rmOk; rw [hR]; exact ⟨by decide, by decide⟩)
  · exact crL_V (idx := 92) G (by decide +kernel) (MX9_lawTonight N) (cw_of (ps := [1393, 1114, 1115, 158, 1116]) (by decide +kernel) (by decide +kernel)) ⟨by decide +kernel, by decide +kernel, by decide +kernel⟩ (by unfold rmOk; rw [hR]; exact ⟨by decide, by decide⟩)
set_option maxRecDepth 100000 in
set_option maxHeartbeats 4000000 in
theorem MX3_rate (N : Nat) : SndL yX3_rate cX3_rate 7 (some .long) 5 5 false (mX3_rate N) := by
  refine SndL.of tX3_rate (by decide +kernel) rfl rfl ?_ ?_
  · intro as w x h
    obtain ⟨i0, t1, rfl, h_1⟩ := xR1_some h
    obtain ⟨a1, t2, rfl, h_2⟩ := xI1_some h_1
    obtain ⟨a2, t3, rfl, h_3⟩ := xI1_some h_2
    obtain ⟨a3, t4, rfl, h_4⟩ := xI1_some h_3
    obtain ⟨a4, t5, rfl, h_5⟩ := xI1_some h_4
    obtain ⟨rfl, h_6⟩ := xN1_some h_5
    clear h h_1 h_2 h_3 h_4 h_5
    have h := h_6
    rw [callW_eq] at h
    exact ⟨(fun z => by cases z), rfl, Nat.le_of_ble_eq_true rfl⟩
  · intro X G hn hR as w r h hr
    have hC := crX3_rate (N := N) G hR
    obtain ⟨i0, t1, rfl, h_1⟩ := xR1_some h
    obtain ⟨a1, t2, rfl, h_2⟩ := xI1_some h_1
    obtain ⟨a2, t3, rfl, h_3⟩ := xI1_some h_2
    obtain ⟨a3, t4, rfl, h_4⟩ := xI1_some h_3
    obtain ⟨a4, t5, rfl, h_5⟩ := xI1_some h_4
    obtain ⟨rfl, h_6⟩ := xN1_some h_5
    clear h h_1 h_2 h_3 h_4 h_5
    have h := h_6
    rw [callW_eq] at h
    refine run_sound (r := r) (X := X) (cc := cX3_rate) (own := RX3) (tab := tX3_rate) G (by rw [hn]; exact kX3_rate) (oI := (oF [(mX4_wantedOn N), (mX9_chanceOn N)])) (oL := (oF [(mX9_lawTonight N)])) (oV := (oF [])) (rI := (fun _ _ => none)) (rL := (fun x w => some (x, w))) (rV := (fun _ => none))
      (K := (fun j ls st w => none)) (fun _ _ _ _ hx => by cases hx) (fun x w pc ls hx hd => hr x w pc ls (Option.some.inj hx) hd) (fun _ _ _ hx => by cases hx) hC (fun ls => lsb [some (.inr (.inr (13, i0))), some (.inl a1), some (.inl a2), some (.inl a3), some (.inl a4), none, none] 0 ls) (keepsP_of rfl) ?_ 47 0 [some (.inr (.inr (13, i0))), some (.inl a1), some (.inl a2), some (.inl a3), some (.inl a4), none, none] [] w ?_ h
    · intro j ls st w hfx h
      obtain ⟨e0, e1, e2, e3, e4, -⟩ : _ = _ ∧ _ = _ ∧ _ = _ ∧ _ = _ ∧ _ = _ ∧ True := hfx
      try dsimp only at h
      cases h
    · exact (show _ = _ ∧ _ = _ ∧ _ = _ ∧ _ = _ ∧ _ = _ ∧ True from ⟨rfl, rfl, rfl, rfl, rfl, trivial⟩)
-- MoorGuides$Masters.choose(LMoorGuides$Stand;I)Z
def tX3_choose : List EN := [
  (0, .aload_n 0, 0, 0, 0, 0, 0, []), (1, .iconst (-1), 0, 0, 0, (-1), 0, []), (2, .putfield 20, 0, 3, 1, 0, 0, []), (5, .aload_n 0, 0, 0, 0, 0, 0, []),
  (6, .iconst (-1), 0, 0, 0, (-1), 0, []), (7, .putfield 24, 0, 3, 2, 0, 0, []), (10, .ldc2_w 29, 0, 0, 0, 0, (-9223372036854775808), []), (13, .lstore_n 3, 0, 0, 0, 0, 0, []),
  (14, .iconst 0, 0, 0, 0, 0, 0, []), (15, .istore 5, 0, 0, 0, 0, 0, []), (17, .iload 5, 11, 0, 0, 0, 0, []), (19, .aload_n 1, 0, 0, 0, 0, 0, []),
  (20, .getfield 31, 0, 9, 0, 0, 0, []), (23, .getfield 35, 0, 4, 4, 0, 0, []), (26, .getfield 41, 0, 6, 0, 0, 0, []), (29, .if_icmp .ge 145, 0, 87, 0, 0, 0, []),
  (32, .aload_n 1, 0, 0, 0, 0, 0, []), (33, .iload 5, 0, 0, 0, 0, 0, []), (35, .aload_n 1, 0, 0, 0, 0, 0, []), (36, .getfield 46, 0, 9, 1, 0, 0, []),
  (39, .invokevirtual 49, 0, 0, 3, 0, 0, []), (42, .istore 6, 0, 0, 0, 0, 0, []), (44, .aload_n 1, 0, 0, 0, 0, 0, []), (45, .iload 5, 0, 0, 0, 0, 0, []),
  (47, .aload_n 1, 0, 0, 0, 0, 0, []), (48, .getfield 46, 0, 9, 1, 0, 0, []), (51, .invokevirtual 53, 0, 1, 3, 0, 0, []), (54, .ifCond .eq 18, 0, 36, 0, 0, 0, []),
  (57, .aload_n 1, 0, 0, 0, 0, 0, []), (58, .getfield 31, 0, 9, 0, 0, 0, []), (61, .invokevirtual 57, 0, 2, 1, 0, 0, []), (64, .iload 6, 0, 0, 0, 0, 0, []),
  (66, .iconst (-1), 0, 0, 0, (-1), 0, []), (67, .ixor, 0, 0, 0, 0, 0, []), (68, .iand, 0, 0, 0, 0, 0, []), (69, .goto 4, 0, 37, 0, 0, 0, []),
  (72, .iconst 0, 0, 0, 0, 0, 0, []), (73, .istore 7, 0, 0, 0, 0, 0, []), (75, .iconst 0, 0, 0, 0, 0, 0, []), (76, .istore 8, 0, 0, 0, 0, 0, []),
  (78, .iload 8, 41, 0, 0, 0, 0, []), (80, .aload_n 1, 0, 0, 0, 0, 0, []), (81, .getfield 31, 0, 9, 0, 0, 0, []), (84, .getfield 61, 0, 4, 0, 0, 0, []),
  (87, .if_icmp .ge 81, 0, 85, 0, 0, 0, []), (90, .iload 7, 0, 0, 0, 0, 0, []), (92, .ifCond .eq 76, 0, 85, 0, 0, 0, []), (95, .aload_n 1, 0, 0, 0, 0, 0, []),
  (96, .getfield 31, 0, 9, 0, 0, 0, []), (99, .getfield 64, 0, 4, 3, 0, 0, []), (102, .iload 8, 0, 0, 0, 0, 0, []), (104, .iaload, 0, 0, 0, 0, 0, []),
  (105, .iload 6, 0, 0, 0, 0, 0, []), (107, .iand, 0, 0, 0, 0, 0, []), (108, .invokestatic 68, 0, 3, 1, 0, 0, []), (111, .istore 9, 0, 0, 0, 0, 0, []),
  (113, .iload 7, 0, 0, 0, 0, 0, []), (115, .iload 8, 0, 0, 0, 0, 0, []), (117, .ishr, 0, 0, 0, 0, 0, []), (118, .iconst 1, 0, 0, 0, 1, 0, []),
  (119, .iand, 0, 0, 0, 0, 0, []), (120, .ifCond .eq 17, 0, 69, 0, 0, 0, []), (123, .aload_n 1, 0, 0, 0, 0, 0, []), (124, .iload_n 2, 0, 0, 0, 0, 0, []),
  (125, .iload 5, 0, 0, 0, 0, 0, []), (127, .iload 8, 0, 0, 0, 0, 0, []), (129, .iload 9, 0, 0, 0, 0, 0, []), (131, .invokestatic 74, 0, 0, 5, 0, 0, [(0, 0)]),
  (134, .goto 4, 0, 70, 0, 0, 0, []), (137, .lload_n 3, 0, 0, 0, 0, 0, []), (138, .lstore 10, 71, 0, 0, 0, 0, []), (140, .lload 10, 0, 0, 0, 0, 0, []),
  (142, .lload_n 3, 0, 0, 0, 0, 0, []), (143, .lcmp, 0, 0, 0, 0, 0, []), (144, .ifCond .le 18, 0, 83, 0, 0, 0, []), (147, .lload 10, 0, 0, 0, 0, 0, []),
  (149, .lstore_n 3, 0, 0, 0, 0, 0, []), (150, .aload_n 0, 0, 0, 0, 0, 0, []), (151, .iload 5, 0, 0, 0, 0, 0, []), (153, .putfield 20, 0, 3, 1, 0, 0, []),
  (156, .aload_n 0, 0, 0, 0, 0, 0, []), (157, .iload 8, 0, 0, 0, 0, 0, []), (159, .putfield 24, 0, 3, 2, 0, 0, []), (162, .iinc 8 1, 0, 0, 0, 1, 0, []),
  (165, .goto (-87), 0, 40, 0, 0, 0, []), (168, .iinc 5 1, 86, 0, 0, 1, 0, []), (171, .goto (-154), 0, 10, 0, 0, 0, []), (174, .aload_n 0, 88, 0, 0, 0, 0, []),
  (175, .getfield 20, 0, 3, 1, 0, 0, []), (178, .iconst (-1), 0, 0, 0, (-1), 0, []), (179, .if_icmp .eq 7, 0, 93, 0, 0, 0, []), (182, .iconst 1, 0, 0, 0, 1, 0, []),
  (183, .goto 4, 0, 94, 0, 0, 0, []), (186, .iconst 0, 0, 0, 0, 0, 0, []), (187, .ireturn, 0, 0, 0, 0, 0, [])]
noncomputable def fX3_choose_87 (N : Nat) (w : Wd) : Option (Int32 × Wd) :=
  if (gI w 7 0 1) = (-1 : Int32) then some ((0 : Int32), w) else
  some ((1 : Int32), w)
noncomputable def fX3_choose_85 (N : Nat) (i1 : Nat) (a2 : Int32) (k10 : Int64 → Int32 → Wd → Option (Int32 × Wd)) (v3 : Int64) (v5 : Int32) (w : Wd) : Option (Int32 × Wd) :=
  k10 v3 (v5 + (1 : Int32)) w
noncomputable def fX3_choose_70 (N : Nat) (i1 : Nat) (a2 : Int32) (k40 : Int64 → Int32 → Int32 → Int32 → Int32 → Wd → Option (Int32 × Wd)) (v3 : Int64) (v5 : Int32) (v6 : Int32) (v7 : Int32) (v8 : Int32) (s0 : Int64) (w : Wd) : Option (Int32 × Wd) :=
  if 0 < (lg_cmp s0 v3) then k40 s0 v5 v6 v7 (v8 + (1 : Int32)) (setI (setI w 7 0 1 v5) 7 0 2 v8) else
  k40 v3 v5 v6 v7 (v8 + (1 : Int32)) w
noncomputable def fX3_choose_40 (N : Nat) (i1 : Nat) (a2 : Int32) : Nat → (Int64 → Int32 → Wd → Option (Int32 × Wd)) → Int64 → Int32 → Int32 → Int32 → Int32 → Wd → Option (Int32 × Wd)
  | 0, _, _, _, _, _, _, _ => none
  | n + 1, k85, v3, v5, v6, v7, v8, w =>
    if v8 < (gI w 8 (gR w 13 i1 0) 0) then
      if v7 = 0 then k85 v3 v5 w else
      (ldI w 32 (gR w 13 i1 0) v8 8).bind fun x1 =>
      (callW (pJ6_bitCount_0f7a4 N (x1 &&& v6)) w).bind fun r2 =>
      if ((v7 >>> (v8 &&& (31 : Int32))) &&& (1 : Int32)) = 0 then callW (fX3_choose_70 N i1 a2 (fX3_choose_40 N i1 a2 n k85) v3 v5 v6 v7 v8 v3) r2.2 else
      (callW (pX3_rate N i1 a2 v5 v8 r2.1) r2.2).bind fun r3 =>
      callW (fX3_choose_70 N i1 a2 (fX3_choose_40 N i1 a2 n k85) v3 v5 v6 v7 v8 r3.1) r3.2
    else
    k85 v3 v5 w
noncomputable def fX3_choose_10 (N : Nat) (i1 : Nat) (a2 : Int32) : Nat → (Wd → Option (Int32 × Wd)) → Int64 → Int32 → Wd → Option (Int32 × Wd)
  | 0, _, _, _, _ => none
  | n + 1, k87, v3, v5, w =>
    if v5 < (gI w 10 (gR w 13 i1 0) 0) then
      (callW (pX9_knownBits N i1 v5 (gI w 13 i1 1)) w).bind fun r1 =>
      (callW (pX9_isThere N i1 v5 (gI r1.2 13 i1 1)) r1.2).bind fun r2 =>
      if r2.1 = 0 then
        callW (fX3_choose_40 N i1 a2 N (fX3_choose_85 N i1 a2 (fX3_choose_10 N i1 a2 n k87)) v3 v5 r1.1 (0 : Int32) (0 : Int32)) r2.2
      else
      (callW (pX4_allParts N (gR r2.2 13 i1 0)) r2.2).bind fun r3 =>
      callW (fX3_choose_40 N i1 a2 N (fX3_choose_85 N i1 a2 (fX3_choose_10 N i1 a2 n k87)) v3 v5 r1.1 (r3.1 &&& (r1.1 ^^^ (-1 : Int32))) (0 : Int32)) r3.2
    else
    k87 w
noncomputable def pX3_choose (N : Nat) (i1 : Nat) (a2 : Int32) (w : Wd) : Option (Int32 × Wd) :=
  callW (fX3_choose_10 N i1 a2 N (fX3_choose_87 N) (-9223372036854775808 : Int64) (0 : Int32)) (setI (setI w 7 0 1 (-1 : Int32)) 7 0 2 (-1 : Int32))
noncomputable def mX3_choose (N : Nat) (as : List AV) (w : Wd) : Option (Int32 × Wd) := xS1 7 as fun t => xR1 13 t fun i1 t => xI1 t fun a2 t => xN1 t (callW (pX3_choose N i1 a2) w)
set_option maxRecDepth 100000 in
set_option maxHeartbeats 4000000 in
theorem kX3_choose : TK cX3_choose RX3 12 tX3_choose := ⟨by decide +kernel, wok_of [687, 689, 1383, 518, 278, 195, 522, 522, 518, 518, 258, 518, 271, 687, 689, 687] (by decide +kernel) (by decide +kernel)⟩
set_option maxRecDepth 100000 in
set_option maxHeartbeats 4000000 in
theorem sX3_choose_87 {N : Nat} {X : XT} (G : GX X cX3_choose RX3) (hn : xnL X = 12) (hC : CRs X tX3_choose (oF [(mX9_knownBits N), (mX9_isThere N), (mX4_allParts N), (mJ6_bitCount_0f7a4 N)]) (oF [(mX3_rate N)]) (oF [])) {r : Int32 × Wd} (hr : RTZ X cX3_choose r) (i1 : Nat) (a2 : Int32) : ∀ (w : Wd), fX3_choose_87 N w = some r → WW X (pcAt tX3_choose 87) [some (.inr (.inr (7, 0))), some (.inr (.inr (13, i1))), some (.inl a2), none, none, none, none, none, none, none, none, none] [] w := by
  intro w h
  refine run_sound (r := r) (X := X) (cc := cX3_choose) (own := RX3) (tab := tX3_choose) G (by rw [hn]; exact kX3_choose) (oI := (oF [(mX9_knownBits N), (mX9_isThere N), (mX4_allParts N), (mJ6_bitCount_0f7a4 N)])) (oL := (oF [(mX3_rate N)])) (oV := (oF [])) (rI := retZ) (rL := (fun _ _ => none)) (rV := (fun _ => none))
    (K := (fun j ls st w => none)) hr (fun _ _ _ _ hx => by cases hx) (fun _ _ _ hx => by cases hx) hC (fun ls => lsb [some (.inr (.inr (7, 0))), some (.inr (.inr (13, i1))), some (.inl a2), none, none, none, none, none, none, none, none, none] 0 ls) (keepsP_of rfl) ?_ 97 87 [some (.inr (.inr (7, 0))), some (.inr (.inr (13, i1))), some (.inl a2), none, none, none, none, none, none, none, none, none] [] w ?_ h
  · intro j ls st w hfx h
    obtain ⟨e0, e1, e2, -⟩ : _ = _ ∧ _ = _ ∧ _ = _ ∧ True := hfx
    try dsimp only at h
    cases h
  · exact (show _ = _ ∧ _ = _ ∧ _ = _ ∧ True from ⟨rfl, rfl, rfl, trivial⟩)
set_option maxRecDepth 100000 in
set_option maxHeartbeats 4000000 in
theorem sX3_choose_85 {N : Nat} {X : XT} (G : GX X cX3_choose RX3) (hn : xnL X = 12) (hC : CRs X tX3_choose (oF [(mX9_knownBits N), (mX9_isThere N), (mX4_allParts N), (mJ6_bitCount_0f7a4 N)]) (oF [(mX3_rate N)]) (oF [])) {r : Int32 × Wd} (hr : RTZ X cX3_choose r) (i1 : Nat) (a2 : Int32) : ∀ (k10 : Int64 → Int32 → Wd → Option (Int32 × Wd)) (v3 : Int64) (v5 : Int32) (w : Wd), fX3_choose_85 N i1 a2 k10 v3 v5 w = some r → (∀ (v3 : Int64) (v5 : Int32) (w : Wd), k10 v3 v5 w = some r → WW X (pcAt tX3_choose 10) [some (.inr (.inr (7, 0))), some (.inr (.inr (13, i1))), some (.inl a2), some (.inr (.inl v3)), none, some (.inl v5), none, none, none, none, none, none] [] w) → WW X (pcAt tX3_choose 85) [some (.inr (.inr (7, 0))), some (.inr (.inr (13, i1))), some (.inl a2), some (.inr (.inl v3)), none, some (.inl v5), none, none, none, none, none, none] [] w := by
  intro k10 v3 v5 w h h10
  refine run_sound (r := r) (X := X) (cc := cX3_choose) (own := RX3) (tab := tX3_choose) G (by rw [hn]; exact kX3_choose) (oI := (oF [(mX9_knownBits N), (mX9_isThere N), (mX4_allParts N), (mJ6_bitCount_0f7a4 N)])) (oL := (oF [(mX3_rate N)])) (oV := (oF [])) (rI := retZ) (rL := (fun _ _ => none)) (rV := (fun _ => none))
    (K := (fun j ls st w => if j = 10 then (lgL ls 3 fun v3 => lgI ls 5 fun v5 => st0 st (k10 v3 v5 w)) else none)) hr (fun _ _ _ _ hx => by cases hx) (fun _ _ _ hx => by cases hx) hC (fun ls => lsb [some (.inr (.inr (7, 0))), some (.inr (.inr (13, i1))), some (.inl a2), none, none, none, none, none, none, none, none, none] 0 ls) (keepsP_of rfl) ?_ 97 85 [some (.inr (.inr (7, 0))), some (.inr (.inr (13, i1))), some (.inl a2), some (.inr (.inl v3)), none, some (.inl v5), none, none, none, none, none, none] [] w ?_ h
  · intro j ls st w hfx h
    obtain ⟨e0, e1, e2, -⟩ : _ = _ ∧ _ = _ ∧ _ = _ ∧ True := hfx
    try dsimp only at h
    by_cases hj : j = 10
    · subst hj
      rw [if_pos rfl] at h
      obtain ⟨v3, e3, h_1⟩ := lgL_some h
      obtain ⟨v5, e5, h_2⟩ := lgI_some h_1
      obtain ⟨rfl, h_3⟩ := st0_some h_2
      clear h h_1 h_2
      have h := h_3
      try rw [callW_eq] at h
      exact WW.le (a := [some (.inr (.inr (7, 0))), some (.inr (.inr (13, i1))), some (.inl a2), some (.inr (.inl v3)), none, some (.inl v5), none, none, none, none, none, none]) (by rw [hn]; rfl) (show _ = _ ∧ _ = _ ∧ _ = _ ∧ _ = _ ∧ _ = _ ∧ True from ⟨e0, e1, e2, e3, e5, trivial⟩) (h10 v3 v5 w h)
    rw [if_neg hj] at h
    cases h
  · exact (show _ = _ ∧ _ = _ ∧ _ = _ ∧ True from ⟨rfl, rfl, rfl, trivial⟩)
set_option maxRecDepth 100000 in
set_option maxHeartbeats 4000000 in
theorem sX3_choose_70 {N : Nat} {X : XT} (G : GX X cX3_choose RX3) (hn : xnL X = 12) (hC : CRs X tX3_choose (oF [(mX9_knownBits N), (mX9_isThere N), (mX4_allParts N), (mJ6_bitCount_0f7a4 N)]) (oF [(mX3_rate N)]) (oF [])) {r : Int32 × Wd} (hr : RTZ X cX3_choose r) (i1 : Nat) (a2 : Int32) : ∀ (k40 : Int64 → Int32 → Int32 → Int32 → Int32 → Wd → Option (Int32 × Wd)) (v3 : Int64) (v5 : Int32) (v6 : Int32) (v7 : Int32) (v8 : Int32) (s0 : Int64) (w : Wd), fX3_choose_70 N i1 a2 k40 v3 v5 v6 v7 v8 s0 w = some r → (∀ (v3 : Int64) (v5 : Int32) (v6 : Int32) (v7 : Int32) (v8 : Int32) (w : Wd), k40 v3 v5 v6 v7 v8 w = some r → WW X (pcAt tX3_choose 40) [some (.inr (.inr (7, 0))), some (.inr (.inr (13, i1))), some (.inl a2), some (.inr (.inl v3)), none, some (.inl v5), some (.inl v6), some (.inl v7), some (.inl v8), none, none, none] [] w) → WW X (pcAt tX3_choose 70) [some (.inr (.inr (7, 0))), some (.inr (.inr (13, i1))), some (.inl a2), some (.inr (.inl v3)), none, some (.inl v5), some (.inl v6), some (.inl v7), some (.inl v8), none, none, none] [.inr (.inl s0)] w := by
  intro k40 v3 v5 v6 v7 v8 s0 w h h40
  refine run_sound (r := r) (X := X) (cc := cX3_choose) (own := RX3) (tab := tX3_choose) G (by rw [hn]; exact kX3_choose) (oI := (oF [(mX9_knownBits N), (mX9_isThere N), (mX4_allParts N), (mJ6_bitCount_0f7a4 N)])) (oL := (oF [(mX3_rate N)])) (oV := (oF [])) (rI := retZ) (rL := (fun _ _ => none)) (rV := (fun _ => none))
    (K := (fun j ls st w => if j = 40 then (lgL ls 3 fun v3 => lgI ls 5 fun v5 => lgI ls 6 fun v6 => lgI ls 7 fun v7 => lgI ls 8 fun v8 => st0 st (k40 v3 v5 v6 v7 v8 w)) else none)) hr (fun _ _ _ _ hx => by cases hx) (fun _ _ _ hx => by cases hx) hC (fun ls => lsb [some (.inr (.inr (7, 0))), some (.inr (.inr (13, i1))), some (.inl a2), none, none, none, none, none, none, none, none, none] 0 ls) (keepsP_of rfl) ?_ 97 70 [some (.inr (.inr (7, 0))), some (.inr (.inr (13, i1))), some (.inl a2), some (.inr (.inl v3)), none, some (.inl v5), some (.inl v6), some (.inl v7), some (.inl v8), none, none, none] [.inr (.inl s0)] w ?_ h
  · intro j ls st w hfx h
    obtain ⟨e0, e1, e2, -⟩ : _ = _ ∧ _ = _ ∧ _ = _ ∧ True := hfx
    try dsimp only at h
    by_cases hj : j = 40
    · subst hj
      rw [if_pos rfl] at h
      obtain ⟨v3, e3, h_1⟩ := lgL_some h
      obtain ⟨v5, e5, h_2⟩ := lgI_some h_1
      obtain ⟨v6, e6, h_3⟩ := lgI_some h_2
      obtain ⟨v7, e7, h_4⟩ := lgI_some h_3
      obtain ⟨v8, e8, h_5⟩ := lgI_some h_4
      obtain ⟨rfl, h_6⟩ := st0_some h_5
      clear h h_1 h_2 h_3 h_4 h_5
      have h := h_6
      try rw [callW_eq] at h
      exact WW.le (a := [some (.inr (.inr (7, 0))), some (.inr (.inr (13, i1))), some (.inl a2), some (.inr (.inl v3)), none, some (.inl v5), some (.inl v6), some (.inl v7), some (.inl v8), none, none, none]) (by rw [hn]; rfl) (show _ = _ ∧ _ = _ ∧ _ = _ ∧ _ = _ ∧ _ = _ ∧ _ = _ ∧ _ = _ ∧ _ = _ ∧ True from ⟨e0, e1, e2, e3, e5, e6, e7, e8, trivial⟩) (h40 v3 v5 v6 v7 v8 w h)
    rw [if_neg hj] at h
    cases h
  · exact (show _ = _ ∧ _ = _ ∧ _ = _ ∧ True from ⟨rfl, rfl, rfl, trivial⟩)
set_option maxRecDepth 100000 in
set_option maxHeartbeats 4000000 in
theorem sX3_choose_40 {N : Nat} {X : XT} (G : GX X cX3_choose RX3) (hn : xnL X = 12) (hC : CRs X tX3_choose (oF [(mX9_knownBits N), (mX9_isThere N), (mX4_allParts N), (mJ6_bitCount_0f7a4 N)]) (oF [(mX3_rate N)]) (oF [])) {r : Int32 × Wd} (hr : RTZ X cX3_choose r) (i1 : Nat) (a2 : Int32) : ∀ (n : Nat) (k85 : Int64 → Int32 → Wd → Option (Int32 × Wd)) (v3 : Int64) (v5 : Int32) (v6 : Int32) (v7 : Int32) (v8 : Int32) (w : Wd), fX3_choose_40 N i1 a2 n k85 v3 v5 v6 v7 v8 w = some r → (∀ (v3 : Int64) (v5 : Int32) (w : Wd), k85 v3 v5 w = some r → WW X (pcAt tX3_choose 85) [some (.inr (.inr (7, 0))), some (.inr (.inr (13, i1))), some (.inl a2), some (.inr (.inl v3)), none, some (.inl v5), none, none, none, none, none, none] [] w) → WW X (pcAt tX3_choose 40) [some (.inr (.inr (7, 0))), some (.inr (.inr (13, i1))), some (.inl a2), some (.inr (.inl v3)), none, some (.inl v5), some (.inl v6), some (.inl v7), some (.inl v8), none, none, none] [] w := by
  intro n
  induction n with
  | zero => intro k85 v3 v5 v6 v7 v8 w h h85; cases h
  | succ n ih =>
    intro k85 v3 v5 v6 v7 v8 w h h85
    refine run_sound (r := r) (X := X) (cc := cX3_choose) (own := RX3) (tab := tX3_choose) G (by rw [hn]; exact kX3_choose) (oI := (oF [(mX9_knownBits N), (mX9_isThere N), (mX4_allParts N), (mJ6_bitCount_0f7a4 N)])) (oL := (oF [(mX3_rate N)])) (oV := (oF [])) (rI := retZ) (rL := (fun _ _ => none)) (rV := (fun _ => none))
      (K := (fun j ls st w => if j = 70 then (lgL ls 3 fun v3 => lgI ls 5 fun v5 => lgI ls 6 fun v6 => lgI ls 7 fun v7 => lgI ls 8 fun v8 => pl1 st fun s0 st => st0 st (callW (fX3_choose_70 N i1 a2 (fX3_choose_40 N i1 a2 n k85) v3 v5 v6 v7 v8 s0) w)) else if j = 85 then (lgL ls 3 fun v3 => lgI ls 5 fun v5 => st0 st (k85 v3 v5 w)) else none)) hr (fun _ _ _ _ hx => by cases hx) (fun _ _ _ hx => by cases hx) hC (fun ls => lsb [some (.inr (.inr (7, 0))), some (.inr (.inr (13, i1))), some (.inl a2), none, none, none, none, none, none, none, none, none] 0 ls) (keepsP_of rfl) ?_ 97 40 [some (.inr (.inr (7, 0))), some (.inr (.inr (13, i1))), some (.inl a2), some (.inr (.inl v3)), none, some (.inl v5), some (.inl v6), some (.inl v7), some (.inl v8), none, none, none] [] w ?_ h
    · intro j ls st w hfx h
      obtain ⟨e0, e1, e2, -⟩ : _ = _ ∧ _ = _ ∧ _ = _ ∧ True := hfx
      try dsimp only at h
      by_cases hj : j = 70
      · subst hj
        rw [if_pos rfl] at h
        obtain ⟨v3, e3, h_1⟩ := lgL_some h
        obtain ⟨v5, e5, h_2⟩ := lgI_some h_1
        obtain ⟨v6, e6, h_3⟩ := lgI_some h_2
        obtain ⟨v7, e7, h_4⟩ := lgI_some h_3
        obtain ⟨v8, e8, h_5⟩ := lgI_some h_4
        obtain ⟨s0, st0, rfl, h_6⟩ := pl1_some h_5
        obtain ⟨rfl, h_7⟩ := st0_some h_6
        clear h h_1 h_2 h_3 h_4 h_5 h_6
        have h := h_7
        try rw [callW_eq] at h
        exact WW.le (a := [some (.inr (.inr (7, 0))), some (.inr (.inr (13, i1))), some (.inl a2), some (.inr (.inl v3)), none, some (.inl v5), some (.inl v6), some (.inl v7), some (.inl v8), none, none, none]) (by rw [hn]; rfl) (show _ = _ ∧ _ = _ ∧ _ = _ ∧ _ = _ ∧ _ = _ ∧ _ = _ ∧ _ = _ ∧ _ = _ ∧ True from ⟨e0, e1, e2, e3, e5, e6, e7, e8, trivial⟩) (sX3_choose_70 G hn hC hr i1 a2 (fX3_choose_40 N i1 a2 n k85) v3 v5 v6 v7 v8 s0 w h (fun v3 v5 v6 v7 v8 w h => (ih k85 v3 v5 v6 v7 v8 w h h85)))
      rw [if_neg hj] at h
      by_cases hj : j = 85
      · subst hj
        rw [if_pos rfl] at h
        obtain ⟨v3, e3, h_1⟩ := lgL_some h
        obtain ⟨v5, e5, h_2⟩ := lgI_some h_1
        obtain ⟨rfl, h_3⟩ := st0_some h_2
        clear h h_1 h_2
        have h := h_3
        try rw [callW_eq] at h
        exact WW.le (a := [some (.inr (.inr (7, 0))), some (.inr (.inr (13, i1))), some (.inl a2), some (.inr (.inl v3)), none, some (.inl v5), none, none, none, none, none, none]) (by rw [hn]; rfl) (show _ = _ ∧ _ = _ ∧ _ = _ ∧ _ = _ ∧ _ = _ ∧ True from ⟨e0, e1, e2, e3, e5, trivial⟩) (h85 v3 v5 w h)
      rw [if_neg hj] at h
      cases h
    · exact (show _ = _ ∧ _ = _ ∧ _ = _ ∧ True from ⟨rfl, rfl, rfl, trivial⟩)
set_option maxRecDepth 100000 in
set_option maxHeartbeats 4000000 in
theorem sX3_choose_10 {N : Nat} {X : XT} (G : GX X cX3_choose RX3) (hn : xnL X = 12) (hC : CRs X tX3_choose (oF [(mX9_knownBits N), (mX9_isThere N), (mX4_allParts N), (mJ6_bitCount_0f7a4 N)]) (oF [(mX3_rate N)]) (oF [])) {r : Int32 × Wd} (hr : RTZ X cX3_choose r) (i1 : Nat) (a2 : Int32) : ∀ (n : Nat) (k87 : Wd → Option (Int32 × Wd)) (v3 : Int64) (v5 : Int32) (w : Wd), fX3_choose_10 N i1 a2 n k87 v3 v5 w = some r → (∀ (w : Wd), k87 w = some r → WW X (pcAt tX3_choose 87) [some (.inr (.inr (7, 0))), some (.inr (.inr (13, i1))), some (.inl a2), none, none, none, none, none, none, none, none, none] [] w) → WW X (pcAt tX3_choose 10) [some (.inr (.inr (7, 0))), some (.inr (.inr (13, i1))), some (.inl a2), some (.inr (.inl v3)), none, some (.inl v5), none, none, none, none, none, none] [] w := by
  intro n
  induction n with
  | zero => intro k87 v3 v5 w h h87; cases h
  | succ n ih =>
    intro k87 v3 v5 w h h87
    refine run_sound (r := r) (X := X) (cc := cX3_choose) (own := RX3) (tab := tX3_choose) G (by rw [hn]; exact kX3_choose) (oI := (oF [(mX9_knownBits N), (mX9_isThere N), (mX4_allParts N), (mJ6_bitCount_0f7a4 N)])) (oL := (oF [(mX3_rate N)])) (oV := (oF [])) (rI := retZ) (rL := (fun _ _ => none)) (rV := (fun _ => none))
      (K := (fun j ls st w => if j = 40 then (lgL ls 3 fun v3 => lgI ls 5 fun v5 => lgI ls 6 fun v6 => lgI ls 7 fun v7 => lgI ls 8 fun v8 => st0 st (callW (fX3_choose_40 N i1 a2 N (fX3_choose_85 N i1 a2 (fX3_choose_10 N i1 a2 n k87)) v3 v5 v6 v7 v8) w)) else if j = 87 then (st0 st (k87 w)) else none)) hr (fun _ _ _ _ hx => by cases hx) (fun _ _ _ hx => by cases hx) hC (fun ls => lsb [some (.inr (.inr (7, 0))), some (.inr (.inr (13, i1))), some (.inl a2), none, none, none, none, none, none, none, none, none] 0 ls) (keepsP_of rfl) ?_ 97 10 [some (.inr (.inr (7, 0))), some (.inr (.inr (13, i1))), some (.inl a2), some (.inr (.inl v3)), none, some (.inl v5), none, none, none, none, none, none] [] w ?_ h
    · intro j ls st w hfx h
      obtain ⟨e0, e1, e2, -⟩ : _ = _ ∧ _ = _ ∧ _ = _ ∧ True := hfx
      try dsimp only at h
      by_cases hj : j = 40
      · subst hj
        rw [if_pos rfl] at h
        obtain ⟨v3, e3, h_1⟩ := lgL_some h
        obtain ⟨v5, e5, h_2⟩ := lgI_some h_1
        obtain ⟨v6, e6, h_3⟩ := lgI_some h_2
        obtain ⟨v7, e7, h_4⟩ := lgI_some h_3
        obtain ⟨v8, e8, h_5⟩ := lgI_some h_4
        obtain ⟨rfl, h_6⟩ := st0_some h_5
        clear h h_1 h_2 h_3 h_4 h_5
        have h := h_6
        try rw [callW_eq] at h
        exact WW.le (a := [some (.inr (.inr (7, 0))), some (.inr (.inr (13, i1))), some (.inl a2), some (.inr (.inl v3)), none, some (.inl v5), some (.inl v6), some (.inl v7), some (.inl v8), none, none, none]) (by rw [hn]; rfl) (show _ = _ ∧ _ = _ ∧ _ = _ ∧ _ = _ ∧ _ = _ ∧ _ = _ ∧ _ = _ ∧ _ = _ ∧ True from ⟨e0, e1, e2, e3, e5, e6, e7, e8, trivial⟩) (sX3_choose_40 G hn hC hr i1 a2 N (fX3_choose_85 N i1 a2 (fX3_choose_10 N i1 a2 n k87)) v3 v5 v6 v7 v8 w h (fun v3 v5 w h => (sX3_choose_85 G hn hC hr i1 a2 (fX3_choose_10 N i1 a2 n k87) v3 v5 w h (fun v3 v5 w h => (ih k87 v3 v5 w h h87)))))
      rw [if_neg hj] at h
      by_cases hj : j = 87
      · subst hj
        rw [if_pos rfl] at h
        obtain ⟨rfl, h_1⟩ := st0_some h
        clear h
        have h := h_1
        try rw [callW_eq] at h
        exact WW.le (a := [some (.inr (.inr (7, 0))), some (.inr (.inr (13, i1))), some (.inl a2), none, none, none, none, none, none, none, none, none]) (by rw [hn]; rfl) (show _ = _ ∧ _ = _ ∧ _ = _ ∧ True from ⟨e0, e1, e2, trivial⟩) (h87 w h)
      rw [if_neg hj] at h
      cases h
    · exact (show _ = _ ∧ _ = _ ∧ _ = _ ∧ True from ⟨rfl, rfl, rfl, trivial⟩)
set_option maxRecDepth 100000 in
set_option maxHeartbeats 4000000 in
theorem crX3_choose {N : Nat} {X : XT} (G : GX X cX3_choose RX3) (hR : xR X = rmL 6) : CRs X tX3_choose (oF [(mX9_knownBits N), (mX9_isThere N), (mX4_allParts N), (mJ6_bitCount_0f7a4 N)]) (oF [(mX3_rate N)]) (oF []) := by
  have hl : tX3_choose.filter isInv = [(39, .invokevirtual 49, 0, 0, 3, 0, 0, []), (51, .invokevirtual 53, 0, 1, 3, 0, 0, []), (61, .invokevirtual 57, 0, 2, 1, 0, 0, []), (108, .invokestatic 68, 0, 3, 1, 0, 0, []), (131, .invokestatic 74, 0, 0, 5, 0, 0, [(0, 0)])] := rfl
  intro e he
  rw [hl] at he
  simp only [List.mem_cons, List.not_mem_nil, or_false] at he
  rcases he with rfl | rfl | rfl | rfl | rfl
  · exact crI_V (idx := 49) G (by decide +kernel) (MX9_knownBits N) (cw_of (ps := [1384, 1022, 1023, 158, 1024]) (by decide +kernel) (by decide +kernel)) ⟨by decide +kernel, by decide +kernel, by decide +kernel⟩ (by unfold rmOk; rw [hR]; exact ⟨by decide, by decide⟩)
  · exact crI_V (idx := 53) G (by decide +kernel) (MX9_isThere N) (cw_of (ps := [1385, 1026, 1027, 158, 1028]) (by decide +kernel) (by decide +kernel)) ⟨by decide +kernel, by decide +kernel, by decide +kernel⟩ (by unfold rmOk; rw [hR]; exact ⟨by decide, by decide⟩)
  · exact crI_V (idx := 57) G (by decide +kernel) (MX4_allParts N) (cw_of (ps := [1386, 1046, 1047, 149, 1048]) (by decide +kernel) (by decide +kernel)) ⟨by decide +kernel, by decide +kernel, by decide +kernel⟩ (by unfold rmOk; rw [hR]; exact ⟨by decide, by decide⟩)
  · exact crI_S (idx := 68) G (by decide +kernel) (MJ6_bitCount_0f7a4 N) (cw_of (ps := [1387, 1071, 171, 1072]) (by decide +kernel) (by decide +kernel)) ⟨by decide +kernel, by decide +kernel, by decide +kernel⟩ (by unfold rmOk; rw [hR]; exact ⟨by decide, by decide⟩)
  · exact crL_S (idx := 74) G (by decide +kernel) (MX3_rate N) (cw_of (ps := [1388, 1389, 162, 1390]) (by decide +kernel) (by decide +kernel)) ⟨by decide +kernel, by decide +kernel, by decide +kernel⟩ (by unfold rmOk; rw [hR]; exact ⟨by decide, by decide⟩)
set_option maxRecDepth 100000 in
set_option maxHeartbeats 4000000 in
theorem MX3_choose (N : Nat) : SndI yX3_choose cX3_choose 12 (some .boolean) 6 3 true (mX3_choose N) := by
  refine SndI.ofZ tX3_choose (by decide +kernel) rfl rfl ?_ ?_
  · intro as w x h
    obtain ⟨t1, rfl, h_1⟩ := xS1_some h
    obtain ⟨i1, t2, rfl, h_2⟩ := xR1_some h_1
    obtain ⟨a2, t3, rfl, h_3⟩ := xI1_some h_2
    obtain ⟨rfl, h_4⟩ := xN1_some h_3
    clear h h_1 h_2 h_3
    have h := h_4
    rw [callW_eq] at h
    exact ⟨fun _ => ⟨_, _, _, rfl, rfl, _, rfl, rfl⟩, rfl, Nat.le_of_ble_eq_true rfl⟩
  · intro X G hn hR as w r h hr
    have hC := crX3_choose (N := N) G hR
    obtain ⟨t1, rfl, h_1⟩ := xS1_some h
    obtain ⟨i1, t2, rfl, h_2⟩ := xR1_some h_1
    obtain ⟨a2, t3, rfl, h_3⟩ := xI1_some h_2
    obtain ⟨rfl, h_4⟩ := xN1_some h_3
    clear h h_1 h_2 h_3
    have h := h_4
    rw [callW_eq] at h
    refine run_sound (r := r) (X := X) (cc := cX3_choose) (own := RX3) (tab := tX3_choose) G (by rw [hn]; exact kX3_choose) (oI := (oF [(mX9_knownBits N), (mX9_isThere N), (mX4_allParts N), (mJ6_bitCount_0f7a4 N)])) (oL := (oF [(mX3_rate N)])) (oV := (oF [])) (rI := retZ) (rL := (fun _ _ => none)) (rV := (fun _ => none))
      (K := (fun j ls st w => if j = 10 then (lgL ls 3 fun v3 => lgI ls 5 fun v5 => st0 st (callW (fX3_choose_10 N i1 a2 N (fX3_choose_87 N) v3 v5) w)) else none)) hr (fun _ _ _ _ hx => by cases hx) (fun _ _ _ hx => by cases hx) hC (fun ls => lsb [some (.inr (.inr (7, 0))), some (.inr (.inr (13, i1))), some (.inl a2), none, none, none, none, none, none, none, none, none] 0 ls) (keepsP_of rfl) ?_ 97 0 [some (.inr (.inr (7, 0))), some (.inr (.inr (13, i1))), some (.inl a2), none, none, none, none, none, none, none, none, none] [] w ?_ h
    · intro j ls st w hfx h
      obtain ⟨e0, e1, e2, -⟩ : _ = _ ∧ _ = _ ∧ _ = _ ∧ True := hfx
      try dsimp only at h
      by_cases hj : j = 10
      · subst hj
        rw [if_pos rfl] at h
        obtain ⟨v3, e3, h_1⟩ := lgL_some h
        obtain ⟨v5, e5, h_2⟩ := lgI_some h_1
        obtain ⟨rfl, h_3⟩ := st0_some h_2
        clear h h_1 h_2
        have h := h_3
        try rw [callW_eq] at h
        exact WW.le (a := [some (.inr (.inr (7, 0))), some (.inr (.inr (13, i1))), some (.inl a2), some (.inr (.inl v3)), none, some (.inl v5), none, none, none, none, none, none]) (by rw [hn]; rfl) (show _ = _ ∧ _ = _ ∧ _ = _ ∧ _ = _ ∧ _ = _ ∧ True from ⟨e0, e1, e2, e3, e5, trivial⟩) (sX3_choose_10 G hn hC hr i1 a2 N (fX3_choose_87 N) v3 v5 w h (fun w h => (sX3_choose_87 G hn hC hr i1 a2 w h)))
      rw [if_neg hj] at h
      cases h
    · exact (show _ = _ ∧ _ = _ ∧ _ = _ ∧ True from ⟨rfl, rfl, rfl, trivial⟩)
-- MoorGuides$Stand.copyFrom(LMoorGuides$Stand;)V
def tX9_copyFrom : List EN := [
  (0, .aload_n 0, 0, 0, 0, 0, 0, []), (1, .aload_n 1, 0, 0, 0, 0, 0, []), (2, .getfield 39, 0, 9, 0, 0, 0, []), (5, .putfield 39, 0, 9, 0, 0, 0, []),
  (8, .aload_n 0, 0, 0, 0, 0, 0, []), (9, .aload_n 1, 0, 0, 0, 0, 0, []), (10, .getfield 43, 0, 9, 1, 0, 0, []), (13, .putfield 43, 0, 9, 1, 0, 0, []),
  (16, .aload_n 0, 0, 0, 0, 0, 0, []), (17, .aload_n 1, 0, 0, 0, 0, 0, []), (18, .getfield 52, 0, 9, 2, 0, 0, []), (21, .putfield 52, 0, 9, 2, 0, 0, []),
  (24, .aload_n 0, 0, 0, 0, 0, 0, []), (25, .aload_n 1, 0, 0, 0, 0, 0, []), (26, .getfield 56, 0, 9, 3, 0, 0, []), (29, .putfield 56, 0, 9, 3, 0, 0, []),
  (32, .iconst 0, 0, 0, 0, 0, 0, []), (33, .istore_n 2, 0, 0, 0, 0, 0, []), (34, .iload_n 2, 19, 0, 0, 0, 0, []), (35, .bipush 6, 0, 0, 0, 6, 0, []),
  (37, .if_icmp .ge 52, 0, 51, 0, 0, 0, []), (40, .aload_n 0, 0, 0, 0, 0, 0, []), (41, .getfield 9, 0, 9, 4, 0, 0, []), (44, .iload_n 2, 0, 0, 0, 0, 0, []),
  (45, .aload_n 1, 0, 0, 0, 0, 0, []), (46, .getfield 9, 0, 9, 4, 0, 0, []), (49, .iload_n 2, 0, 0, 0, 0, 0, []), (50, .iaload, 0, 0, 0, 0, 0, []),
  (51, .iastore, 0, 0, 0, 0, 0, []), (52, .aload_n 0, 0, 0, 0, 0, 0, []), (53, .getfield 20, 0, 9, 6, 0, 0, []), (56, .iload_n 2, 0, 0, 0, 0, 0, []),
  (57, .aload_n 1, 0, 0, 0, 0, 0, []), (58, .getfield 20, 0, 9, 6, 0, 0, []), (61, .iload_n 2, 0, 0, 0, 0, 0, []), (62, .iaload, 0, 0, 0, 0, 0, []),
  (63, .iastore, 0, 0, 0, 0, 0, []), (64, .aload_n 1, 0, 0, 0, 0, 0, []), (65, .getfield 17, 0, 9, 5, 0, 0, []), (68, .iload_n 2, 0, 0, 0, 0, 0, []),
  (69, .aaload, 0, 0, 0, 0, 0, []), (70, .iconst 0, 0, 0, 0, 0, 0, []), (71, .aload_n 0, 0, 0, 0, 0, 0, []), (72, .getfield 17, 0, 9, 5, 0, 0, []),
  (75, .iload_n 2, 0, 0, 0, 0, 0, []), (76, .aaload, 0, 0, 0, 0, 0, []), (77, .iconst 0, 0, 0, 0, 0, 0, []), (78, .bipush 8, 0, 0, 0, 8, 0, []),
  (80, .invokestatic 78, 0, 0, 5, 0, 0, [(0, 0), (0, 0), (0, 0)]), (83, .iinc 2 1, 0, 0, 0, 1, 0, []), (86, .goto (-52), 0, 18, 0, 0, 0, []), (89, .aload_n 0, 52, 0, 0, 0, 0, []),
  (90, .aload_n 1, 0, 0, 0, 0, 0, []), (91, .getfield 68, 0, 9, 7, 0, 0, []), (94, .putfield 68, 0, 9, 7, 0, 0, []), (97, .aload_n 1, 0, 0, 0, 0, 0, []),
  (98, .getfield 23, 0, 9, 8, 0, 0, []), (101, .iconst 0, 0, 0, 0, 0, 0, []), (102, .aload_n 0, 0, 0, 0, 0, 0, []), (103, .getfield 23, 0, 9, 8, 0, 0, []),
  (106, .iconst 0, 0, 0, 0, 0, 0, []), (107, .bipush 12, 0, 0, 0, 12, 0, []), (109, .invokestatic 78, 0, 0, 5, 0, 0, [(0, 0), (0, 0), (0, 0)]), (112, .aload_n 1, 0, 0, 0, 0, 0, []),
  (113, .getfield 26, 0, 9, 9, 0, 0, []), (116, .iconst 0, 0, 0, 0, 0, 0, []), (117, .aload_n 0, 0, 0, 0, 0, 0, []), (118, .getfield 26, 0, 9, 9, 0, 0, []),
  (121, .iconst 0, 0, 0, 0, 0, 0, []), (122, .bipush 12, 0, 0, 0, 12, 0, []), (124, .invokestatic 78, 0, 0, 5, 0, 0, [(0, 0), (0, 0), (0, 0)]), (127, .return_, 0, 0, 0, 0, 0, [])]
noncomputable def fX9_copyFrom_51 (N : Nat) (i0 : Nat) (i1 : Nat) (w : Wd) : Option (Wd) :=
  (cpI (setI w 13 i0 7 (gI w 13 i1 7)) 64 i1 (0 : Int32) 12 64 i0 (0 : Int32) 12 (12 : Int32)).bind fun w1 =>
  (cpI w1 65 i1 (0 : Int32) 12 65 i0 (0 : Int32) 12 (12 : Int32)).bind fun w2 =>
  some w2
noncomputable def fX9_copyFrom_18 (N : Nat) (i0 : Nat) (i1 : Nat) : Nat → (Wd → Option (Wd)) → Int32 → Wd → Option (Wd)
  | 0, _, _, _ => none
  | n + 1, k51, v2, w =>
    if v2 < (6 : Int32) then
      (ldI w 60 i1 v2 6).bind fun x1 =>
      (stI w 60 i0 v2 6 x1).bind fun w2 =>
      (ldI w2 63 i1 v2 6).bind fun x3 =>
      (stI w2 63 i0 v2 6 x3).bind fun w4 =>
      (ldR v2 6 i1).bind fun q5 =>
      (ldR v2 6 i0).bind fun q6 =>
      (cpI w4 62 q5 (0 : Int32) 8 62 q6 (0 : Int32) 8 (8 : Int32)).bind fun w7 =>
      callW (fX9_copyFrom_18 N i0 i1 n k51 (v2 + (1 : Int32))) w7
    else
    k51 w
noncomputable def pX9_copyFrom (N : Nat) (i0 : Nat) (i1 : Nat) (w : Wd) : Option (Wd) :=
  let w1 : Wd := (setL (setI (setR w 13 i0 0 (gR w 13 i1 0)) 13 i0 1 (gI (setR w 13 i0 0 (gR w 13 i1 0)) 13 i1 1)) 13 i0 2 (gL (setI (setR w 13 i0 0 (gR w 13 i1 0)) 13 i0 1 (gI (setR w 13 i0 0 (gR w 13 i1 0)) 13 i1 1)) 13 i1 2))
  callW (fX9_copyFrom_18 N i0 i1 N (fX9_copyFrom_51 N i0 i1) (0 : Int32)) (setI w1 13 i0 3 (gI w1 13 i1 3))
noncomputable def mX9_copyFrom (N : Nat) (as : List AV) (w : Wd) : Option (Wd) := xR1 13 as fun i0 t => xR1 13 t fun i1 t => xN1 t (callW (pX9_copyFrom N i0 i1) w)
set_option maxRecDepth 100000 in
set_option maxHeartbeats 4000000 in
theorem kX9_copyFrom : TK cX9_copyFrom RX9 3 tX9_copyFrom := ⟨by decide +kernel, wok_of [516, 516, 521, 521, 525, 525, 527, 527, 530, 530, 535, 535, 534, 534, 1407, 1127, 1126, 172, 538, 538, 540, 540, 1407, 1127, 1126, 172, 541, 541, 1407, 1127, 1126, 172] (by decide +kernel) (by decide +kernel)⟩
set_option maxRecDepth 100000 in
set_option maxHeartbeats 4000000 in
theorem sX9_copyFrom_51 {N : Nat} {X : XT} (G : GX X cX9_copyFrom RX9) (hn : xnL X = 3) (hC : CRs X tX9_copyFrom (oF []) (oF []) (oF [])) {r : Wd} (hr : RTV X cX9_copyFrom r) (i0 : Nat) (i1 : Nat) : ∀ (w : Wd), fX9_copyFrom_51 N i0 i1 w = some r → WW X (pcAt tX9_copyFrom 51) [some (.inr (.inr (13, i0))), some (.inr (.inr (13, i1))), none] [] w := by
  intro w h
  refine run_sound (r := r) (X := X) (cc := cX9_copyFrom) (own := RX9) (tab := tX9_copyFrom) G (by rw [hn]; exact kX9_copyFrom) (oI := (oF [])) (oL := (oF [])) (oV := (oF [])) (rI := (fun _ _ => none)) (rL := (fun _ _ => none)) (rV := (fun w => some w))
    (K := (fun j ls st w => none)) (fun _ _ _ _ hx => by cases hx) (fun _ _ _ _ hx => by cases hx) (fun w pc ls hx hd => hr w pc ls (Option.some.inj hx) hd) hC (fun ls => lsb [some (.inr (.inr (13, i0))), some (.inr (.inr (13, i1))), none] 0 ls) (keepsP_of rfl) ?_ 74 51 [some (.inr (.inr (13, i0))), some (.inr (.inr (13, i1))), none] [] w ?_ h
  · intro j ls st w hfx h
    obtain ⟨e0, e1, -⟩ : _ = _ ∧ _ = _ ∧ True := hfx
    try dsimp only at h
    cases h
  · exact (show _ = _ ∧ _ = _ ∧ True from ⟨rfl, rfl, trivial⟩)
set_option maxRecDepth 100000 in
set_option maxHeartbeats 4000000 in
theorem sX9_copyFrom_18 {N : Nat} {X : XT} (G : GX X cX9_copyFrom RX9) (hn : xnL X = 3) (hC : CRs X tX9_copyFrom (oF []) (oF []) (oF [])) {r : Wd} (hr : RTV X cX9_copyFrom r) (i0 : Nat) (i1 : Nat) : ∀ (n : Nat) (k51 : Wd → Option (Wd)) (v2 : Int32) (w : Wd), fX9_copyFrom_18 N i0 i1 n k51 v2 w = some r → (∀ (w : Wd), k51 w = some r → WW X (pcAt tX9_copyFrom 51) [some (.inr (.inr (13, i0))), some (.inr (.inr (13, i1))), none] [] w) → WW X (pcAt tX9_copyFrom 18) [some (.inr (.inr (13, i0))), some (.inr (.inr (13, i1))), some (.inl v2)] [] w := by
  intro n
  induction n with
  | zero => intro k51 v2 w h h51; cases h
  | succ n ih =>
    intro k51 v2 w h h51
    refine run_sound (r := r) (X := X) (cc := cX9_copyFrom) (own := RX9) (tab := tX9_copyFrom) G (by rw [hn]; exact kX9_copyFrom) (oI := (oF [])) (oL := (oF [])) (oV := (oF [])) (rI := (fun _ _ => none)) (rL := (fun _ _ => none)) (rV := (fun w => some w))
      (K := (fun j ls st w => if j = 18 then (lgI ls 2 fun v2 => st0 st (callW (fX9_copyFrom_18 N i0 i1 n k51 v2) w)) else if j = 51 then (st0 st (k51 w)) else none)) (fun _ _ _ _ hx => by cases hx) (fun _ _ _ _ hx => by cases hx) (fun w pc ls hx hd => hr w pc ls (Option.some.inj hx) hd) hC (fun ls => lsb [some (.inr (.inr (13, i0))), some (.inr (.inr (13, i1))), none] 0 ls) (keepsP_of rfl) ?_ 74 18 [some (.inr (.inr (13, i0))), some (.inr (.inr (13, i1))), some (.inl v2)] [] w ?_ h
    · intro j ls st w hfx h
      obtain ⟨e0, e1, -⟩ : _ = _ ∧ _ = _ ∧ True := hfx
      try dsimp only at h
      by_cases hj : j = 18
      · subst hj
        rw [if_pos rfl] at h
        obtain ⟨v2, e2, h_1⟩ := lgI_some h
        obtain ⟨rfl, h_2⟩ := st0_some h_1
        clear h h_1
        have h := h_2
        try rw [callW_eq] at h
        exact WW.le (a := [some (.inr (.inr (13, i0))), some (.inr (.inr (13, i1))), some (.inl v2)]) (by rw [hn]; rfl) (show _ = _ ∧ _ = _ ∧ _ = _ ∧ True from ⟨e0, e1, e2, trivial⟩) (ih k51 v2 w h h51)
      rw [if_neg hj] at h
      by_cases hj : j = 51
      · subst hj
        rw [if_pos rfl] at h
        obtain ⟨rfl, h_1⟩ := st0_some h
        clear h
        have h := h_1
        try rw [callW_eq] at h
        exact WW.le (a := [some (.inr (.inr (13, i0))), some (.inr (.inr (13, i1))), none]) (by rw [hn]; rfl) (show _ = _ ∧ _ = _ ∧ True from ⟨e0, e1, trivial⟩) (h51 w h)
      rw [if_neg hj] at h
      cases h
    · exact (show _ = _ ∧ _ = _ ∧ True from ⟨rfl, rfl, trivial⟩)
set_option maxRecDepth 100000 in
set_option maxHeartbeats 4000000 in
theorem crX9_copyFrom {N : Nat} {X : XT} (G : GX X cX9_copyFrom RX9) (hR : xR X = rmL 1) : CRs X tX9_copyFrom (oF []) (oF []) (oF []) := by
  have hl : tX9_copyFrom.filter isInv = [(80, .invokestatic 78, 0, 0, 5, 0, 0, [(0, 0), (0, 0), (0, 0)]), (109, .invokestatic 78, 0, 0, 5, 0, 0, [(0, 0), (0, 0), (0, 0)]), (124, .invokestatic 78, 0, 0, 5, 0, 0, [(0, 0), (0, 0), (0, 0)])] := rfl
  intro e he
  rw [hl] at he
  simp only [List.mem_cons, List.not_mem_nil, or_false] at he
  rcases he with rfl | rfl | rfl
  · trivial
  · trivial
  · trivial
set_option maxRecDepth 100000 in
set_option maxHeartbeats 4000000 in
theorem MX9_copyFrom (N : Nat) : SndV yX9_copyFrom cX9_copyFrom 3 none 1 2 true (mX9_copyFrom N) := by
  refine SndV.of tX9_copyFrom (by decide +kernel) rfl rfl ?_ ?_
  · intro as w x h
    obtain ⟨i0, t1, rfl, h_1⟩ := xR1_some h
    obtain ⟨i1, t2, rfl, h_2⟩ := xR1_some h_1
    obtain ⟨rfl, h_3⟩ := xN1_some h_2
    clear h h_1 h_2
    have h := h_3
    rw [callW_eq] at h
    exact ⟨fun _ => ⟨_, _, _, rfl, rfl, _, rfl, rfl⟩, rfl, Nat.le_of_ble_eq_true rfl⟩
  · intro X G hn hR as w r h hr
    have hC := crX9_copyFrom (N := N) G hR
    obtain ⟨i0, t1, rfl, h_1⟩ := xR1_some h
    obtain ⟨i1, t2, rfl, h_2⟩ := xR1_some h_1
    obtain ⟨rfl, h_3⟩ := xN1_some h_2
    clear h h_1 h_2
    have h := h_3
    rw [callW_eq] at h
    refine run_sound (r := r) (X := X) (cc := cX9_copyFrom) (own := RX9) (tab := tX9_copyFrom) G (by rw [hn]; exact kX9_copyFrom) (oI := (oF [])) (oL := (oF [])) (oV := (oF [])) (rI := (fun _ _ => none)) (rL := (fun _ _ => none)) (rV := (fun w => some w))
      (K := (fun j ls st w => if j = 18 then (lgI ls 2 fun v2 => st0 st (callW (fX9_copyFrom_18 N i0 i1 N (fX9_copyFrom_51 N i0 i1) v2) w)) else none)) (fun _ _ _ _ hx => by cases hx) (fun _ _ _ _ hx => by cases hx) (fun w pc ls hx hd => hr w pc ls (Option.some.inj hx) hd) hC (fun ls => lsb [some (.inr (.inr (13, i0))), some (.inr (.inr (13, i1))), none] 0 ls) (keepsP_of rfl) ?_ 74 0 [some (.inr (.inr (13, i0))), some (.inr (.inr (13, i1))), none] [] w ?_ h
    · intro j ls st w hfx h
      obtain ⟨e0, e1, -⟩ : _ = _ ∧ _ = _ ∧ True := hfx
      try dsimp only at h
      by_cases hj : j = 18
      · subst hj
        rw [if_pos rfl] at h
        obtain ⟨v2, e2, h_1⟩ := lgI_some h
        obtain ⟨rfl, h_2⟩ := st0_some h_1
        clear h h_1
        have h := h_2
        try rw [callW_eq] at h
        exact WW.le (a := [some (.inr (.inr (13, i0))), some (.inr (.inr (13, i1))), some (.inl v2)]) (by rw [hn]; rfl) (show _ = _ ∧ _ = _ ∧ _ = _ ∧ True from ⟨e0, e1, e2, trivial⟩) (sX9_copyFrom_18 G hn hC hr i0 i1 N (fX9_copyFrom_51 N i0 i1) v2 w h (fun w h => (sX9_copyFrom_51 G hn hC hr i0 i1 w h)))
      rw [if_neg hj] at h
      cases h
    · exact (show _ = _ ∧ _ = _ ∧ True from ⟨rfl, rfl, trivial⟩)
-- MoorGuides$Stand.loseNobody()V
def tX9_loseNobody : List EN := [
  (0, .iconst 0, 0, 0, 0, 0, 0, []), (1, .istore_n 1, 0, 0, 0, 0, 0, []), (2, .iload_n 1, 3, 0, 0, 0, 0, []), (3, .bipush 6, 0, 0, 0, 6, 0, []),
  (5, .if_icmp .ge 16, 0, 12, 0, 0, 0, []), (8, .aload_n 0, 0, 0, 0, 0, 0, []), (9, .getfield 20, 0, 9, 6, 0, 0, []), (12, .iload_n 1, 0, 0, 0, 0, 0, []),
  (13, .iconst (-1), 0, 0, 0, (-1), 0, []), (14, .iastore, 0, 0, 0, 0, 0, []), (15, .iinc 1 1, 0, 0, 0, 1, 0, []), (18, .goto (-16), 0, 2, 0, 0, 0, []),
  (21, .return_, 0, 0, 0, 0, 0, [])]
noncomputable def fX9_loseNobody_2 (N : Nat) (i0 : Nat) : Nat → Int32 → Wd → Option (Wd)
  | 0, _, _ => none
  | n + 1, v1, w =>
    if v1 < (6 : Int32) then
      (stI w 63 i0 v1 6 (-1 : Int32)).bind fun w1 =>
      callW (fX9_loseNobody_2 N i0 n (v1 + (1 : Int32))) w1
    else
    some w
noncomputable def pX9_loseNobody (N : Nat) (i0 : Nat) (w : Wd) : Option (Wd) :=
  callW (fX9_loseNobody_2 N i0 N (0 : Int32)) w
noncomputable def mX9_loseNobody (N : Nat) (as : List AV) (w : Wd) : Option (Wd) := xR1 13 as fun i0 t => xN1 t (callW (pX9_loseNobody N i0) w)
set_option maxRecDepth 100000 in
set_option maxHeartbeats 4000000 in
theorem kX9_loseNobody : TK cX9_loseNobody RX9 2 tX9_loseNobody := ⟨by decide +kernel, wok_of [535] (by decide +kernel) (by decide +kernel)⟩
set_option maxRecDepth 100000 in
set_option maxHeartbeats 4000000 in
theorem sX9_loseNobody_2 {N : Nat} {X : XT} (G : GX X cX9_loseNobody RX9) (hn : xnL X = 2) (hC : CRs X tX9_loseNobody (oF []) (oF []) (oF [])) {r : Wd} (hr : RTV X cX9_loseNobody r) (i0 : Nat) : ∀ (n : Nat) (v1 : Int32) (w : Wd), fX9_loseNobody_2 N i0 n v1 w = some r → WW X (pcAt tX9_loseNobody 2) [some (.inr (.inr (13, i0))), some (.inl v1)] [] w := by
  intro n
  induction n with
  | zero => intro v1 w h; cases h
  | succ n ih =>
    intro v1 w h
    refine run_sound (r := r) (X := X) (cc := cX9_loseNobody) (own := RX9) (tab := tX9_loseNobody) G (by rw [hn]; exact kX9_loseNobody) (oI := (oF [])) (oL := (oF [])) (oV := (oF [])) (rI := (fun _ _ => none)) (rL := (fun _ _ => none)) (rV := (fun w => some w))
      (K := (fun j ls st w => if j = 2 then (lgI ls 1 fun v1 => st0 st (callW (fX9_loseNobody_2 N i0 n v1) w)) else none)) (fun _ _ _ _ hx => by cases hx) (fun _ _ _ _ hx => by cases hx) (fun w pc ls hx hd => hr w pc ls (Option.some.inj hx) hd) hC (fun ls => lsb [some (.inr (.inr (13, i0))), none] 0 ls) (keepsP_of rfl) ?_ 15 2 [some (.inr (.inr (13, i0))), some (.inl v1)] [] w ?_ h
    · intro j ls st w hfx h
      obtain ⟨e0, -⟩ : _ = _ ∧ True := hfx
      try dsimp only at h
      by_cases hj : j = 2
      · subst hj
        rw [if_pos rfl] at h
        obtain ⟨v1, e1, h_1⟩ := lgI_some h
        obtain ⟨rfl, h_2⟩ := st0_some h_1
        clear h h_1
        have h := h_2
        try rw [callW_eq] at h
        exact WW.le (a := [some (.inr (.inr (13, i0))), some (.inl v1)]) (by rw [hn]; rfl) (show _ = _ ∧ _ = _ ∧ True from ⟨e0, e1, trivial⟩) (ih v1 w h)
      rw [if_neg hj] at h
      cases h
    · exact (show _ = _ ∧ True from ⟨rfl, trivial⟩)
set_option maxRecDepth 100000 in
set_option maxHeartbeats 4000000 in
theorem crX9_loseNobody {N : Nat} {X : XT} (G : GX X cX9_loseNobody RX9) (hR : xR X = rmL 1) : CRs X tX9_loseNobody (oF []) (oF []) (oF []) := by
  have hl : tX9_loseNobody.filter isInv = [] := rfl
  intro e he
  rw [hl] at he
  cases he
set_option maxRecDepth 100000 in
set_option maxHeartbeats 4000000 in
theorem MX9_loseNobody (N : Nat) : SndV yX9_loseNobody cX9_loseNobody 2 none 1 1 true (mX9_loseNobody N) := by
  refine SndV.of tX9_loseNobody (by decide +kernel) rfl rfl ?_ ?_
  · intro as w x h
    obtain ⟨i0, t1, rfl, h_1⟩ := xR1_some h
    obtain ⟨rfl, h_2⟩ := xN1_some h_1
    clear h h_1
    have h := h_2
    rw [callW_eq] at h
    exact ⟨fun _ => ⟨_, _, _, rfl, rfl, _, rfl, rfl⟩, rfl, Nat.le_of_ble_eq_true rfl⟩
  · intro X G hn hR as w r h hr
    have hC := crX9_loseNobody (N := N) G hR
    obtain ⟨i0, t1, rfl, h_1⟩ := xR1_some h
    obtain ⟨rfl, h_2⟩ := xN1_some h_1
    clear h h_1
    have h := h_2
    rw [callW_eq] at h
    refine run_sound (r := r) (X := X) (cc := cX9_loseNobody) (own := RX9) (tab := tX9_loseNobody) G (by rw [hn]; exact kX9_loseNobody) (oI := (oF [])) (oL := (oF [])) (oV := (oF [])) (rI := (fun _ _ => none)) (rL := (fun _ _ => none)) (rV := (fun w => some w))
      (K := (fun j ls st w => if j = 2 then (lgI ls 1 fun v1 => st0 st (callW (fX9_loseNobody_2 N i0 N v1) w)) else none)) (fun _ _ _ _ hx => by cases hx) (fun _ _ _ _ hx => by cases hx) (fun w pc ls hx hd => hr w pc ls (Option.some.inj hx) hd) hC (fun ls => lsb [some (.inr (.inr (13, i0))), none] 0 ls) (keepsP_of rfl) ?_ 15 0 [some (.inr (.inr (13, i0))), none] [] w ?_ h
    · intro j ls st w hfx h
      obtain ⟨e0, -⟩ : _ = _ ∧ True := hfx
      try dsimp only at h
      by_cases hj : j = 2
      · subst hj
        rw [if_pos rfl] at h
        obtain ⟨v1, e1, h_1⟩ := lgI_some h
        obtain ⟨rfl, h_2⟩ := st0_some h_1
        clear h h_1
        have h := h_2
        try rw [callW_eq] at h
        exact WW.le (a := [some (.inr (.inr (13, i0))), some (.inl v1)]) (by rw [hn]; rfl) (show _ = _ ∧ _ = _ ∧ True from ⟨e0, e1, trivial⟩) (sX9_loseNobody_2 G hn hC hr i0 N v1 w h)
      rw [if_neg hj] at h
      cases h
    · exact (show _ = _ ∧ True from ⟨rfl, trivial⟩)
-- MoorGuides$Stand.knownByAny(I)I
def tX9_knownByAny : List EN := [
  (0, .iconst 0, 0, 0, 0, 0, 0, []), (1, .istore_n 2, 0, 0, 0, 0, 0, []), (2, .iconst 0, 0, 0, 0, 0, 0, []), (3, .istore_n 3, 0, 0, 0, 0, 0, []),
  (4, .iload_n 3, 5, 0, 0, 0, 0, []), (5, .aload_n 0, 0, 0, 0, 0, 0, []), (6, .getfield 39, 0, 9, 0, 0, 0, []), (9, .getfield 59, 0, 4, 4, 0, 0, []),
  (12, .getfield 99, 0, 6, 0, 0, 0, []), (15, .if_icmp .ge 18, 0, 19, 0, 0, 0, []), (18, .iload_n 2, 0, 0, 0, 0, 0, []), (19, .aload_n 0, 0, 0, 0, 0, 0, []),
  (20, .iload_n 3, 0, 0, 0, 0, 0, []), (21, .iload_n 1, 0, 0, 0, 0, 0, []), (22, .invokevirtual 102, 0, 0, 3, 0, 0, []), (25, .ior, 0, 0, 0, 0, 0, []),
  (26, .istore_n 2, 0, 0, 0, 0, 0, []), (27, .iinc 3 1, 0, 0, 0, 1, 0, []), (30, .goto (-26), 0, 4, 0, 0, 0, []), (33, .iload_n 2, 0, 0, 0, 0, 0, []),
  (34, .ireturn, 0, 0, 0, 0, 0, [])]
noncomputable def fX9_knownByAny_4 (N : Nat) (i0 : Nat) (a1 : Int32) : Nat → Int32 → Int32 → Wd → Option (Int32 × Wd)
  | 0, _, _, _ => none
  | n + 1, v2, v3, w =>
    if v3 < (gI w 10 (gR w 13 i0 0) 0) then
      (callW (pX9_knownBits N i0 v3 a1) w).bind fun r1 =>
      callW (fX9_knownByAny_4 N i0 a1 n (v2 ||| r1.1) (v3 + (1 : Int32))) r1.2
    else
    some (v2, w)
noncomputable def pX9_knownByAny (N : Nat) (i0 : Nat) (a1 : Int32) (w : Wd) : Option (Int32 × Wd) :=
  callW (fX9_knownByAny_4 N i0 a1 N (0 : Int32) (0 : Int32)) w
noncomputable def mX9_knownByAny (N : Nat) (as : List AV) (w : Wd) : Option (Int32 × Wd) := xR1 13 as fun i0 t => xI1 t fun a1 t => xN1 t (callW (pX9_knownByAny N i0 a1) w)
set_option maxRecDepth 100000 in
set_option maxHeartbeats 4000000 in
theorem kX9_knownByAny : TK cX9_knownByAny RX9 4 tX9_knownByAny := ⟨by decide +kernel, wok_of [516, 279, 199] (by decide +kernel) (by decide +kernel)⟩
set_option maxRecDepth 100000 in
set_option maxHeartbeats 4000000 in
theorem sX9_knownByAny_4 {N : Nat} {X : XT} (G : GX X cX9_knownByAny RX9) (hn : xnL X = 4) (hC : CRs X tX9_knownByAny (oF [(mX9_knownBits N)]) (oF []) (oF [])) {r : Int32 × Wd} (hr : RTI X cX9_knownByAny r) (i0 : Nat) (a1 : Int32) : ∀ (n : Nat) (v2 : Int32) (v3 : Int32) (w : Wd), fX9_knownByAny_4 N i0 a1 n v2 v3 w = some r → WW X (pcAt tX9_knownByAny 4) [some (.inr (.inr (13, i0))), some (.inl a1), some (.inl v2), some (.inl v3)] [] w := by
  intro n
  induction n with
  | zero => intro v2 v3 w h; cases h
  | succ n ih =>
    intro v2 v3 w h
    refine run_sound (r := r) (X := X) (cc := cX9_knownByAny) (own := RX9) (tab := tX9_knownByAny) G (by rw [hn]; exact kX9_knownByAny) (oI := (oF [(mX9_knownBits N)])) (oL := (oF [])) (oV := (oF [])) (rI := (fun x w => some (x, w))) (rL := (fun _ _ => none)) (rV := (fun _ => none))
      (K := (fun j ls st w => if j = 4 then (lgI ls 2 fun v2 => lgI ls 3 fun v3 => st0 st (callW (fX9_knownByAny_4 N i0 a1 n v2 v3) w)) else none)) (fun x w pc ls hx hd => hr x w pc ls (Option.some.inj hx) hd) (fun _ _ _ _ hx => by cases hx) (fun _ _ _ hx => by cases hx) hC (fun ls => lsb [some (.inr (.inr (13, i0))), some (.inl a1), none, none] 0 ls) (keepsP_of rfl) ?_ 23 4 [some (.inr (.inr (13, i0))), some (.inl a1), some (.inl v2), some (.inl v3)] [] w ?_ h
    · intro j ls st w hfx h
      obtain ⟨e0, e1, -⟩ : _ = _ ∧ _ = _ ∧ True := hfx
      try dsimp only at h
      by_cases hj : j = 4
      · subst hj
        rw [if_pos rfl] at h
        obtain ⟨v2, e2, h_1⟩ := lgI_some h
        obtain ⟨v3, e3, h_2⟩ := lgI_some h_1
        obtain ⟨rfl, h_3⟩ := st0_some h_2
        clear h h_1 h_2
        have h := h_3
        try rw [callW_eq] at h
        exact WW.le (a := [some (.inr (.inr (13, i0))), some (.inl a1), some (.inl v2), some (.inl v3)]) (by rw [hn]; rfl) (show _ = _ ∧ _ = _ ∧ _ = _ ∧ _ = _ ∧ True from ⟨e0, e1, e2, e3, trivial⟩) (ih v2 v3 w h)
      rw [if_neg hj] at h
      cases h
    · exact (show _ = _ ∧ _ = _ ∧ True from ⟨rfl, rfl, trivial⟩)
set_option maxRecDepth 100000 in
set_option maxHeartbeats 4000000 in
theorem crX9_knownByAny {N : Nat} {X : XT} (G : GX X cX9_knownByAny RX9) (hR : xR X = rmL 3) : CRs X tX9_knownByAny (oF [(mX9_knownBits N)]) (oF []) (oF []) := by
  have hl : tX9_knownByAny.filter isInv = [(22, .invokevirtual 102, 0, 0, 3, 0, 0, [])] := rfl
  intro e he
  rw [hl] at he
  simp only [List.mem_cons, List.not_mem_nil, or_false] at he
  rcases he with rfl
  · exact crI_V (idx := 102) G (by decide +kernel) (MX9_knownBits N) (cw_of (ps := [1021, 1022, 1023, 158, 1024]) (by decide +kernel) (by decide +kernel)) ⟨by decide +kernel, by decide +kernel, by decide +kernel⟩ (by unfold rmOk; rw [hR]; exact ⟨by decide, by decide⟩)
set_option maxRecDepth 100000 in
set_option maxHeartbeats 4000000 in
theorem MX9_knownByAny (N : Nat) : SndI yX9_knownByAny cX9_knownByAny 4 (some .int) 3 2 true (mX9_knownByAny N) := by
  refine SndI.of tX9_knownByAny (by decide +kernel) rfl rfl ?_ ?_
  · intro as w x h
    obtain ⟨i0, t1, rfl, h_1⟩ := xR1_some h
    obtain ⟨a1, t2, rfl, h_2⟩ := xI1_some h_1
    obtain ⟨rfl, h_3⟩ := xN1_some h_2
    clear h h_1 h_2
    have h := h_3
    rw [callW_eq] at h
    exact ⟨fun _ => ⟨_, _, _, rfl, rfl, _, rfl, rfl⟩, rfl, Nat.le_of_ble_eq_true rfl⟩
  · intro X G hn hR as w r h hr
    have hC := crX9_knownByAny (N := N) G hR
    obtain ⟨i0, t1, rfl, h_1⟩ := xR1_some h
    obtain ⟨a1, t2, rfl, h_2⟩ := xI1_some h_1
    obtain ⟨rfl, h_3⟩ := xN1_some h_2
    clear h h_1 h_2
    have h := h_3
    rw [callW_eq] at h
    refine run_sound (r := r) (X := X) (cc := cX9_knownByAny) (own := RX9) (tab := tX9_knownByAny) G (by rw [hn]; exact kX9_knownByAny) (oI := (oF [(mX9_knownBits N)])) (oL := (oF [])) (oV := (oF [])) (rI := (fun x w => some (x, w))) (rL := (fun _ _ => none)) (rV := (fun _ => none))
      (K := (fun j ls st w => if j = 4 then (lgI ls 2 fun v2 => lgI ls 3 fun v3 => st0 st (callW (fX9_knownByAny_4 N i0 a1 N v2 v3) w)) else none)) (fun x w pc ls hx hd => hr x w pc ls (Option.some.inj hx) hd) (fun _ _ _ _ hx => by cases hx) (fun _ _ _ hx => by cases hx) hC (fun ls => lsb [some (.inr (.inr (13, i0))), some (.inl a1), none, none] 0 ls) (keepsP_of rfl) ?_ 23 0 [some (.inr (.inr (13, i0))), some (.inl a1), none, none] [] w ?_ h
    · intro j ls st w hfx h
      obtain ⟨e0, e1, -⟩ : _ = _ ∧ _ = _ ∧ True := hfx
      try dsimp only at h
      by_cases hj : j = 4
      · subst hj
        rw [if_pos rfl] at h
        obtain ⟨v2, e2, h_1⟩ := lgI_some h
        obtain ⟨v3, e3, h_2⟩ := lgI_some h_1
        obtain ⟨rfl, h_3⟩ := st0_some h_2
        clear h h_1 h_2
        have h := h_3
        try rw [callW_eq] at h
        exact WW.le (a := [some (.inr (.inr (13, i0))), some (.inl a1), some (.inl v2), some (.inl v3)]) (by rw [hn]; rfl) (show _ = _ ∧ _ = _ ∧ _ = _ ∧ _ = _ ∧ True from ⟨e0, e1, e2, e3, trivial⟩) (sX9_knownByAny_4 G hn hC hr i0 a1 N v2 v3 w h)
      rw [if_neg hj] at h
      cases h
    · exact (show _ = _ ∧ _ = _ ∧ True from ⟨rfl, rfl, trivial⟩)
-- MoorGuides$Moor.isLed(II)Z
def tX4_isLed : List EN := [
  (0, .aload_n 0, 0, 0, 0, 0, 0, []), (1, .aload_n 0, 0, 0, 0, 0, 0, []), (2, .getfield 28, 0, 4, 6, 0, 0, []), (5, .iload_n 1, 0, 0, 0, 0, 0, []),
  (6, .iaload, 0, 0, 0, 0, 0, []), (7, .aload_n 0, 0, 0, 0, 0, 0, []), (8, .getfield 31, 0, 4, 7, 0, 0, []), (11, .iload_n 1, 0, 0, 0, 0, 0, []),
  (12, .iaload, 0, 0, 0, 0, 0, []), (13, .iload_n 2, 0, 0, 0, 0, 0, []), (14, .invokevirtual 97, 0, 0, 4, 0, 0, []), (17, .ifCond .lt 7, 0, 14, 0, 0, 0, []),
  (20, .iconst 1, 0, 0, 0, 1, 0, []), (21, .goto 4, 0, 15, 0, 0, 0, []), (24, .iconst 0, 0, 0, 0, 0, 0, []), (25, .ireturn, 0, 0, 0, 0, 0, [])]
noncomputable def pX4_isLed (N : Nat) (i0 : Nat) (a1 : Int32) (a2 : Int32) (w : Wd) : Option (Int32 × Wd) :=
  (ldI w 33 i0 a1 8).bind fun x1 =>
  (ldI w 34 i0 a1 8).bind fun x2 =>
  (callW (pX4_distance N i0 x1 x2 a2) w).bind fun r3 =>
  if r3.1 < 0 then some ((0 : Int32), r3.2) else
  some ((1 : Int32), r3.2)
noncomputable def mX4_isLed (N : Nat) (as : List AV) (w : Wd) : Option (Int32 × Wd) := xR1 8 as fun i0 t => xI1 t fun a1 t => xI1 t fun a2 t => xN1 t (callW (pX4_isLed N i0 a1 a2) w)
set_option maxRecDepth 100000 in
set_option maxHeartbeats 4000000 in
theorem kX4_isLed : TK cX4_isLed RX4 3 tX4_isLed := ⟨by decide +kernel, wok_of [288, 291] (by decide +kernel) (by decide +kernel)⟩
set_option maxRecDepth 100000 in
set_option maxHeartbeats 4000000 in
theorem crX4_isLed {N : Nat} {X : XT} (G : GX X cX4_isLed RX4) (hR : xR X = rmL 2) : CRs X tX4_isLed (oF [(mX4_distance N)]) (oF []) (oF []) := by
  have hl : tX4_isLed.filter isInv = [(14, .invokevirtual 97, 0, 0, 4, 0, 0, [])] := rfl
  intro e he
  rw [hl] at he
  simp only [List.mem_cons, List.not_mem_nil, or_false] at he
  rcases he with rfl
  · exact crI_V (idx := 97) G (by decide +kernel) (MX4_distance N) (cw_of (ps := [1153, 1050, 1051, 149, 1052]) (by decide +kernel) (by decide +kernel)) ⟨by decide +kernel, by decide +kernel, by decide +kernel⟩ (by unfold rmOk; rw [hR]; exact ⟨by decide, by decide⟩)
set_option maxRecDepth 100000 in
set_option maxHeartbeats 4000000 in
theorem MX4_isLed (N : Nat) : SndI yX4_isLed cX4_isLed 3 (some .boolean) 2 3 true (mX4_isLed N) := by
  refine SndI.ofZ tX4_isLed (by decide +kernel) rfl rfl ?_ ?_
  · intro as w x h
    obtain ⟨i0, t1, rfl, h_1⟩ := xR1_some h
    obtain ⟨a1, t2, rfl, h_2⟩ := xI1_some h_1
    obtain ⟨a2, t3, rfl, h_3⟩ := xI1_some h_2
    obtain ⟨rfl, h_4⟩ := xN1_some h_3
    clear h h_1 h_2 h_3
    have h := h_4
    rw [callW_eq] at h
    exact ⟨fun _ => ⟨_, _, _, rfl, rfl, _, rfl, rfl⟩, rfl, Nat.le_of_ble_eq_true rfl⟩
  · intro X G hn hR as w r h hr
    have hC := crX4_isLed (N := N) G hR
    obtain ⟨i0, t1, rfl, h_1⟩ := xR1_some h
    obtain ⟨a1, t2, rfl, h_2⟩ := xI1_some h_1
    obtain ⟨a2, t3, rfl, h_3⟩ := xI1_some h_2
    obtain ⟨rfl, h_4⟩ := xN1_some h_3
    clear h h_1 h_2 h_3
    have h := h_4
    rw [callW_eq] at h
    refine run_sound (r := r) (X := X) (cc := cX4_isLed) (own := RX4) (tab := tX4_isLed) G (by rw [hn]; exact kX4_isLed) (oI := (oF [(mX4_distance N)])) (oL := (oF [])) (oV := (oF [])) (rI := retZ) (rL := (fun _ _ => none)) (rV := (fun _ => none))
      (K := (fun j ls st w => none)) hr (fun _ _ _ _ hx => by cases hx) (fun _ _ _ hx => by cases hx) hC (fun ls => lsb [some (.inr (.inr (8, i0))), some (.inl a1), some (.inl a2)] 0 ls) (keepsP_of rfl) ?_ 18 0 [some (.inr (.inr (8, i0))), some (.inl a1), some (.inl a2)] [] w ?_ h
    · intro j ls st w hfx h
      obtain ⟨e0, e1, e2, -⟩ : _ = _ ∧ _ = _ ∧ _ = _ ∧ True := hfx
      try dsimp only at h
      cases h
    · exact (show _ = _ ∧ _ = _ ∧ _ = _ ∧ True from ⟨rfl, rfl, rfl, trivial⟩)
-- MoorGuides$Masters.leadParties()V
def tX3_leadParties : List EN := [
  (0, .aload_n 0, 0, 0, 0, 0, 0, []), (1, .getfield 14, 0, 3, 0, 0, 0, []), (4, .getfield 31, 0, 9, 0, 0, 0, []), (7, .astore_n 1, 0, 0, 0, 0, 0, []),
  (8, .aload_n 0, 0, 0, 0, 0, 0, []), (9, .getfield 14, 0, 3, 0, 0, 0, []), (12, .aload_n 0, 0, 0, 0, 0, 0, []), (13, .getfield 14, 0, 3, 0, 0, 0, []),
  (16, .getfield 46, 0, 9, 1, 0, 0, []), (19, .invokevirtual 131, 0, 0, 2, 0, 0, []), (22, .istore_n 2, 0, 0, 0, 0, 0, []), (23, .iconst 0, 0, 0, 0, 0, 0, []),
  (24, .istore_n 3, 0, 0, 0, 0, 0, []), (25, .iload_n 3, 14, 0, 0, 0, 0, []), (26, .aload_n 1, 0, 0, 0, 0, 0, []), (27, .getfield 134, 0, 4, 5, 0, 0, []),
  (30, .if_icmp .ge 59, 0, 47, 0, 0, 0, []), (33, .aload_n 1, 0, 0, 0, 0, 0, []), (34, .getfield 137, 0, 4, 8, 0, 0, []), (37, .iload_n 3, 0, 0, 0, 0, 0, []),
  (38, .iaload, 0, 0, 0, 0, 0, []), (39, .aload_n 0, 0, 0, 0, 0, 0, []), (40, .getfield 14, 0, 3, 0, 0, 0, []), (43, .getfield 46, 0, 9, 1, 0, 0, []),
  (46, .if_icmp .ne 37, 0, 45, 0, 0, 0, []), (49, .aload_n 1, 0, 0, 0, 0, 0, []), (50, .iload_n 3, 0, 0, 0, 0, 0, []), (51, .iload_n 2, 0, 0, 0, 0, 0, []),
  (52, .invokevirtual 140, 0, 1, 3, 0, 0, []), (55, .ifCond .eq 28, 0, 45, 0, 0, 0, []), (58, .aload_n 0, 0, 0, 0, 0, 0, []), (59, .dup, 0, 0, 0, 0, 0, []),
  (60, .getfield 109, 0, 3, 3, 0, 0, []), (63, .aload_n 1, 0, 0, 0, 0, 0, []), (64, .getfield 143, 0, 4, 9, 0, 0, []), (67, .iload_n 3, 0, 0, 0, 0, 0, []),
  (68, .iaload, 0, 0, 0, 0, 0, []), (69, .iadd, 0, 0, 0, 0, 0, []), (70, .putfield 109, 0, 3, 3, 0, 0, []), (73, .aload_n 0, 0, 0, 0, 0, 0, []),
  (74, .dup, 0, 0, 0, 0, 0, []), (75, .getfield 112, 0, 3, 4, 0, 0, []), (78, .iconst 1, 0, 0, 0, 1, 0, []), (79, .iadd, 0, 0, 0, 0, 0, []),
  (80, .putfield 112, 0, 3, 4, 0, 0, []), (83, .iinc 3 1, 0, 0, 0, 1, 0, []), (86, .goto (-61), 0, 13, 0, 0, 0, []), (89, .return_, 0, 0, 0, 0, 0, [])]
noncomputable def fX3_leadParties_13 (N : Nat) : Nat → Nat → Int32 → Int32 → Wd → Option (Wd)
  | 0, _, _, _, _ => none
  | n + 1, q1, v2, v3, w =>
    if v3 < (gI w 8 q1 5) then
      (ldI w 35 q1 v3 8).bind fun x1 =>
      if x1 = (gI w 13 2 1) then
        (callW (pX4_isLed N q1 v3 v2) w).bind fun r2 =>
        if r2.1 = 0 then callW (fX3_leadParties_13 N n q1 v2 (v3 + (1 : Int32))) r2.2 else
        (ldI r2.2 36 q1 v3 8).bind fun x3 =>
        callW (fX3_leadParties_13 N n q1 v2 (v3 + (1 : Int32))) (setI (setI r2.2 7 0 3 ((gI r2.2 7 0 3) + x3)) 7 0 4 ((gI (setI r2.2 7 0 3 ((gI r2.2 7 0 3) + x3)) 7 0 4) + (1 : Int32)))
      else
      callW (fX3_leadParties_13 N n q1 v2 (v3 + (1 : Int32))) w
    else
    some w
noncomputable def pX3_leadParties (N : Nat) (w : Wd) : Option (Wd) :=
  (callW (pX9_knownByAny N 2 (gI w 13 2 1)) w).bind fun r1 =>
  callW (fX3_leadParties_13 N N (gR w 13 2 0) r1.1 (0 : Int32)) r1.2
noncomputable def mX3_leadParties (N : Nat) (as : List AV) (w : Wd) : Option (Wd) := xS1 7 as fun t => xN1 t (callW (pX3_leadParties N) w)
set_option maxRecDepth 100000 in
set_option maxHeartbeats 4000000 in
theorem kX3_leadParties : TK cX3_leadParties RX3 4 tX3_leadParties := ⟨by decide +kernel, wok_of [686, 518, 686, 686, 522, 285, 297, 686, 522, 691, 300, 691, 693, 693] (by decide +kernel) (by decide +kernel)⟩
set_option maxRecDepth 100000 in
set_option maxHeartbeats 4000000 in
theorem sX3_leadParties_13 {N : Nat} {X : XT} (G : GX X cX3_leadParties RX3) (hn : xnL X = 4) (hC : CRs X tX3_leadParties (oF [(mX9_knownByAny N), (mX4_isLed N)]) (oF []) (oF [])) {r : Wd} (hr : RTV X cX3_leadParties r)  : ∀ (n : Nat) (q1 : Nat) (v2 : Int32) (v3 : Int32) (w : Wd), fX3_leadParties_13 N n q1 v2 v3 w = some r → WW X (pcAt tX3_leadParties 13) [some (.inr (.inr (7, 0))), some (.inr (.inr (8, q1))), some (.inl v2), some (.inl v3)] [] w := by
  intro n
  induction n with
  | zero => intro q1 v2 v3 w h; cases h
  | succ n ih =>
    intro q1 v2 v3 w h
    refine run_sound (r := r) (X := X) (cc := cX3_leadParties) (own := RX3) (tab := tX3_leadParties) G (by rw [hn]; exact kX3_leadParties) (oI := (oF [(mX9_knownByAny N), (mX4_isLed N)])) (oL := (oF [])) (oV := (oF [])) (rI := (fun _ _ => none)) (rL := (fun _ _ => none)) (rV := (fun w => some w))
      (K := (fun j ls st w => if j = 13 then (lgR ls 1 fun kk q1 => if kk = 8 then lgI ls 2 fun v2 => lgI ls 3 fun v3 => st0 st (callW (fX3_leadParties_13 N n q1 v2 v3) w) else none) else none)) (fun _ _ _ _ hx => by cases hx) (fun _ _ _ _ hx => by cases hx) (fun w pc ls hx hd => hr w pc ls (Option.some.inj hx) hd) hC (fun ls => lsb [some (.inr (.inr (7, 0))), none, none, none] 0 ls) (keepsP_of rfl) ?_ 50 13 [some (.inr (.inr (7, 0))), some (.inr (.inr (8, q1))), some (.inl v2), some (.inl v3)] [] w ?_ h
    · intro j ls st w hfx h
      obtain ⟨e0, -⟩ : _ = _ ∧ True := hfx
      try dsimp only at h
      by_cases hj : j = 13
      · subst hj
        rw [if_pos rfl] at h
        obtain ⟨kk1, q1, e1, h_1⟩ := lgR_some h
        obtain ⟨rfl, h_2⟩ := if_some _ h_1
        obtain ⟨v2, e2, h_3⟩ := lgI_some h_2
        obtain ⟨v3, e3, h_4⟩ := lgI_some h_3
        obtain ⟨rfl, h_5⟩ := st0_some h_4
        clear h h_1 h_2 h_3 h_4
        have h := h_5
        try rw [callW_eq] at h
        exact WW.le (a := [some (.inr (.inr (7, 0))), some (.inr (.inr (8, q1))), some (.inl v2), some (.inl v3)]) (by rw [hn]; rfl) (show _ = _ ∧ _ = _ ∧ _ = _ ∧ _ = _ ∧ True from ⟨e0, e1, e2, e3, trivial⟩) (ih q1 v2 v3 w h)
      rw [if_neg hj] at h
      cases h
    · exact (show _ = _ ∧ True from ⟨rfl, trivial⟩)
set_option maxRecDepth 100000 in
set_option maxHeartbeats 4000000 in
theorem crX3_leadParties {N : Nat} {X : XT} (G : GX X cX3_leadParties RX3) (hR : xR X = rmL 4) : CRs X tX3_leadParties (oF [(mX9_knownByAny N), (mX4_isLed N)]) (oF []) (oF []) := by
  have hl : tX3_leadParties.filter isInv = [(19, .invokevirtual 131, 0, 0, 2, 0, 0, []), (52, .invokevirtual 140, 0, 1, 3, 0, 0, [])] := rfl
  intro e he
  rw [hl] at he
  simp only [List.mem_cons, List.not_mem_nil, or_false] at he
  rcases he with rfl | rfl
  · exact crI_V (idx := 131) G (by decide +kernel) (MX9_knownByAny N) (cw_of (ps := [1413, 1268, 1269, 158, 1270]) (by decide +kernel) (by decide +kernel)) ⟨by decide +kernel, by decide +kernel, by decide +kernel⟩ (by unfold rmOk; rw [hR]; exact ⟨by decide, by decide⟩)
  · exact crI_V (idx := 140) G (by decide +kernel) (MX4_isLed N) (cw_of (ps := [1414, 1239, 1240, 149, 1241]) (by decide +kernel) (by decide +kernel)) ⟨by decide +kernel, by decide +kernel, by decide +kernel⟩ (by unfold rmOk; rw [hR]; exact ⟨by decide, by decide⟩)
set_option maxRecDepth 100000 in
set_option maxHeartbeats 4000000 in
theorem MX3_leadParties (N : Nat) : SndV yX3_leadParties cX3_leadParties 4 none 4 1 true (mX3_leadParties N) := by
  refine SndV.of tX3_leadParties (by decide +kernel) rfl rfl ?_ ?_
  · intro as w x h
    obtain ⟨t1, rfl, h_1⟩ := xS1_some h
    obtain ⟨rfl, h_2⟩ := xN1_some h_1
    clear h h_1
    have h := h_2
    rw [callW_eq] at h
    exact ⟨fun _ => ⟨_, _, _, rfl, rfl, _, rfl, rfl⟩, rfl, Nat.le_of_ble_eq_true rfl⟩
  · intro X G hn hR as w r h hr
    have hC := crX3_leadParties (N := N) G hR
    obtain ⟨t1, rfl, h_1⟩ := xS1_some h
    obtain ⟨rfl, h_2⟩ := xN1_some h_1
    clear h h_1
    have h := h_2
    rw [callW_eq] at h
    refine run_sound (r := r) (X := X) (cc := cX3_leadParties) (own := RX3) (tab := tX3_leadParties) G (by rw [hn]; exact kX3_leadParties) (oI := (oF [(mX9_knownByAny N), (mX4_isLed N)])) (oL := (oF [])) (oV := (oF [])) (rI := (fun _ _ => none)) (rL := (fun _ _ => none)) (rV := (fun w => some w))
      (K := (fun j ls st w => if j = 13 then (lgR ls 1 fun kk q1 => if kk = 8 then lgI ls 2 fun v2 => lgI ls 3 fun v3 => st0 st (callW (fX3_leadParties_13 N N q1 v2 v3) w) else none) else none)) (fun _ _ _ _ hx => by cases hx) (fun _ _ _ _ hx => by cases hx) (fun w pc ls hx hd => hr w pc ls (Option.some.inj hx) hd) hC (fun ls => lsb [some (.inr (.inr (7, 0))), none, none, none] 0 ls) (keepsP_of rfl) ?_ 50 0 [some (.inr (.inr (7, 0))), none, none, none] [] w ?_ h
    · intro j ls st w hfx h
      obtain ⟨e0, -⟩ : _ = _ ∧ True := hfx
      try dsimp only at h
      by_cases hj : j = 13
      · subst hj
        rw [if_pos rfl] at h
        obtain ⟨kk1, q1, e1, h_1⟩ := lgR_some h
        obtain ⟨rfl, h_2⟩ := if_some _ h_1
        obtain ⟨v2, e2, h_3⟩ := lgI_some h_2
        obtain ⟨v3, e3, h_4⟩ := lgI_some h_3
        obtain ⟨rfl, h_5⟩ := st0_some h_4
        clear h h_1 h_2 h_3 h_4
        have h := h_5
        try rw [callW_eq] at h
        exact WW.le (a := [some (.inr (.inr (7, 0))), some (.inr (.inr (8, q1))), some (.inl v2), some (.inl v3)]) (by rw [hn]; rfl) (show _ = _ ∧ _ = _ ∧ _ = _ ∧ _ = _ ∧ True from ⟨e0, e1, e2, e3, trivial⟩) (sX3_leadParties_13 G hn hC hr N q1 v2 v3 w h)
      rw [if_neg hj] at h
      cases h
    · exact (show _ = _ ∧ True from ⟨rfl, trivial⟩)
-- MoorGuides$Stand.isSpoilt(II)Z
def tX9_isSpoilt : List EN := [
  (0, .iconst 0, 0, 0, 0, 0, 0, []), (1, .istore_n 3, 0, 0, 0, 0, 0, []), (2, .iload_n 3, 3, 0, 0, 0, 0, []), (3, .aload_n 0, 0, 0, 0, 0, 0, []),
  (4, .getfield 39, 0, 9, 0, 0, 0, []), (7, .getfield 59, 0, 4, 4, 0, 0, []), (10, .getfield 99, 0, 6, 0, 0, 0, []), (13, .if_icmp .ge 43, 0, 30, 0, 0, 0, []),
  (16, .iload_n 3, 0, 0, 0, 0, 0, []), (17, .iload_n 1, 0, 0, 0, 0, 0, []), (18, .if_icmp .eq 32, 0, 28, 0, 0, 0, []), (21, .aload_n 0, 0, 0, 0, 0, 0, []),
  (22, .getfield 20, 0, 9, 6, 0, 0, []), (25, .iload_n 3, 0, 0, 0, 0, 0, []), (26, .iaload, 0, 0, 0, 0, 0, []), (27, .iconst (-1), 0, 0, 0, (-1), 0, []),
  (28, .if_icmp .eq 22, 0, 28, 0, 0, 0, []), (31, .aload_n 0, 0, 0, 0, 0, 0, []), (32, .getfield 39, 0, 9, 0, 0, 0, []), (35, .iload_n 2, 0, 0, 0, 0, 0, []),
  (36, .aload_n 0, 0, 0, 0, 0, 0, []), (37, .getfield 20, 0, 9, 6, 0, 0, []), (40, .iload_n 3, 0, 0, 0, 0, 0, []), (41, .iaload, 0, 0, 0, 0, 0, []),
  (42, .invokevirtual 176, 0, 0, 3, 0, 0, []), (45, .ifCond .eq 5, 0, 28, 0, 0, 0, []), (48, .iconst 1, 0, 0, 0, 1, 0, []), (49, .ireturn, 0, 0, 0, 0, 0, []),
  (50, .iinc 3 1, 0, 0, 0, 1, 0, []), (53, .goto (-51), 0, 2, 0, 0, 0, []), (56, .iconst 0, 0, 0, 0, 0, 0, []), (57, .ireturn, 0, 0, 0, 0, 0, [])]
noncomputable def fX9_isSpoilt_2 (N : Nat) (i0 : Nat) (a1 : Int32) (a2 : Int32) : Nat → Int32 → Wd → Option (Int32 × Wd)
  | 0, _, _ => none
  | n + 1, v3, w =>
    if v3 < (gI w 10 (gR w 13 i0 0) 0) then
      if v3 = a1 then callW (fX9_isSpoilt_2 N i0 a1 a2 n (v3 + (1 : Int32))) w else
      (ldI w 63 i0 v3 6).bind fun x1 =>
      if x1 = (-1 : Int32) then callW (fX9_isSpoilt_2 N i0 a1 a2 n (v3 + (1 : Int32))) w else
      (ldI w 63 i0 v3 6).bind fun x2 =>
      (callW (pX4_isNear N (gR w 13 i0 0) a2 x2) w).bind fun r3 =>
      if r3.1 = 0 then callW (fX9_isSpoilt_2 N i0 a1 a2 n (v3 + (1 : Int32))) r3.2 else
      some ((1 : Int32), r3.2)
    else
    some ((0 : Int32), w)
noncomputable def pX9_isSpoilt (N : Nat) (i0 : Nat) (a1 : Int32) (a2 : Int32) (w : Wd) : Option (Int32 × Wd) :=
  callW (fX9_isSpoilt_2 N i0 a1 a2 N (0 : Int32)) w
noncomputable def mX9_isSpoilt (N : Nat) (as : List AV) (w : Wd) : Option (Int32 × Wd) := xR1 13 as fun i0 t => xI1 t fun a1 t => xI1 t fun a2 t => xN1 t (callW (pX9_isSpoilt N i0 a1 a2) w)
set_option maxRecDepth 100000 in
set_option maxHeartbeats 4000000 in
theorem kX9_isSpoilt : TK cX9_isSpoilt RX9 4 tX9_isSpoilt := ⟨by decide +kernel, wok_of [516, 279, 199, 535, 516, 535] (by decide +kernel) (by decide +kernel)⟩
set_option maxRecDepth 100000 in
set_option maxHeartbeats 4000000 in
theorem sX9_isSpoilt_2 {N : Nat} {X : XT} (G : GX X cX9_isSpoilt RX9) (hn : xnL X = 4) (hC : CRs X tX9_isSpoilt (oF [(mX4_isNear N)]) (oF []) (oF [])) {r : Int32 × Wd} (hr : RTZ X cX9_isSpoilt r) (i0 : Nat) (a1 : Int32) (a2 : Int32) : ∀ (n : Nat) (v3 : Int32) (w : Wd), fX9_isSpoilt_2 N i0 a1 a2 n v3 w = some r → WW X (pcAt tX9_isSpoilt 2) [some (.inr (.inr (13, i0))), some (.inl a1), some (.inl a2), some (.inl v3)] [] w := by
  intro n
  induction n with
  | zero => intro v3 w h; cases h
  | succ n ih =>
    intro v3 w h
    refine run_sound (r := r) (X := X) (cc := cX9_isSpoilt) (own := RX9) (tab := tX9_isSpoilt) G (by rw [hn]; exact kX9_isSpoilt) (oI := (oF [(mX4_isNear N)])) (oL := (oF [])) (oV := (oF [])) (rI := retZ) (rL := (fun _ _ => none)) (rV := (fun _ => none))
      (K := (fun j ls st w => if j = 2 then (lgI ls 3 fun v3 => st0 st (callW (fX9_isSpoilt_2 N i0 a1 a2 n v3) w)) else none)) hr (fun _ _ _ _ hx => by cases hx) (fun _ _ _ hx => by cases hx) hC (fun ls => lsb [some (.inr (.inr (13, i0))), some (.inl a1), some (.inl a2), none] 0 ls) (keepsP_of rfl) ?_ 34 2 [some (.inr (.inr (13, i0))), some (.inl a1), some (.inl a2), some (.inl v3)] [] w ?_ h
    · intro j ls st w hfx h
      obtain ⟨e0, e1, e2, -⟩ : _ = _ ∧ _ = _ ∧ _ = _ ∧ True := hfx
      try dsimp only at h
      by_cases hj : j = 2
      · subst hj
        rw [if_pos rfl] at h
        obtain ⟨v3, e3, h_1⟩ := lgI_some h
        obtain ⟨rfl, h_2⟩ := st0_some h_1
        clear h h_1
        have h := h_2
        try rw [callW_eq] at h
        exact WW.le (a := [some (.inr (.inr (13, i0))), some (.inl a1), some (.inl a2), some (.inl v3)]) (by rw [hn]; rfl) (show _ = _ ∧ _ = _ ∧ _ = _ ∧ _ = _ ∧ True from ⟨e0, e1, e2, e3, trivial⟩) (ih v3 w h)
      rw [if_neg hj] at h
      cases h
    · exact (show _ = _ ∧ _ = _ ∧ _ = _ ∧ True from ⟨rfl, rfl, rfl, trivial⟩)
set_option maxRecDepth 100000 in
set_option maxHeartbeats 4000000 in
theorem crX9_isSpoilt {N : Nat} {X : XT} (G : GX X cX9_isSpoilt RX9) (hR : xR X = rmL 3) : CRs X tX9_isSpoilt (oF [(mX4_isNear N)]) (oF []) (oF []) := by
  have hl : tX9_isSpoilt.filter isInv = [(42, .invokevirtual 176, 0, 0, 3, 0, 0, [])] := rfl
  intro e he
  rw [hl] at he
  simp only [List.mem_cons, List.not_mem_nil, or_false] at he
  rcases he with rfl
  · exact crI_V (idx := 176) G (by decide +kernel) (MX4_isNear N) (cw_of (ps := [1148, 1149, 1150, 149, 1151]) (by decide +kernel) (by decide +kernel)) ⟨by decide +kernel, by decide +kernel, by decide +kernel⟩ (by unfold rmOk; rw [hR]; exact ⟨by decide, by decide⟩)
set_option maxRecDepth 100000 in
set_option maxHeartbeats 4000000 in
theorem MX9_isSpoilt (N : Nat) : SndI yX9_isSpoilt cX9_isSpoilt 4 (some .boolean) 3 3 true (mX9_isSpoilt N) := by
  refine SndI.ofZ tX9_isSpoilt (by decide +kernel) rfl rfl ?_ ?_
  · intro as w x h
    obtain ⟨i0, t1, rfl, h_1⟩ := xR1_some h
    obtain ⟨a1, t2, rfl, h_2⟩ := xI1_some h_1
    obtain ⟨a2, t3, rfl, h_3⟩ := xI1_some h_2
    obtain ⟨rfl, h_4⟩ := xN1_some h_3
    clear h h_1 h_2 h_3
    have h := h_4
    rw [callW_eq] at h
    exact ⟨fun _ => ⟨_, _, _, rfl, rfl, _, rfl, rfl⟩, rfl, Nat.le_of_ble_eq_true rfl⟩
  · intro X G hn hR as w r h hr
    have hC := crX9_isSpoilt (N := N) G hR
    obtain ⟨i0, t1, rfl, h_1⟩ := xR1_some h
    obtain ⟨a1, t2, rfl, h_2⟩ := xI1_some h_1
    obtain ⟨a2, t3, rfl, h_3⟩ := xI1_some h_2
    obtain ⟨rfl, h_4⟩ := xN1_some h_3
    clear h h_1 h_2 h_3
    have h := h_4
    rw [callW_eq] at h
    refine run_sound (r := r) (X := X) (cc := cX9_isSpoilt) (own := RX9) (tab := tX9_isSpoilt) G (by rw [hn]; exact kX9_isSpoilt) (oI := (oF [(mX4_isNear N)])) (oL := (oF [])) (oV := (oF [])) (rI := retZ) (rL := (fun _ _ => none)) (rV := (fun _ => none))
      (K := (fun j ls st w => if j = 2 then (lgI ls 3 fun v3 => st0 st (callW (fX9_isSpoilt_2 N i0 a1 a2 N v3) w)) else none)) hr (fun _ _ _ _ hx => by cases hx) (fun _ _ _ hx => by cases hx) hC (fun ls => lsb [some (.inr (.inr (13, i0))), some (.inl a1), some (.inl a2), none] 0 ls) (keepsP_of rfl) ?_ 34 0 [some (.inr (.inr (13, i0))), some (.inl a1), some (.inl a2), none] [] w ?_ h
    · intro j ls st w hfx h
      obtain ⟨e0, e1, e2, -⟩ : _ = _ ∧ _ = _ ∧ _ = _ ∧ True := hfx
      try dsimp only at h
      by_cases hj : j = 2
      · subst hj
        rw [if_pos rfl] at h
        obtain ⟨v3, e3, h_1⟩ := lgI_some h
        obtain ⟨rfl, h_2⟩ := st0_some h_1
        clear h h_1
        have h := h_2
        try rw [callW_eq] at h
        exact WW.le (a := [some (.inr (.inr (13, i0))), some (.inl a1), some (.inl a2), some (.inl v3)]) (by rw [hn]; rfl) (show _ = _ ∧ _ = _ ∧ _ = _ ∧ _ = _ ∧ True from ⟨e0, e1, e2, e3, trivial⟩) (sX9_isSpoilt_2 G hn hC hr i0 a1 a2 N v3 w h)
      rw [if_neg hj] at h
      cases h
    · exact (show _ = _ ∧ _ = _ ∧ _ = _ ∧ True from ⟨rfl, rfl, rfl, trivial⟩)
-- MoorGuides$Stand.spend(II)V
def tX9_spend : List EN := [
  (0, .aload_n 0, 0, 0, 0, 0, 0, []), (1, .aload_n 0, 0, 0, 0, 0, 0, []), (2, .getfield 52, 0, 9, 2, 0, 0, []), (5, .ldc2_w 165, 0, 0, 0, 0, 1103515245, []),
  (8, .lmul, 0, 0, 0, 0, 0, []), (9, .ldc2_w 167, 0, 0, 0, 0, 12345, []), (12, .ladd, 0, 0, 0, 0, 0, []), (13, .ldc2_w 169, 0, 0, 0, 0, 2147483647, []),
  (16, .land, 0, 0, 0, 0, 0, []), (17, .putfield 52, 0, 9, 2, 0, 0, []), (20, .aload_n 0, 0, 0, 0, 0, 0, []), (21, .iload_n 1, 0, 0, 0, 0, 0, []),
  (22, .iload_n 2, 0, 0, 0, 0, 0, []), (23, .invokevirtual 111, 0, 0, 3, 0, 0, []), (26, .istore_n 3, 0, 0, 0, 0, 0, []), (27, .aload_n 0, 0, 0, 0, 0, 0, []),
  (28, .getfield 52, 0, 9, 2, 0, 0, []), (31, .ldc2_w 171, 0, 0, 0, 0, 65536, []), (34, .ldiv, 0, 0, 0, 0, 0, []), (35, .ldc2_w 147, 0, 0, 0, 0, 100, []),
  (38, .lrem, 0, 0, 0, 0, 0, []), (39, .aload_n 0, 0, 0, 0, 0, 0, []), (40, .iload_n 1, 0, 0, 0, 0, 0, []), (41, .iload_n 2, 0, 0, 0, 0, 0, []),
  (42, .aload_n 0, 0, 0, 0, 0, 0, []), (43, .getfield 43, 0, 9, 1, 0, 0, []), (46, .iload_n 3, 0, 0, 0, 0, 0, []), (47, .aload_n 0, 0, 0, 0, 0, 0, []),
  (48, .getfield 9, 0, 9, 4, 0, 0, []), (51, .iload_n 1, 0, 0, 0, 0, 0, []), (52, .iaload, 0, 0, 0, 0, 0, []), (53, .invokevirtual 114, 0, 1, 6, 0, 0, []),
  (56, .i2l, 0, 0, 0, 0, 0, []), (57, .lcmp, 0, 0, 0, 0, 0, []), (58, .ifCond .lt 16, 0, 44, 0, 0, 0, []), (61, .aload_n 0, 0, 0, 0, 0, 0, []),
  (62, .dup, 0, 0, 0, 0, 0, []), (63, .getfield 56, 0, 9, 3, 0, 0, []), (66, .iconst 1, 0, 0, 0, 1, 0, []), (67, .iload_n 1, 0, 0, 0, 0, 0, []),
  (68, .ishl, 0, 0, 0, 0, 0, []), (69, .ior, 0, 0, 0, 0, 0, []), (70, .putfield 56, 0, 9, 3, 0, 0, []), (73, .return_, 0, 0, 0, 0, 0, []),
  (74, .aload_n 0, 0, 0, 0, 0, 0, []), (75, .getfield 9, 0, 9, 4, 0, 0, []), (78, .iload_n 1, 0, 0, 0, 0, 0, []), (79, .dup2, 0, 0, 0, 0, 0, []),
  (80, .iaload, 0, 0, 0, 0, 0, []), (81, .iconst 1, 0, 0, 0, 1, 0, []), (82, .iadd, 0, 0, 0, 0, 0, []), (83, .iastore, 0, 0, 0, 0, 0, []),
  (84, .aload_n 0, 0, 0, 0, 0, 0, []), (85, .iload_n 1, 0, 0, 0, 0, 0, []), (86, .iload_n 2, 0, 0, 0, 0, 0, []), (87, .invokevirtual 173, 0, 2, 3, 0, 0, []),
  (90, .ifCond .ne 15, 0, 65, 0, 0, 0, []), (93, .aload_n 0, 0, 0, 0, 0, 0, []), (94, .getfield 17, 0, 9, 5, 0, 0, []), (97, .iload_n 1, 0, 0, 0, 0, 0, []),
  (98, .aaload, 0, 0, 0, 0, 0, []), (99, .iload_n 2, 0, 0, 0, 0, 0, []), (100, .aload_n 0, 0, 0, 0, 0, 0, []), (101, .getfield 43, 0, 9, 1, 0, 0, []),
  (104, .iastore, 0, 0, 0, 0, 0, []), (105, .return_, 0, 0, 0, 0, 0, [])]
noncomputable def pX9_spend (N : Nat) (i0 : Nat) (a1 : Int32) (a2 : Int32) (w : Wd) : Option (Wd) :=
  (callW (pX9_aroundTonight N i0 a1 a2) (setL w 13 i0 2 ((((gL w 13 i0 2) * (1103515245 : Int64)) + (12345 : Int64)) &&& (2147483647 : Int64)))).bind fun r1 =>
  (ldI r1.2 60 i0 a1 6).bind fun x2 =>
  (callW (pX9_chanceOn N i0 a1 a2 (gI r1.2 13 i0 1) r1.1 x2) r1.2).bind fun r3 =>
  if (lg_cmp (((gL r1.2 13 i0 2) / (65536 : Int64)) - ((gL r1.2 13 i0 2) / (65536 : Int64)) / (100 : Int64) * (100 : Int64)) r3.1.toInt64) < 0 then
    (ldI r3.2 60 i0 a1 6).bind fun x4 =>
    (stI r3.2 60 i0 a1 6 (x4 + (1 : Int32))).bind fun w5 =>
    (callW (pX9_isSpoilt N i0 a1 a2) w5).bind fun r6 =>
    if r6.1 = 0 then
      (ldR a1 6 i0).bind fun q7 =>
      (stI r6.2 62 q7 a2 8 (gI r6.2 13 i0 1)).bind fun w8 =>
      some w8
    else
    some r6.2
  else
  some (setI r3.2 13 i0 3 ((gI r3.2 13 i0 3) ||| ((1 : Int32) <<< (a1 &&& (31 : Int32)))))
noncomputable def mX9_spend (N : Nat) (as : List AV) (w : Wd) : Option (Wd) := xR1 13 as fun i0 t => xI1 t fun a1 t => xI1 t fun a2 t => xN1 t (callW (pX9_spend N i0 a1 a2) w)
set_option maxRecDepth 100000 in
set_option maxHeartbeats 4000000 in
theorem kX9_spend : TK cX9_spend RX9 4 tX9_spend := ⟨by decide +kernel, wok_of [525, 1140, 1141, 1142, 525, 525, 1143, 1107, 521, 530, 527, 527, 530, 534, 521] (by decide +kernel) (by decide +kernel)⟩
set_option maxRecDepth 100000 in
set_option maxHeartbeats 4000000 in
theorem crX9_spend {N : Nat} {X : XT} (G : GX X cX9_spend RX9) (hR : xR X = rmL 5) : CRs X tX9_spend (oF [(mX9_aroundTonight N), (mX9_chanceOn N), (mX9_isSpoilt N)]) (oF []) (oF []) := by
  have hl : tX9_spend.filter isInv = [(23, .invokevirtual 111, 0, 0, 3, 0, 0, []), (53, .invokevirtual 114, 0, 1, 6, 0, 0, []), (87, .invokevirtual 173, 0, 2, 3, 0, 0, [])] := rfl
  intro e he
  rw [hl] at he
  simp only [List.mem_cons, List.not_mem_nil, or_false] at he
  rcases he with rfl | rfl | rfl
  · exact crI_V (idx := 111) G (by decide +kernel) (MX9_aroundTonight N) (cw_of (ps := [1066, 1068, 36, 158, 1069]) (by decide +kernel) (by decide +kernel)) ⟨by decide +kernel, by decide +kernel, by decide +kernel⟩ (by unfold rmOk; rw [hR]; exact ⟨by decide, by decide⟩)
  · exact crI_V (idx := 114) G (by decide +kernel) (MX9_chanceOn N) (cw_of (ps := [1076, 1077, 1078, 158, 1079]) (by decide +kernel) (by decide +kernel)) ⟨by decide +kernel, by decide +kernel, by decide +kernel⟩ (by unfold rmOk; rw [hR]; exact ⟨by decide, by decide⟩)
  · exact crI_V (idx := 173) G (by decide +kernel) (MX9_isSpoilt N) (cw_of (ps := [1144, 1146, 40, 158, 1147]) (by decide +kernel) (by decide +kernel)) ⟨by decide +kernel, by decide +kernel, by decide +kernel⟩ (by unfold rmOk; rw [hR]; exact ⟨by decide, by decide⟩)
set_option maxRecDepth 100000 in
set_option maxHeartbeats 4000000 in
theorem MX9_spend (N : Nat) : SndV yX9_spend cX9_spend 4 none 5 3 true (mX9_spend N) := by
  refine SndV.of tX9_spend (by decide +kernel) rfl rfl ?_ ?_
  · intro as w x h
    obtain ⟨i0, t1, rfl, h_1⟩ := xR1_some h
    obtain ⟨a1, t2, rfl, h_2⟩ := xI1_some h_1
    obtain ⟨a2, t3, rfl, h_3⟩ := xI1_some h_2
    obtain ⟨rfl, h_4⟩ := xN1_some h_3
    clear h h_1 h_2 h_3
    have h := h_4
    rw [callW_eq] at h
    exact ⟨fun _ => ⟨_, _, _, rfl, rfl, _, rfl, rfl⟩, rfl, Nat.le_of_ble_eq_true rfl⟩
  · intro X G hn hR as w r h hr
    have hC := crX9_spend (N := N) G hR
    obtain ⟨i0, t1, rfl, h_1⟩ := xR1_some h
    obtain ⟨a1, t2, rfl, h_2⟩ := xI1_some h_1
    obtain ⟨a2, t3, rfl, h_3⟩ := xI1_some h_2
    obtain ⟨rfl, h_4⟩ := xN1_some h_3
    clear h h_1 h_2 h_3
    have h := h_4
    rw [callW_eq] at h
    refine run_sound (r := r) (X := X) (cc := cX9_spend) (own := RX9) (tab := tX9_spend) G (by rw [hn]; exact kX9_spend) (oI := (oF [(mX9_aroundTonight N), (mX9_chanceOn N), (mX9_isSpoilt N)])) (oL := (oF [])) (oV := (oF [])) (rI := (fun _ _ => none)) (rL := (fun _ _ => none)) (rV := (fun w => some w))
      (K := (fun j ls st w => none)) (fun _ _ _ _ hx => by cases hx) (fun _ _ _ _ hx => by cases hx) (fun w pc ls hx hd => hr w pc ls (Option.some.inj hx) hd) hC (fun ls => lsb [some (.inr (.inr (13, i0))), some (.inl a1), some (.inl a2), none] 0 ls) (keepsP_of rfl) ?_ 68 0 [some (.inr (.inr (13, i0))), some (.inl a1), some (.inl a2), none] [] w ?_ h
    · intro j ls st w hfx h
      obtain ⟨e0, e1, e2, -⟩ : _ = _ ∧ _ = _ ∧ _ = _ ∧ True := hfx
      try dsimp only at h
      cases h
    · exact (show _ = _ ∧ _ = _ ∧ _ = _ ∧ True from ⟨rfl, rfl, rfl, trivial⟩)
-- MoorGuides$Stand.goBy()V
def tX9_goBy : List EN := [
  (0, .iconst 0, 0, 0, 0, 0, 0, []), (1, .istore_n 1, 0, 0, 0, 0, 0, []), (2, .iload_n 1, 3, 0, 0, 0, 0, []), (3, .aload_n 0, 0, 0, 0, 0, 0, []),
  (4, .getfield 39, 0, 9, 0, 0, 0, []), (7, .getfield 59, 0, 4, 4, 0, 0, []), (10, .getfield 99, 0, 6, 0, 0, 0, []), (13, .if_icmp .ge 37, 0, 26, 0, 0, 0, []),
  (16, .aload_n 0, 0, 0, 0, 0, 0, []), (17, .getfield 20, 0, 9, 6, 0, 0, []), (20, .iload_n 1, 0, 0, 0, 0, 0, []), (21, .iaload, 0, 0, 0, 0, 0, []),
  (22, .istore_n 2, 0, 0, 0, 0, 0, []), (23, .iload_n 2, 0, 0, 0, 0, 0, []), (24, .ifCond .lt 20, 0, 24, 0, 0, 0, []), (27, .iload_n 2, 0, 0, 0, 0, 0, []),
  (28, .aload_n 0, 0, 0, 0, 0, 0, []), (29, .getfield 39, 0, 9, 0, 0, 0, []), (32, .getfield 96, 0, 4, 0, 0, 0, []), (35, .if_icmp .ge 9, 0, 24, 0, 0, 0, []),
  (38, .aload_n 0, 0, 0, 0, 0, 0, []), (39, .iload_n 1, 0, 0, 0, 0, 0, []), (40, .iload_n 2, 0, 0, 0, 0, 0, []), (41, .invokevirtual 158, 0, 0, 3, 0, 0, [(0, 0), (0, 0)]),
  (44, .iinc 1 1, 0, 0, 0, 1, 0, []), (47, .goto (-45), 0, 2, 0, 0, 0, []), (50, .aload_n 0, 27, 0, 0, 0, 0, []), (51, .invokevirtual 162, 0, 1, 1, 0, 0, [(0, 0), (0, 0)]),
  (54, .aload_n 0, 0, 0, 0, 0, 0, []), (55, .dup, 0, 0, 0, 0, 0, []), (56, .getfield 43, 0, 9, 1, 0, 0, []), (59, .iconst 1, 0, 0, 0, 1, 0, []),
  (60, .iadd, 0, 0, 0, 0, 0, []), (61, .putfield 43, 0, 9, 1, 0, 0, []), (64, .return_, 0, 0, 0, 0, 0, [])]
noncomputable def fX9_goBy_26 (N : Nat) (i0 : Nat) (w : Wd) : Option (Wd) :=
  (callW (pX9_loseNobody N i0) w).bind fun w1 =>
  some (setI w1 13 i0 1 ((gI w1 13 i0 1) + (1 : Int32)))
noncomputable def fX9_goBy_2 (N : Nat) (i0 : Nat) : Nat → (Wd → Option (Wd)) → Int32 → Wd → Option (Wd)
  | 0, _, _, _ => none
  | n + 1, k26, v1, w =>
    if v1 < (gI w 10 (gR w 13 i0 0) 0) then
      (ldI w 63 i0 v1 6).bind fun x1 =>
      if x1 < 0 then callW (fX9_goBy_2 N i0 n k26 (v1 + (1 : Int32))) w else
      if x1 < (gI w 8 (gR w 13 i0 0) 0) then
        (callW (pX9_spend N i0 v1 x1) w).bind fun w2 =>
        callW (fX9_goBy_2 N i0 n k26 (v1 + (1 : Int32))) w2
      else
      callW (fX9_goBy_2 N i0 n k26 (v1 + (1 : Int32))) w
    else
    k26 w
noncomputable def pX9_goBy (N : Nat) (i0 : Nat) (w : Wd) : Option (Wd) :=
  callW (fX9_goBy_2 N i0 N (fX9_goBy_26 N i0) (0 : Int32)) w
noncomputable def mX9_goBy (N : Nat) (as : List AV) (w : Wd) : Option (Wd) := xR1 13 as fun i0 t => xN1 t (callW (pX9_goBy N i0) w)
set_option maxRecDepth 100000 in
set_option maxHeartbeats 4000000 in
theorem kX9_goBy : TK cX9_goBy RX9 3 tX9_goBy := ⟨by decide +kernel, wok_of [516, 279, 199, 535, 516, 262, 521, 521] (by decide +kernel) (by decide +kernel)⟩
set_option maxRecDepth 100000 in
set_option maxHeartbeats 4000000 in
theorem sX9_goBy_26 {N : Nat} {X : XT} (G : GX X cX9_goBy RX9) (hn : xnL X = 3) (hC : CRs X tX9_goBy (oF []) (oF []) (oF [(mX9_spend N), (mX9_loseNobody N)])) {r : Wd} (hr : RTV X cX9_goBy r) (i0 : Nat) : ∀ (w : Wd), fX9_goBy_26 N i0 w = some r → WW X (pcAt tX9_goBy 26) [some (.inr (.inr (13, i0))), none, none] [] w := by
  intro w h
  refine run_sound (r := r) (X := X) (cc := cX9_goBy) (own := RX9) (tab := tX9_goBy) G (by rw [hn]; exact kX9_goBy) (oI := (oF [])) (oL := (oF [])) (oV := (oF [(mX9_spend N), (mX9_loseNobody N)])) (rI := (fun _ _ => none)) (rL := (fun _ _ => none)) (rV := (fun w => some w))
    (K := (fun j ls st w => none)) (fun _ _ _ _ hx => by cases hx) (fun _ _ _ _ hx => by cases hx) (fun w pc ls hx hd => hr w pc ls (Option.some.inj hx) hd) hC (fun ls => lsb [some (.inr (.inr (13, i0))), none, none] 0 ls) (keepsP_of rfl) ?_ 37 26 [some (.inr (.inr (13, i0))), none, none] [] w ?_ h
  · intro j ls st w hfx h
    obtain ⟨e0, -⟩ : _ = _ ∧ True := hfx
    try dsimp only at h
    cases h
  · exact (show _ = _ ∧ True from ⟨rfl, trivial⟩)
set_option maxRecDepth 100000 in
set_option maxHeartbeats 4000000 in
theorem sX9_goBy_2 {N : Nat} {X : XT} (G : GX X cX9_goBy RX9) (hn : xnL X = 3) (hC : CRs X tX9_goBy (oF []) (oF []) (oF [(mX9_spend N), (mX9_loseNobody N)])) {r : Wd} (hr : RTV X cX9_goBy r) (i0 : Nat) : ∀ (n : Nat) (k26 : Wd → Option (Wd)) (v1 : Int32) (w : Wd), fX9_goBy_2 N i0 n k26 v1 w = some r → (∀ (w : Wd), k26 w = some r → WW X (pcAt tX9_goBy 26) [some (.inr (.inr (13, i0))), none, none] [] w) → WW X (pcAt tX9_goBy 2) [some (.inr (.inr (13, i0))), some (.inl v1), none] [] w := by
  intro n
  induction n with
  | zero => intro k26 v1 w h h26; cases h
  | succ n ih =>
    intro k26 v1 w h h26
    refine run_sound (r := r) (X := X) (cc := cX9_goBy) (own := RX9) (tab := tX9_goBy) G (by rw [hn]; exact kX9_goBy) (oI := (oF [])) (oL := (oF [])) (oV := (oF [(mX9_spend N), (mX9_loseNobody N)])) (rI := (fun _ _ => none)) (rL := (fun _ _ => none)) (rV := (fun w => some w))
      (K := (fun j ls st w => if j = 2 then (lgI ls 1 fun v1 => st0 st (callW (fX9_goBy_2 N i0 n k26 v1) w)) else if j = 26 then (st0 st (k26 w)) else none)) (fun _ _ _ _ hx => by cases hx) (fun _ _ _ _ hx => by cases hx) (fun w pc ls hx hd => hr w pc ls (Option.some.inj hx) hd) hC (fun ls => lsb [some (.inr (.inr (13, i0))), none, none] 0 ls) (keepsP_of rfl) ?_ 37 2 [some (.inr (.inr (13, i0))), some (.inl v1), none] [] w ?_ h
    · intro j ls st w hfx h
      obtain ⟨e0, -⟩ : _ = _ ∧ True := hfx
      try dsimp only at h
      by_cases hj : j = 2
      · subst hj
        rw [if_pos rfl] at h
        obtain ⟨v1, e1, h_1⟩ := lgI_some h
        obtain ⟨rfl, h_2⟩ := st0_some h_1
        clear h h_1
        have h := h_2
        try rw [callW_eq] at h
        exact WW.le (a := [some (.inr (.inr (13, i0))), some (.inl v1), none]) (by rw [hn]; rfl) (show _ = _ ∧ _ = _ ∧ True from ⟨e0, e1, trivial⟩) (ih k26 v1 w h h26)
      rw [if_neg hj] at h
      by_cases hj : j = 26
      · subst hj
        rw [if_pos rfl] at h
        obtain ⟨rfl, h_1⟩ := st0_some h
        clear h
        have h := h_1
        try rw [callW_eq] at h
        exact WW.le (a := [some (.inr (.inr (13, i0))), none, none]) (by rw [hn]; rfl) (show _ = _ ∧ True from ⟨e0, trivial⟩) (h26 w h)
      rw [if_neg hj] at h
      cases h
    · exact (show _ = _ ∧ True from ⟨rfl, trivial⟩)
set_option maxRecDepth 100000 in
set_option maxHeartbeats 4000000 in
theorem crX9_goBy {N : Nat} {X : XT} (G : GX X cX9_goBy RX9) (hR : xR X = rmL 6) : CRs X tX9_goBy (oF []) (oF []) (oF [(mX9_spend N), (mX9_loseNobody N)]) := by
  have hl : tX9_goBy.filter isInv = [(41, .invokevirtual 158, 0, 0, 3, 0, 0, [(0, 0), (0, 0)]), (51, .invokevirtual 162, 0, 1, 1, 0, 0, [(0, 0), (0, 0)])] := rfl
  intro e he
  rw [hl] at he
  simp only [List.mem_cons, List.not_mem_nil, or_false] at he
  rcases he with rfl | rfl
  · exact crV_V (idx := 158) G (by decide +kernel) (MX9_spend N) (cw_of (ps := [1136, 1138, 39, 158, 1139]) (by decide +kernel) (by decide +kernel)) ⟨by decide +kernel, by decide +kernel, by decide +kernel⟩ (by unfold rmOk; rw [hR]; exact ⟨by decide, by decide⟩)
  · exact crV_V (idx := 162) G (by decide +kernel) (MX9_loseNobody N) (cw_of (ps := [1154, 1155, 1156, 158, 1157]) (by decide +kernel) (by decide +kernel)) ⟨by decide +kernel, by decide +kernel, by decide +kernel⟩ (by unfold rmOk; rw [hR]; exact ⟨by decide, by decide⟩)
set_option maxRecDepth 100000 in
set_option maxHeartbeats 4000000 in
theorem MX9_goBy (N : Nat) : SndV yX9_goBy cX9_goBy 3 none 6 1 true (mX9_goBy N) := by
  refine SndV.of tX9_goBy (by decide +kernel) rfl rfl ?_ ?_
  · intro as w x h
    obtain ⟨i0, t1, rfl, h_1⟩ := xR1_some h
    obtain ⟨rfl, h_2⟩ := xN1_some h_1
    clear h h_1
    have h := h_2
    rw [callW_eq] at h
    exact ⟨fun _ => ⟨_, _, _, rfl, rfl, _, rfl, rfl⟩, rfl, Nat.le_of_ble_eq_true rfl⟩
  · intro X G hn hR as w r h hr
    have hC := crX9_goBy (N := N) G hR
    obtain ⟨i0, t1, rfl, h_1⟩ := xR1_some h
    obtain ⟨rfl, h_2⟩ := xN1_some h_1
    clear h h_1
    have h := h_2
    rw [callW_eq] at h
    refine run_sound (r := r) (X := X) (cc := cX9_goBy) (own := RX9) (tab := tX9_goBy) G (by rw [hn]; exact kX9_goBy) (oI := (oF [])) (oL := (oF [])) (oV := (oF [(mX9_spend N), (mX9_loseNobody N)])) (rI := (fun _ _ => none)) (rL := (fun _ _ => none)) (rV := (fun w => some w))
      (K := (fun j ls st w => if j = 2 then (lgI ls 1 fun v1 => st0 st (callW (fX9_goBy_2 N i0 N (fX9_goBy_26 N i0) v1) w)) else none)) (fun _ _ _ _ hx => by cases hx) (fun _ _ _ _ hx => by cases hx) (fun w pc ls hx hd => hr w pc ls (Option.some.inj hx) hd) hC (fun ls => lsb [some (.inr (.inr (13, i0))), none, none] 0 ls) (keepsP_of rfl) ?_ 37 0 [some (.inr (.inr (13, i0))), none, none] [] w ?_ h
    · intro j ls st w hfx h
      obtain ⟨e0, -⟩ : _ = _ ∧ True := hfx
      try dsimp only at h
      by_cases hj : j = 2
      · subst hj
        rw [if_pos rfl] at h
        obtain ⟨v1, e1, h_1⟩ := lgI_some h
        obtain ⟨rfl, h_2⟩ := st0_some h_1
        clear h h_1
        have h := h_2
        try rw [callW_eq] at h
        exact WW.le (a := [some (.inr (.inr (13, i0))), some (.inl v1), none]) (by rw [hn]; rfl) (show _ = _ ∧ _ = _ ∧ True from ⟨e0, e1, trivial⟩) (sX9_goBy_2 G hn hC hr i0 N (fX9_goBy_26 N i0) v1 w h (fun w h => (sX9_goBy_26 G hn hC hr i0 w h)))
      rw [if_neg hj] at h
      cases h
    · exact (show _ = _ ∧ True from ⟨rfl, trivial⟩)
-- MoorGuides$Masters.play(LMoorGuides$Stand;III)V
def tX3_play : List EN := [
  (0, .aload_n 0, 0, 0, 0, 0, 0, []), (1, .getfield 14, 0, 3, 0, 0, 0, []), (4, .aload_n 1, 0, 0, 0, 0, 0, []), (5, .invokevirtual 98, 0, 0, 2, 0, 0, [(0, 0), (0, 0)]),
  (8, .aload_n 0, 0, 0, 0, 0, 0, []), (9, .getfield 14, 0, 3, 0, 0, 0, []), (12, .invokevirtual 102, 0, 1, 1, 0, 0, [(0, 0), (0, 0)]), (15, .aload_n 0, 0, 0, 0, 0, 0, []),
  (16, .getfield 14, 0, 3, 0, 0, 0, []), (19, .iload_n 3, 0, 0, 0, 0, 0, []), (20, .i2l, 0, 0, 0, 0, 0, []), (21, .putfield 105, 0, 9, 2, 0, 0, []),
  (24, .aload_n 0, 0, 0, 0, 0, 0, []), (25, .iconst 0, 0, 0, 0, 0, 0, []), (26, .putfield 109, 0, 3, 3, 0, 0, []), (29, .aload_n 0, 0, 0, 0, 0, 0, []),
  (30, .iconst 0, 0, 0, 0, 0, 0, []), (31, .putfield 112, 0, 3, 4, 0, 0, []), (34, .iconst 0, 0, 0, 0, 0, 0, []), (35, .istore 5, 0, 0, 0, 0, 0, []),
  (37, .iload 5, 21, 0, 0, 0, 0, []), (39, .iload 4, 0, 0, 0, 0, 0, []), (41, .if_icmp .ge 75, 0, 57, 0, 0, 0, []), (44, .aload_n 0, 0, 0, 0, 0, 0, []),
  (45, .invokevirtual 115, 0, 2, 1, 0, 0, [(0, 0), (0, 0)]), (48, .aload_n 0, 0, 0, 0, 0, 0, []), (49, .aload_n 0, 0, 0, 0, 0, 0, []), (50, .getfield 14, 0, 3, 0, 0, 0, []),
  (53, .iload_n 2, 0, 0, 0, 0, 0, []), (54, .invokevirtual 118, 0, 0, 3, 0, 0, []), (57, .ifCond .eq 46, 0, 52, 0, 0, 0, []), (60, .aload_n 0, 0, 0, 0, 0, 0, []),
  (61, .dup, 0, 0, 0, 0, 0, []), (62, .getfield 109, 0, 3, 3, 0, 0, []), (65, .aload_n 0, 0, 0, 0, 0, 0, []), (66, .getfield 14, 0, 3, 0, 0, 0, []),
  (69, .getfield 31, 0, 9, 0, 0, 0, []), (72, .getfield 35, 0, 4, 4, 0, 0, []), (75, .getfield 122, 0, 6, 3, 0, 0, []), (78, .aload_n 0, 0, 0, 0, 0, 0, []),
  (79, .getfield 20, 0, 3, 1, 0, 0, []), (82, .iaload, 0, 0, 0, 0, 0, []), (83, .isub, 0, 0, 0, 0, 0, []), (84, .putfield 109, 0, 3, 3, 0, 0, []),
  (87, .aload_n 0, 0, 0, 0, 0, 0, []), (88, .getfield 14, 0, 3, 0, 0, 0, []), (91, .getfield 125, 0, 9, 6, 0, 0, []), (94, .aload_n 0, 0, 0, 0, 0, 0, []),
  (95, .getfield 20, 0, 3, 1, 0, 0, []), (98, .aload_n 0, 0, 0, 0, 0, 0, []), (99, .getfield 24, 0, 3, 2, 0, 0, []), (102, .iastore, 0, 0, 0, 0, 0, []),
  (103, .aload_n 0, 0, 0, 0, 0, 0, []), (104, .getfield 14, 0, 3, 0, 0, 0, []), (107, .invokevirtual 128, 0, 3, 1, 0, 0, [(0, 0), (0, 0)]), (110, .iinc 5 1, 0, 0, 0, 1, 0, []),
  (113, .goto (-76), 0, 20, 0, 0, 0, []), (116, .return_, 0, 0, 0, 0, 0, [])]
noncomputable def fX3_play_20 (N : Nat) (a2 : Int32) (a4 : Int32) : Nat → Int32 → Wd → Option (Wd)
  | 0, _, _ => none
  | n + 1, v5, w =>
    if v5 < a4 then
      (callW (pX3_leadParties N) w).bind fun w1 =>
      (callW (pX3_choose N 2 a2) w1).bind fun r2 =>
      if r2.1 = 0 then
        (callW (pX9_goBy N 2) r2.2).bind fun w3 =>
        callW (fX3_play_20 N a2 a4 n (v5 + (1 : Int32))) w3
      else
      (ldI r2.2 50 (gR r2.2 13 2 0) (gI r2.2 7 0 1) 6).bind fun x4 =>
      (stI (setI r2.2 7 0 3 ((gI r2.2 7 0 3) - x4)) 63 2 (gI (setI r2.2 7 0 3 ((gI r2.2 7 0 3) - x4)) 7 0 1) 6 (gI (setI r2.2 7 0 3 ((gI r2.2 7 0 3) - x4)) 7 0 2)).bind fun w5 =>
      (callW (pX9_goBy N 2) w5).bind fun w6 =>
      callW (fX3_play_20 N a2 a4 n (v5 + (1 : Int32))) w6
    else
    some w
noncomputable def pX3_play (N : Nat) (i1 : Nat) (a2 : Int32) (a3 : Int32) (a4 : Int32) (w : Wd) : Option (Wd) :=
  (callW (pX9_copyFrom N 2 i1) w).bind fun w1 =>
  (callW (pX9_loseNobody N 2) w1).bind fun w2 =>
  callW (fX3_play_20 N a2 a4 N (0 : Int32)) (setI (setI (setL w2 13 2 2 a3.toInt64) 7 0 3 (0 : Int32)) 7 0 4 (0 : Int32))
noncomputable def mX3_play (N : Nat) (as : List AV) (w : Wd) : Option (Wd) := xS1 7 as fun t => xR1 13 t fun i1 t => xI1 t fun a2 t => xI1 t fun a3 t => xI1 t fun a4 t => xN1 t (callW (pX3_play N i1 a2 a3 a4) w)
set_option maxRecDepth 100000 in
set_option maxHeartbeats 4000000 in
theorem kX3_play : TK cX3_play RX3 6 tX3_play := ⟨by decide +kernel, wok_of [686, 686, 686, 526, 691, 693, 686, 691, 686, 518, 278, 207, 687, 691, 686, 536, 687, 689, 686] (by decide +kernel) (by decide +kernel)⟩
set_option maxRecDepth 100000 in
set_option maxHeartbeats 4000000 in
theorem sX3_play_20 {N : Nat} {X : XT} (G : GX X cX3_play RX3) (hn : xnL X = 6) (hC : CRs X tX3_play (oF [(mX3_choose N)]) (oF []) (oF [(mX9_copyFrom N), (mX9_loseNobody N), (mX3_leadParties N), (mX9_goBy N)])) {r : Wd} (hr : RTV X cX3_play r) (i1 : Nat) (a2 : Int32) (a3 : Int32) (a4 : Int32) : ∀ (n : Nat) (v5 : Int32) (w : Wd), fX3_play_20 N a2 a4 n v5 w = some r → WW X (pcAt tX3_play 20) [some (.inr (.inr (7, 0))), some (.inr (.inr (13, i1))), some (.inl a2), some (.inl a3), some (.inl a4), some (.inl v5)] [] w := by
  intro n
  induction n with
  | zero => intro v5 w h; cases h
  | succ n ih =>
    intro v5 w h
    refine run_sound (r := r) (X := X) (cc := cX3_play) (own := RX3) (tab := tX3_play) G (by rw [hn]; exact kX3_play) (oI := (oF [(mX3_choose N)])) (oL := (oF [])) (oV := (oF [(mX9_copyFrom N), (mX9_loseNobody N), (mX3_leadParties N), (mX9_goBy N)])) (rI := (fun _ _ => none)) (rL := (fun _ _ => none)) (rV := (fun w => some w))
      (K := (fun j ls st w => if j = 20 then (lgI ls 5 fun v5 => st0 st (callW (fX3_play_20 N a2 a4 n v5) w)) else none)) (fun _ _ _ _ hx => by cases hx) (fun _ _ _ _ hx => by cases hx) (fun w pc ls hx hd => hr w pc ls (Option.some.inj hx) hd) hC (fun ls => lsb [some (.inr (.inr (7, 0))), some (.inr (.inr (13, i1))), some (.inl a2), some (.inl a3), some (.inl a4), none] 0 ls) (keepsP_of rfl) ?_ 60 20 [some (.inr (.inr (7, 0))), some (.inr (.inr (13, i1))), some (.inl a2), some (.inl a3), some (.inl a4), some (.inl v5)] [] w ?_ h
    · intro j ls st w hfx h
      obtain ⟨e0, e1, e2, e3, e4, -⟩ : _ = _ ∧ _ = _ ∧ _ = _ ∧ _ = _ ∧ _ = _ ∧ True := hfx
      try dsimp only at h
      by_cases hj : j = 20
      · subst hj
        rw [if_pos rfl] at h
        obtain ⟨v5, e5, h_1⟩ := lgI_some h
        obtain ⟨rfl, h_2⟩ := st0_some h_1
        clear h h_1
        have h := h_2
        try rw [callW_eq] at h
        exact WW.le (a := [some (.inr (.inr (7, 0))), some (.inr (.inr (13, i1))), some (.inl a2), some (.inl a3), some (.inl a4), some (.inl v5)]) (by rw [hn]; rfl) (show _ = _ ∧ _ = _ ∧ _ = _ ∧ _ = _ ∧ _ = _ ∧ _ = _ ∧ True from ⟨e0, e1, e2, e3, e4, e5, trivial⟩) (ih v5 w h)
      rw [if_neg hj] at h
      cases h
    · exact (show _ = _ ∧ _ = _ ∧ _ = _ ∧ _ = _ ∧ _ = _ ∧ True from ⟨rfl, rfl, rfl, rfl, rfl, trivial⟩)
set_option maxRecDepth 100000 in
set_option maxHeartbeats 4000000 in
theorem crX3_play {N : Nat} {X : XT} (G : GX X cX3_play RX3) (hR : xR X = rmL 7) : CRs X tX3_play (oF [(mX3_choose N)]) (oF []) (oF [(mX9_copyFrom N), (mX9_loseNobody N), (mX3_leadParties N), (mX9_goBy N)]) := by
  have hl : tX3_play.filter isInv = [(5, .invokevirtual 98, 0, 0, 2, 0, 0, [(0, 0), (0, 0)]), (12, .invokevirtual 102, 0, 1, 1, 0, 0, [(0, 0), (0, 0)]), (45, .invokevirtual 115, 0, 2, 1, 0, 0, [(0, 0), (0, 0)]), (54, .invokevirtual 118, 0, 0, 3, 0, 0, []), (107, .invokevirtual 128, 0, 3, 1, 0, 0, [(0, 0), (0, 0)])] := rfl
  intro e he
  rw [hl] at he
  simp only [List.mem_cons, List.not_mem_nil, or_false] at he
  rcases he with rfl | rfl | rfl | rfl | rfl
  · exact crV_V (idx := 98) G (by decide +kernel) (MX9_copyFrom N) (cw_of (ps := [1403, 1404, 1405, 158, 1406]) (by decide +kernel) (by decide +kernel)) ⟨by decide +kernel, by decide +kernel, by decide +kernel⟩ (by unfold rmOk; rw [hR]; exact ⟨by decide, by decide⟩)
  · exact crV_V (idx := 102) G (by decide +kernel) (MX9_loseNobody N) (cw_of (ps := [1408, 1155, 1156, 158, 1157]) (by decide +kernel) (by decide +kernel)) ⟨by decide +kernel, by decide +kernel, by decide +kernel⟩ (by unfold rmOk; rw [hR]; exact ⟨by decide, by decide⟩)
  · exact crV_V (idx := 115) G (by decide +kernel) (MX3_leadParties N) (cw_of (ps := [1409, 1411, 67, 162, 1412]) (by decide +kernel) (by decide +kernel)) ⟨by decide +kernel, by decide +kernel, by decide +kernel⟩ (by unfold rmOk; rw [hR]; exact ⟨by decide, by decide⟩)
  · exact crI_V (idx := 118) G (by decide +kernel) (MX3_choose N) (cw_of (ps := [1415, 1380, 1381, 162, 1382]) (by decide +kernel) (by decide +kernel)) ⟨by decide +kernel, by decide +kernel, by decide +kernel⟩ (by unfold rmOk; rw [hR]; exact ⟨by decide, by decide⟩)
  · exact crV_V (idx := 128) G (by decide +kernel) (MX9_goBy N) (cw_of (ps := [1416, 1133, 1134, 158, 1135]) (by decide +kernel) (by decide +kernel)) ⟨by decide +kernel, by decide +kernel, by decide +kernel⟩ (by unfold rmOk; rw [hR]; exact ⟨by decide, by decide⟩)
set_option maxRecDepth 100000 in
set_option maxHeartbeats 4000000 in
theorem MX3_play (N : Nat) : SndV yX3_play cX3_play 6 none 7 5 true (mX3_play N) := by
  refine SndV.of tX3_play (by decide +kernel) rfl rfl ?_ ?_
  · intro as w x h
    obtain ⟨t1, rfl, h_1⟩ := xS1_some h
    obtain ⟨i1, t2, rfl, h_2⟩ := xR1_some h_1
    obtain ⟨a2, t3, rfl, h_3⟩ := xI1_some h_2
    obtain ⟨a3, t4, rfl, h_4⟩ := xI1_some h_3
    obtain ⟨a4, t5, rfl, h_5⟩ := xI1_some h_4
    obtain ⟨rfl, h_6⟩ := xN1_some h_5
    clear h h_1 h_2 h_3 h_4 h_5
    have h := h_6
    rw [callW_eq] at h
    exact ⟨fun _ => ⟨_, _, _, rfl, rfl, _, rfl, rfl⟩, rfl, Nat.le_of_ble_eq_true rfl⟩
  · intro X G hn hR as w r h hr
    have hC := crX3_play (N := N) G hR
    obtain ⟨t1, rfl, h_1⟩ := xS1_some h
    obtain ⟨i1, t2, rfl, h_2⟩ := xR1_some h_1
    obtain ⟨a2, t3, rfl, h_3⟩ := xI1_some h_2
    obtain ⟨a3, t4, rfl, h_4⟩ := xI1_some h_3
    obtain ⟨a4, t5, rfl, h_5⟩ := xI1_some h_4
    obtain ⟨rfl, h_6⟩ := xN1_some h_5
    clear h h_1 h_2 h_3 h_4 h_5
    have h := h_6
    rw [callW_eq] at h
    refine run_sound (r := r) (X := X) (cc := cX3_play) (own := RX3) (tab := tX3_play) G (by rw [hn]; exact kX3_play) (oI := (oF [(mX3_choose N)])) (oL := (oF [])) (oV := (oF [(mX9_copyFrom N), (mX9_loseNobody N), (mX3_leadParties N), (mX9_goBy N)])) (rI := (fun _ _ => none)) (rL := (fun _ _ => none)) (rV := (fun w => some w))
      (K := (fun j ls st w => if j = 20 then (lgI ls 5 fun v5 => st0 st (callW (fX3_play_20 N a2 a4 N v5) w)) else none)) (fun _ _ _ _ hx => by cases hx) (fun _ _ _ _ hx => by cases hx) (fun w pc ls hx hd => hr w pc ls (Option.some.inj hx) hd) hC (fun ls => lsb [some (.inr (.inr (7, 0))), some (.inr (.inr (13, i1))), some (.inl a2), some (.inl a3), some (.inl a4), none] 0 ls) (keepsP_of rfl) ?_ 60 0 [some (.inr (.inr (7, 0))), some (.inr (.inr (13, i1))), some (.inl a2), some (.inl a3), some (.inl a4), none] [] w ?_ h
    · intro j ls st w hfx h
      obtain ⟨e0, e1, e2, e3, e4, -⟩ : _ = _ ∧ _ = _ ∧ _ = _ ∧ _ = _ ∧ _ = _ ∧ True := hfx
      try dsimp only at h
      by_cases hj : j = 20
      · subst hj
        rw [if_pos rfl] at h
        obtain ⟨v5, e5, h_1⟩ := lgI_some h
        obtain ⟨rfl, h_2⟩ := st0_some h_1
        clear h h_1
        have h := h_2
        try rw [callW_eq] at h
        exact WW.le (a := [some (.inr (.inr (7, 0))), some (.inr (.inr (13, i1))), some (.inl a2), some (.inl a3), some (.inl a4), some (.inl v5)]) (by rw [hn]; rfl) (show _ = _ ∧ _ = _ ∧ _ = _ ∧ _ = _ ∧ _ = _ ∧ _ = _ ∧ True from ⟨e0, e1, e2, e3, e4, e5, trivial⟩) (sX3_play_20 G hn hC hr i1 a2 a3 a4 N v5 w h)
      rw [if_neg hj] at h
      cases h
    · exact (show _ = _ ∧ _ = _ ∧ _ = _ ∧ _ = _ ∧ _ = _ ∧ True from ⟨rfl, rfl, rfl, rfl, rfl, trivial⟩)
-- MoorGuides$Masters.newlyGone(LMoorGuides$Stand;)I
def tX3_newlyGone : List EN := [
  (0, .aload_n 0, 0, 0, 0, 0, 0, []), (1, .getfield 14, 0, 3, 0, 0, 0, []), (4, .getfield 146, 0, 9, 3, 0, 0, []), (7, .aload_n 1, 0, 0, 0, 0, 0, []),
  (8, .getfield 146, 0, 9, 3, 0, 0, []), (11, .iconst (-1), 0, 0, 0, (-1), 0, []), (12, .ixor, 0, 0, 0, 0, 0, []), (13, .iand, 0, 0, 0, 0, 0, []),
  (14, .invokestatic 68, 0, 0, 1, 0, 0, []), (17, .ireturn, 0, 0, 0, 0, 0, [])]
noncomputable def pX3_newlyGone (N : Nat) (i1 : Nat) (w : Wd) : Option (Int32 × Wd) :=
  (callW (pJ6_bitCount_0f7a4 N ((gI w 13 2 3) &&& ((gI w 13 i1 3) ^^^ (-1 : Int32)))) w).bind fun r1 =>
  some (r1.1, r1.2)
noncomputable def mX3_newlyGone (N : Nat) (as : List AV) (w : Wd) : Option (Int32 × Wd) := xS1 7 as fun t => xR1 13 t fun i1 t => xN1 t (callW (pX3_newlyGone N i1) w)
set_option maxRecDepth 100000 in
set_option maxHeartbeats 4000000 in
theorem kX3_newlyGone : TK cX3_newlyGone RX3 2 tX3_newlyGone := ⟨by decide +kernel, wok_of [686, 528, 528] (by decide +kernel) (by decide +kernel)⟩
set_option maxRecDepth 100000 in
set_option maxHeartbeats 4000000 in
theorem crX3_newlyGone {N : Nat} {X : XT} (G : GX X cX3_newlyGone RX3) (hR : xR X = rmL 2) : CRs X tX3_newlyGone (oF [(mJ6_bitCount_0f7a4 N)]) (oF []) (oF []) := by
  have hl : tX3_newlyGone.filter isInv = [(14, .invokestatic 68, 0, 0, 1, 0, 0, [])] := rfl
  intro e he
  rw [hl] at he
  simp only [List.mem_cons, List.not_mem_nil, or_false] at he
  rcases he with rfl
  · exact crI_S (idx := 68) G (by decide +kernel) (MJ6_bitCount_0f7a4 N) (cw_of (ps := [1387, 1071, 171, 1072]) (by decide +kernel) (by decide +kernel)) ⟨by decide +kernel, by decide +kernel, by decide +kernel⟩ (by unfold rmOk; rw [hR]; exact ⟨by decide, by decide⟩)
set_option maxRecDepth 100000 in
set_option maxHeartbeats 4000000 in
theorem MX3_newlyGone (N : Nat) : SndI yX3_newlyGone cX3_newlyGone 2 (some .int) 2 2 true (mX3_newlyGone N) := by
  refine SndI.of tX3_newlyGone (by decide +kernel) rfl rfl ?_ ?_
  · intro as w x h
    obtain ⟨t1, rfl, h_1⟩ := xS1_some h
    obtain ⟨i1, t2, rfl, h_2⟩ := xR1_some h_1
    obtain ⟨rfl, h_3⟩ := xN1_some h_2
    clear h h_1 h_2
    have h := h_3
    rw [callW_eq] at h
    exact ⟨fun _ => ⟨_, _, _, rfl, rfl, _, rfl, rfl⟩, rfl, Nat.le_of_ble_eq_true rfl⟩
  · intro X G hn hR as w r h hr
    have hC := crX3_newlyGone (N := N) G hR
    obtain ⟨t1, rfl, h_1⟩ := xS1_some h
    obtain ⟨i1, t2, rfl, h_2⟩ := xR1_some h_1
    obtain ⟨rfl, h_3⟩ := xN1_some h_2
    clear h h_1 h_2
    have h := h_3
    rw [callW_eq] at h
    refine run_sound (r := r) (X := X) (cc := cX3_newlyGone) (own := RX3) (tab := tX3_newlyGone) G (by rw [hn]; exact kX3_newlyGone) (oI := (oF [(mJ6_bitCount_0f7a4 N)])) (oL := (oF [])) (oV := (oF [])) (rI := (fun x w => some (x, w))) (rL := (fun _ _ => none)) (rV := (fun _ => none))
      (K := (fun j ls st w => none)) (fun x w pc ls hx hd => hr x w pc ls (Option.some.inj hx) hd) (fun _ _ _ _ hx => by cases hx) (fun _ _ _ hx => by cases hx) hC (fun ls => lsb [some (.inr (.inr (7, 0))), some (.inr (.inr (13, i1)))] 0 ls) (keepsP_of rfl) ?_ 12 0 [some (.inr (.inr (7, 0))), some (.inr (.inr (13, i1)))] [] w ?_ h
    · intro j ls st w hfx h
      obtain ⟨e0, e1, -⟩ : _ = _ ∧ _ = _ ∧ True := hfx
      try dsimp only at h
      cases h
    · exact (show _ = _ ∧ _ = _ ∧ True from ⟨rfl, rfl, trivial⟩)

-- MoorGuides.led(II)I
def tX11_led : List EN := [
  (0, .aload_n 0, 0, 0, 0, 0, 0, []), (1, .iload_n 1, 0, 0, 0, 0, 0, []), (2, .invokevirtual 240, 0, 0, 2, 0, 0, []), (5, .ifCond .eq 12, 0, 9, 0, 0, 0, []),
  (8, .iload_n 2, 0, 0, 0, 0, 0, []), (9, .ifCond .lt 8, 0, 9, 0, 0, 0, []), (12, .iload_n 2, 0, 0, 0, 0, 0, []), (13, .iconst 1, 0, 0, 0, 1, 0, []),
  (14, .if_icmp .le 5, 0, 11, 0, 0, 0, []), (17, .iconst (-1), 0, 0, 0, (-1), 0, []), (18, .ireturn, 0, 0, 0, 0, 0, []), (19, .aload_n 0, 0, 0, 0, 0, 0, []),
  (20, .getfield 54, 0, 11, 11, 0, 0, []), (23, .iload_n 1, 0, 0, 0, 0, 0, []), (24, .invokevirtual 243, 0, 1, 2, 0, 0, []), (27, .ifCond .ne 6, 0, 18, 0, 0, 0, []),
  (30, .bipush (-2), 0, 0, 0, (-2), 0, []), (32, .ireturn, 0, 0, 0, 0, 0, []), (33, .iload_n 2, 0, 0, 0, 0, 0, []), (34, .ifCond .ne 13, 0, 24, 0, 0, 0, []),
  (37, .aload_n 0, 0, 0, 0, 0, 0, []), (38, .getfield 54, 0, 11, 11, 0, 0, []), (41, .getfield 246, 0, 2, 8, 0, 0, []), (44, .goto 10, 0, 27, 0, 0, 0, []),
  (47, .aload_n 0, 0, 0, 0, 0, 0, []), (48, .getfield 54, 0, 11, 11, 0, 0, []), (51, .getfield 249, 0, 2, 7, 0, 0, []), (54, .ireturn, 0, 0, 0, 0, 0, [])]
noncomputable def pX11_led (N : Nat) (a1 : Int32) (a2 : Int32) (w : Wd) : Option (Int32 × Wd) :=
  (callW (pX11_isParty N a1) w).bind fun r1 =>
  if r1.1 = 0 then some ((-1 : Int32), r1.2) else
  if a2 < 0 then some ((-1 : Int32), r1.2) else
  if (1 : Int32) < a2 then some ((-1 : Int32), r1.2) else
  (callW (pX2_find N a1) r1.2).bind fun r2 =>
  if r2.1 = 0 then some ((-2 : Int32), r2.2) else
  if a2 = 0 then some ((gI r2.2 6 0 8), r2.2) else
  some ((gI r2.2 6 0 7), r2.2)
noncomputable def mX11_led (N : Nat) (as : List AV) (w : Wd) : Option (Int32 × Wd) := xS1 15 as fun t => xI1 t fun a1 t => xI1 t fun a2 t => xN1 t (callW (pX11_led N a1 a2) w)
set_option maxRecDepth 100000 in
set_option maxHeartbeats 4000000 in
theorem kX11_led : TK cX11_led RX11 3 tX11_led := ⟨by decide +kernel, wok_of [741, 741, 585, 741, 583] (by decide +kernel) (by decide +kernel)⟩
set_option maxRecDepth 100000 in
set_option maxHeartbeats 4000000 in
theorem crX11_led {N : Nat} {X : XT} (G : GX X cX11_led RX11) (hR : xR X = rmL 6) : CRs X tX11_led (oF [(mX11_isParty N), (mX2_find N)]) (oF []) (oF []) := by
  have hl : tX11_led.filter isInv = [(2, .invokevirtual 240, 0, 0, 2, 0, 0, []), (24, .invokevirtual 243, 0, 1, 2, 0, 0, [])] := rfl
  intro e he
  rw [hl] at he
  simp only [List.mem_cons, List.not_mem_nil, or_false] at he
  rcases he with rfl | rfl
  · exact crI_V (idx := 240) G (by decide +kernel) (MX11_isParty N) (cw_of (ps := [1162, 1164, 41, 148, 1165]) (by decide +kernel) (by decide +kernel)) ⟨by decide +kernel, by decide +kernel, by decide +kernel⟩ (by unfold rmOk; rw [hR]; exact ⟨by decide, by decide⟩)
  · exact crI_V (idx := 243) G (by decide +kernel) (MX2_find N) (cw_of (ps := [1166, 1167, 1168, 159, 1169]) (by decide +kernel) (by decide +kernel)) ⟨by decide +kernel, by decide +kernel, by decide +kernel⟩ (by unfold rmOk; rw [hR]; exact ⟨by decide, by decide⟩)
set_option maxRecDepth 100000 in
set_option maxHeartbeats 4000000 in
theorem MX11_led (N : Nat) : SndI yX11_led cX11_led 3 (some .int) 6 3 true (mX11_led N) := by
  refine SndI.of tX11_led (by decide +kernel) rfl rfl ?_ ?_
  · intro as w x h
    obtain ⟨t1, rfl, h_1⟩ := xS1_some h
    obtain ⟨a1, t2, rfl, h_2⟩ := xI1_some h_1
    obtain ⟨a2, t3, rfl, h_3⟩ := xI1_some h_2
    obtain ⟨rfl, h_4⟩ := xN1_some h_3
    clear h h_1 h_2 h_3
    have h := h_4
    rw [callW_eq] at h
    exact ⟨fun _ => ⟨_, _, _, rfl, rfl, _, rfl, rfl⟩, rfl, Nat.le_of_ble_eq_true rfl⟩
  · intro X G hn hR as w r h hr
    have hC := crX11_led (N := N) G hR
    obtain ⟨t1, rfl, h_1⟩ := xS1_some h
    obtain ⟨a1, t2, rfl, h_2⟩ := xI1_some h_1
    obtain ⟨a2, t3, rfl, h_3⟩ := xI1_some h_2
    obtain ⟨rfl, h_4⟩ := xN1_some h_3
    clear h h_1 h_2 h_3
    have h := h_4
    rw [callW_eq] at h
    refine run_sound (r := r) (X := X) (cc := cX11_led) (own := RX11) (tab := tX11_led) G (by rw [hn]; exact kX11_led) (oI := (oF [(mX11_isParty N), (mX2_find N)])) (oL := (oF [])) (oV := (oF [])) (rI := (fun x w => some (x, w))) (rL := (fun _ _ => none)) (rV := (fun _ => none))
      (K := (fun j ls st w => none)) (fun x w pc ls hx hd => hr x w pc ls (Option.some.inj hx) hd) (fun _ _ _ _ hx => by cases hx) (fun _ _ _ hx => by cases hx) hC (fun ls => lsb [some (.inr (.inr (15, 0))), some (.inl a1), some (.inl a2)] 0 ls) (keepsP_of rfl) ?_ 30 0 [some (.inr (.inr (15, 0))), some (.inl a1), some (.inl a2)] [] w ?_ h
    · intro j ls st w hfx h
      obtain ⟨e0, e1, e2, -⟩ : _ = _ ∧ _ = _ ∧ _ = _ ∧ True := hfx
      try dsimp only at h
      cases h
    · exact (show _ = _ ∧ _ = _ ∧ _ = _ ∧ True from ⟨rfl, rfl, rfl, trivial⟩)
-- MoorGuides.way(III)I
def tX11_way : List EN := [
  (0, .aload_n 0, 0, 0, 0, 0, 0, []), (1, .iload_n 1, 0, 0, 0, 0, 0, []), (2, .invokevirtual 240, 0, 0, 2, 0, 0, []), (5, .ifCond .eq 16, 0, 11, 0, 0, 0, []),
  (8, .iload_n 2, 0, 0, 0, 0, 0, []), (9, .ifCond .lt 12, 0, 11, 0, 0, 0, []), (12, .iload_n 3, 0, 0, 0, 0, 0, []), (13, .ifCond .lt 8, 0, 11, 0, 0, 0, []),
  (16, .iload_n 3, 0, 0, 0, 0, 0, []), (17, .iconst 1, 0, 0, 0, 1, 0, []), (18, .if_icmp .le 5, 0, 13, 0, 0, 0, []), (21, .iconst (-1), 0, 0, 0, (-1), 0, []),
  (22, .ireturn, 0, 0, 0, 0, 0, []), (23, .aload_n 0, 0, 0, 0, 0, 0, []), (24, .getfield 54, 0, 11, 11, 0, 0, []), (27, .iload_n 1, 0, 0, 0, 0, 0, []),
  (28, .invokevirtual 243, 0, 1, 2, 0, 0, []), (31, .ifCond .eq 14, 0, 23, 0, 0, 0, []), (34, .iload_n 2, 0, 0, 0, 0, 0, []), (35, .aload_n 0, 0, 0, 0, 0, 0, []),
  (36, .getfield 54, 0, 11, 11, 0, 0, []), (39, .getfield 249, 0, 2, 7, 0, 0, []), (42, .if_icmp .lt 6, 0, 25, 0, 0, 0, []), (45, .bipush (-2), 0, 0, 0, (-2), 0, []),
  (47, .ireturn, 0, 0, 0, 0, 0, []), (48, .iload_n 3, 0, 0, 0, 0, 0, []), (49, .ifCond .ne 15, 0, 33, 0, 0, 0, []), (52, .aload_n 0, 0, 0, 0, 0, 0, []),
  (53, .getfield 54, 0, 11, 11, 0, 0, []), (56, .getfield 252, 0, 2, 5, 0, 0, []), (59, .iload_n 2, 0, 0, 0, 0, 0, []), (60, .iaload, 0, 0, 0, 0, 0, []),
  (61, .goto 12, 0, 38, 0, 0, 0, []), (64, .aload_n 0, 0, 0, 0, 0, 0, []), (65, .getfield 54, 0, 11, 11, 0, 0, []), (68, .getfield 254, 0, 2, 6, 0, 0, []),
  (71, .iload_n 2, 0, 0, 0, 0, 0, []), (72, .iaload, 0, 0, 0, 0, 0, []), (73, .ireturn, 0, 0, 0, 0, 0, [])]
noncomputable def pX11_way (N : Nat) (a1 : Int32) (a2 : Int32) (a3 : Int32) (w : Wd) : Option (Int32 × Wd) :=
  (callW (pX11_isParty N a1) w).bind fun r1 =>
  if r1.1 = 0 then some ((-1 : Int32), r1.2) else
  if a2 < 0 then some ((-1 : Int32), r1.2) else
  if a3 < 0 then some ((-1 : Int32), r1.2) else
  if (1 : Int32) < a3 then some ((-1 : Int32), r1.2) else
  (callW (pX2_find N a1) r1.2).bind fun r2 =>
  if r2.1 = 0 then some ((-2 : Int32), r2.2) else
  if a2 < (gI r2.2 6 0 7) then
    if a3 = 0 then
      (ldI r2.2 28 0 a2 8).bind fun x3 =>
      some (x3, r2.2)
    else
    (ldI r2.2 29 0 a2 8).bind fun x4 =>
    some (x4, r2.2)
  else
  some ((-2 : Int32), r2.2)
noncomputable def mX11_way (N : Nat) (as : List AV) (w : Wd) : Option (Int32 × Wd) := xS1 15 as fun t => xI1 t fun a1 t => xI1 t fun a2 t => xI1 t fun a3 t => xN1 t (callW (pX11_way N a1 a2 a3) w)
set_option maxRecDepth 100000 in
set_option maxHeartbeats 4000000 in
theorem kX11_way : TK cX11_way RX11 4 tX11_way := ⟨by decide +kernel, wok_of [741, 741, 583, 741, 579, 741, 581] (by decide +kernel) (by decide +kernel)⟩
set_option maxRecDepth 100000 in
set_option maxHeartbeats 4000000 in
theorem crX11_way {N : Nat} {X : XT} (G : GX X cX11_way RX11) (hR : xR X = rmL 6) : CRs X tX11_way (oF [(mX11_isParty N), (mX2_find N)]) (oF []) (oF []) := by
  have hl : tX11_way.filter isInv = [(2, .invokevirtual 240, 0, 0, 2, 0, 0, []), (28, .invokevirtual 243, 0, 1, 2, 0, 0, [])] := rfl
  intro e he
  rw [hl] at he
  simp only [List.mem_cons, List.not_mem_nil, or_false] at he
  rcases he with rfl | rfl
  · exact crI_V (idx := 240) G (by decide +kernel) (MX11_isParty N) (cw_of (ps := [1162, 1164, 41, 148, 1165]) (by decide +kernel) (by decide +kernel)) ⟨by decide +kernel, by decide +kernel, by decide +kernel⟩ (by unfold rmOk; rw [hR]; exact ⟨by decide, by decide⟩)
  · exact crI_V (idx := 243) G (by decide +kernel) (MX2_find N) (cw_of (ps := [1166, 1167, 1168, 159, 1169]) (by decide +kernel) (by decide +kernel)) ⟨by decide +kernel, by decide +kernel, by decide +kernel⟩ (by unfold rmOk; rw [hR]; exact ⟨by decide, by decide⟩)
set_option maxRecDepth 100000 in
set_option maxHeartbeats 4000000 in
theorem MX11_way (N : Nat) : SndI yX11_way cX11_way 4 (some .int) 6 4 true (mX11_way N) := by
  refine SndI.of tX11_way (by decide +kernel) rfl rfl ?_ ?_
  · intro as w x h
    obtain ⟨t1, rfl, h_1⟩ := xS1_some h
    obtain ⟨a1, t2, rfl, h_2⟩ := xI1_some h_1
    obtain ⟨a2, t3, rfl, h_3⟩ := xI1_some h_2
    obtain ⟨a3, t4, rfl, h_4⟩ := xI1_some h_3
    obtain ⟨rfl, h_5⟩ := xN1_some h_4
    clear h h_1 h_2 h_3 h_4
    have h := h_5
    rw [callW_eq] at h
    exact ⟨fun _ => ⟨_, _, _, rfl, rfl, _, rfl, rfl⟩, rfl, Nat.le_of_ble_eq_true rfl⟩
  · intro X G hn hR as w r h hr
    have hC := crX11_way (N := N) G hR
    obtain ⟨t1, rfl, h_1⟩ := xS1_some h
    obtain ⟨a1, t2, rfl, h_2⟩ := xI1_some h_1
    obtain ⟨a2, t3, rfl, h_3⟩ := xI1_some h_2
    obtain ⟨a3, t4, rfl, h_4⟩ := xI1_some h_3
    obtain ⟨rfl, h_5⟩ := xN1_some h_4
    clear h h_1 h_2 h_3 h_4
    have h := h_5
    rw [callW_eq] at h
    refine run_sound (r := r) (X := X) (cc := cX11_way) (own := RX11) (tab := tX11_way) G (by rw [hn]; exact kX11_way) (oI := (oF [(mX11_isParty N), (mX2_find N)])) (oL := (oF [])) (oV := (oF [])) (rI := (fun x w => some (x, w))) (rL := (fun _ _ => none)) (rV := (fun _ => none))
      (K := (fun j ls st w => none)) (fun x w pc ls hx hd => hr x w pc ls (Option.some.inj hx) hd) (fun _ _ _ _ hx => by cases hx) (fun _ _ _ hx => by cases hx) hC (fun ls => lsb [some (.inr (.inr (15, 0))), some (.inl a1), some (.inl a2), some (.inl a3)] 0 ls) (keepsP_of rfl) ?_ 41 0 [some (.inr (.inr (15, 0))), some (.inl a1), some (.inl a2), some (.inl a3)] [] w ?_ h
    · intro j ls st w hfx h
      obtain ⟨e0, e1, e2, e3, -⟩ : _ = _ ∧ _ = _ ∧ _ = _ ∧ _ = _ ∧ True := hfx
      try dsimp only at h
      cases h
    · exact (show _ = _ ∧ _ = _ ∧ _ = _ ∧ _ = _ ∧ True from ⟨rfl, rfl, rfl, rfl, trivial⟩)
-- MoorGuides.round(II)I
def tX11_round : List EN := [
  (0, .aload_n 0, 0, 0, 0, 0, 0, []), (1, .iload_n 1, 0, 0, 0, 0, 0, []), (2, .invokevirtual 240, 0, 0, 2, 0, 0, []), (5, .ifCond .eq 11, 0, 8, 0, 0, 0, []),
  (8, .aload_n 0, 0, 0, 0, 0, 0, []), (9, .iload_n 2, 0, 0, 0, 0, 0, []), (10, .invokevirtual 185, 0, 1, 2, 0, 0, []), (13, .ifCond .ne 5, 0, 10, 0, 0, 0, []),
  (16, .iconst (-1), 0, 0, 0, (-1), 0, []), (17, .ireturn, 0, 0, 0, 0, 0, []), (18, .aload_n 0, 0, 0, 0, 0, 0, []), (19, .getfield 16, 0, 11, 2, 0, 0, []),
  (22, .getfield 257, 0, 4, 6, 0, 0, []), (25, .iload_n 1, 0, 0, 0, 0, 0, []), (26, .iaload, 0, 0, 0, 0, 0, []), (27, .istore_n 3, 0, 0, 0, 0, 0, []),
  (28, .aload_n 0, 0, 0, 0, 0, 0, []), (29, .getfield 16, 0, 11, 2, 0, 0, []), (32, .getfield 260, 0, 4, 7, 0, 0, []), (35, .iload_n 1, 0, 0, 0, 0, 0, []),
  (36, .iaload, 0, 0, 0, 0, 0, []), (37, .istore 4, 0, 0, 0, 0, 0, []), (39, .aload_n 0, 0, 0, 0, 0, 0, []), (40, .getfield 16, 0, 11, 2, 0, 0, []),
  (43, .iload_n 3, 0, 0, 0, 0, 0, []), (44, .iload 4, 0, 0, 0, 0, 0, []), (46, .aload_n 0, 0, 0, 0, 0, 0, []), (47, .getfield 16, 0, 11, 2, 0, 0, []),
  (50, .invokevirtual 204, 0, 2, 1, 0, 0, []), (53, .invokevirtual 208, 0, 3, 4, 0, 0, []), (56, .istore 5, 0, 0, 0, 0, 0, []), (58, .iload 5, 0, 0, 0, 0, 0, []),
  (60, .ifCond .lt 14, 0, 39, 0, 0, 0, []), (63, .iload_n 2, 0, 0, 0, 0, 0, []), (64, .iload_n 3, 0, 0, 0, 0, 0, []), (65, .if_icmp .eq 9, 0, 39, 0, 0, 0, []),
  (68, .iload_n 2, 0, 0, 0, 0, 0, []), (69, .iload 4, 0, 0, 0, 0, 0, []), (71, .if_icmp .ne 5, 0, 41, 0, 0, 0, []), (74, .iconst (-1), 0, 0, 0, (-1), 0, []),
  (75, .ireturn, 0, 0, 0, 0, 0, []), (76, .aload_n 0, 0, 0, 0, 0, 0, []), (77, .getfield 16, 0, 11, 2, 0, 0, []), (80, .iload_n 3, 0, 0, 0, 0, 0, []),
  (81, .iload 4, 0, 0, 0, 0, 0, []), (83, .aload_n 0, 0, 0, 0, 0, 0, []), (84, .getfield 16, 0, 11, 2, 0, 0, []), (87, .invokevirtual 204, 0, 2, 1, 0, 0, []),
  (90, .iconst 1, 0, 0, 0, 1, 0, []), (91, .iload_n 2, 0, 0, 0, 0, 0, []), (92, .ishl, 0, 0, 0, 0, 0, []), (93, .iconst (-1), 0, 0, 0, (-1), 0, []),
  (94, .ixor, 0, 0, 0, 0, 0, []), (95, .iand, 0, 0, 0, 0, 0, []), (96, .invokevirtual 208, 0, 3, 4, 0, 0, []), (99, .istore 6, 0, 0, 0, 0, 0, []),
  (101, .iload 6, 0, 0, 0, 0, 0, []), (103, .ifCond .ge 8, 0, 60, 0, 0, 0, []), (106, .bipush (-2), 0, 0, 0, (-2), 0, []), (108, .goto 8, 0, 63, 0, 0, 0, []),
  (111, .iload 6, 0, 0, 0, 0, 0, []), (113, .iload 5, 0, 0, 0, 0, 0, []), (115, .isub, 0, 0, 0, 0, 0, []), (116, .ireturn, 0, 0, 0, 0, 0, [])]
noncomputable def pX11_round (N : Nat) (a1 : Int32) (a2 : Int32) (w : Wd) : Option (Int32 × Wd) :=
  (callW (pX11_isParty N a1) w).bind fun r1 =>
  if r1.1 = 0 then some ((-1 : Int32), r1.2) else
  (callW (pX11_isPart N a2) r1.2).bind fun r2 =>
  if r2.1 = 0 then some ((-1 : Int32), r2.2) else
  (ldI r2.2 33 (gR r2.2 15 0 2) a1 8).bind fun x3 =>
  (ldI r2.2 34 (gR r2.2 15 0 2) a1 8).bind fun x4 =>
  (callW (pX4_allParts N (gR r2.2 15 0 2)) r2.2).bind fun r5 =>
  (callW (pX4_distance N (gR r2.2 15 0 2) x3 x4 r5.1) r5.2).bind fun r6 =>
  if r6.1 < 0 then some ((-1 : Int32), r6.2) else
  if a2 = x3 then some ((-1 : Int32), r6.2) else
  if a2 = x4 then some ((-1 : Int32), r6.2) else
  (callW (pX4_allParts N (gR r6.2 15 0 2)) r6.2).bind fun r7 =>
  (callW (pX4_distance N (gR r6.2 15 0 2) x3 x4 (r7.1 &&& (((1 : Int32) <<< (a2 &&& (31 : Int32))) ^^^ (-1 : Int32)))) r7.2).bind fun r8 =>
  if r8.1 < 0 then some ((-2 : Int32), r8.2) else
  some ((r8.1 - r6.1), r8.2)
noncomputable def mX11_round (N : Nat) (as : List AV) (w : Wd) : Option (Int32 × Wd) := xS1 15 as fun t => xI1 t fun a1 t => xI1 t fun a2 t => xN1 t (callW (pX11_round N a1 a2) w)
set_option maxRecDepth 100000 in
set_option maxHeartbeats 4000000 in
theorem kX11_round : TK cX11_round RX11 7 tX11_round := ⟨by decide +kernel, wok_of [732, 290, 732, 293, 732, 732, 732, 732] (by decide +kernel) (by decide +kernel)⟩
set_option maxRecDepth 100000 in
set_option maxHeartbeats 4000000 in
theorem crX11_round {N : Nat} {X : XT} (G : GX X cX11_round RX11) (hR : xR X = rmL 2) : CRs X tX11_round (oF [(mX11_isParty N), (mX11_isPart N), (mX4_allParts N), (mX4_distance N)]) (oF []) (oF []) := by
  have hl : tX11_round.filter isInv = [(2, .invokevirtual 240, 0, 0, 2, 0, 0, []), (10, .invokevirtual 185, 0, 1, 2, 0, 0, []), (50, .invokevirtual 204, 0, 2, 1, 0, 0, []), (53, .invokevirtual 208, 0, 3, 4, 0, 0, []), (87, .invokevirtual 204, 0, 2, 1, 0, 0, []), (96, .invokevirtual 208, 0, 3, 4, 0, 0, [])] := rfl
  intro e he
  rw [hl] at he
  simp only [List.mem_cons, List.not_mem_nil, or_false] at he
  rcases he with rfl | rfl | rfl | rfl | rfl | rfl
  · exact crI_V (idx := 240) G (by decide +kernel) (MX11_isParty N) (cw_of (ps := [1162, 1164, 41, 148, 1165]) (by decide +kernel) (by decide +kernel)) ⟨by decide +kernel, by decide +kernel, by decide +kernel⟩ (by unfold rmOk; rw [hR]; exact ⟨by decide, by decide⟩)
  · exact crI_V (idx := 185) G (by decide +kernel) (MX11_isPart N) (cw_of (ps := [1009, 1011, 33, 148, 1012]) (by decide +kernel) (by decide +kernel)) ⟨by decide +kernel, by decide +kernel, by decide +kernel⟩ (by unfold rmOk; rw [hR]; exact ⟨by decide, by decide⟩)
  · exact crI_V (idx := 204) G (by decide +kernel) (MX4_allParts N) (cw_of (ps := [1045, 1046, 1047, 149, 1048]) (by decide +kernel) (by decide +kernel)) ⟨by decide +kernel, by decide +kernel, by decide +kernel⟩ (by unfold rmOk; rw [hR]; exact ⟨by decide, by decide⟩)
  · exact crI_V (idx := 208) G (by decide +kernel) (MX4_distance N) (cw_of (ps := [1049, 1050, 1051, 149, 1052]) (by decide +kernel) (by decide +kernel)) ⟨by decide +kernel, by decide +kernel, by decide +kernel⟩ (by unfold rmOk; rw [hR]; exact ⟨by decide, by decide⟩)
  · exact crI_V (idx := 204) G (by decide +kernel) (MX4_allParts N) (cw_of (ps := [1045, 1046, 1047, 149, 1048]) (by decide +kernel) (by decide +kernel)) ⟨by decide +kernel, by decide +kernel, by decide +kernel⟩ (by unfold rmOk; rw [hR]; exact ⟨by decide, by decide⟩)
  · exact crI_V (idx := 208) G (by decide +kernel) (MX4_distance N) (cw_of (ps := [1049, 1050, 1051, 149, 1052]) (by decide +kernel) (by decide +kernel)) ⟨by decide +kernel, by decide +kernel, by decide +kernel⟩ (by unfold rmOk; rw [hR]; exact ⟨by decide, by decide⟩)
set_option maxRecDepth 100000 in
set_option maxHeartbeats 4000000 in
theorem MX11_round (N : Nat) : SndI yX11_round cX11_round 7 (some .int) 2 3 true (mX11_round N) := by
  refine SndI.of tX11_round (by decide +kernel) rfl rfl ?_ ?_
  · intro as w x h
    obtain ⟨t1, rfl, h_1⟩ := xS1_some h
    obtain ⟨a1, t2, rfl, h_2⟩ := xI1_some h_1
    obtain ⟨a2, t3, rfl, h_3⟩ := xI1_some h_2
    obtain ⟨rfl, h_4⟩ := xN1_some h_3
    clear h h_1 h_2 h_3
    have h := h_4
    rw [callW_eq] at h
    exact ⟨fun _ => ⟨_, _, _, rfl, rfl, _, rfl, rfl⟩, rfl, Nat.le_of_ble_eq_true rfl⟩
  · intro X G hn hR as w r h hr
    have hC := crX11_round (N := N) G hR
    obtain ⟨t1, rfl, h_1⟩ := xS1_some h
    obtain ⟨a1, t2, rfl, h_2⟩ := xI1_some h_1
    obtain ⟨a2, t3, rfl, h_3⟩ := xI1_some h_2
    obtain ⟨rfl, h_4⟩ := xN1_some h_3
    clear h h_1 h_2 h_3
    have h := h_4
    rw [callW_eq] at h
    refine run_sound (r := r) (X := X) (cc := cX11_round) (own := RX11) (tab := tX11_round) G (by rw [hn]; exact kX11_round) (oI := (oF [(mX11_isParty N), (mX11_isPart N), (mX4_allParts N), (mX4_distance N)])) (oL := (oF [])) (oV := (oF [])) (rI := (fun x w => some (x, w))) (rL := (fun _ _ => none)) (rV := (fun _ => none))
      (K := (fun j ls st w => none)) (fun x w pc ls hx hd => hr x w pc ls (Option.some.inj hx) hd) (fun _ _ _ _ hx => by cases hx) (fun _ _ _ hx => by cases hx) hC (fun ls => lsb [some (.inr (.inr (15, 0))), some (.inl a1), some (.inl a2), none, none, none, none] 0 ls) (keepsP_of rfl) ?_ 66 0 [some (.inr (.inr (15, 0))), some (.inl a1), some (.inl a2), none, none, none, none] [] w ?_ h
    · intro j ls st w hfx h
      obtain ⟨e0, e1, e2, -⟩ : _ = _ ∧ _ = _ ∧ _ = _ ∧ True := hfx
      try dsimp only at h
      cases h
    · exact (show _ = _ ∧ _ = _ ∧ _ = _ ∧ True from ⟨rfl, rfl, rfl, trivial⟩)
-- MoorGuides.share(II)I
def tX11_share : List EN := [
  (0, .iload_n 1, 0, 0, 0, 0, 0, []), (1, .invokestatic 201, 0, 0, 1, 0, 0, []), (4, .ifCond .eq 16, 0, 10, 0, 0, 0, []), (7, .iload_n 2, 0, 0, 0, 0, 0, []),
  (8, .iconst (-1), 0, 0, 0, (-1), 0, []), (9, .if_icmp .eq 13, 0, 12, 0, 0, 0, []), (12, .aload_n 0, 0, 0, 0, 0, 0, []), (13, .iload_n 2, 0, 0, 0, 0, 0, []),
  (14, .invokevirtual 240, 0, 1, 2, 0, 0, []), (17, .ifCond .ne 5, 0, 12, 0, 0, 0, []), (20, .iconst (-1), 0, 0, 0, (-1), 0, []), (21, .ireturn, 0, 0, 0, 0, 0, []),
  (22, .aload_n 0, 13, 0, 0, 0, 0, []), (23, .getfield 61, 0, 11, 12, 0, 0, []), (26, .iload_n 1, 0, 0, 0, 0, 0, []), (27, .iconst (-1), 0, 0, 0, (-1), 0, []),
  (28, .invokevirtual 263, 0, 0, 3, 0, 0, [(0, 0), (0, 0)]), (31, .iload_n 2, 0, 0, 0, 0, 0, []), (32, .iconst (-1), 0, 0, 0, (-1), 0, []), (33, .if_icmp .ne 13, 0, 24, 0, 0, 0, []),
  (36, .aload_n 0, 0, 0, 0, 0, 0, []), (37, .getfield 61, 0, 11, 12, 0, 0, []), (40, .invokevirtual 265, 0, 2, 1, 0, 0, []), (43, .goto 12, 0, 29, 0, 0, 0, []),
  (46, .aload_n 0, 0, 0, 0, 0, 0, []), (47, .getfield 61, 0, 11, 12, 0, 0, []), (50, .getfield 268, 0, 8, 4, 0, 0, []), (53, .iload_n 2, 0, 0, 0, 0, 0, []),
  (54, .iaload, 0, 0, 0, 0, 0, []), (55, .ireturn, 0, 0, 0, 0, 0, [])]
noncomputable def fX11_share_12 (N : Nat) (a1 : Int32) (a2 : Int32) (w : Wd) : Option (Int32 × Wd) :=
  (callW (pX8_find N a1 (-1 : Int32)) w).bind fun w1 =>
  if a2 = (-1 : Int32) then
    (callW (pX8_sum N) w1).bind fun r2 =>
    some (r2.1, r2.2)
  else
  (ldI w1 59 0 a2 8).bind fun x3 =>
  some (x3, w1)
noncomputable def pX11_share (N : Nat) (a1 : Int32) (a2 : Int32) (w : Wd) : Option (Int32 × Wd) :=
  (callW (pX11_isNight N a1) w).bind fun r1 =>
  if r1.1 = 0 then some ((-1 : Int32), r1.2) else
  if a2 = (-1 : Int32) then callW (fX11_share_12 N a1 a2) r1.2 else
  (callW (pX11_isParty N a2) r1.2).bind fun r2 =>
  if r2.1 = 0 then some ((-1 : Int32), r2.2) else
  callW (fX11_share_12 N a1 a2) r2.2
noncomputable def mX11_share (N : Nat) (as : List AV) (w : Wd) : Option (Int32 × Wd) := xS1 15 as fun t => xI1 t fun a1 t => xI1 t fun a2 t => xN1 t (callW (pX11_share N a1 a2) w)
set_option maxRecDepth 100000 in
set_option maxHeartbeats 4000000 in
theorem kX11_share : TK cX11_share RX11 3 tX11_share := ⟨by decide +kernel, wok_of [742, 742, 742, 617] (by decide +kernel) (by decide +kernel)⟩
set_option maxRecDepth 100000 in
set_option maxHeartbeats 4000000 in
theorem sX11_share_12 {N : Nat} {X : XT} (G : GX X cX11_share RX11) (hn : xnL X = 3) (hC : CRs X tX11_share (oF [(mX11_isNight N), (mX11_isParty N), (mX8_sum N)]) (oF []) (oF [(mX8_find N)])) {r : Int32 × Wd} (hr : RTI X cX11_share r) (a1 : Int32) (a2 : Int32) : ∀ (w : Wd), fX11_share_12 N a1 a2 w = some r → WW X (pcAt tX11_share 12) [some (.inr (.inr (15, 0))), some (.inl a1), some (.inl a2)] [] w := by
  intro w h
  refine run_sound (r := r) (X := X) (cc := cX11_share) (own := RX11) (tab := tX11_share) G (by rw [hn]; exact kX11_share) (oI := (oF [(mX11_isNight N), (mX11_isParty N), (mX8_sum N)])) (oL := (oF [])) (oV := (oF [(mX8_find N)])) (rI := (fun x w => some (x, w))) (rL := (fun _ _ => none)) (rV := (fun _ => none))
    (K := (fun j ls st w => none)) (fun x w pc ls hx hd => hr x w pc ls (Option.some.inj hx) hd) (fun _ _ _ _ hx => by cases hx) (fun _ _ _ hx => by cases hx) hC (fun ls => lsb [some (.inr (.inr (15, 0))), some (.inl a1), some (.inl a2)] 0 ls) (keepsP_of rfl) ?_ 32 12 [some (.inr (.inr (15, 0))), some (.inl a1), some (.inl a2)] [] w ?_ h
  · intro j ls st w hfx h
    obtain ⟨e0, e1, e2, -⟩ : _ = _ ∧ _ = _ ∧ _ = _ ∧ True := hfx
    try dsimp only at h
    cases h
  · exact (show _ = _ ∧ _ = _ ∧ _ = _ ∧ True from ⟨rfl, rfl, rfl, trivial⟩)
set_option maxRecDepth 100000 in
set_option maxHeartbeats 4000000 in
theorem crX11_share {N : Nat} {X : XT} (G : GX X cX11_share RX11) (hR : xR X = rmL 5) : CRs X tX11_share (oF [(mX11_isNight N), (mX11_isParty N), (mX8_sum N)]) (oF []) (oF [(mX8_find N)]) := by
  have hl : tX11_share.filter isInv = [(1, .invokestatic 201, 0, 0, 1, 0, 0, []), (14, .invokevirtual 240, 0, 1, 2, 0, 0, []), (28, .invokevirtual 263, 0, 0, 3, 0, 0, [(0, 0), (0, 0)]), (40, .invokevirtual 265, 0, 2, 1, 0, 0, [])] := rfl
  intro e he
  rw [hl] at he
  simp only [List.mem_cons, List.not_mem_nil, or_false] at he
  rcases he with rfl | rfl | rfl | rfl
  · exact crI_S (idx := 201) G (by decide +kernel) (MX11_isNight N) (cw_of (ps := [1037, 1038, 148, 1039]) (by decide +kernel) (by decide +kernel)) ⟨by decide +kernel, by decide +kernel, by decide +kernel⟩ (by unfold rmOk; rw [hR]; exact ⟨by decide, by decide⟩)
  · exact crI_V (idx := 240) G (by decide +kernel) (MX11_isParty N) (cw_of (ps := [1162, 1164, 41, 148, 1165]) (by decide +kernel) (by decide +kernel)) ⟨by decide +kernel, by decide +kernel, by decide +kernel⟩ (by unfold rmOk; rw [hR]; exact ⟨by decide, by decide⟩)
  · exact crV_V (idx := 263) G (by decide +kernel) (MX8_find N) (cw_of (ps := [1229, 1230, 1231, 160, 1232]) (by decide +kernel) (by decide +kernel)) ⟨by decide +kernel, by decide +kernel, by decide +kernel⟩ (by unfold rmOk; rw [hR]; exact ⟨by decide, by decide⟩)
  · exact crI_V (idx := 265) G (by decide +kernel) (MX8_sum N) (cw_of (ps := [1251, 1252, 1253, 160, 1254]) (by decide +kernel) (by decide +kernel)) ⟨by decide +kernel, by decide +kernel, by decide +kernel⟩ (by unfold rmOk; rw [hR]; exact ⟨by decide, by decide⟩)
set_option maxRecDepth 100000 in
set_option maxHeartbeats 4000000 in
theorem MX11_share (N : Nat) : SndI yX11_share cX11_share 3 (some .int) 5 3 true (mX11_share N) := by
  refine SndI.of tX11_share (by decide +kernel) rfl rfl ?_ ?_
  · intro as w x h
    obtain ⟨t1, rfl, h_1⟩ := xS1_some h
    obtain ⟨a1, t2, rfl, h_2⟩ := xI1_some h_1
    obtain ⟨a2, t3, rfl, h_3⟩ := xI1_some h_2
    obtain ⟨rfl, h_4⟩ := xN1_some h_3
    clear h h_1 h_2 h_3
    have h := h_4
    rw [callW_eq] at h
    exact ⟨fun _ => ⟨_, _, _, rfl, rfl, _, rfl, rfl⟩, rfl, Nat.le_of_ble_eq_true rfl⟩
  · intro X G hn hR as w r h hr
    have hC := crX11_share (N := N) G hR
    obtain ⟨t1, rfl, h_1⟩ := xS1_some h
    obtain ⟨a1, t2, rfl, h_2⟩ := xI1_some h_1
    obtain ⟨a2, t3, rfl, h_3⟩ := xI1_some h_2
    obtain ⟨rfl, h_4⟩ := xN1_some h_3
    clear h h_1 h_2 h_3
    have h := h_4
    rw [callW_eq] at h
    refine run_sound (r := r) (X := X) (cc := cX11_share) (own := RX11) (tab := tX11_share) G (by rw [hn]; exact kX11_share) (oI := (oF [(mX11_isNight N), (mX11_isParty N), (mX8_sum N)])) (oL := (oF [])) (oV := (oF [(mX8_find N)])) (rI := (fun x w => some (x, w))) (rL := (fun _ _ => none)) (rV := (fun _ => none))
      (K := (fun j ls st w => if j = 12 then (st0 st (callW (fX11_share_12 N a1 a2) w)) else none)) (fun x w pc ls hx hd => hr x w pc ls (Option.some.inj hx) hd) (fun _ _ _ _ hx => by cases hx) (fun _ _ _ hx => by cases hx) hC (fun ls => lsb [some (.inr (.inr (15, 0))), some (.inl a1), some (.inl a2)] 0 ls) (keepsP_of rfl) ?_ 32 0 [some (.inr (.inr (15, 0))), some (.inl a1), some (.inl a2)] [] w ?_ h
    · intro j ls st w hfx h
      obtain ⟨e0, e1, e2, -⟩ : _ = _ ∧ _ = _ ∧ _ = _ ∧ True := hfx
      try dsimp only at h
      by_cases hj : j = 12
      · subst hj
        rw [if_pos rfl] at h
        obtain ⟨rfl, h_1⟩ := st0_some h
        clear h
        have h := h_1
        try rw [callW_eq] at h
        exact WW.le (a := [some (.inr (.inr (15, 0))), some (.inl a1), some (.inl a2)]) (by rw [hn]; rfl) (show _ = _ ∧ _ = _ ∧ _ = _ ∧ True from ⟨e0, e1, e2, trivial⟩) (sX11_share_12 G hn hC hr a1 a2 w h)
      rw [if_neg hj] at h
      cases h
    · exact (show _ = _ ∧ _ = _ ∧ _ = _ ∧ True from ⟨rfl, rfl, rfl, trivial⟩)
-- MoorGuides.worth(II)I
def tX11_worth : List EN := [
  (0, .aload_n 0, 0, 0, 0, 0, 0, []), (1, .iload_n 1, 0, 0, 0, 0, 0, []), (2, .invokevirtual 146, 0, 0, 2, 0, 0, []), (5, .ifCond .eq 10, 0, 7, 0, 0, 0, []),
  (8, .iload_n 2, 0, 0, 0, 0, 0, []), (9, .invokestatic 201, 0, 1, 1, 0, 0, []), (12, .ifCond .ne 5, 0, 9, 0, 0, 0, []), (15, .iconst (-1), 0, 0, 0, (-1), 0, []),
  (16, .ireturn, 0, 0, 0, 0, 0, []), (17, .aload_n 0, 0, 0, 0, 0, 0, []), (18, .getfield 61, 0, 11, 12, 0, 0, []), (21, .iload_n 2, 0, 0, 0, 0, 0, []),
  (22, .iconst (-1), 0, 0, 0, (-1), 0, []), (23, .invokevirtual 263, 0, 0, 3, 0, 0, [(0, 0), (0, 0)]), (26, .aload_n 0, 0, 0, 0, 0, 0, []), (27, .getfield 61, 0, 11, 12, 0, 0, []),
  (30, .invokevirtual 265, 0, 2, 1, 0, 0, []), (33, .istore_n 3, 0, 0, 0, 0, 0, []), (34, .aload_n 0, 0, 0, 0, 0, 0, []), (35, .getfield 61, 0, 11, 12, 0, 0, []),
  (38, .iload_n 2, 0, 0, 0, 0, 0, []), (39, .iload_n 1, 0, 0, 0, 0, 0, []), (40, .invokevirtual 263, 0, 0, 3, 0, 0, [(0, 0), (0, 0)]), (43, .iload_n 3, 0, 0, 0, 0, 0, []),
  (44, .aload_n 0, 0, 0, 0, 0, 0, []), (45, .getfield 61, 0, 11, 12, 0, 0, []), (48, .invokevirtual 265, 0, 2, 1, 0, 0, []), (51, .isub, 0, 0, 0, 0, 0, []),
  (52, .ireturn, 0, 0, 0, 0, 0, [])]
noncomputable def pX11_worth (N : Nat) (a1 : Int32) (a2 : Int32) (w : Wd) : Option (Int32 × Wd) :=
  (callW (pX11_isPerson N a1) w).bind fun r1 =>
  if r1.1 = 0 then some ((-1 : Int32), r1.2) else
  (callW (pX11_isNight N a2) r1.2).bind fun r2 =>
  if r2.1 = 0 then some ((-1 : Int32), r2.2) else
  (callW (pX8_find N a2 (-1 : Int32)) r2.2).bind fun w3 =>
  (callW (pX8_sum N) w3).bind fun r4 =>
  (callW (pX8_find N a2 a1) r4.2).bind fun w5 =>
  (callW (pX8_sum N) w5).bind fun r6 =>
  some ((r4.1 - r6.1), r6.2)
noncomputable def mX11_worth (N : Nat) (as : List AV) (w : Wd) : Option (Int32 × Wd) := xS1 15 as fun t => xI1 t fun a1 t => xI1 t fun a2 t => xN1 t (callW (pX11_worth N a1 a2) w)
set_option maxRecDepth 100000 in
set_option maxHeartbeats 4000000 in
theorem kX11_worth : TK cX11_worth RX11 4 tX11_worth := ⟨by decide +kernel, wok_of [742, 742, 742, 742] (by decide +kernel) (by decide +kernel)⟩
set_option maxRecDepth 100000 in
set_option maxHeartbeats 4000000 in
theorem crX11_worth {N : Nat} {X : XT} (G : GX X cX11_worth RX11) (hR : xR X = rmL 5) : CRs X tX11_worth (oF [(mX11_isPerson N), (mX11_isNight N), (mX8_sum N)]) (oF []) (oF [(mX8_find N)]) := by
  have hl : tX11_worth.filter isInv = [(2, .invokevirtual 146, 0, 0, 2, 0, 0, []), (9, .invokestatic 201, 0, 1, 1, 0, 0, []), (23, .invokevirtual 263, 0, 0, 3, 0, 0, [(0, 0), (0, 0)]), (30, .invokevirtual 265, 0, 2, 1, 0, 0, []), (40, .invokevirtual 263, 0, 0, 3, 0, 0, [(0, 0), (0, 0)]), (48, .invokevirtual 265, 0, 2, 1, 0, 0, [])] := rfl
  intro e he
  rw [hl] at he
  simp only [List.mem_cons, List.not_mem_nil, or_false] at he
  rcases he with rfl | rfl | rfl | rfl | rfl | rfl
  · exact crI_V (idx := 146) G (by decide +kernel) (MX11_isPerson N) (cw_of (ps := [1033, 1035, 34, 148, 1036]) (by decide +kernel) (by decide +kernel)) ⟨by decide +kernel, by decide +kernel, by decide +kernel⟩ (by unfold rmOk; rw [hR]; exact ⟨by decide, by decide⟩)
  · exact crI_S (idx := 201) G (by decide +kernel) (MX11_isNight N) (cw_of (ps := [1037, 1038, 148, 1039]) (by decide +kernel) (by decide +kernel)) ⟨by decide +kernel, by decide +kernel, by decide +kernel⟩ (by unfold rmOk; rw [hR]; exact ⟨by decide, by decide⟩)
  · exact crV_V (idx := 263) G (by decide +kernel) (MX8_find N) (cw_of (ps := [1229, 1230, 1231, 160, 1232]) (by decide +kernel) (by decide +kernel)) ⟨by decide +kernel, by decide +kernel, by decide +kernel⟩ (by unfold rmOk; rw [hR]; exact ⟨by decide, by decide⟩)
  · exact crI_V (idx := 265) G (by decide +kernel) (MX8_sum N) (cw_of (ps := [1251, 1252, 1253, 160, 1254]) (by decide +kernel) (by decide +kernel)) ⟨by decide +kernel, by decide +kernel, by decide +kernel⟩ (by unfold rmOk; rw [hR]; exact ⟨by decide, by decide⟩)
  · exact crV_V (idx := 263) G (by decide +kernel) (MX8_find N) (cw_of (ps := [1229, 1230, 1231, 160, 1232]) (by decide +kernel) (by decide +kernel)) ⟨by decide +kernel, by decide +kernel, by decide +kernel⟩ (by unfold rmOk; rw [hR]; exact ⟨by decide, by decide⟩)
  · exact crI_V (idx := 265) G (by decide +kernel) (MX8_sum N) (cw_of (ps := [1251, 1252, 1253, 160, 1254]) (by decide +kernel) (by decide +kernel)) ⟨by decide +kernel, by decide +kernel, by decide +kernel⟩ (by unfold rmOk; rw [hR]; exact ⟨by decide, by decide⟩)
set_option maxRecDepth 100000 in
set_option maxHeartbeats 4000000 in
theorem MX11_worth (N : Nat) : SndI yX11_worth cX11_worth 4 (some .int) 5 3 true (mX11_worth N) := by
  refine SndI.of tX11_worth (by decide +kernel) rfl rfl ?_ ?_
  · intro as w x h
    obtain ⟨t1, rfl, h_1⟩ := xS1_some h
    obtain ⟨a1, t2, rfl, h_2⟩ := xI1_some h_1
    obtain ⟨a2, t3, rfl, h_3⟩ := xI1_some h_2
    obtain ⟨rfl, h_4⟩ := xN1_some h_3
    clear h h_1 h_2 h_3
    have h := h_4
    rw [callW_eq] at h
    exact ⟨fun _ => ⟨_, _, _, rfl, rfl, _, rfl, rfl⟩, rfl, Nat.le_of_ble_eq_true rfl⟩
  · intro X G hn hR as w r h hr
    have hC := crX11_worth (N := N) G hR
    obtain ⟨t1, rfl, h_1⟩ := xS1_some h
    obtain ⟨a1, t2, rfl, h_2⟩ := xI1_some h_1
    obtain ⟨a2, t3, rfl, h_3⟩ := xI1_some h_2
    obtain ⟨rfl, h_4⟩ := xN1_some h_3
    clear h h_1 h_2 h_3
    have h := h_4
    rw [callW_eq] at h
    refine run_sound (r := r) (X := X) (cc := cX11_worth) (own := RX11) (tab := tX11_worth) G (by rw [hn]; exact kX11_worth) (oI := (oF [(mX11_isPerson N), (mX11_isNight N), (mX8_sum N)])) (oL := (oF [])) (oV := (oF [(mX8_find N)])) (rI := (fun x w => some (x, w))) (rL := (fun _ _ => none)) (rV := (fun _ => none))
      (K := (fun j ls st w => none)) (fun x w pc ls hx hd => hr x w pc ls (Option.some.inj hx) hd) (fun _ _ _ _ hx => by cases hx) (fun _ _ _ hx => by cases hx) hC (fun ls => lsb [some (.inr (.inr (15, 0))), some (.inl a1), some (.inl a2), none] 0 ls) (keepsP_of rfl) ?_ 31 0 [some (.inr (.inr (15, 0))), some (.inl a1), some (.inl a2), none] [] w ?_ h
    · intro j ls st w hfx h
      obtain ⟨e0, e1, e2, -⟩ : _ = _ ∧ _ = _ ∧ _ = _ ∧ True := hfx
      try dsimp only at h
      cases h
    · exact (show _ = _ ∧ _ = _ ∧ _ = _ ∧ True from ⟨rfl, rfl, rfl, trivial⟩)
-- MoorGuides.isPartSet(I)Z
def tX11_isPartSet : List EN := [
  (0, .iload_n 1, 0, 0, 0, 0, 0, []), (1, .aload_n 0, 0, 0, 0, 0, 0, []), (2, .getfield 16, 0, 11, 2, 0, 0, []), (5, .invokevirtual 204, 0, 0, 1, 0, 0, []),
  (8, .iconst (-1), 0, 0, 0, (-1), 0, []), (9, .ixor, 0, 0, 0, 0, 0, []), (10, .iand, 0, 0, 0, 0, 0, []), (11, .ifCond .ne 7, 0, 10, 0, 0, 0, []),
  (14, .iconst 1, 0, 0, 0, 1, 0, []), (15, .goto 4, 0, 11, 0, 0, 0, []), (18, .iconst 0, 0, 0, 0, 0, 0, []), (19, .ireturn, 0, 0, 0, 0, 0, [])]
noncomputable def pX11_isPartSet (N : Nat) (a1 : Int32) (w : Wd) : Option (Int32 × Wd) :=
  (callW (pX4_allParts N (gR w 15 0 2)) w).bind fun r1 =>
  if (a1 &&& (r1.1 ^^^ (-1 : Int32))) = 0 then some ((1 : Int32), r1.2) else
  some ((0 : Int32), r1.2)
noncomputable def mX11_isPartSet (N : Nat) (as : List AV) (w : Wd) : Option (Int32 × Wd) := xS1 15 as fun t => xI1 t fun a1 t => xN1 t (callW (pX11_isPartSet N a1) w)
set_option maxRecDepth 100000 in
set_option maxHeartbeats 4000000 in
theorem kX11_isPartSet : TK cX11_isPartSet RX11 2 tX11_isPartSet := ⟨by decide +kernel, wok_of [732] (by decide +kernel) (by decide +kernel)⟩
set_option maxRecDepth 100000 in
set_option maxHeartbeats 4000000 in
theorem crX11_isPartSet {N : Nat} {X : XT} (G : GX X cX11_isPartSet RX11) (hR : xR X = rmL 2) : CRs X tX11_isPartSet (oF [(mX4_allParts N)]) (oF []) (oF []) := by
  have hl : tX11_isPartSet.filter isInv = [(5, .invokevirtual 204, 0, 0, 1, 0, 0, [])] := rfl
  intro e he
  rw [hl] at he
  simp only [List.mem_cons, List.not_mem_nil, or_false] at he
  rcases he with rfl
  · exact crI_V (idx := 204) G (by decide +kernel) (MX4_allParts N) (cw_of (ps := [1045, 1046, 1047, 149, 1048]) (by decide +kernel) (by decide +kernel)) ⟨by decide +kernel, by decide +kernel, by decide +kernel⟩ (by unfold rmOk; rw [hR]; exact ⟨by decide, by decide⟩)
set_option maxRecDepth 100000 in
set_option maxHeartbeats 4000000 in
theorem MX11_isPartSet (N : Nat) : SndI yX11_isPartSet cX11_isPartSet 2 (some .boolean) 2 2 true (mX11_isPartSet N) := by
  refine SndI.ofZ tX11_isPartSet (by decide +kernel) rfl rfl ?_ ?_
  · intro as w x h
    obtain ⟨t1, rfl, h_1⟩ := xS1_some h
    obtain ⟨a1, t2, rfl, h_2⟩ := xI1_some h_1
    obtain ⟨rfl, h_3⟩ := xN1_some h_2
    clear h h_1 h_2
    have h := h_3
    rw [callW_eq] at h
    exact ⟨fun _ => ⟨_, _, _, rfl, rfl, _, rfl, rfl⟩, rfl, Nat.le_of_ble_eq_true rfl⟩
  · intro X G hn hR as w r h hr
    have hC := crX11_isPartSet (N := N) G hR
    obtain ⟨t1, rfl, h_1⟩ := xS1_some h
    obtain ⟨a1, t2, rfl, h_2⟩ := xI1_some h_1
    obtain ⟨rfl, h_3⟩ := xN1_some h_2
    clear h h_1 h_2
    have h := h_3
    rw [callW_eq] at h
    refine run_sound (r := r) (X := X) (cc := cX11_isPartSet) (own := RX11) (tab := tX11_isPartSet) G (by rw [hn]; exact kX11_isPartSet) (oI := (oF [(mX4_allParts N)])) (oL := (oF [])) (oV := (oF [])) (rI := retZ) (rL := (fun _ _ => none)) (rV := (fun _ => none))
      (K := (fun j ls st w => none)) hr (fun _ _ _ _ hx => by cases hx) (fun _ _ _ hx => by cases hx) hC (fun ls => lsb [some (.inr (.inr (15, 0))), some (.inl a1)] 0 ls) (keepsP_of rfl) ?_ 14 0 [some (.inr (.inr (15, 0))), some (.inl a1)] [] w ?_ h
    · intro j ls st w hfx h
      obtain ⟨e0, e1, -⟩ : _ = _ ∧ _ = _ ∧ True := hfx
      try dsimp only at h
      cases h
    · exact (show _ = _ ∧ _ = _ ∧ True from ⟨rfl, rfl, trivial⟩)
-- MoorGuides.stranger(II)I
def tX11_stranger : List EN := [
  (0, .aload_n 0, 0, 0, 0, 0, 0, []), (1, .iload_n 1, 0, 0, 0, 0, 0, []), (2, .invokevirtual 269, 0, 0, 2, 0, 0, []), (5, .ifCond .eq 10, 0, 7, 0, 0, 0, []),
  (8, .iload_n 2, 0, 0, 0, 0, 0, []), (9, .invokestatic 201, 0, 1, 1, 0, 0, []), (12, .ifCond .ne 5, 0, 9, 0, 0, 0, []), (15, .iconst (-1), 0, 0, 0, (-1), 0, []),
  (16, .ireturn, 0, 0, 0, 0, 0, []), (17, .aload_n 0, 0, 0, 0, 0, 0, []), (18, .getfield 35, 0, 11, 5, 0, 0, []), (21, .iload_n 2, 0, 0, 0, 0, 0, []),
  (22, .invokevirtual 272, 0, 2, 2, 0, 0, []), (25, .istore_n 3, 0, 0, 0, 0, 0, []), (26, .aload_n 0, 0, 0, 0, 0, 0, []), (27, .getfield 16, 0, 11, 2, 0, 0, []),
  (30, .iload_n 2, 0, 0, 0, 0, 0, []), (31, .iload_n 3, 0, 0, 0, 0, 0, []), (32, .iload_n 1, 0, 0, 0, 0, 0, []), (33, .ior, 0, 0, 0, 0, 0, []),
  (34, .invokevirtual 275, 0, 3, 3, 0, 0, []), (37, .aload_n 0, 0, 0, 0, 0, 0, []), (38, .getfield 16, 0, 11, 2, 0, 0, []), (41, .iload_n 2, 0, 0, 0, 0, 0, []),
  (42, .iload_n 3, 0, 0, 0, 0, 0, []), (43, .invokevirtual 275, 0, 3, 3, 0, 0, []), (46, .isub, 0, 0, 0, 0, 0, []), (47, .ireturn, 0, 0, 0, 0, 0, [])]
noncomputable def pX11_stranger (N : Nat) (a1 : Int32) (a2 : Int32) (w : Wd) : Option (Int32 × Wd) :=
  (callW (pX11_isPartSet N a1) w).bind fun r1 =>
  if r1.1 = 0 then some ((-1 : Int32), r1.2) else
  (callW (pX11_isNight N a2) r1.2).bind fun r2 =>
  if r2.1 = 0 then some ((-1 : Int32), r2.2) else
  (callW (pX9_knownByAny N 0 a2) r2.2).bind fun r3 =>
  (callW (pX4_priceLed N (gR r3.2 15 0 2) a2 (r3.1 ||| a1)) r3.2).bind fun r4 =>
  (callW (pX4_priceLed N (gR r4.2 15 0 2) a2 r3.1) r4.2).bind fun r5 =>
  some ((r4.1 - r5.1), r5.2)
noncomputable def mX11_stranger (N : Nat) (as : List AV) (w : Wd) : Option (Int32 × Wd) := xS1 15 as fun t => xI1 t fun a1 t => xI1 t fun a2 t => xN1 t (callW (pX11_stranger N a1 a2) w)
set_option maxRecDepth 100000 in
set_option maxHeartbeats 4000000 in
theorem kX11_stranger : TK cX11_stranger RX11 4 tX11_stranger := ⟨by decide +kernel, wok_of [735, 732, 732] (by decide +kernel) (by decide +kernel)⟩
set_option maxRecDepth 100000 in
set_option maxHeartbeats 4000000 in
theorem crX11_stranger {N : Nat} {X : XT} (G : GX X cX11_stranger RX11) (hR : xR X = rmL 4) : CRs X tX11_stranger (oF [(mX11_isPartSet N), (mX11_isNight N), (mX9_knownByAny N), (mX4_priceLed N)]) (oF []) (oF []) := by
  have hl : tX11_stranger.filter isInv = [(2, .invokevirtual 269, 0, 0, 2, 0, 0, []), (9, .invokestatic 201, 0, 1, 1, 0, 0, []), (22, .invokevirtual 272, 0, 2, 2, 0, 0, []), (34, .invokevirtual 275, 0, 3, 3, 0, 0, []), (43, .invokevirtual 275, 0, 3, 3, 0, 0, [])] := rfl
  intro e he
  rw [hl] at he
  simp only [List.mem_cons, List.not_mem_nil, or_false] at he
  rcases he with rfl | rfl | rfl | rfl | rfl
  · exact crI_V (idx := 269) G (by decide +kernel) (MX11_isPartSet N) (cw_of (ps := [1263, 1265, 55, 148, 1266]) (by decide +kernel) (by decide +kernel)) ⟨by decide +kernel, by decide +kernel, by decide +kernel⟩ (by unfold rmOk; rw [hR]; exact ⟨by decide, by decide⟩)
  · exact crI_S (idx := 201) G (by decide +kernel) (MX11_isNight N) (cw_of (ps := [1037, 1038, 148, 1039]) (by decide +kernel) (by decide +kernel)) ⟨by decide +kernel, by decide +kernel, by decide +kernel⟩ (by unfold rmOk; rw [hR]; exact ⟨by decide, by decide⟩)
  · exact crI_V (idx := 272) G (by decide +kernel) (MX9_knownByAny N) (cw_of (ps := [1267, 1268, 1269, 158, 1270]) (by decide +kernel) (by decide +kernel)) ⟨by decide +kernel, by decide +kernel, by decide +kernel⟩ (by unfold rmOk; rw [hR]; exact ⟨by decide, by decide⟩)
  · exact crI_V (idx := 275) G (by decide +kernel) (MX4_priceLed N) (cw_of (ps := [1271, 1272, 1273, 149, 1274]) (by decide +kernel) (by decide +kernel)) ⟨by decide +kernel, by decide +kernel, by decide +kernel⟩ (by unfold rmOk; rw [hR]; exact ⟨by decide, by decide⟩)
  · exact crI_V (idx := 275) G (by decide +kernel) (MX4_priceLed N) (cw_of (ps := [1271, 1272, 1273, 149, 1274]) (by decide +kernel) (by decide +kernel)) ⟨by decide +kernel, by decide +kernel, by decide +kernel⟩ (by unfold rmOk; rw [hR]; exact ⟨by decide, by decide⟩)
set_option maxRecDepth 100000 in
set_option maxHeartbeats 4000000 in
theorem MX11_stranger (N : Nat) : SndI yX11_stranger cX11_stranger 4 (some .int) 4 3 true (mX11_stranger N) := by
  refine SndI.of tX11_stranger (by decide +kernel) rfl rfl ?_ ?_
  · intro as w x h
    obtain ⟨t1, rfl, h_1⟩ := xS1_some h
    obtain ⟨a1, t2, rfl, h_2⟩ := xI1_some h_1
    obtain ⟨a2, t3, rfl, h_3⟩ := xI1_some h_2
    obtain ⟨rfl, h_4⟩ := xN1_some h_3
    clear h h_1 h_2 h_3
    have h := h_4
    rw [callW_eq] at h
    exact ⟨fun _ => ⟨_, _, _, rfl, rfl, _, rfl, rfl⟩, rfl, Nat.le_of_ble_eq_true rfl⟩
  · intro X G hn hR as w r h hr
    have hC := crX11_stranger (N := N) G hR
    obtain ⟨t1, rfl, h_1⟩ := xS1_some h
    obtain ⟨a1, t2, rfl, h_2⟩ := xI1_some h_1
    obtain ⟨a2, t3, rfl, h_3⟩ := xI1_some h_2
    obtain ⟨rfl, h_4⟩ := xN1_some h_3
    clear h h_1 h_2 h_3
    have h := h_4
    rw [callW_eq] at h
    refine run_sound (r := r) (X := X) (cc := cX11_stranger) (own := RX11) (tab := tX11_stranger) G (by rw [hn]; exact kX11_stranger) (oI := (oF [(mX11_isPartSet N), (mX11_isNight N), (mX9_knownByAny N), (mX4_priceLed N)])) (oL := (oF [])) (oV := (oF [])) (rI := (fun x w => some (x, w))) (rL := (fun _ _ => none)) (rV := (fun _ => none))
      (K := (fun j ls st w => none)) (fun x w pc ls hx hd => hr x w pc ls (Option.some.inj hx) hd) (fun _ _ _ _ hx => by cases hx) (fun _ _ _ hx => by cases hx) hC (fun ls => lsb [some (.inr (.inr (15, 0))), some (.inl a1), some (.inl a2), none] 0 ls) (keepsP_of rfl) ?_ 30 0 [some (.inr (.inr (15, 0))), some (.inl a1), some (.inl a2), none] [] w ?_ h
    · intro j ls st w hfx h
      obtain ⟨e0, e1, e2, -⟩ : _ = _ ∧ _ = _ ∧ _ = _ ∧ True := hfx
      try dsimp only at h
      cases h
    · exact (show _ = _ ∧ _ = _ ∧ _ = _ ∧ True from ⟨rfl, rfl, rfl, trivial⟩)
-- MoorGuides.fewest(II)I
def tX11_fewest : List EN := [
  (0, .iload_n 1, 0, 0, 0, 0, 0, []), (1, .ifCond .lt 25, 0, 14, 0, 0, 0, []), (4, .iload_n 1, 0, 0, 0, 0, 0, []), (5, .iconst 1, 0, 0, 0, 1, 0, []),
  (6, .aload_n 0, 0, 0, 0, 0, 0, []), (7, .getfield 16, 0, 11, 2, 0, 0, []), (10, .getfield 278, 0, 4, 5, 0, 0, []), (13, .ishl, 0, 0, 0, 0, 0, []),
  (14, .if_icmp .ge 12, 0, 14, 0, 0, 0, []), (17, .iload_n 2, 0, 0, 0, 0, 0, []), (18, .ifCond .lt 8, 0, 14, 0, 0, 0, []), (21, .iload_n 2, 0, 0, 0, 0, 0, []),
  (22, .iconst 1, 0, 0, 0, 1, 0, []), (23, .if_icmp .le 5, 0, 16, 0, 0, 0, []), (26, .iconst (-1), 0, 0, 0, (-1), 0, []), (27, .ireturn, 0, 0, 0, 0, 0, []),
  (28, .aload_n 0, 0, 0, 0, 0, 0, []), (29, .getfield 61, 0, 11, 12, 0, 0, []), (32, .iload_n 1, 0, 0, 0, 0, 0, []), (33, .invokevirtual 281, 0, 0, 2, 0, 0, []),
  (36, .istore_n 3, 0, 0, 0, 0, 0, []), (37, .iload_n 3, 0, 0, 0, 0, 0, []), (38, .ifCond .ge 6, 0, 25, 0, 0, 0, []), (41, .bipush (-2), 0, 0, 0, (-2), 0, []),
  (43, .ireturn, 0, 0, 0, 0, 0, []), (44, .iload_n 2, 0, 0, 0, 0, 0, []), (45, .ifCond .ne 10, 0, 30, 0, 0, 0, []), (48, .iload_n 3, 0, 0, 0, 0, 0, []),
  (49, .invokestatic 284, 0, 1, 1, 0, 0, []), (52, .goto 4, 0, 31, 0, 0, 0, []), (55, .iload_n 3, 0, 0, 0, 0, 0, []), (56, .ireturn, 0, 0, 0, 0, 0, [])]
noncomputable def pX11_fewest (N : Nat) (a1 : Int32) (a2 : Int32) (w : Wd) : Option (Int32 × Wd) :=
  if a1 < 0 then some ((-1 : Int32), w) else
  if a1 < ((1 : Int32) <<< ((gI w 8 (gR w 15 0 2) 5) &&& (31 : Int32))) then
    if a2 < 0 then some ((-1 : Int32), w) else
    if (1 : Int32) < a2 then some ((-1 : Int32), w) else
    (callW (pX8_fewestParts N a1) w).bind fun r1 =>
    if r1.1 < 0 then some ((-2 : Int32), r1.2) else
    if a2 = 0 then
      (callW (pJ6_bitCount_0f7a4 N r1.1) r1.2).bind fun r2 =>
      some (r2.1, r2.2)
    else
    some (r1.1, r1.2)
  else
  some ((-1 : Int32), w)
noncomputable def mX11_fewest (N : Nat) (as : List AV) (w : Wd) : Option (Int32 × Wd) := xS1 15 as fun t => xI1 t fun a1 t => xI1 t fun a2 t => xN1 t (callW (pX11_fewest N a1 a2) w)
set_option maxRecDepth 100000 in
set_option maxHeartbeats 4000000 in
theorem kX11_fewest : TK cX11_fewest RX11 4 tX11_fewest := ⟨by decide +kernel, wok_of [732, 287, 742] (by decide +kernel) (by decide +kernel)⟩
set_option maxRecDepth 100000 in
set_option maxHeartbeats 4000000 in
theorem crX11_fewest {N : Nat} {X : XT} (G : GX X cX11_fewest RX11) (hR : xR X = rmL 5) : CRs X tX11_fewest (oF [(mX8_fewestParts N), (mJ6_bitCount_0f7a4 N)]) (oF []) (oF []) := by
  have hl : tX11_fewest.filter isInv = [(33, .invokevirtual 281, 0, 0, 2, 0, 0, []), (49, .invokestatic 284, 0, 1, 1, 0, 0, [])] := rfl
  intro e he
  rw [hl] at he
  simp only [List.mem_cons, List.not_mem_nil, or_false] at he
  rcases he with rfl | rfl
  · exact crI_V (idx := 281) G (by decide +kernel) (MX8_fewestParts N) (cw_of (ps := [1280, 1281, 1282, 160, 1283]) (by decide +kernel) (by decide +kernel)) ⟨by decide +kernel, by decide +kernel, by decide +kernel⟩ (by unfold rmOk; rw [hR]; exact ⟨by decide, by decide⟩)
  · exact crI_S (idx := 284) G (by decide +kernel) (MJ6_bitCount_0f7a4 N) (cw_of (ps := [1291, 1071, 171, 1072]) (by decide +kernel) (by decide +kernel)) ⟨by decide +kernel, by decide +kernel, by decide +kernel⟩ (by unfold rmOk; rw [hR]; exact ⟨by decide, by decide⟩)
set_option maxRecDepth 100000 in
set_option maxHeartbeats 4000000 in
theorem MX11_fewest (N : Nat) : SndI yX11_fewest cX11_fewest 4 (some .int) 5 3 true (mX11_fewest N) := by
  refine SndI.of tX11_fewest (by decide +kernel) rfl rfl ?_ ?_
  · intro as w x h
    obtain ⟨t1, rfl, h_1⟩ := xS1_some h
    obtain ⟨a1, t2, rfl, h_2⟩ := xI1_some h_1
    obtain ⟨a2, t3, rfl, h_3⟩ := xI1_some h_2
    obtain ⟨rfl, h_4⟩ := xN1_some h_3
    clear h h_1 h_2 h_3
    have h := h_4
    rw [callW_eq] at h
    exact ⟨fun _ => ⟨_, _, _, rfl, rfl, _, rfl, rfl⟩, rfl, Nat.le_of_ble_eq_true rfl⟩
  · intro X G hn hR as w r h hr
    have hC := crX11_fewest (N := N) G hR
    obtain ⟨t1, rfl, h_1⟩ := xS1_some h
    obtain ⟨a1, t2, rfl, h_2⟩ := xI1_some h_1
    obtain ⟨a2, t3, rfl, h_3⟩ := xI1_some h_2
    obtain ⟨rfl, h_4⟩ := xN1_some h_3
    clear h h_1 h_2 h_3
    have h := h_4
    rw [callW_eq] at h
    refine run_sound (r := r) (X := X) (cc := cX11_fewest) (own := RX11) (tab := tX11_fewest) G (by rw [hn]; exact kX11_fewest) (oI := (oF [(mX8_fewestParts N), (mJ6_bitCount_0f7a4 N)])) (oL := (oF [])) (oV := (oF [])) (rI := (fun x w => some (x, w))) (rL := (fun _ _ => none)) (rV := (fun _ => none))
      (K := (fun j ls st w => none)) (fun x w pc ls hx hd => hr x w pc ls (Option.some.inj hx) hd) (fun _ _ _ _ hx => by cases hx) (fun _ _ _ hx => by cases hx) hC (fun ls => lsb [some (.inr (.inr (15, 0))), some (.inl a1), some (.inl a2), none] 0 ls) (keepsP_of rfl) ?_ 34 0 [some (.inr (.inr (15, 0))), some (.inl a1), some (.inl a2), none] [] w ?_ h
    · intro j ls st w hfx h
      obtain ⟨e0, e1, e2, -⟩ : _ = _ ∧ _ = _ ∧ _ = _ ∧ True := hfx
      try dsimp only at h
      cases h
    · exact (show _ = _ ∧ _ = _ ∧ _ = _ ∧ True from ⟨rfl, rfl, rfl, trivial⟩)
-- MoorGuides.isOrder(II)Z
def tX11_isOrder : List EN := [
  (0, .iload_n 2, 0, 0, 0, 0, 0, []), (1, .ifCond .eq 48, 0, 25, 0, 0, 0, []), (4, .aload_n 0, 0, 0, 0, 0, 0, []), (5, .iload_n 2, 0, 0, 0, 0, 0, []),
  (6, .invokevirtual 269, 0, 0, 2, 0, 0, []), (9, .ifCond .eq 40, 0, 25, 0, 0, 0, []), (12, .aload_n 0, 0, 0, 0, 0, 0, []), (13, .iload_n 1, 0, 0, 0, 0, 0, []),
  (14, .invokevirtual 212, 0, 1, 2, 0, 0, []), (17, .ifCond .eq 32, 0, 25, 0, 0, 0, []), (20, .aload_n 0, 0, 0, 0, 0, 0, []), (21, .getfield 35, 0, 11, 5, 0, 0, []),
  (24, .iload_n 1, 0, 0, 0, 0, 0, []), (25, .aload_n 0, 0, 0, 0, 0, 0, []), (26, .getfield 35, 0, 11, 5, 0, 0, []), (29, .getfield 157, 0, 9, 1, 0, 0, []),
  (32, .iload_n 2, 0, 0, 0, 0, 0, []), (33, .invokestatic 284, 0, 2, 1, 0, 0, []), (36, .iadd, 0, 0, 0, 0, 0, []), (37, .iconst 1, 0, 0, 0, 1, 0, []),
  (38, .isub, 0, 0, 0, 0, 0, []), (39, .invokevirtual 160, 0, 3, 3, 0, 0, []), (42, .ifCond .eq 7, 0, 25, 0, 0, 0, []), (45, .iconst 1, 0, 0, 0, 1, 0, []),
  (46, .goto 4, 0, 26, 0, 0, 0, []), (49, .iconst 0, 0, 0, 0, 0, 0, []), (50, .ireturn, 0, 0, 0, 0, 0, [])]
noncomputable def pX11_isOrder (N : Nat) (a1 : Int32) (a2 : Int32) (w : Wd) : Option (Int32 × Wd) :=
  if a2 = 0 then some ((0 : Int32), w) else
  (callW (pX11_isPartSet N a2) w).bind fun r1 =>
  if r1.1 = 0 then some ((0 : Int32), r1.2) else
  (callW (pX11_isThereTonight N a1) r1.2).bind fun r2 =>
  if r2.1 = 0 then some ((0 : Int32), r2.2) else
  (callW (pJ6_bitCount_0f7a4 N a2) r2.2).bind fun r3 =>
  (callW (pX9_isThere N 0 a1 (((gI r2.2 13 0 1) + r3.1) - (1 : Int32))) r3.2).bind fun r4 =>
  if r4.1 = 0 then some ((0 : Int32), r4.2) else
  some ((1 : Int32), r4.2)
noncomputable def mX11_isOrder (N : Nat) (as : List AV) (w : Wd) : Option (Int32 × Wd) := xS1 15 as fun t => xI1 t fun a1 t => xI1 t fun a2 t => xN1 t (callW (pX11_isOrder N a1 a2) w)
set_option maxRecDepth 100000 in
set_option maxHeartbeats 4000000 in
theorem kX11_isOrder : TK cX11_isOrder RX11 3 tX11_isOrder := ⟨by decide +kernel, wok_of [735, 735, 524] (by decide +kernel) (by decide +kernel)⟩
set_option maxRecDepth 100000 in
set_option maxHeartbeats 4000000 in
theorem crX11_isOrder {N : Nat} {X : XT} (G : GX X cX11_isOrder RX11) (hR : xR X = rmL 3) : CRs X tX11_isOrder (oF [(mX11_isPartSet N), (mX11_isThereTonight N), (mJ6_bitCount_0f7a4 N), (mX9_isThere N)]) (oF []) (oF []) := by
  have hl : tX11_isOrder.filter isInv = [(6, .invokevirtual 269, 0, 0, 2, 0, 0, []), (14, .invokevirtual 212, 0, 1, 2, 0, 0, []), (33, .invokestatic 284, 0, 2, 1, 0, 0, []), (39, .invokevirtual 160, 0, 3, 3, 0, 0, [])] := rfl
  intro e he
  rw [hl] at he
  simp only [List.mem_cons, List.not_mem_nil, or_false] at he
  rcases he with rfl | rfl | rfl | rfl
  · exact crI_V (idx := 269) G (by decide +kernel) (MX11_isPartSet N) (cw_of (ps := [1263, 1265, 55, 148, 1266]) (by decide +kernel) (by decide +kernel)) ⟨by decide +kernel, by decide +kernel, by decide +kernel⟩ (by unfold rmOk; rw [hR]; exact ⟨by decide, by decide⟩)
  · exact crI_V (idx := 212) G (by decide +kernel) (MX11_isThereTonight N) (cw_of (ps := [1057, 1059, 35, 148, 1060]) (by decide +kernel) (by decide +kernel)) ⟨by decide +kernel, by decide +kernel, by decide +kernel⟩ (by unfold rmOk; rw [hR]; exact ⟨by decide, by decide⟩)
  · exact crI_S (idx := 284) G (by decide +kernel) (MJ6_bitCount_0f7a4 N) (cw_of (ps := [1291, 1071, 171, 1072]) (by decide +kernel) (by decide +kernel)) ⟨by decide +kernel, by decide +kernel, by decide +kernel⟩ (by unfold rmOk; rw [hR]; exact ⟨by decide, by decide⟩)
  · exact crI_V (idx := 160) G (by decide +kernel) (MX9_isThere N) (cw_of (ps := [1061, 1026, 1027, 158, 1028]) (by decide +kernel) (by decide +kernel)) ⟨by decide +kernel, by decide +kernel, by decide +kernel⟩ (by unfold rmOk; rw [hR]; exact ⟨by decide, by decide⟩)
set_option maxRecDepth 100000 in
set_option maxHeartbeats 4000000 in
theorem MX11_isOrder (N : Nat) : SndI yX11_isOrder cX11_isOrder 3 (some .boolean) 3 3 true (mX11_isOrder N) := by
  refine SndI.ofZ tX11_isOrder (by decide +kernel) rfl rfl ?_ ?_
  · intro as w x h
    obtain ⟨t1, rfl, h_1⟩ := xS1_some h
    obtain ⟨a1, t2, rfl, h_2⟩ := xI1_some h_1
    obtain ⟨a2, t3, rfl, h_3⟩ := xI1_some h_2
    obtain ⟨rfl, h_4⟩ := xN1_some h_3
    clear h h_1 h_2 h_3
    have h := h_4
    rw [callW_eq] at h
    exact ⟨fun _ => ⟨_, _, _, rfl, rfl, _, rfl, rfl⟩, rfl, Nat.le_of_ble_eq_true rfl⟩
  · intro X G hn hR as w r h hr
    have hC := crX11_isOrder (N := N) G hR
    obtain ⟨t1, rfl, h_1⟩ := xS1_some h
    obtain ⟨a1, t2, rfl, h_2⟩ := xI1_some h_1
    obtain ⟨a2, t3, rfl, h_3⟩ := xI1_some h_2
    obtain ⟨rfl, h_4⟩ := xN1_some h_3
    clear h h_1 h_2 h_3
    have h := h_4
    rw [callW_eq] at h
    refine run_sound (r := r) (X := X) (cc := cX11_isOrder) (own := RX11) (tab := tX11_isOrder) G (by rw [hn]; exact kX11_isOrder) (oI := (oF [(mX11_isPartSet N), (mX11_isThereTonight N), (mJ6_bitCount_0f7a4 N), (mX9_isThere N)])) (oL := (oF [])) (oV := (oF [])) (rI := retZ) (rL := (fun _ _ => none)) (rV := (fun _ => none))
      (K := (fun j ls st w => none)) hr (fun _ _ _ _ hx => by cases hx) (fun _ _ _ hx => by cases hx) hC (fun ls => lsb [some (.inr (.inr (15, 0))), some (.inl a1), some (.inl a2)] 0 ls) (keepsP_of rfl) ?_ 29 0 [some (.inr (.inr (15, 0))), some (.inl a1), some (.inl a2)] [] w ?_ h
    · intro j ls st w hfx h
      obtain ⟨e0, e1, e2, -⟩ : _ = _ ∧ _ = _ ∧ _ = _ ∧ True := hfx
      try dsimp only at h
      cases h
    · exact (show _ = _ ∧ _ = _ ∧ _ = _ ∧ True from ⟨rfl, rfl, rfl, trivial⟩)
-- MoorGuides.order(III)J
def tX11_order : List EN := [
  (0, .aload_n 0, 0, 0, 0, 0, 0, []), (1, .iload_n 1, 0, 0, 0, 0, 0, []), (2, .iload_n 2, 0, 0, 0, 0, 0, []), (3, .invokevirtual 289, 0, 0, 3, 0, 0, []),
  (6, .ifCond .eq 12, 0, 10, 0, 0, 0, []), (9, .iload_n 3, 0, 0, 0, 0, 0, []), (10, .ifCond .lt 8, 0, 10, 0, 0, 0, []), (13, .iload_n 3, 0, 0, 0, 0, 0, []),
  (14, .iconst 1, 0, 0, 0, 1, 0, []), (15, .if_icmp .le 7, 0, 12, 0, 0, 0, []), (18, .ldc2_w 292, 0, 0, 0, 0, (-1), []), (21, .lreturn, 0, 0, 0, 0, 0, []),
  (22, .aload_n 0, 0, 0, 0, 0, 0, []), (23, .getfield 68, 0, 11, 13, 0, 0, []), (26, .iload_n 1, 0, 0, 0, 0, 0, []), (27, .iload_n 2, 0, 0, 0, 0, 0, []),
  (28, .invokevirtual 294, 0, 0, 3, 0, 0, [(0, 0), (0, 0)]), (31, .iload_n 3, 0, 0, 0, 0, 0, []), (32, .ifCond .ne 13, 0, 23, 0, 0, 0, []), (35, .aload_n 0, 0, 0, 0, 0, 0, []),
  (36, .getfield 68, 0, 11, 13, 0, 0, []), (39, .invokevirtual 295, 0, 0, 1, 0, 0, [(0, 0)]), (42, .goto 10, 0, 26, 0, 0, 0, []), (45, .aload_n 0, 0, 0, 0, 0, 0, []),
  (46, .getfield 68, 0, 11, 13, 0, 0, []), (49, .invokevirtual 299, 0, 1, 1, 0, 0, [(0, 0)]), (52, .lreturn, 0, 0, 0, 0, 0, [])]
noncomputable def pX11_order (N : Nat) (a1 : Int32) (a2 : Int32) (a3 : Int32) (w : Wd) : Option (Int64 × Wd) :=
  (callW (pX11_isOrder N a1 a2) w).bind fun r1 =>
  if r1.1 = 0 then some ((-1 : Int64), r1.2) else
  if a3 < 0 then some ((-1 : Int64), r1.2) else
  if (1 : Int32) < a3 then some ((-1 : Int64), r1.2) else
  (callW (pX5_find N a1 a2) r1.2).bind fun w2 =>
  if a3 = 0 then
    (callW (pX5_above N) w2).bind fun r3 =>
    some (r3.1, r3.2)
  else
  (callW (pX5_below N) w2).bind fun r4 =>
  some (r4.1, r4.2)
noncomputable def mX11_order (N : Nat) (as : List AV) (w : Wd) : Option (Int64 × Wd) := xS1 15 as fun t => xI1 t fun a1 t => xI1 t fun a2 t => xI1 t fun a3 t => xN1 t (callW (pX11_order N a1 a2 a3) w)
set_option maxRecDepth 100000 in
set_option maxHeartbeats 4000000 in
theorem kX11_order : TK cX11_order RX11 4 tX11_order := ⟨by decide +kernel, wok_of [1300, 743, 743, 743] (by decide +kernel) (by decide +kernel)⟩
set_option maxRecDepth 100000 in
set_option maxHeartbeats 4000000 in
theorem crX11_order {N : Nat} {X : XT} (G : GX X cX11_order RX11) (hR : xR X = rmL 14) : CRs X tX11_order (oF [(mX11_isOrder N)]) (oF [(mX5_above N), (mX5_below N)]) (oF [(mX5_find N)]) := by
  have hl : tX11_order.filter isInv = [(3, .invokevirtual 289, 0, 0, 3, 0, 0, []), (28, .invokevirtual 294, 0, 0, 3, 0, 0, [(0, 0), (0, 0)]), (39, .invokevirtual 295, 0, 0, 1, 0, 0, [(0, 0)]), (49, .invokevirtual 299, 0, 1, 1, 0, 0, [(0, 0)])] := rfl
  intro e he
  rw [hl] at he
  simp only [List.mem_cons, List.not_mem_nil, or_false] at he
  rcases he with rfl | rfl | rfl | rfl
  · exact crI_V (idx := 289) G (by decide +kernel) (MX11_isOrder N) (cw_of (ps := [1296, 1298, 57, 148, 1299]) (by decide +kernel) (by decide +kernel)) ⟨by decide +kernel, by decide +kernel, by decide +kernel⟩ (by unfold rmOk; rw [hR]; exact ⟨by decide, by decide⟩)
  · exact crV_V (idx := 294) G (by decide +kernel) (MX5_find N) (cw_of (ps := [1301, 1302, 1303, 161, 1304]) (by decide +kernel) (by decide +kernel)) ⟨by decide +kernel, by decide +kernel, by decide +kernel⟩ (by unfold rmOk; rw [hR]; exact ⟨by decide, by decide⟩)
  · exact crL_V (idx := 295) G (by decide +kernel) (MX5_above N) (cw_of (ps := [1351, 1352, 1353, 161, 1354]) (by decide +kernel) (by decide +kernel)) ⟨by decide +kernel, by decide +kernel, by decide +kernel⟩ (by unfold rmOk; rw [hR]; exact ⟨by decide, by decide⟩)
  · exact crL_V (idx := 299) G (by decide +kernel) (MX5_below N) (cw_of (ps := [1364, 1365, 1366, 161, 1367]) (by decide +kernel) (by decide +kernel)) ⟨by decide +kernel, by decide +kernel, by decide +kernel⟩ (by unfold rmOk; rw [hR]; exact ⟨by decide, by decide⟩)
set_option maxRecDepth 100000 in
set_option maxHeartbeats 4000000 in
theorem MX11_order (N : Nat) : SndL yX11_order cX11_order 4 (some .long) 14 4 true (mX11_order N) := by
  refine SndL.of tX11_order (by decide +kernel) rfl rfl ?_ ?_
  · intro as w x h
    obtain ⟨t1, rfl, h_1⟩ := xS1_some h
    obtain ⟨a1, t2, rfl, h_2⟩ := xI1_some h_1
    obtain ⟨a2, t3, rfl, h_3⟩ := xI1_some h_2
    obtain ⟨a3, t4, rfl, h_4⟩ := xI1_some h_3
    obtain ⟨rfl, h_5⟩ := xN1_some h_4
    clear h h_1 h_2 h_3 h_4
    have h := h_5
    rw [callW_eq] at h
    exact ⟨fun _ => ⟨_, _, _, rfl, rfl, _, rfl, rfl⟩, rfl, Nat.le_of_ble_eq_true rfl⟩
  · intro X G hn hR as w r h hr
    have hC := crX11_order (N := N) G hR
    obtain ⟨t1, rfl, h_1⟩ := xS1_some h
    obtain ⟨a1, t2, rfl, h_2⟩ := xI1_some h_1
    obtain ⟨a2, t3, rfl, h_3⟩ := xI1_some h_2
    obtain ⟨a3, t4, rfl, h_4⟩ := xI1_some h_3
    obtain ⟨rfl, h_5⟩ := xN1_some h_4
    clear h h_1 h_2 h_3 h_4
    have h := h_5
    rw [callW_eq] at h
    refine run_sound (r := r) (X := X) (cc := cX11_order) (own := RX11) (tab := tX11_order) G (by rw [hn]; exact kX11_order) (oI := (oF [(mX11_isOrder N)])) (oL := (oF [(mX5_above N), (mX5_below N)])) (oV := (oF [(mX5_find N)])) (rI := (fun _ _ => none)) (rL := (fun x w => some (x, w))) (rV := (fun _ => none))
      (K := (fun j ls st w => none)) (fun _ _ _ _ hx => by cases hx) (fun x w pc ls hx hd => hr x w pc ls (Option.some.inj hx) hd) (fun _ _ _ hx => by cases hx) hC (fun ls => lsb [some (.inr (.inr (15, 0))), some (.inl a1), some (.inl a2), some (.inl a3)] 0 ls) (keepsP_of rfl) ?_ 29 0 [some (.inr (.inr (15, 0))), some (.inl a1), some (.inl a2), some (.inl a3)] [] w ?_ h
    · intro j ls st w hfx h
      obtain ⟨e0, e1, e2, e3, -⟩ : _ = _ ∧ _ = _ ∧ _ = _ ∧ _ = _ ∧ True := hfx
      try dsimp only at h
      cases h
    · exact (show _ = _ ∧ _ = _ ∧ _ = _ ∧ _ = _ ∧ True from ⟨rfl, rfl, rfl, rfl, trivial⟩)
-- MoorGuides.ordered(III)I
def tX11_ordered : List EN := [
  (0, .aload_n 0, 0, 0, 0, 0, 0, []), (1, .iload_n 1, 0, 0, 0, 0, 0, []), (2, .iload_n 2, 0, 0, 0, 0, 0, []), (3, .invokevirtual 289, 0, 0, 3, 0, 0, []),
  (6, .ifCond .eq 7, 0, 7, 0, 0, 0, []), (9, .iload_n 3, 0, 0, 0, 0, 0, []), (10, .ifCond .ge 5, 0, 9, 0, 0, 0, []), (13, .iconst (-1), 0, 0, 0, (-1), 0, []),
  (14, .ireturn, 0, 0, 0, 0, 0, []), (15, .aload_n 0, 0, 0, 0, 0, 0, []), (16, .getfield 68, 0, 11, 13, 0, 0, []), (19, .iload_n 1, 0, 0, 0, 0, 0, []),
  (20, .iload_n 2, 0, 0, 0, 0, 0, []), (21, .invokevirtual 294, 0, 0, 3, 0, 0, [(0, 0), (0, 0)]), (24, .iload_n 3, 0, 0, 0, 0, 0, []), (25, .aload_n 0, 0, 0, 0, 0, 0, []),
  (26, .getfield 68, 0, 11, 13, 0, 0, []), (29, .getfield 302, 0, 5, 12, 0, 0, []), (32, .if_icmp .ge 15, 0, 25, 0, 0, 0, []), (35, .aload_n 0, 0, 0, 0, 0, 0, []),
  (36, .getfield 68, 0, 11, 13, 0, 0, []), (39, .getfield 303, 0, 5, 11, 0, 0, []), (42, .iload_n 3, 0, 0, 0, 0, 0, []), (43, .iaload, 0, 0, 0, 0, 0, []),
  (44, .goto 5, 0, 26, 0, 0, 0, []), (47, .bipush (-2), 0, 0, 0, (-2), 0, []), (49, .ireturn, 0, 0, 0, 0, 0, [])]
noncomputable def pX11_ordered (N : Nat) (a1 : Int32) (a2 : Int32) (a3 : Int32) (w : Wd) : Option (Int32 × Wd) :=
  (callW (pX11_isOrder N a1 a2) w).bind fun r1 =>
  if r1.1 = 0 then some ((-1 : Int32), r1.2) else
  if a3 < 0 then some ((-1 : Int32), r1.2) else
  (callW (pX5_find N a1 a2) r1.2).bind fun w2 =>
  if a3 < (gI w2 9 0 12) then
    (ldI w2 47 0 a3 8).bind fun x3 =>
    some (x3, w2)
  else
  some ((-2 : Int32), w2)
noncomputable def mX11_ordered (N : Nat) (as : List AV) (w : Wd) : Option (Int32 × Wd) := xS1 15 as fun t => xI1 t fun a1 t => xI1 t fun a2 t => xI1 t fun a3 t => xN1 t (callW (pX11_ordered N a1 a2 a3) w)
set_option maxRecDepth 100000 in
set_option maxHeartbeats 4000000 in
theorem kX11_ordered : TK cX11_ordered RX11 4 tX11_ordered := ⟨by decide +kernel, wok_of [743, 743, 650, 743, 648] (by decide +kernel) (by decide +kernel)⟩
set_option maxRecDepth 100000 in
set_option maxHeartbeats 4000000 in
theorem crX11_ordered {N : Nat} {X : XT} (G : GX X cX11_ordered RX11) (hR : xR X = rmL 14) : CRs X tX11_ordered (oF [(mX11_isOrder N)]) (oF []) (oF [(mX5_find N)]) := by
  have hl : tX11_ordered.filter isInv = [(3, .invokevirtual 289, 0, 0, 3, 0, 0, []), (21, .invokevirtual 294, 0, 0, 3, 0, 0, [(0, 0), (0, 0)])] := rfl
  intro e he
  rw [hl] at he
  simp only [List.mem_cons, List.not_mem_nil, or_false] at he
  rcases he with rfl | rfl
  · exact crI_V (idx := 289) G (by decide +kernel) (MX11_isOrder N) (cw_of (ps := [1296, 1298, 57, 148, 1299]) (by decide +kernel) (by decide +kernel)) ⟨by decide +kernel, by decide +kernel, by decide +kernel⟩ (by unfold rmOk; rw [hR]; exact ⟨by decide, by decide⟩)
  · exact crV_V (idx := 294) G (by decide +kernel) (MX5_find N) (cw_of (ps := [1301, 1302, 1303, 161, 1304]) (by decide +kernel) (by decide +kernel)) ⟨by decide +kernel, by decide +kernel, by decide +kernel⟩ (by unfold rmOk; rw [hR]; exact ⟨by decide, by decide⟩)
set_option maxRecDepth 100000 in
set_option maxHeartbeats 4000000 in
theorem MX11_ordered (N : Nat) : SndI yX11_ordered cX11_ordered 4 (some .int) 14 4 true (mX11_ordered N) := by
  refine SndI.of tX11_ordered (by decide +kernel) rfl rfl ?_ ?_
  · intro as w x h
    obtain ⟨t1, rfl, h_1⟩ := xS1_some h
    obtain ⟨a1, t2, rfl, h_2⟩ := xI1_some h_1
    obtain ⟨a2, t3, rfl, h_3⟩ := xI1_some h_2
    obtain ⟨a3, t4, rfl, h_4⟩ := xI1_some h_3
    obtain ⟨rfl, h_5⟩ := xN1_some h_4
    clear h h_1 h_2 h_3 h_4
    have h := h_5
    rw [callW_eq] at h
    exact ⟨fun _ => ⟨_, _, _, rfl, rfl, _, rfl, rfl⟩, rfl, Nat.le_of_ble_eq_true rfl⟩
  · intro X G hn hR as w r h hr
    have hC := crX11_ordered (N := N) G hR
    obtain ⟨t1, rfl, h_1⟩ := xS1_some h
    obtain ⟨a1, t2, rfl, h_2⟩ := xI1_some h_1
    obtain ⟨a2, t3, rfl, h_3⟩ := xI1_some h_2
    obtain ⟨a3, t4, rfl, h_4⟩ := xI1_some h_3
    obtain ⟨rfl, h_5⟩ := xN1_some h_4
    clear h h_1 h_2 h_3 h_4
    have h := h_5
    rw [callW_eq] at h
    refine run_sound (r := r) (X := X) (cc := cX11_ordered) (own := RX11) (tab := tX11_ordered) G (by rw [hn]; exact kX11_ordered) (oI := (oF [(mX11_isOrder N)])) (oL := (oF [])) (oV := (oF [(mX5_find N)])) (rI := (fun x w => some (x, w))) (rL := (fun _ _ => none)) (rV := (fun _ => none))
      (K := (fun j ls st w => none)) (fun x w pc ls hx hd => hr x w pc ls (Option.some.inj hx) hd) (fun _ _ _ _ hx => by cases hx) (fun _ _ _ hx => by cases hx) hC (fun ls => lsb [some (.inr (.inr (15, 0))), some (.inl a1), some (.inl a2), some (.inl a3)] 0 ls) (keepsP_of rfl) ?_ 29 0 [some (.inr (.inr (15, 0))), some (.inl a1), some (.inl a2), some (.inl a3)] [] w ?_ h
    · intro j ls st w hfx h
      obtain ⟨e0, e1, e2, e3, -⟩ : _ = _ ∧ _ = _ ∧ _ = _ ∧ _ = _ ∧ True := hfx
      try dsimp only at h
      cases h
    · exact (show _ = _ ∧ _ = _ ∧ _ = _ ∧ _ = _ ∧ True from ⟨rfl, rfl, rfl, rfl, trivial⟩)
-- MoorGuides.isMaster(I)Z
def tX11_isMaster : List EN := [
  (0, .iload_n 0, 0, 0, 0, 0, 0, []), (1, .ifCond .lt 12, 0, 7, 0, 0, 0, []), (4, .iload_n 0, 0, 0, 0, 0, 0, []), (5, .iconst 4, 0, 0, 0, 4, 0, []),
  (6, .if_icmp .ge 7, 0, 7, 0, 0, 0, []), (9, .iconst 1, 0, 0, 0, 1, 0, []), (10, .goto 4, 0, 8, 0, 0, 0, []), (13, .iconst 0, 0, 0, 0, 0, 0, []),
  (14, .ireturn, 0, 0, 0, 0, 0, [])]
noncomputable def pX11_isMaster (N : Nat) (a0 : Int32) (w : Wd) : Option (Int32 × Wd) :=
  if a0 < 0 then some ((0 : Int32), w) else
  if a0 < (4 : Int32) then some ((1 : Int32), w) else
  some ((0 : Int32), w)
noncomputable def mX11_isMaster (N : Nat) (as : List AV) (w : Wd) : Option (Int32 × Wd) := xI1 as fun a0 t => xN1 t (callW (pX11_isMaster N a0) w)
set_option maxRecDepth 100000 in
set_option maxHeartbeats 4000000 in
theorem kX11_isMaster : TK cX11_isMaster RX11 1 tX11_isMaster := ⟨by decide +kernel, wok_of [] (by decide +kernel) (by decide +kernel)⟩
set_option maxRecDepth 100000 in
set_option maxHeartbeats 4000000 in
theorem crX11_isMaster {N : Nat} {X : XT} (G : GX X cX11_isMaster RX11) (hR : xR X = rmL 1) : CRs X tX11_isMaster (oF []) (oF []) (oF []) := by
  have hl : tX11_isMaster.filter isInv = [] := rfl
  intro e he
  rw [hl] at he
  cases he
set_option maxRecDepth 100000 in
set_option maxHeartbeats 4000000 in
theorem MX11_isMaster (N : Nat) : SndI yX11_isMaster cX11_isMaster 1 (some .boolean) 1 1 false (mX11_isMaster N) := by
  refine SndI.ofZ tX11_isMaster (by decide +kernel) rfl rfl ?_ ?_
  · intro as w x h
    obtain ⟨a0, t1, rfl, h_1⟩ := xI1_some h
    obtain ⟨rfl, h_2⟩ := xN1_some h_1
    clear h h_1
    have h := h_2
    rw [callW_eq] at h
    exact ⟨(fun z => by cases z), rfl, Nat.le_of_ble_eq_true rfl⟩
  · intro X G hn hR as w r h hr
    have hC := crX11_isMaster (N := N) G hR
    obtain ⟨a0, t1, rfl, h_1⟩ := xI1_some h
    obtain ⟨rfl, h_2⟩ := xN1_some h_1
    clear h h_1
    have h := h_2
    rw [callW_eq] at h
    refine run_sound (r := r) (X := X) (cc := cX11_isMaster) (own := RX11) (tab := tX11_isMaster) G (by rw [hn]; exact kX11_isMaster) (oI := (oF [])) (oL := (oF [])) (oV := (oF [])) (rI := retZ) (rL := (fun _ _ => none)) (rV := (fun _ => none))
      (K := (fun j ls st w => none)) hr (fun _ _ _ _ hx => by cases hx) (fun _ _ _ hx => by cases hx) hC (fun ls => lsb [some (.inl a0)] 0 ls) (keepsP_of rfl) ?_ 11 0 [some (.inl a0)] [] w ?_ h
    · intro j ls st w hfx h
      obtain ⟨e0, -⟩ : _ = _ ∧ True := hfx
      try dsimp only at h
      cases h
    · exact (show _ = _ ∧ True from ⟨rfl, trivial⟩)
-- MoorGuides.pick(II)I
def tX11_pick : List EN := [
  (0, .iload_n 1, 0, 0, 0, 0, 0, []), (1, .invokestatic 306, 0, 0, 1, 0, 0, []), (4, .ifCond .eq 12, 0, 8, 0, 0, 0, []), (7, .iload_n 2, 0, 0, 0, 0, 0, []),
  (8, .ifCond .lt 8, 0, 8, 0, 0, 0, []), (11, .iload_n 2, 0, 0, 0, 0, 0, []), (12, .iconst 1, 0, 0, 0, 1, 0, []), (13, .if_icmp .le 5, 0, 10, 0, 0, 0, []),
  (16, .iconst (-1), 0, 0, 0, (-1), 0, []), (17, .ireturn, 0, 0, 0, 0, 0, []), (18, .aload_n 0, 0, 0, 0, 0, 0, []), (19, .getfield 75, 0, 11, 14, 0, 0, []),
  (22, .aload_n 0, 0, 0, 0, 0, 0, []), (23, .getfield 35, 0, 11, 5, 0, 0, []), (26, .iload_n 1, 0, 0, 0, 0, 0, []), (27, .invokevirtual 309, 0, 1, 3, 0, 0, []),
  (30, .ifCond .ne 6, 0, 19, 0, 0, 0, []), (33, .bipush (-2), 0, 0, 0, (-2), 0, []), (35, .ireturn, 0, 0, 0, 0, 0, []), (36, .iload_n 2, 0, 0, 0, 0, 0, []),
  (37, .ifCond .ne 13, 0, 25, 0, 0, 0, []), (40, .aload_n 0, 0, 0, 0, 0, 0, []), (41, .getfield 75, 0, 11, 14, 0, 0, []), (44, .getfield 313, 0, 3, 1, 0, 0, []),
  (47, .goto 10, 0, 28, 0, 0, 0, []), (50, .aload_n 0, 0, 0, 0, 0, 0, []), (51, .getfield 75, 0, 11, 14, 0, 0, []), (54, .getfield 316, 0, 3, 2, 0, 0, []),
  (57, .ireturn, 0, 0, 0, 0, 0, [])]
noncomputable def pX11_pick (N : Nat) (a1 : Int32) (a2 : Int32) (w : Wd) : Option (Int32 × Wd) :=
  (callW (pX11_isMaster N a1) w).bind fun r1 =>
  if r1.1 = 0 then some ((-1 : Int32), r1.2) else
  if a2 < 0 then some ((-1 : Int32), r1.2) else
  if (1 : Int32) < a2 then some ((-1 : Int32), r1.2) else
  (callW (pX3_choose N 0 a1) r1.2).bind fun r2 =>
  if r2.1 = 0 then some ((-2 : Int32), r2.2) else
  if a2 = 0 then some ((gI r2.2 7 0 1), r2.2) else
  some ((gI r2.2 7 0 2), r2.2)
noncomputable def mX11_pick (N : Nat) (as : List AV) (w : Wd) : Option (Int32 × Wd) := xS1 15 as fun t => xI1 t fun a1 t => xI1 t fun a2 t => xN1 t (callW (pX11_pick N a1 a2) w)
set_option maxRecDepth 100000 in
set_option maxHeartbeats 4000000 in
theorem kX11_pick : TK cX11_pick RX11 3 tX11_pick := ⟨by decide +kernel, wok_of [744, 735, 744, 688, 744, 690] (by decide +kernel) (by decide +kernel)⟩
set_option maxRecDepth 100000 in
set_option maxHeartbeats 4000000 in
theorem crX11_pick {N : Nat} {X : XT} (G : GX X cX11_pick RX11) (hR : xR X = rmL 7) : CRs X tX11_pick (oF [(mX11_isMaster N), (mX3_choose N)]) (oF []) (oF []) := by
  have hl : tX11_pick.filter isInv = [(1, .invokestatic 306, 0, 0, 1, 0, 0, []), (27, .invokevirtual 309, 0, 1, 3, 0, 0, [])] := rfl
  intro e he
  rw [hl] at he
  simp only [List.mem_cons, List.not_mem_nil, or_false] at he
  rcases he with rfl | rfl
  · exact crI_S (idx := 306) G (by decide +kernel) (MX11_isMaster N) (cw_of (ps := [1376, 1377, 148, 1378]) (by decide +kernel) (by decide +kernel)) ⟨by decide +kernel, by decide +kernel, by decide +kernel⟩ (by unfold rmOk; rw [hR]; exact ⟨by decide, by decide⟩)
  · exact crI_V (idx := 309) G (by decide +kernel) (MX3_choose N) (cw_of (ps := [1379, 1380, 1381, 162, 1382]) (by decide +kernel) (by decide +kernel)) ⟨by decide +kernel, by decide +kernel, by decide +kernel⟩ (by unfold rmOk; rw [hR]; exact ⟨by decide, by decide⟩)
set_option maxRecDepth 100000 in
set_option maxHeartbeats 4000000 in
theorem MX11_pick (N : Nat) : SndI yX11_pick cX11_pick 3 (some .int) 7 3 true (mX11_pick N) := by
  refine SndI.of tX11_pick (by decide +kernel) rfl rfl ?_ ?_
  · intro as w x h
    obtain ⟨t1, rfl, h_1⟩ := xS1_some h
    obtain ⟨a1, t2, rfl, h_2⟩ := xI1_some h_1
    obtain ⟨a2, t3, rfl, h_3⟩ := xI1_some h_2
    obtain ⟨rfl, h_4⟩ := xN1_some h_3
    clear h h_1 h_2 h_3
    have h := h_4
    rw [callW_eq] at h
    exact ⟨fun _ => ⟨_, _, _, rfl, rfl, _, rfl, rfl⟩, rfl, Nat.le_of_ble_eq_true rfl⟩
  · intro X G hn hR as w r h hr
    have hC := crX11_pick (N := N) G hR
    obtain ⟨t1, rfl, h_1⟩ := xS1_some h
    obtain ⟨a1, t2, rfl, h_2⟩ := xI1_some h_1
    obtain ⟨a2, t3, rfl, h_3⟩ := xI1_some h_2
    obtain ⟨rfl, h_4⟩ := xN1_some h_3
    clear h h_1 h_2 h_3
    have h := h_4
    rw [callW_eq] at h
    refine run_sound (r := r) (X := X) (cc := cX11_pick) (own := RX11) (tab := tX11_pick) G (by rw [hn]; exact kX11_pick) (oI := (oF [(mX11_isMaster N), (mX3_choose N)])) (oL := (oF [])) (oV := (oF [])) (rI := (fun x w => some (x, w))) (rL := (fun _ _ => none)) (rV := (fun _ => none))
      (K := (fun j ls st w => none)) (fun x w pc ls hx hd => hr x w pc ls (Option.some.inj hx) hd) (fun _ _ _ _ hx => by cases hx) (fun _ _ _ hx => by cases hx) hC (fun ls => lsb [some (.inr (.inr (15, 0))), some (.inl a1), some (.inl a2)] 0 ls) (keepsP_of rfl) ?_ 31 0 [some (.inr (.inr (15, 0))), some (.inl a1), some (.inl a2)] [] w ?_ h
    · intro j ls st w hfx h
      obtain ⟨e0, e1, e2, -⟩ : _ = _ ∧ _ = _ ∧ _ = _ ∧ True := hfx
      try dsimp only at h
      cases h
    · exact (show _ = _ ∧ _ = _ ∧ _ = _ ∧ True from ⟨rfl, rfl, rfl, trivial⟩)
-- MoorGuides.season(IIII)I
def tX11_season : List EN := [
  (0, .iload_n 1, 0, 0, 0, 0, 0, []), (1, .invokestatic 306, 0, 0, 1, 0, 0, []), (4, .ifCond .eq 29, 0, 16, 0, 0, 0, []), (7, .iload_n 2, 0, 0, 0, 0, 0, []),
  (8, .ifCond .lt 25, 0, 16, 0, 0, 0, []), (11, .iload_n 3, 0, 0, 0, 0, 0, []), (12, .iconst 1, 0, 0, 0, 1, 0, []), (13, .if_icmp .lt 20, 0, 16, 0, 0, 0, []),
  (16, .iload_n 3, 0, 0, 0, 0, 0, []), (17, .bipush 50, 0, 0, 0, 50, 0, []), (19, .if_icmp .gt 14, 0, 16, 0, 0, 0, []), (22, .iload 4, 0, 0, 0, 0, 0, []),
  (24, .ifCond .lt 9, 0, 16, 0, 0, 0, []), (27, .iload 4, 0, 0, 0, 0, 0, []), (29, .iconst 2, 0, 0, 0, 2, 0, []), (30, .if_icmp .le 7, 0, 18, 0, 0, 0, []),
  (33, .ldc_w 319, 0, 0, 0, (-2147483648), 0, []), (36, .ireturn, 0, 0, 0, 0, 0, []), (37, .aload_n 0, 0, 0, 0, 0, 0, []), (38, .getfield 75, 0, 11, 14, 0, 0, []),
  (41, .aload_n 0, 0, 0, 0, 0, 0, []), (42, .getfield 35, 0, 11, 5, 0, 0, []), (45, .iload_n 1, 0, 0, 0, 0, 0, []), (46, .iload_n 2, 0, 0, 0, 0, 0, []),
  (47, .iload_n 3, 0, 0, 0, 0, 0, []), (48, .invokevirtual 320, 0, 0, 5, 0, 0, [(0, 0), (0, 0)]), (51, .iload 4, 0, 0, 0, 0, 0, []), (53, .ifCond .ne 11, 0, 32, 0, 0, 0, []),
  (56, .aload_n 0, 0, 0, 0, 0, 0, []), (57, .getfield 75, 0, 11, 14, 0, 0, []), (60, .getfield 324, 0, 3, 3, 0, 0, []), (63, .ireturn, 0, 0, 0, 0, 0, []),
  (64, .iload 4, 0, 0, 0, 0, 0, []), (66, .iconst 1, 0, 0, 0, 1, 0, []), (67, .if_icmp .ne 17, 0, 41, 0, 0, 0, []), (70, .aload_n 0, 0, 0, 0, 0, 0, []),
  (71, .getfield 75, 0, 11, 14, 0, 0, []), (74, .aload_n 0, 0, 0, 0, 0, 0, []), (75, .getfield 35, 0, 11, 5, 0, 0, []), (78, .invokevirtual 327, 0, 1, 2, 0, 0, []),
  (81, .goto 10, 0, 44, 0, 0, 0, []), (84, .aload_n 0, 0, 0, 0, 0, 0, []), (85, .getfield 75, 0, 11, 14, 0, 0, []), (88, .getfield 331, 0, 3, 4, 0, 0, []),
  (91, .ireturn, 0, 0, 0, 0, 0, [])]
noncomputable def pX11_season (N : Nat) (a1 : Int32) (a2 : Int32) (a3 : Int32) (a4 : Int32) (w : Wd) : Option (Int32 × Wd) :=
  (callW (pX11_isMaster N a1) w).bind fun r1 =>
  if r1.1 = 0 then some ((-2147483648 : Int32), r1.2) else
  if a2 < 0 then some ((-2147483648 : Int32), r1.2) else
  if a3 < (1 : Int32) then some ((-2147483648 : Int32), r1.2) else
  if (50 : Int32) < a3 then some ((-2147483648 : Int32), r1.2) else
  if a4 < 0 then some ((-2147483648 : Int32), r1.2) else
  if (2 : Int32) < a4 then some ((-2147483648 : Int32), r1.2) else
  (callW (pX3_play N 0 a1 a2 a3) r1.2).bind fun w2 =>
  if a4 = 0 then some ((gI w2 7 0 3), w2) else
  if a4 = (1 : Int32) then
    (callW (pX3_newlyGone N 0) w2).bind fun r3 =>
    some (r3.1, r3.2)
  else
  some ((gI w2 7 0 4), w2)
noncomputable def mX11_season (N : Nat) (as : List AV) (w : Wd) : Option (Int32 × Wd) := xS1 15 as fun t => xI1 t fun a1 t => xI1 t fun a2 t => xI1 t fun a3 t => xI1 t fun a4 t => xN1 t (callW (pX11_season N a1 a2 a3 a4) w)
set_option maxRecDepth 100000 in
set_option maxHeartbeats 4000000 in
theorem kX11_season : TK cX11_season RX11 5 tX11_season := ⟨by decide +kernel, wok_of [1398, 744, 735, 744, 692, 744, 735, 744, 694] (by decide +kernel) (by decide +kernel)⟩
set_option maxRecDepth 100000 in
set_option maxHeartbeats 4000000 in
theorem crX11_season {N : Nat} {X : XT} (G : GX X cX11_season RX11) (hR : xR X = rmL 8) : CRs X tX11_season (oF [(mX11_isMaster N), (mX3_newlyGone N)]) (oF []) (oF [(mX3_play N)]) := by
  have hl : tX11_season.filter isInv = [(1, .invokestatic 306, 0, 0, 1, 0, 0, []), (48, .invokevirtual 320, 0, 0, 5, 0, 0, [(0, 0), (0, 0)]), (78, .invokevirtual 327, 0, 1, 2, 0, 0, [])] := rfl
  intro e he
  rw [hl] at he
  simp only [List.mem_cons, List.not_mem_nil, or_false] at he
  rcases he with rfl | rfl | rfl
  · exact crI_S (idx := 306) G (by decide +kernel) (MX11_isMaster N) (cw_of (ps := [1376, 1377, 148, 1378]) (by decide +kernel) (by decide +kernel)) ⟨by decide +kernel, by decide +kernel, by decide +kernel⟩ (by unfold rmOk; rw [hR]; exact ⟨by decide, by decide⟩)
  · exact crV_V (idx := 320) G (by decide +kernel) (MX3_play N) (cw_of (ps := [1399, 1400, 1401, 162, 1402]) (by decide +kernel) (by decide +kernel)) ⟨by decide +kernel, by decide +kernel, by decide +kernel⟩ (by unfold rmOk; rw [hR]; exact ⟨by decide, by decide⟩)
  · exact crI_V (idx := 327) G (by decide +kernel) (MX3_newlyGone N) (cw_of (ps := [1417, 1418, 1419, 162, 1420]) (by decide +kernel) (by decide +kernel)) ⟨by decide +kernel, by decide +kernel, by decide +kernel⟩ (by unfold rmOk; rw [hR]; exact ⟨by decide, by decide⟩)
set_option maxRecDepth 100000 in
set_option maxHeartbeats 4000000 in
theorem MX11_season (N : Nat) : SndI yX11_season cX11_season 5 (some .int) 8 5 true (mX11_season N) := by
  refine SndI.of tX11_season (by decide +kernel) rfl rfl ?_ ?_
  · intro as w x h
    obtain ⟨t1, rfl, h_1⟩ := xS1_some h
    obtain ⟨a1, t2, rfl, h_2⟩ := xI1_some h_1
    obtain ⟨a2, t3, rfl, h_3⟩ := xI1_some h_2
    obtain ⟨a3, t4, rfl, h_4⟩ := xI1_some h_3
    obtain ⟨a4, t5, rfl, h_5⟩ := xI1_some h_4
    obtain ⟨rfl, h_6⟩ := xN1_some h_5
    clear h h_1 h_2 h_3 h_4 h_5
    have h := h_6
    rw [callW_eq] at h
    exact ⟨fun _ => ⟨_, _, _, rfl, rfl, _, rfl, rfl⟩, rfl, Nat.le_of_ble_eq_true rfl⟩
  · intro X G hn hR as w r h hr
    have hC := crX11_season (N := N) G hR
    obtain ⟨t1, rfl, h_1⟩ := xS1_some h
    obtain ⟨a1, t2, rfl, h_2⟩ := xI1_some h_1
    obtain ⟨a2, t3, rfl, h_3⟩ := xI1_some h_2
    obtain ⟨a3, t4, rfl, h_4⟩ := xI1_some h_3
    obtain ⟨a4, t5, rfl, h_5⟩ := xI1_some h_4
    obtain ⟨rfl, h_6⟩ := xN1_some h_5
    clear h h_1 h_2 h_3 h_4 h_5
    have h := h_6
    rw [callW_eq] at h
    refine run_sound (r := r) (X := X) (cc := cX11_season) (own := RX11) (tab := tX11_season) G (by rw [hn]; exact kX11_season) (oI := (oF [(mX11_isMaster N), (mX3_newlyGone N)])) (oL := (oF [])) (oV := (oF [(mX3_play N)])) (rI := (fun x w => some (x, w))) (rL := (fun _ _ => none)) (rV := (fun _ => none))
      (K := (fun j ls st w => none)) (fun x w pc ls hx hd => hr x w pc ls (Option.some.inj hx) hd) (fun _ _ _ _ hx => by cases hx) (fun _ _ _ hx => by cases hx) hC (fun ls => lsb [some (.inr (.inr (15, 0))), some (.inl a1), some (.inl a2), some (.inl a3), some (.inl a4)] 0 ls) (keepsP_of rfl) ?_ 47 0 [some (.inr (.inr (15, 0))), some (.inl a1), some (.inl a2), some (.inl a3), some (.inl a4)] [] w ?_ h
    · intro j ls st w hfx h
      obtain ⟨e0, e1, e2, e3, e4, -⟩ : _ = _ ∧ _ = _ ∧ _ = _ ∧ _ = _ ∧ _ = _ ∧ True := hfx
      try dsimp only at h
      cases h
    · exact (show _ = _ ∧ _ = _ ∧ _ = _ ∧ _ = _ ∧ _ = _ ∧ True from ⟨rfl, rfl, rfl, rfl, rfl, trivial⟩)
-- MoorGuides.claim(III)I
def tX11_claim : List EN := [
  (0, .aload_n 0, 0, 0, 0, 0, 0, []), (1, .iload_n 1, 0, 0, 0, 0, 0, []), (2, .invokevirtual 146, 0, 0, 2, 0, 0, []), (5, .ifCond .eq 18, 0, 11, 0, 0, 0, []),
  (8, .iload_n 2, 0, 0, 0, 0, 0, []), (9, .invokestatic 201, 0, 1, 1, 0, 0, []), (12, .ifCond .eq 11, 0, 11, 0, 0, 0, []), (15, .aload_n 0, 0, 0, 0, 0, 0, []),
  (16, .iload_n 3, 0, 0, 0, 0, 0, []), (17, .invokevirtual 185, 0, 2, 2, 0, 0, []), (20, .ifCond .ne 5, 0, 13, 0, 0, 0, []), (23, .iconst (-1), 0, 0, 0, (-1), 0, []),
  (24, .ireturn, 0, 0, 0, 0, 0, []), (25, .aload_n 0, 0, 0, 0, 0, 0, []), (26, .getfield 82, 0, 11, 15, 0, 0, []), (29, .aload_n 0, 0, 0, 0, 0, 0, []),
  (30, .getfield 16, 0, 11, 2, 0, 0, []), (33, .iload_n 1, 0, 0, 0, 0, 0, []), (34, .iload_n 2, 0, 0, 0, 0, 0, []), (35, .iload_n 3, 0, 0, 0, 0, 0, []),
  (36, .invokevirtual 334, 0, 3, 5, 0, 0, []), (39, .ireturn, 0, 0, 0, 0, 0, [])]
noncomputable def pX11_claim (N : Nat) (a1 : Int32) (a2 : Int32) (a3 : Int32) (w : Wd) : Option (Int32 × Wd) :=
  (callW (pX11_isPerson N a1) w).bind fun r1 =>
  if r1.1 = 0 then some ((-1 : Int32), r1.2) else
  (callW (pX11_isNight N a2) r1.2).bind fun r2 =>
  if r2.1 = 0 then some ((-1 : Int32), r2.2) else
  (callW (pX11_isPart N a3) r2.2).bind fun r3 =>
  if r3.1 = 0 then some ((-1 : Int32), r3.2) else
  (callW (pX0_add N (gR r3.2 15 0 2) a1 a2 a3) r3.2).bind fun r4 =>
  some (r4.1, r4.2)
noncomputable def mX11_claim (N : Nat) (as : List AV) (w : Wd) : Option (Int32 × Wd) := xS1 15 as fun t => xI1 t fun a1 t => xI1 t fun a2 t => xI1 t fun a3 t => xN1 t (callW (pX11_claim N a1 a2 a3) w)
set_option maxRecDepth 100000 in
set_option maxHeartbeats 4000000 in
theorem kX11_claim : TK cX11_claim RX11 4 tX11_claim := ⟨by decide +kernel, wok_of [745, 732] (by decide +kernel) (by decide +kernel)⟩
set_option maxRecDepth 100000 in
set_option maxHeartbeats 4000000 in
theorem crX11_claim {N : Nat} {X : XT} (G : GX X cX11_claim RX11) (hR : xR X = rmL 5) : CRs X tX11_claim (oF [(mX11_isPerson N), (mX11_isNight N), (mX11_isPart N), (mX0_add N)]) (oF []) (oF []) := by
  have hl : tX11_claim.filter isInv = [(2, .invokevirtual 146, 0, 0, 2, 0, 0, []), (9, .invokestatic 201, 0, 1, 1, 0, 0, []), (17, .invokevirtual 185, 0, 2, 2, 0, 0, []), (36, .invokevirtual 334, 0, 3, 5, 0, 0, [])] := rfl
  intro e he
  rw [hl] at he
  simp only [List.mem_cons, List.not_mem_nil, or_false] at he
  rcases he with rfl | rfl | rfl | rfl
  · exact crI_V (idx := 146) G (by decide +kernel) (MX11_isPerson N) (cw_of (ps := [1033, 1035, 34, 148, 1036]) (by decide +kernel) (by decide +kernel)) ⟨by decide +kernel, by decide +kernel, by decide +kernel⟩ (by unfold rmOk; rw [hR]; exact ⟨by decide, by decide⟩)
  · exact crI_S (idx := 201) G (by decide +kernel) (MX11_isNight N) (cw_of (ps := [1037, 1038, 148, 1039]) (by decide +kernel) (by decide +kernel)) ⟨by decide +kernel, by decide +kernel, by decide +kernel⟩ (by unfold rmOk; rw [hR]; exact ⟨by decide, by decide⟩)
  · exact crI_V (idx := 185) G (by decide +kernel) (MX11_isPart N) (cw_of (ps := [1009, 1011, 33, 148, 1012]) (by decide +kernel) (by decide +kernel)) ⟨by decide +kernel, by decide +kernel, by decide +kernel⟩ (by unfold rmOk; rw [hR]; exact ⟨by decide, by decide⟩)
  · exact crI_V (idx := 334) G (by decide +kernel) (MX0_add N) (cw_of (ps := [1425, 1426, 1427, 163, 1428]) (by decide +kernel) (by decide +kernel)) ⟨by decide +kernel, by decide +kernel, by decide +kernel⟩ (by unfold rmOk; rw [hR]; exact ⟨by decide, by decide⟩)
set_option maxRecDepth 100000 in
set_option maxHeartbeats 4000000 in
theorem MX11_claim (N : Nat) : SndI yX11_claim cX11_claim 4 (some .int) 5 4 true (mX11_claim N) := by
  refine SndI.of tX11_claim (by decide +kernel) rfl rfl ?_ ?_
  · intro as w x h
    obtain ⟨t1, rfl, h_1⟩ := xS1_some h
    obtain ⟨a1, t2, rfl, h_2⟩ := xI1_some h_1
    obtain ⟨a2, t3, rfl, h_3⟩ := xI1_some h_2
    obtain ⟨a3, t4, rfl, h_4⟩ := xI1_some h_3
    obtain ⟨rfl, h_5⟩ := xN1_some h_4
    clear h h_1 h_2 h_3 h_4
    have h := h_5
    rw [callW_eq] at h
    exact ⟨fun _ => ⟨_, _, _, rfl, rfl, _, rfl, rfl⟩, rfl, Nat.le_of_ble_eq_true rfl⟩
  · intro X G hn hR as w r h hr
    have hC := crX11_claim (N := N) G hR
    obtain ⟨t1, rfl, h_1⟩ := xS1_some h
    obtain ⟨a1, t2, rfl, h_2⟩ := xI1_some h_1
    obtain ⟨a2, t3, rfl, h_3⟩ := xI1_some h_2
    obtain ⟨a3, t4, rfl, h_4⟩ := xI1_some h_3
    obtain ⟨rfl, h_5⟩ := xN1_some h_4
    clear h h_1 h_2 h_3 h_4
    have h := h_5
    rw [callW_eq] at h
    refine run_sound (r := r) (X := X) (cc := cX11_claim) (own := RX11) (tab := tX11_claim) G (by rw [hn]; exact kX11_claim) (oI := (oF [(mX11_isPerson N), (mX11_isNight N), (mX11_isPart N), (mX0_add N)])) (oL := (oF [])) (oV := (oF [])) (rI := (fun x w => some (x, w))) (rL := (fun _ _ => none)) (rV := (fun _ => none))
      (K := (fun j ls st w => none)) (fun x w pc ls hx hd => hr x w pc ls (Option.some.inj hx) hd) (fun _ _ _ _ hx => by cases hx) (fun _ _ _ hx => by cases hx) hC (fun ls => lsb [some (.inr (.inr (15, 0))), some (.inl a1), some (.inl a2), some (.inl a3)] 0 ls) (keepsP_of rfl) ?_ 24 0 [some (.inr (.inr (15, 0))), some (.inl a1), some (.inl a2), some (.inl a3)] [] w ?_ h
    · intro j ls st w hfx h
      obtain ⟨e0, e1, e2, e3, -⟩ : _ = _ ∧ _ = _ ∧ _ = _ ∧ _ = _ ∧ True := hfx
      try dsimp only at h
      cases h
    · exact (show _ = _ ∧ _ = _ ∧ _ = _ ∧ _ = _ ∧ True from ⟨rfl, rfl, rfl, rfl, trivial⟩)
-- MoorGuides.wrongly()I
def tX11_wrongly : List EN := [
  (0, .aload_n 0, 0, 0, 0, 0, 0, []), (1, .getfield 82, 0, 11, 15, 0, 0, []), (4, .invokevirtual 338, 0, 0, 1, 0, 0, []), (7, .ireturn, 0, 0, 0, 0, 0, [])]
noncomputable def pX11_wrongly (N : Nat) (w : Wd) : Option (Int32 × Wd) :=
  (callW (pX0_falseOnes N) w).bind fun r1 =>
  some (r1.1, r1.2)
noncomputable def mX11_wrongly (N : Nat) (as : List AV) (w : Wd) : Option (Int32 × Wd) := xS1 15 as fun t => xN1 t (callW (pX11_wrongly N) w)
set_option maxRecDepth 100000 in
set_option maxHeartbeats 4000000 in
theorem kX11_wrongly : TK cX11_wrongly RX11 1 tX11_wrongly := ⟨by decide +kernel, wok_of [745] (by decide +kernel) (by decide +kernel)⟩
set_option maxRecDepth 100000 in
set_option maxHeartbeats 4000000 in
theorem crX11_wrongly {N : Nat} {X : XT} (G : GX X cX11_wrongly RX11) (hR : xR X = rmL 3) : CRs X tX11_wrongly (oF [(mX0_falseOnes N)]) (oF []) (oF []) := by
  have hl : tX11_wrongly.filter isInv = [(4, .invokevirtual 338, 0, 0, 1, 0, 0, [])] := rfl
  intro e he
  rw [hl] at he
  simp only [List.mem_cons, List.not_mem_nil, or_false] at he
  rcases he with rfl
  · exact crI_V (idx := 338) G (by decide +kernel) (MX0_falseOnes N) (cw_of (ps := [1438, 1439, 1440, 163, 1441]) (by decide +kernel) (by decide +kernel)) ⟨by decide +kernel, by decide +kernel, by decide +kernel⟩ (by unfold rmOk; rw [hR]; exact ⟨by decide, by decide⟩)
set_option maxRecDepth 100000 in
set_option maxHeartbeats 4000000 in
theorem MX11_wrongly (N : Nat) : SndI yX11_wrongly cX11_wrongly 1 (some .int) 3 1 true (mX11_wrongly N) := by
  refine SndI.of tX11_wrongly (by decide +kernel) rfl rfl ?_ ?_
  · intro as w x h
    obtain ⟨t1, rfl, h_1⟩ := xS1_some h
    obtain ⟨rfl, h_2⟩ := xN1_some h_1
    clear h h_1
    have h := h_2
    rw [callW_eq] at h
    exact ⟨fun _ => ⟨_, _, _, rfl, rfl, _, rfl, rfl⟩, rfl, Nat.le_of_ble_eq_true rfl⟩
  · intro X G hn hR as w r h hr
    have hC := crX11_wrongly (N := N) G hR
    obtain ⟨t1, rfl, h_1⟩ := xS1_some h
    obtain ⟨rfl, h_2⟩ := xN1_some h_1
    clear h h_1
    have h := h_2
    rw [callW_eq] at h
    refine run_sound (r := r) (X := X) (cc := cX11_wrongly) (own := RX11) (tab := tX11_wrongly) G (by rw [hn]; exact kX11_wrongly) (oI := (oF [(mX0_falseOnes N)])) (oL := (oF [])) (oV := (oF [])) (rI := (fun x w => some (x, w))) (rL := (fun _ _ => none)) (rV := (fun _ => none))
      (K := (fun j ls st w => none)) (fun x w pc ls hx hd => hr x w pc ls (Option.some.inj hx) hd) (fun _ _ _ _ hx => by cases hx) (fun _ _ _ hx => by cases hx) hC (fun ls => lsb [some (.inr (.inr (15, 0)))] 0 ls) (keepsP_of rfl) ?_ 6 0 [some (.inr (.inr (15, 0)))] [] w ?_ h
    · intro j ls st w hfx h
      obtain ⟨e0, -⟩ : _ = _ ∧ True := hfx
      try dsimp only at h
      cases h
    · exact (show _ = _ ∧ True from ⟨rfl, trivial⟩)
-- MoorGuides.against(I)I
def tX11_against : List EN := [
  (0, .iload_n 1, 0, 0, 0, 0, 0, []), (1, .ifCond .lt 29, 0, 14, 0, 0, 0, []), (4, .iload_n 1, 0, 0, 0, 0, 0, []), (5, .aload_n 0, 0, 0, 0, 0, 0, []),
  (6, .getfield 82, 0, 11, 15, 0, 0, []), (9, .getfield 341, 0, 0, 0, 0, 0, []), (12, .if_icmp .ge 18, 0, 14, 0, 0, 0, []), (15, .aload_n 0, 0, 0, 0, 0, 0, []),
  (16, .getfield 82, 0, 11, 15, 0, 0, []), (19, .getfield 342, 0, 0, 4, 0, 0, []), (22, .iload_n 1, 0, 0, 0, 0, 0, []), (23, .iaload, 0, 0, 0, 0, 0, []),
  (24, .invokestatic 284, 0, 0, 1, 0, 0, []), (27, .goto 4, 0, 15, 0, 0, 0, []), (30, .iconst (-1), 0, 0, 0, (-1), 0, []), (31, .ireturn, 0, 0, 0, 0, 0, [])]
noncomputable def pX11_against (N : Nat) (a1 : Int32) (w : Wd) : Option (Int32 × Wd) :=
  if a1 < 0 then some ((-1 : Int32), w) else
  if a1 < (gI w 4 0 0) then
    (ldI w 20 0 a1 12).bind fun x1 =>
    (callW (pJ6_bitCount_0f7a4 N x1) w).bind fun r2 =>
    some (r2.1, r2.2)
  else
  some ((-1 : Int32), w)
noncomputable def mX11_against (N : Nat) (as : List AV) (w : Wd) : Option (Int32 × Wd) := xS1 15 as fun t => xI1 t fun a1 t => xN1 t (callW (pX11_against N a1) w)
set_option maxRecDepth 100000 in
set_option maxHeartbeats 4000000 in
theorem kX11_against : TK cX11_against RX11 2 tX11_against := ⟨by decide +kernel, wok_of [745, 713, 745, 718] (by decide +kernel) (by decide +kernel)⟩
set_option maxRecDepth 100000 in
set_option maxHeartbeats 4000000 in
theorem crX11_against {N : Nat} {X : XT} (G : GX X cX11_against RX11) (hR : xR X = rmL 2) : CRs X tX11_against (oF [(mJ6_bitCount_0f7a4 N)]) (oF []) (oF []) := by
  have hl : tX11_against.filter isInv = [(24, .invokestatic 284, 0, 0, 1, 0, 0, [])] := rfl
  intro e he
  rw [hl] at he
  simp only [List.mem_cons, List.not_mem_nil, or_false] at he
  rcases he with rfl
  · exact crI_S (idx := 284) G (by decide +kernel) (MJ6_bitCount_0f7a4 N) (cw_of (ps := [1291, 1071, 171, 1072]) (by decide +kernel) (by decide +kernel)) ⟨by decide +kernel, by decide +kernel, by decide +kernel⟩ (by unfold rmOk; rw [hR]; exact ⟨by decide, by decide⟩)
set_option maxRecDepth 100000 in
set_option maxHeartbeats 4000000 in
theorem MX11_against (N : Nat) : SndI yX11_against cX11_against 2 (some .int) 2 2 true (mX11_against N) := by
  refine SndI.of tX11_against (by decide +kernel) rfl rfl ?_ ?_
  · intro as w x h
    obtain ⟨t1, rfl, h_1⟩ := xS1_some h
    obtain ⟨a1, t2, rfl, h_2⟩ := xI1_some h_1
    obtain ⟨rfl, h_3⟩ := xN1_some h_2
    clear h h_1 h_2
    have h := h_3
    rw [callW_eq] at h
    exact ⟨fun _ => ⟨_, _, _, rfl, rfl, _, rfl, rfl⟩, rfl, Nat.le_of_ble_eq_true rfl⟩
  · intro X G hn hR as w r h hr
    have hC := crX11_against (N := N) G hR
    obtain ⟨t1, rfl, h_1⟩ := xS1_some h
    obtain ⟨a1, t2, rfl, h_2⟩ := xI1_some h_1
    obtain ⟨rfl, h_3⟩ := xN1_some h_2
    clear h h_1 h_2
    have h := h_3
    rw [callW_eq] at h
    refine run_sound (r := r) (X := X) (cc := cX11_against) (own := RX11) (tab := tX11_against) G (by rw [hn]; exact kX11_against) (oI := (oF [(mJ6_bitCount_0f7a4 N)])) (oL := (oF [])) (oV := (oF [])) (rI := (fun x w => some (x, w))) (rL := (fun _ _ => none)) (rV := (fun _ => none))
      (K := (fun j ls st w => none)) (fun x w pc ls hx hd => hr x w pc ls (Option.some.inj hx) hd) (fun _ _ _ _ hx => by cases hx) (fun _ _ _ hx => by cases hx) hC (fun ls => lsb [some (.inr (.inr (15, 0))), some (.inl a1)] 0 ls) (keepsP_of rfl) ?_ 18 0 [some (.inr (.inr (15, 0))), some (.inl a1)] [] w ?_ h
    · intro j ls st w hfx h
      obtain ⟨e0, e1, -⟩ : _ = _ ∧ _ = _ ∧ True := hfx
      try dsimp only at h
      cases h
    · exact (show _ = _ ∧ _ = _ ∧ True from ⟨rfl, rfl, trivial⟩)
-- MoorGuides.slide(I)I
def tX11_slide : List EN := [
  (0, .aload_n 0, 0, 0, 0, 0, 0, []), (1, .iload_n 1, 0, 0, 0, 0, 0, []), (2, .invokevirtual 185, 0, 0, 2, 0, 0, []), (5, .ifCond .eq 21, 0, 12, 0, 0, 0, []),
  (8, .aload_n 0, 0, 0, 0, 0, 0, []), (9, .getfield 35, 0, 11, 5, 0, 0, []), (12, .iload_n 1, 0, 0, 0, 0, 0, []), (13, .aload_n 0, 0, 0, 0, 0, 0, []),
  (14, .getfield 35, 0, 11, 5, 0, 0, []), (17, .getfield 157, 0, 9, 1, 0, 0, []), (20, .invokevirtual 345, 0, 1, 3, 0, 0, []), (23, .ifCond .ne 5, 0, 14, 0, 0, 0, []),
  (26, .iconst (-1), 0, 0, 0, (-1), 0, []), (27, .ireturn, 0, 0, 0, 0, 0, []), (28, .aload_n 0, 0, 0, 0, 0, 0, []), (29, .iconst (-1), 0, 0, 0, (-1), 0, []),
  (30, .iconst (-1), 0, 0, 0, (-1), 0, []), (31, .invokevirtual 233, 0, 0, 3, 0, 0, [(0, 0), (0, 0)]), (34, .aload_n 0, 0, 0, 0, 0, 0, []), (35, .getfield 68, 0, 11, 13, 0, 0, []),
  (38, .invokevirtual 112, 0, 1, 1, 0, 0, [(0, 0), (0, 0)]), (41, .aload_n 0, 0, 0, 0, 0, 0, []), (42, .getfield 35, 0, 11, 5, 0, 0, []), (45, .getfield 348, 0, 9, 7, 0, 0, []),
  (48, .ireturn, 0, 0, 0, 0, 0, [])]
noncomputable def pX11_slide (N : Nat) (a1 : Int32) (w : Wd) : Option (Int32 × Wd) :=
  (callW (pX11_isPart N a1) w).bind fun r1 =>
  if r1.1 = 0 then some ((-1 : Int32), r1.2) else
  (callW (pX9_addSlide N 0 a1 (gI r1.2 13 0 1)) r1.2).bind fun r2 =>
  if r2.1 = 0 then some ((-1 : Int32), r2.2) else
  (callW (pX11_remember N (-1 : Int32) (-1 : Int32)) r2.2).bind fun w3 =>
  (callW (pX5_drop N) w3).bind fun w4 =>
  some ((gI w4 13 0 7), w4)
noncomputable def mX11_slide (N : Nat) (as : List AV) (w : Wd) : Option (Int32 × Wd) := xS1 15 as fun t => xI1 t fun a1 t => xN1 t (callW (pX11_slide N a1) w)
set_option maxRecDepth 100000 in
set_option maxHeartbeats 4000000 in
theorem kX11_slide : TK cX11_slide RX11 2 tX11_slide := ⟨by decide +kernel, wok_of [735, 735, 524, 743, 735, 539] (by decide +kernel) (by decide +kernel)⟩
set_option maxRecDepth 100000 in
set_option maxHeartbeats 4000000 in
theorem crX11_slide {N : Nat} {X : XT} (G : GX X cX11_slide RX11) (hR : xR X = rmL 2) : CRs X tX11_slide (oF [(mX11_isPart N), (mX9_addSlide N)]) (oF []) (oF [(mX11_remember N), (mX5_drop N)]) := by
  have hl : tX11_slide.filter isInv = [(2, .invokevirtual 185, 0, 0, 2, 0, 0, []), (20, .invokevirtual 345, 0, 1, 3, 0, 0, []), (31, .invokevirtual 233, 0, 0, 3, 0, 0, [(0, 0), (0, 0)]), (38, .invokevirtual 112, 0, 1, 1, 0, 0, [(0, 0), (0, 0)])] := rfl
  intro e he
  rw [hl] at he
  simp only [List.mem_cons, List.not_mem_nil, or_false] at he
  rcases he with rfl | rfl | rfl | rfl
  · exact crI_V (idx := 185) G (by decide +kernel) (MX11_isPart N) (cw_of (ps := [1009, 1011, 33, 148, 1012]) (by decide +kernel) (by decide +kernel)) ⟨by decide +kernel, by decide +kernel, by decide +kernel⟩ (by unfold rmOk; rw [hR]; exact ⟨by decide, by decide⟩)
  · exact crI_V (idx := 345) G (by decide +kernel) (MX9_addSlide N) (cw_of (ps := [1455, 513, 514, 158, 515]) (by decide +kernel) (by decide +kernel)) ⟨by decide +kernel, by decide +kernel, by decide +kernel⟩ (by unfold rmOk; rw [hR]; exact ⟨by decide, by decide⟩)
  · exact crV_V (idx := 233) G (by decide +kernel) (MX11_remember N) (cw_of (ps := [1121, 1123, 38, 148, 1124]) (by decide +kernel) (by decide +kernel)) ⟨by decide +kernel, by decide +kernel, by decide +kernel⟩ (by unfold rmOk; rw [hR]; exact ⟨by decide, by decide⟩)
  · exact crV_V (idx := 112) G (by decide +kernel) (MX5_drop N) (cw_of (ps := [992, 993, 994, 161, 995]) (by decide +kernel) (by decide +kernel)) ⟨by decide +kernel, by decide +kernel, by decide +kernel⟩ (by unfold rmOk; rw [hR]; exact ⟨by decide, by decide⟩)
set_option maxRecDepth 100000 in
set_option maxHeartbeats 4000000 in
theorem MX11_slide (N : Nat) : SndI yX11_slide cX11_slide 2 (some .int) 2 2 true (mX11_slide N) := by
  refine SndI.of tX11_slide (by decide +kernel) rfl rfl ?_ ?_
  · intro as w x h
    obtain ⟨t1, rfl, h_1⟩ := xS1_some h
    obtain ⟨a1, t2, rfl, h_2⟩ := xI1_some h_1
    obtain ⟨rfl, h_3⟩ := xN1_some h_2
    clear h h_1 h_2
    have h := h_3
    rw [callW_eq] at h
    exact ⟨fun _ => ⟨_, _, _, rfl, rfl, _, rfl, rfl⟩, rfl, Nat.le_of_ble_eq_true rfl⟩
  · intro X G hn hR as w r h hr
    have hC := crX11_slide (N := N) G hR
    obtain ⟨t1, rfl, h_1⟩ := xS1_some h
    obtain ⟨a1, t2, rfl, h_2⟩ := xI1_some h_1
    obtain ⟨rfl, h_3⟩ := xN1_some h_2
    clear h h_1 h_2
    have h := h_3
    rw [callW_eq] at h
    refine run_sound (r := r) (X := X) (cc := cX11_slide) (own := RX11) (tab := tX11_slide) G (by rw [hn]; exact kX11_slide) (oI := (oF [(mX11_isPart N), (mX9_addSlide N)])) (oL := (oF [])) (oV := (oF [(mX11_remember N), (mX5_drop N)])) (rI := (fun x w => some (x, w))) (rL := (fun _ _ => none)) (rV := (fun _ => none))
      (K := (fun j ls st w => none)) (fun x w pc ls hx hd => hr x w pc ls (Option.some.inj hx) hd) (fun _ _ _ _ hx => by cases hx) (fun _ _ _ hx => by cases hx) hC (fun ls => lsb [some (.inr (.inr (15, 0))), some (.inl a1)] 0 ls) (keepsP_of rfl) ?_ 27 0 [some (.inr (.inr (15, 0))), some (.inl a1)] [] w ?_ h
    · intro j ls st w hfx h
      obtain ⟨e0, e1, -⟩ : _ = _ ∧ _ = _ ∧ True := hfx
      try dsimp only at h
      cases h
    · exact (show _ = _ ∧ _ = _ ∧ True from ⟨rfl, rfl, trivial⟩)
-- MoorGuides.undo()I
def tX11_undo : List EN := [
  (0, .aload_n 0, 0, 0, 0, 0, 0, []), (1, .getfield 109, 0, 11, 8, 0, 0, []), (4, .ifCond .ne 5, 0, 5, 0, 0, 0, []), (7, .iconst (-1), 0, 0, 0, (-1), 0, []),
  (8, .ireturn, 0, 0, 0, 0, 0, []), (9, .aload_n 0, 0, 0, 0, 0, 0, []), (10, .dup, 0, 0, 0, 0, 0, []), (11, .getfield 109, 0, 11, 8, 0, 0, []),
  (14, .iconst 1, 0, 0, 0, 1, 0, []), (15, .isub, 0, 0, 0, 0, 0, []), (16, .putfield 109, 0, 11, 8, 0, 0, []), (19, .aload_n 0, 0, 0, 0, 0, 0, []),
  (20, .getfield 42, 0, 11, 9, 0, 0, []), (23, .aload_n 0, 0, 0, 0, 0, 0, []), (24, .getfield 109, 0, 11, 8, 0, 0, []), (27, .iaload, 0, 0, 0, 0, 0, []),
  (28, .istore_n 1, 0, 0, 0, 0, 0, []), (29, .iload_n 1, 0, 0, 0, 0, 0, []), (30, .iconst (-1), 0, 0, 0, (-1), 0, []), (31, .if_icmp .ne 19, 0, 28, 0, 0, 0, []),
  (34, .aload_n 0, 0, 0, 0, 0, 0, []), (35, .getfield 35, 0, 11, 5, 0, 0, []), (38, .dup, 0, 0, 0, 0, 0, []), (39, .getfield 348, 0, 9, 7, 0, 0, []),
  (42, .iconst 1, 0, 0, 0, 1, 0, []), (43, .isub, 0, 0, 0, 0, 0, []), (44, .putfield 348, 0, 9, 7, 0, 0, []), (47, .goto 21, 0, 38, 0, 0, 0, []),
  (50, .aload_n 0, 0, 0, 0, 0, 0, []), (51, .getfield 35, 0, 11, 5, 0, 0, []), (54, .getfield 177, 0, 9, 6, 0, 0, []), (57, .iload_n 1, 0, 0, 0, 0, 0, []),
  (58, .aload_n 0, 0, 0, 0, 0, 0, []), (59, .getfield 46, 0, 11, 10, 0, 0, []), (62, .aload_n 0, 0, 0, 0, 0, 0, []), (63, .getfield 109, 0, 11, 8, 0, 0, []),
  (66, .iaload, 0, 0, 0, 0, 0, []), (67, .iastore, 0, 0, 0, 0, 0, []), (68, .aload_n 0, 39, 0, 0, 0, 0, []), (69, .getfield 68, 0, 11, 13, 0, 0, []),
  (72, .invokevirtual 112, 0, 0, 1, 0, 0, [(0, 0), (0, 0)]), (75, .aload_n 0, 0, 0, 0, 0, 0, []), (76, .getfield 109, 0, 11, 8, 0, 0, []), (79, .ireturn, 0, 0, 0, 0, 0, [])]
noncomputable def fX11_undo_38 (N : Nat) (w : Wd) : Option (Int32 × Wd) :=
  (callW (pX5_drop N) w).bind fun w1 =>
  some ((gI w1 15 0 8), w1)
noncomputable def pX11_undo (N : Nat) (w : Wd) : Option (Int32 × Wd) :=
  if (gI w 15 0 8) = 0 then some ((-1 : Int32), w) else
  (ldI (setI w 15 0 8 ((gI w 15 0 8) - (1 : Int32))) 71 0 (gI (setI w 15 0 8 ((gI w 15 0 8) - (1 : Int32))) 15 0 8) 20).bind fun x1 =>
  if x1 = (-1 : Int32) then
    callW (fX11_undo_38 N) (setI (setI w 15 0 8 ((gI w 15 0 8) - (1 : Int32))) 13 0 7 ((gI (setI w 15 0 8 ((gI w 15 0 8) - (1 : Int32))) 13 0 7) - (1 : Int32)))
  else
  (ldI (setI w 15 0 8 ((gI w 15 0 8) - (1 : Int32))) 72 0 (gI (setI w 15 0 8 ((gI w 15 0 8) - (1 : Int32))) 15 0 8) 20).bind fun x2 =>
  (stI (setI w 15 0 8 ((gI w 15 0 8) - (1 : Int32))) 63 0 x1 6 x2).bind fun w3 =>
  callW (fX11_undo_38 N) w3
noncomputable def mX11_undo (N : Nat) (as : List AV) (w : Wd) : Option (Int32 × Wd) := xS1 15 as fun t => xN1 t (callW (pX11_undo N) w)
set_option maxRecDepth 100000 in
set_option maxHeartbeats 4000000 in
theorem kX11_undo : TK cX11_undo RX11 2 tX11_undo := ⟨by decide +kernel, wok_of [738, 738, 738, 739, 738, 735, 539, 539, 735, 537, 740, 738, 743, 738] (by decide +kernel) (by decide +kernel)⟩
set_option maxRecDepth 100000 in
set_option maxHeartbeats 4000000 in
theorem sX11_undo_38 {N : Nat} {X : XT} (G : GX X cX11_undo RX11) (hn : xnL X = 2) (hC : CRs X tX11_undo (oF []) (oF []) (oF [(mX5_drop N)])) {r : Int32 × Wd} (hr : RTI X cX11_undo r)  : ∀ (w : Wd), fX11_undo_38 N w = some r → WW X (pcAt tX11_undo 38) [some (.inr (.inr (15, 0))), none] [] w := by
  intro w h
  refine run_sound (r := r) (X := X) (cc := cX11_undo) (own := RX11) (tab := tX11_undo) G (by rw [hn]; exact kX11_undo) (oI := (oF [])) (oL := (oF [])) (oV := (oF [(mX5_drop N)])) (rI := (fun x w => some (x, w))) (rL := (fun _ _ => none)) (rV := (fun _ => none))
    (K := (fun j ls st w => none)) (fun x w pc ls hx hd => hr x w pc ls (Option.some.inj hx) hd) (fun _ _ _ _ hx => by cases hx) (fun _ _ _ hx => by cases hx) hC (fun ls => lsb [some (.inr (.inr (15, 0))), none] 0 ls) (keepsP_of rfl) ?_ 46 38 [some (.inr (.inr (15, 0))), none] [] w ?_ h
  · intro j ls st w hfx h
    obtain ⟨e0, -⟩ : _ = _ ∧ True := hfx
    try dsimp only at h
    cases h
  · exact (show _ = _ ∧ True from ⟨rfl, trivial⟩)
set_option maxRecDepth 100000 in
set_option maxHeartbeats 4000000 in
theorem crX11_undo {N : Nat} {X : XT} (G : GX X cX11_undo RX11) (hR : xR X = rmL 2) : CRs X tX11_undo (oF []) (oF []) (oF [(mX5_drop N)]) := by
  have hl : tX11_undo.filter isInv = [(72, .invokevirtual 112, 0, 0, 1, 0, 0, [(0, 0), (0, 0)])] := rfl
  intro e he
  rw [hl] at he
  simp only [List.mem_cons, List.not_mem_nil, or_false] at he
  rcases he with rfl
  · exact crV_V (idx := 112) G (by decide +kernel) (MX5_drop N) (cw_of (ps := [992, 993, 994, 161, 995]) (by decide +kernel) (by decide +kernel)) ⟨by decide +kernel, by decide +kernel, by decide +kernel⟩ (by unfold rmOk; rw [hR]; exact ⟨by decide, by decide⟩)
set_option maxRecDepth 100000 in
set_option maxHeartbeats 4000000 in
theorem MX11_undo (N : Nat) : SndI yX11_undo cX11_undo 2 (some .int) 2 1 true (mX11_undo N) := by
  refine SndI.of tX11_undo (by decide +kernel) rfl rfl ?_ ?_
  · intro as w x h
    obtain ⟨t1, rfl, h_1⟩ := xS1_some h
    obtain ⟨rfl, h_2⟩ := xN1_some h_1
    clear h h_1
    have h := h_2
    rw [callW_eq] at h
    exact ⟨fun _ => ⟨_, _, _, rfl, rfl, _, rfl, rfl⟩, rfl, Nat.le_of_ble_eq_true rfl⟩
  · intro X G hn hR as w r h hr
    have hC := crX11_undo (N := N) G hR
    obtain ⟨t1, rfl, h_1⟩ := xS1_some h
    obtain ⟨rfl, h_2⟩ := xN1_some h_1
    clear h h_1
    have h := h_2
    rw [callW_eq] at h
    refine run_sound (r := r) (X := X) (cc := cX11_undo) (own := RX11) (tab := tX11_undo) G (by rw [hn]; exact kX11_undo) (oI := (oF [])) (oL := (oF [])) (oV := (oF [(mX5_drop N)])) (rI := (fun x w => some (x, w))) (rL := (fun _ _ => none)) (rV := (fun _ => none))
      (K := (fun j ls st w => if j = 38 then (st0 st (callW (fX11_undo_38 N) w)) else none)) (fun x w pc ls hx hd => hr x w pc ls (Option.some.inj hx) hd) (fun _ _ _ _ hx => by cases hx) (fun _ _ _ hx => by cases hx) hC (fun ls => lsb [some (.inr (.inr (15, 0))), none] 0 ls) (keepsP_of rfl) ?_ 46 0 [some (.inr (.inr (15, 0))), none] [] w ?_ h
    · intro j ls st w hfx h
      obtain ⟨e0, -⟩ : _ = _ ∧ True := hfx
      try dsimp only at h
      by_cases hj : j = 38
      · subst hj
        rw [if_pos rfl] at h
        obtain ⟨rfl, h_1⟩ := st0_some h
        clear h
        have h := h_1
        try rw [callW_eq] at h
        exact WW.le (a := [some (.inr (.inr (15, 0))), none]) (by rw [hn]; rfl) (show _ = _ ∧ True from ⟨e0, trivial⟩) (sX11_undo_38 G hn hC hr w h)
      rw [if_neg hj] at h
      cases h
    · exact (show _ = _ ∧ True from ⟨rfl, trivial⟩)
-- MoorGuides.keep()I
def tX11_keep : List EN := [
  (0, .aload_n 0, 0, 0, 0, 0, 0, []), (1, .getfield 39, 0, 11, 6, 0, 0, []), (4, .aload_n 0, 0, 0, 0, 0, 0, []), (5, .getfield 35, 0, 11, 5, 0, 0, []),
  (8, .invokevirtual 351, 0, 0, 2, 0, 0, [(0, 0), (0, 0)]), (11, .aload_n 0, 0, 0, 0, 0, 0, []), (12, .iconst 1, 0, 0, 0, 1, 0, []), (13, .putfield 105, 0, 11, 7, 0, 0, [(0, 0)]),
  (16, .aload_n 0, 0, 0, 0, 0, 0, []), (17, .getfield 35, 0, 11, 5, 0, 0, []), (20, .getfield 157, 0, 9, 1, 0, 0, []), (23, .ireturn, 0, 0, 0, 0, 0, [])]
noncomputable def pX11_keep (N : Nat) (w : Wd) : Option (Int32 × Wd) :=
  (callW (pX9_copyFrom N 1 0) w).bind fun w1 =>
  some ((gI (setI w1 15 0 7 (1 : Int32)) 13 0 1), (setI w1 15 0 7 (1 : Int32)))
noncomputable def mX11_keep (N : Nat) (as : List AV) (w : Wd) : Option (Int32 × Wd) := xS1 15 as fun t => xN1 t (callW (pX11_keep N) w)
set_option maxRecDepth 100000 in
set_option maxHeartbeats 4000000 in
theorem kX11_keep : TK cX11_keep RX11 1 tX11_keep := ⟨by decide +kernel, wok_of [736, 735, 737, 735, 524] (by decide +kernel) (by decide +kernel)⟩
set_option maxRecDepth 100000 in
set_option maxHeartbeats 4000000 in
theorem crX11_keep {N : Nat} {X : XT} (G : GX X cX11_keep RX11) (hR : xR X = rmL 2) : CRs X tX11_keep (oF []) (oF []) (oF [(mX9_copyFrom N)]) := by
  have hl : tX11_keep.filter isInv = [(8, .invokevirtual 351, 0, 0, 2, 0, 0, [(0, 0), (0, 0)])] := rfl
  intro e he
  rw [hl] at he
  simp only [List.mem_cons, List.not_mem_nil, or_false] at he
  rcases he with rfl
  · exact crV_V (idx := 351) G (by decide +kernel) (MX9_copyFrom N) (cw_of (ps := [1464, 1404, 1405, 158, 1406]) (by decide +kernel) (by decide +kernel)) ⟨by decide +kernel, by decide +kernel, by decide +kernel⟩ (by unfold rmOk; rw [hR]; exact ⟨by decide, by decide⟩)
set_option maxRecDepth 100000 in
set_option maxHeartbeats 4000000 in
theorem MX11_keep (N : Nat) : SndI yX11_keep cX11_keep 1 (some .int) 2 1 true (mX11_keep N) := by
  refine SndI.of tX11_keep (by decide +kernel) rfl rfl ?_ ?_
  · intro as w x h
    obtain ⟨t1, rfl, h_1⟩ := xS1_some h
    obtain ⟨rfl, h_2⟩ := xN1_some h_1
    clear h h_1
    have h := h_2
    rw [callW_eq] at h
    exact ⟨fun _ => ⟨_, _, _, rfl, rfl, _, rfl, rfl⟩, rfl, Nat.le_of_ble_eq_true rfl⟩
  · intro X G hn hR as w r h hr
    have hC := crX11_keep (N := N) G hR
    obtain ⟨t1, rfl, h_1⟩ := xS1_some h
    obtain ⟨rfl, h_2⟩ := xN1_some h_1
    clear h h_1
    have h := h_2
    rw [callW_eq] at h
    refine run_sound (r := r) (X := X) (cc := cX11_keep) (own := RX11) (tab := tX11_keep) G (by rw [hn]; exact kX11_keep) (oI := (oF [])) (oL := (oF [])) (oV := (oF [(mX9_copyFrom N)])) (rI := (fun x w => some (x, w))) (rL := (fun _ _ => none)) (rV := (fun _ => none))
      (K := (fun j ls st w => none)) (fun x w pc ls hx hd => hr x w pc ls (Option.some.inj hx) hd) (fun _ _ _ _ hx => by cases hx) (fun _ _ _ hx => by cases hx) hC (fun ls => lsb [some (.inr (.inr (15, 0)))] 0 ls) (keepsP_of rfl) ?_ 14 0 [some (.inr (.inr (15, 0)))] [] w ?_ h
    · intro j ls st w hfx h
      obtain ⟨e0, -⟩ : _ = _ ∧ True := hfx
      try dsimp only at h
      cases h
    · exact (show _ = _ ∧ True from ⟨rfl, trivial⟩)
-- MoorGuides.back()I
def tX11_back : List EN := [
  (0, .aload_n 0, 0, 0, 0, 0, 0, []), (1, .getfield 105, 0, 11, 7, 0, 0, []), (4, .ifCond .ne 5, 0, 5, 0, 0, 0, []), (7, .iconst (-1), 0, 0, 0, (-1), 0, []),
  (8, .ireturn, 0, 0, 0, 0, 0, []), (9, .aload_n 0, 0, 0, 0, 0, 0, []), (10, .getfield 35, 0, 11, 5, 0, 0, []), (13, .aload_n 0, 0, 0, 0, 0, 0, []),
  (14, .getfield 39, 0, 11, 6, 0, 0, []), (17, .invokevirtual 351, 0, 0, 2, 0, 0, [(0, 0), (0, 0)]), (20, .aload_n 0, 0, 0, 0, 0, 0, []), (21, .iconst 0, 0, 0, 0, 0, 0, []),
  (22, .putfield 109, 0, 11, 8, 0, 0, []), (25, .aload_n 0, 0, 0, 0, 0, 0, []), (26, .getfield 68, 0, 11, 13, 0, 0, []), (29, .invokevirtual 112, 0, 1, 1, 0, 0, [(0, 0), (0, 0)]),
  (32, .aload_n 0, 0, 0, 0, 0, 0, []), (33, .getfield 35, 0, 11, 5, 0, 0, []), (36, .getfield 157, 0, 9, 1, 0, 0, []), (39, .ireturn, 0, 0, 0, 0, 0, [])]
noncomputable def pX11_back (N : Nat) (w : Wd) : Option (Int32 × Wd) :=
  if (gI w 15 0 7) = 0 then some ((-1 : Int32), w) else
  (callW (pX9_copyFrom N 0 1) w).bind fun w1 =>
  (callW (pX5_drop N) (setI w1 15 0 8 (0 : Int32))).bind fun w2 =>
  some ((gI w2 13 0 1), w2)
noncomputable def mX11_back (N : Nat) (as : List AV) (w : Wd) : Option (Int32 × Wd) := xS1 15 as fun t => xN1 t (callW (pX11_back N) w)
set_option maxRecDepth 100000 in
set_option maxHeartbeats 4000000 in
theorem kX11_back : TK cX11_back RX11 1 tX11_back := ⟨by decide +kernel, wok_of [737, 735, 736, 738, 743, 735, 524] (by decide +kernel) (by decide +kernel)⟩
set_option maxRecDepth 100000 in
set_option maxHeartbeats 4000000 in
theorem crX11_back {N : Nat} {X : XT} (G : GX X cX11_back RX11) (hR : xR X = rmL 2) : CRs X tX11_back (oF []) (oF []) (oF [(mX9_copyFrom N), (mX5_drop N)]) := by
  have hl : tX11_back.filter isInv = [(17, .invokevirtual 351, 0, 0, 2, 0, 0, [(0, 0), (0, 0)]), (29, .invokevirtual 112, 0, 1, 1, 0, 0, [(0, 0), (0, 0)])] := rfl
  intro e he
  rw [hl] at he
  simp only [List.mem_cons, List.not_mem_nil, or_false] at he
  rcases he with rfl | rfl
  · exact crV_V (idx := 351) G (by decide +kernel) (MX9_copyFrom N) (cw_of (ps := [1464, 1404, 1405, 158, 1406]) (by decide +kernel) (by decide +kernel)) ⟨by decide +kernel, by decide +kernel, by decide +kernel⟩ (by unfold rmOk; rw [hR]; exact ⟨by decide, by decide⟩)
  · exact crV_V (idx := 112) G (by decide +kernel) (MX5_drop N) (cw_of (ps := [992, 993, 994, 161, 995]) (by decide +kernel) (by decide +kernel)) ⟨by decide +kernel, by decide +kernel, by decide +kernel⟩ (by unfold rmOk; rw [hR]; exact ⟨by decide, by decide⟩)
set_option maxRecDepth 100000 in
set_option maxHeartbeats 4000000 in
theorem MX11_back (N : Nat) : SndI yX11_back cX11_back 1 (some .int) 2 1 true (mX11_back N) := by
  refine SndI.of tX11_back (by decide +kernel) rfl rfl ?_ ?_
  · intro as w x h
    obtain ⟨t1, rfl, h_1⟩ := xS1_some h
    obtain ⟨rfl, h_2⟩ := xN1_some h_1
    clear h h_1
    have h := h_2
    rw [callW_eq] at h
    exact ⟨fun _ => ⟨_, _, _, rfl, rfl, _, rfl, rfl⟩, rfl, Nat.le_of_ble_eq_true rfl⟩
  · intro X G hn hR as w r h hr
    have hC := crX11_back (N := N) G hR
    obtain ⟨t1, rfl, h_1⟩ := xS1_some h
    obtain ⟨rfl, h_2⟩ := xN1_some h_1
    clear h h_1
    have h := h_2
    rw [callW_eq] at h
    refine run_sound (r := r) (X := X) (cc := cX11_back) (own := RX11) (tab := tX11_back) G (by rw [hn]; exact kX11_back) (oI := (oF [])) (oL := (oF [])) (oV := (oF [(mX9_copyFrom N), (mX5_drop N)])) (rI := (fun x w => some (x, w))) (rL := (fun _ _ => none)) (rV := (fun _ => none))
      (K := (fun j ls st w => none)) (fun x w pc ls hx hd => hr x w pc ls (Option.some.inj hx) hd) (fun _ _ _ _ hx => by cases hx) (fun _ _ _ hx => by cases hx) hC (fun ls => lsb [some (.inr (.inr (15, 0)))] 0 ls) (keepsP_of rfl) ?_ 22 0 [some (.inr (.inr (15, 0)))] [] w ?_ h
    · intro j ls st w hfx h
      obtain ⟨e0, -⟩ : _ = _ ∧ True := hfx
      try dsimp only at h
      cases h
    · exact (show _ = _ ∧ True from ⟨rfl, trivial⟩)
-- MoorGuides.count(I)I
def tX11_count : List EN := [
  (0, .iload_n 1, 0, 0, 0, 0, 0, []), (1, .tableswitch 138 0 9 #[55, 63, 74, 82, 90, 98, 106, 114, 125, 130], 0, 43, 55, 0, 0, [(0, 2), (1, 6), (2, 11), (3, 15), (4, 19), (5, 23), (6, 27), (7, 31), (8, 36), (9, 39)]), (56, .aload_n 0, 0, 0, 0, 0, 0, []), (57, .getfield 16, 0, 11, 2, 0, 0, []),
  (60, .getfield 127, 0, 4, 0, 0, 0, []), (63, .ireturn, 0, 0, 0, 0, 0, []), (64, .aload_n 0, 0, 0, 0, 0, 0, []), (65, .getfield 16, 0, 11, 2, 0, 0, []),
  (68, .getfield 134, 0, 4, 4, 0, 0, []), (71, .getfield 143, 0, 6, 0, 0, 0, []), (74, .ireturn, 0, 0, 0, 0, 0, []), (75, .aload_n 0, 0, 0, 0, 0, 0, []),
  (76, .getfield 16, 0, 11, 2, 0, 0, []), (79, .getfield 278, 0, 4, 5, 0, 0, []), (82, .ireturn, 0, 0, 0, 0, 0, []), (83, .aload_n 0, 0, 0, 0, 0, 0, []),
  (84, .getfield 35, 0, 11, 5, 0, 0, []), (87, .getfield 348, 0, 9, 7, 0, 0, []), (90, .ireturn, 0, 0, 0, 0, 0, []), (91, .aload_n 0, 0, 0, 0, 0, 0, []),
  (92, .getfield 16, 0, 11, 2, 0, 0, []), (95, .invokevirtual 354, 0, 0, 1, 0, 0, []), (98, .ireturn, 0, 0, 0, 0, 0, []), (99, .aload_n 0, 0, 0, 0, 0, 0, []),
  (100, .getfield 35, 0, 11, 5, 0, 0, []), (103, .getfield 157, 0, 9, 1, 0, 0, []), (106, .ireturn, 0, 0, 0, 0, 0, []), (107, .aload_n 0, 0, 0, 0, 0, 0, []),
  (108, .getfield 82, 0, 11, 15, 0, 0, []), (111, .getfield 341, 0, 0, 0, 0, 0, []), (114, .ireturn, 0, 0, 0, 0, 0, []), (115, .aload_n 0, 0, 0, 0, 0, 0, []),
  (116, .getfield 35, 0, 11, 5, 0, 0, []), (119, .getfield 164, 0, 9, 3, 0, 0, []), (122, .invokestatic 284, 0, 1, 1, 0, 0, []), (125, .ireturn, 0, 0, 0, 0, 0, []),
  (126, .aload_n 0, 0, 0, 0, 0, 0, []), (127, .getfield 109, 0, 11, 8, 0, 0, []), (130, .ireturn, 0, 0, 0, 0, 0, []), (131, .aload_n 0, 0, 0, 0, 0, 0, []),
  (132, .getfield 16, 0, 11, 2, 0, 0, []), (135, .getfield 357, 0, 4, 15, 0, 0, []), (138, .ireturn, 0, 0, 0, 0, 0, []), (139, .iconst (-1), 0, 0, 0, (-1), 0, []),
  (140, .ireturn, 0, 0, 0, 0, 0, [])]
noncomputable def pX11_count (N : Nat) (a1 : Int32) (w : Wd) : Option (Int32 × Wd) :=
  if a1 = (0 : Int32) then some ((gI w 8 (gR w 15 0 2) 0), w) else
  if a1 = (1 : Int32) then some ((gI w 10 (gR w 15 0 2) 0), w) else
  if a1 = (2 : Int32) then some ((gI w 8 (gR w 15 0 2) 5), w) else
  if a1 = (3 : Int32) then some ((gI w 13 0 7), w) else
  if a1 = (4 : Int32) then
    (callW (pX4_knots N (gR w 15 0 2)) w).bind fun r1 =>
    some (r1.1, r1.2)
  else
  if a1 = (5 : Int32) then some ((gI w 13 0 1), w) else
  if a1 = (6 : Int32) then some ((gI w 4 0 0), w) else
  if a1 = (7 : Int32) then
    (callW (pJ6_bitCount_0f7a4 N (gI w 13 0 3)) w).bind fun r2 =>
    some (r2.1, r2.2)
  else
  if a1 = (8 : Int32) then some ((gI w 15 0 8), w) else
  if a1 = (9 : Int32) then some ((gI w 8 (gR w 15 0 2) 15), w) else
  some ((-1 : Int32), w)
noncomputable def mX11_count (N : Nat) (as : List AV) (w : Wd) : Option (Int32 × Wd) := xS1 15 as fun t => xI1 t fun a1 t => xN1 t (callW (pX11_count N a1) w)
set_option maxRecDepth 100000 in
set_option maxHeartbeats 4000000 in
theorem kX11_count : TK cX11_count RX11 2 tX11_count := ⟨by decide +kernel, wok_of [732, 261, 732, 281, 197, 732, 287, 735, 539, 732, 735, 524, 745, 713, 735, 529, 738, 732, 314] (by decide +kernel) (by decide +kernel)⟩
set_option maxRecDepth 100000 in
set_option maxHeartbeats 4000000 in
theorem crX11_count {N : Nat} {X : XT} (G : GX X cX11_count RX11) (hR : xR X = rmL 2) : CRs X tX11_count (oF [(mX4_knots N), (mJ6_bitCount_0f7a4 N)]) (oF []) (oF []) := by
  have hl : tX11_count.filter isInv = [(95, .invokevirtual 354, 0, 0, 1, 0, 0, []), (122, .invokestatic 284, 0, 1, 1, 0, 0, [])] := rfl
  intro e he
  rw [hl] at he
  simp only [List.mem_cons, List.not_mem_nil, or_false] at he
  rcases he with rfl | rfl
  · exact crI_V (idx := 354) G (by decide +kernel) (MX4_knots N) (cw_of (ps := [1473, 1474, 1475, 149, 1476]) (by decide +kernel) (by decide +kernel)) ⟨by decide +kernel, by decide +kernel, by decide +kernel⟩ (by unfold rmOk; rw [hR]; exact ⟨by decide, by decide⟩)
  · exact crI_S (idx := 284) G (by decide +kernel) (MJ6_bitCount_0f7a4 N) (cw_of (ps := [1291, 1071, 171, 1072]) (by decide +kernel) (by decide +kernel)) ⟨by decide +kernel, by decide +kernel, by decide +kernel⟩ (by unfold rmOk; rw [hR]; exact ⟨by decide, by decide⟩)
set_option maxRecDepth 100000 in
set_option maxHeartbeats 4000000 in
theorem MX11_count (N : Nat) : SndI yX11_count cX11_count 2 (some .int) 2 2 true (mX11_count N) := by
  refine SndI.of tX11_count (by decide +kernel) rfl rfl ?_ ?_
  · intro as w x h
    obtain ⟨t1, rfl, h_1⟩ := xS1_some h
    obtain ⟨a1, t2, rfl, h_2⟩ := xI1_some h_1
    obtain ⟨rfl, h_3⟩ := xN1_some h_2
    clear h h_1 h_2
    have h := h_3
    rw [callW_eq] at h
    exact ⟨fun _ => ⟨_, _, _, rfl, rfl, _, rfl, rfl⟩, rfl, Nat.le_of_ble_eq_true rfl⟩
  · intro X G hn hR as w r h hr
    have hC := crX11_count (N := N) G hR
    obtain ⟨t1, rfl, h_1⟩ := xS1_some h
    obtain ⟨a1, t2, rfl, h_2⟩ := xI1_some h_1
    obtain ⟨rfl, h_3⟩ := xN1_some h_2
    clear h h_1 h_2
    have h := h_3
    rw [callW_eq] at h
    refine run_sound (r := r) (X := X) (cc := cX11_count) (own := RX11) (tab := tX11_count) G (by rw [hn]; exact kX11_count) (oI := (oF [(mX4_knots N), (mJ6_bitCount_0f7a4 N)])) (oL := (oF [])) (oV := (oF [])) (rI := (fun x w => some (x, w))) (rL := (fun _ _ => none)) (rV := (fun _ => none))
      (K := (fun j ls st w => none)) (fun x w pc ls hx hd => hr x w pc ls (Option.some.inj hx) hd) (fun _ _ _ _ hx => by cases hx) (fun _ _ _ hx => by cases hx) hC (fun ls => lsb [some (.inr (.inr (15, 0))), some (.inl a1)] 0 ls) (keepsP_of rfl) ?_ 47 0 [some (.inr (.inr (15, 0))), some (.inl a1)] [] w ?_ h
    · intro j ls st w hfx h
      obtain ⟨e0, e1, -⟩ : _ = _ ∧ _ = _ ∧ True := hfx
      try dsimp only at h
      cases h
    · exact (show _ = _ ∧ _ = _ ∧ True from ⟨rfl, rfl, trivial⟩)
-- MoorGuidesModel.thrown()I
def tX12_thrown : List EN := [
  (0, .aload_n 0, 0, 0, 0, 0, 0, []), (1, .getfield 196, 0, 12, 2, 0, 0, []), (4, .ireturn, 0, 0, 0, 0, 0, [])]
noncomputable def pX12_thrown (N : Nat) (w : Wd) : Option (Int32 × Wd) :=
  some ((gI w 16 0 2), w)
noncomputable def mX12_thrown (N : Nat) (as : List AV) (w : Wd) : Option (Int32 × Wd) := xS1 16 as fun t => xN1 t (callW (pX12_thrown N) w)
set_option maxRecDepth 100000 in
set_option maxHeartbeats 4000000 in
theorem kX12_thrown : TK cX12_thrown RX12 1 tX12_thrown := ⟨by decide +kernel, wok_of [1602] (by decide +kernel) (by decide +kernel)⟩
set_option maxRecDepth 100000 in
set_option maxHeartbeats 4000000 in
theorem crX12_thrown {N : Nat} {X : XT} (G : GX X cX12_thrown RX12) (hR : xR X = rmL 1) : CRs X tX12_thrown (oF []) (oF []) (oF []) := by
  have hl : tX12_thrown.filter isInv = [] := rfl
  intro e he
  rw [hl] at he
  cases he
set_option maxRecDepth 100000 in
set_option maxHeartbeats 4000000 in
theorem MX12_thrown (N : Nat) : SndI yX12_thrown cX12_thrown 1 (some .int) 1 1 true (mX12_thrown N) := by
  refine SndI.of tX12_thrown (by decide +kernel) rfl rfl ?_ ?_
  · intro as w x h
    obtain ⟨t1, rfl, h_1⟩ := xS1_some h
    obtain ⟨rfl, h_2⟩ := xN1_some h_1
    clear h h_1
    have h := h_2
    rw [callW_eq] at h
    exact ⟨fun _ => ⟨_, _, _, rfl, rfl, _, rfl, rfl⟩, rfl, Nat.le_of_ble_eq_true rfl⟩
  · intro X G hn hR as w r h hr
    have hC := crX12_thrown (N := N) G hR
    obtain ⟨t1, rfl, h_1⟩ := xS1_some h
    obtain ⟨rfl, h_2⟩ := xN1_some h_1
    clear h h_1
    have h := h_2
    rw [callW_eq] at h
    refine run_sound (r := r) (X := X) (cc := cX12_thrown) (own := RX12) (tab := tX12_thrown) G (by rw [hn]; exact kX12_thrown) (oI := (oF [])) (oL := (oF [])) (oV := (oF [])) (rI := (fun x w => some (x, w))) (rL := (fun _ _ => none)) (rV := (fun _ => none))
      (K := (fun j ls st w => none)) (fun x w pc ls hx hd => hr x w pc ls (Option.some.inj hx) hd) (fun _ _ _ _ hx => by cases hx) (fun _ _ _ hx => by cases hx) hC (fun ls => lsb [some (.inr (.inr (16, 0)))] 0 ls) (keepsP_of rfl) ?_ 5 0 [some (.inr (.inr (16, 0)))] [] w ?_ h
    · intro j ls st w hfx h
      obtain ⟨e0, -⟩ : _ = _ ∧ True := hfx
      try dsimp only at h
      cases h
    · exact (show _ = _ ∧ True from ⟨rfl, trivial⟩)
-- MoorGuidesModel.feed(IIIII)I
def tX12_feed : List EN := [
  (0, .aload_n 0, 0, 0, 0, 0, 0, []), (1, .iconst 0, 0, 0, 0, 0, 0, []), (2, .putfield 196, 0, 12, 2, 0, 0, []), (5, .aload_n 0, 0, 0, 0, 0, 0, []),
  (6, .getfield 199, 0, 12, 1, 0, 0, []), (9, .bipush 20, 0, 0, 0, 20, 0, []), (11, .iadd, 0, 0, 0, 0, 0, []), (12, .sipush 900, 0, 0, 0, 900, 0, []),
  (15, .if_icmp .le 5, 0, 11, 0, 0, 0, []), (18, .iconst (-1), 0, 0, 0, (-1), 0, []), (19, .ireturn, 0, 0, 0, 0, 0, []), (20, .iconst 0, 0, 0, 0, 0, 0, []),
  (21, .istore 6, 0, 0, 0, 0, 0, []), (23, .iload 6, 14, 0, 0, 0, 0, []), (25, .bipush 20, 0, 0, 0, 20, 0, []), (27, .if_icmp .ge 86, 0, 58, 0, 0, 0, []),
  (30, .iload 6, 0, 0, 0, 0, 0, []), (32, .iconst 4, 0, 0, 0, 4, 0, []), (33, .if_icmp .ge 7, 0, 21, 0, 0, 0, []), (36, .iload_n 1, 0, 0, 0, 0, 0, []),
  (37, .goto 39, 0, 37, 0, 0, 0, []), (40, .iload 6, 0, 0, 0, 0, 0, []), (42, .bipush 8, 0, 0, 0, 8, 0, []), (44, .if_icmp .ge 7, 0, 26, 0, 0, 0, []),
  (47, .iload_n 2, 0, 0, 0, 0, 0, []), (48, .goto 28, 0, 37, 0, 0, 0, []), (51, .iload 6, 0, 0, 0, 0, 0, []), (53, .bipush 12, 0, 0, 0, 12, 0, []),
  (55, .if_icmp .ge 7, 0, 31, 0, 0, 0, []), (58, .iload_n 3, 0, 0, 0, 0, 0, []), (59, .goto 17, 0, 37, 0, 0, 0, []), (62, .iload 6, 0, 0, 0, 0, 0, []),
  (64, .bipush 16, 0, 0, 0, 16, 0, []), (66, .if_icmp .ge 8, 0, 36, 0, 0, 0, []), (69, .iload 4, 0, 0, 0, 0, 0, []), (71, .goto 5, 0, 37, 0, 0, 0, []),
  (74, .iload 5, 0, 0, 0, 0, 0, []), (76, .istore 7, 38, 0, 0, 0, 0, []), (78, .aload_n 0, 0, 0, 0, 0, 0, []), (79, .getfield 7, 0, 12, 0, 0, 0, []),
  (82, .aload_n 0, 0, 0, 0, 0, 0, []), (83, .getfield 199, 0, 12, 1, 0, 0, []), (86, .iload 6, 0, 0, 0, 0, 0, []), (88, .iadd, 0, 0, 0, 0, 0, []),
  (89, .iload 7, 0, 0, 0, 0, 0, []), (91, .bipush 24, 0, 0, 0, 24, 0, []), (93, .bipush 8, 0, 0, 0, 8, 0, []), (95, .iload 6, 0, 0, 0, 0, 0, []),
  (97, .iconst 4, 0, 0, 0, 4, 0, []), (98, .irem, 0, 0, 0, 0, 0, []), (99, .imul, 0, 0, 0, 0, 0, []), (100, .isub, 0, 0, 0, 0, 0, []),
  (101, .ishr, 0, 0, 0, 0, 0, []), (102, .sipush 255, 0, 0, 0, 255, 0, []), (105, .iand, 0, 0, 0, 0, 0, []), (106, .iastore, 0, 0, 0, 0, 0, []),
  (107, .iinc 6 1, 0, 0, 0, 1, 0, []), (110, .goto (-87), 0, 13, 0, 0, 0, []), (113, .aload_n 0, 59, 0, 0, 0, 0, []), (114, .dup, 0, 0, 0, 0, 0, []),
  (115, .getfield 199, 0, 12, 1, 0, 0, []), (118, .bipush 20, 0, 0, 0, 20, 0, []), (120, .iadd, 0, 0, 0, 0, 0, []), (121, .putfield 199, 0, 12, 1, 0, 0, []),
  (124, .aload_n 0, 0, 0, 0, 0, 0, []), (125, .getfield 199, 0, 12, 1, 0, 0, []), (128, .ireturn, 0, 0, 0, 0, 0, [])]
noncomputable def fX12_feed_58 (N : Nat) (w : Wd) : Option (Int32 × Wd) :=
  some ((gI (setI w 16 0 1 ((gI w 16 0 1) + (20 : Int32))) 16 0 1), (setI w 16 0 1 ((gI w 16 0 1) + (20 : Int32))))
noncomputable def fX12_feed_37 (N : Nat) (a1 : Int32) (a2 : Int32) (a3 : Int32) (a4 : Int32) (a5 : Int32) (k13 : Int32 → Wd → Option (Int32 × Wd)) (v6 : Int32) (s0 : Int32) (w : Wd) : Option (Int32 × Wd) :=
  (stI w 73 0 ((gI w 16 0 1) + v6) 900 ((s0 >>> (((24 : Int32) - ((8 : Int32) * (v6 - v6 / (4 : Int32) * (4 : Int32)))) &&& (31 : Int32))) &&& (255 : Int32))).bind fun w1 =>
  k13 (v6 + (1 : Int32)) w1
noncomputable def fX12_feed_13 (N : Nat) (a1 : Int32) (a2 : Int32) (a3 : Int32) (a4 : Int32) (a5 : Int32) : Nat → (Wd → Option (Int32 × Wd)) → Int32 → Wd → Option (Int32 × Wd)
  | 0, _, _, _ => none
  | n + 1, k58, v6, w =>
    if v6 < (20 : Int32) then
      if v6 < (4 : Int32) then callW (fX12_feed_37 N a1 a2 a3 a4 a5 (fX12_feed_13 N a1 a2 a3 a4 a5 n k58) v6 a1) w else
      if v6 < (8 : Int32) then callW (fX12_feed_37 N a1 a2 a3 a4 a5 (fX12_feed_13 N a1 a2 a3 a4 a5 n k58) v6 a2) w else
      if v6 < (12 : Int32) then callW (fX12_feed_37 N a1 a2 a3 a4 a5 (fX12_feed_13 N a1 a2 a3 a4 a5 n k58) v6 a3) w else
      if v6 < (16 : Int32) then callW (fX12_feed_37 N a1 a2 a3 a4 a5 (fX12_feed_13 N a1 a2 a3 a4 a5 n k58) v6 a4) w else
      callW (fX12_feed_37 N a1 a2 a3 a4 a5 (fX12_feed_13 N a1 a2 a3 a4 a5 n k58) v6 a5) w
    else
    k58 w
noncomputable def pX12_feed (N : Nat) (a1 : Int32) (a2 : Int32) (a3 : Int32) (a4 : Int32) (a5 : Int32) (w : Wd) : Option (Int32 × Wd) :=
  if (900 : Int32) < ((gI (setI w 16 0 2 (0 : Int32)) 16 0 1) + (20 : Int32)) then some ((-1 : Int32), (setI w 16 0 2 (0 : Int32))) else
  callW (fX12_feed_13 N a1 a2 a3 a4 a5 N (fX12_feed_58 N) (0 : Int32)) (setI w 16 0 2 (0 : Int32))
noncomputable def mX12_feed (N : Nat) (as : List AV) (w : Wd) : Option (Int32 × Wd) := xS1 16 as fun t => xI1 t fun a1 t => xI1 t fun a2 t => xI1 t fun a3 t => xI1 t fun a4 t => xI1 t fun a5 t => xN1 t (callW (pX12_feed N a1 a2 a3 a4 a5) w)
set_option maxRecDepth 100000 in
set_option maxHeartbeats 4000000 in
theorem kX12_feed : TK cX12_feed RX12 8 tX12_feed := ⟨by decide +kernel, wok_of [1602, 1601, 1600, 1601, 1601, 1601, 1601] (by decide +kernel) (by decide +kernel)⟩
set_option maxRecDepth 100000 in
set_option maxHeartbeats 4000000 in
theorem sX12_feed_58 {N : Nat} {X : XT} (G : GX X cX12_feed RX12) (hn : xnL X = 8) (hC : CRs X tX12_feed (oF []) (oF []) (oF [])) {r : Int32 × Wd} (hr : RTI X cX12_feed r) (a1 : Int32) (a2 : Int32) (a3 : Int32) (a4 : Int32) (a5 : Int32) : ∀ (w : Wd), fX12_feed_58 N w = some r → WW X (pcAt tX12_feed 58) [some (.inr (.inr (16, 0))), some (.inl a1), some (.inl a2), some (.inl a3), some (.inl a4), some (.inl a5), none, none] [] w := by
  intro w h
  refine run_sound (r := r) (X := X) (cc := cX12_feed) (own := RX12) (tab := tX12_feed) G (by rw [hn]; exact kX12_feed) (oI := (oF [])) (oL := (oF [])) (oV := (oF [])) (rI := (fun x w => some (x, w))) (rL := (fun _ _ => none)) (rV := (fun _ => none))
    (K := (fun j ls st w => none)) (fun x w pc ls hx hd => hr x w pc ls (Option.some.inj hx) hd) (fun _ _ _ _ hx => by cases hx) (fun _ _ _ hx => by cases hx) hC (fun ls => lsb [some (.inr (.inr (16, 0))), some (.inl a1), some (.inl a2), some (.inl a3), some (.inl a4), some (.inl a5), none, none] 0 ls) (keepsP_of rfl) ?_ 69 58 [some (.inr (.inr (16, 0))), some (.inl a1), some (.inl a2), some (.inl a3), some (.inl a4), some (.inl a5), none, none] [] w ?_ h
  · intro j ls st w hfx h
    obtain ⟨e0, e1, e2, e3, e4, e5, -⟩ : _ = _ ∧ _ = _ ∧ _ = _ ∧ _ = _ ∧ _ = _ ∧ _ = _ ∧ True := hfx
    try dsimp only at h
    cases h
  · exact (show _ = _ ∧ _ = _ ∧ _ = _ ∧ _ = _ ∧ _ = _ ∧ _ = _ ∧ True from ⟨rfl, rfl, rfl, rfl, rfl, rfl, trivial⟩)
set_option maxRecDepth 100000 in
set_option maxHeartbeats 4000000 in
theorem sX12_feed_37 {N : Nat} {X : XT} (G : GX X cX12_feed RX12) (hn : xnL X = 8) (hC : CRs X tX12_feed (oF []) (oF []) (oF [])) {r : Int32 × Wd} (hr : RTI X cX12_feed r) (a1 : Int32) (a2 : Int32) (a3 : Int32) (a4 : Int32) (a5 : Int32) : ∀ (k13 : Int32 → Wd → Option (Int32 × Wd)) (v6 : Int32) (s0 : Int32) (w : Wd), fX12_feed_37 N a1 a2 a3 a4 a5 k13 v6 s0 w = some r → (∀ (v6 : Int32) (w : Wd), k13 v6 w = some r → WW X (pcAt tX12_feed 13) [some (.inr (.inr (16, 0))), some (.inl a1), some (.inl a2), some (.inl a3), some (.inl a4), some (.inl a5), some (.inl v6), none] [] w) → WW X (pcAt tX12_feed 37) [some (.inr (.inr (16, 0))), some (.inl a1), some (.inl a2), some (.inl a3), some (.inl a4), some (.inl a5), some (.inl v6), none] [.inl s0] w := by
  intro k13 v6 s0 w h h13
  refine run_sound (r := r) (X := X) (cc := cX12_feed) (own := RX12) (tab := tX12_feed) G (by rw [hn]; exact kX12_feed) (oI := (oF [])) (oL := (oF [])) (oV := (oF [])) (rI := (fun x w => some (x, w))) (rL := (fun _ _ => none)) (rV := (fun _ => none))
    (K := (fun j ls st w => if j = 13 then (lgI ls 6 fun v6 => st0 st (k13 v6 w)) else none)) (fun x w pc ls hx hd => hr x w pc ls (Option.some.inj hx) hd) (fun _ _ _ _ hx => by cases hx) (fun _ _ _ hx => by cases hx) hC (fun ls => lsb [some (.inr (.inr (16, 0))), some (.inl a1), some (.inl a2), some (.inl a3), some (.inl a4), some (.inl a5), none, none] 0 ls) (keepsP_of rfl) ?_ 69 37 [some (.inr (.inr (16, 0))), some (.inl a1), some (.inl a2), some (.inl a3), some (.inl a4), some (.inl a5), some (.inl v6), none] [.inl s0] w ?_ h
  · intro j ls st w hfx h
    obtain ⟨e0, e1, e2, e3, e4, e5, -⟩ : _ = _ ∧ _ = _ ∧ _ = _ ∧ _ = _ ∧ _ = _ ∧ _ = _ ∧ True := hfx
    try dsimp only at h
    by_cases hj : j = 13
    · subst hj
      rw [if_pos rfl] at h
      obtain ⟨v6, e6, h_1⟩ := lgI_some h
      obtain ⟨rfl, h_2⟩ := st0_some h_1
      clear h h_1
      have h := h_2
      try rw [callW_eq] at h
      exact WW.le (a := [some (.inr (.inr (16, 0))), some (.inl a1), some (.inl a2), some (.inl a3), some (.inl a4), some (.inl a5), some (.inl v6), none]) (by rw [hn]; rfl) (show _ = _ ∧ _ = _ ∧ _ = _ ∧ _ = _ ∧ _ = _ ∧ _ = _ ∧ _ = _ ∧ True from ⟨e0, e1, e2, e3, e4, e5, e6, trivial⟩) (h13 v6 w h)
    rw [if_neg hj] at h
    cases h
  · exact (show _ = _ ∧ _ = _ ∧ _ = _ ∧ _ = _ ∧ _ = _ ∧ _ = _ ∧ True from ⟨rfl, rfl, rfl, rfl, rfl, rfl, trivial⟩)
set_option maxRecDepth 100000 in
set_option maxHeartbeats 4000000 in
theorem sX12_feed_13 {N : Nat} {X : XT} (G : GX X cX12_feed RX12) (hn : xnL X = 8) (hC : CRs X tX12_feed (oF []) (oF []) (oF [])) {r : Int32 × Wd} (hr : RTI X cX12_feed r) (a1 : Int32) (a2 : Int32) (a3 : Int32) (a4 : Int32) (a5 : Int32) : ∀ (n : Nat) (k58 : Wd → Option (Int32 × Wd)) (v6 : Int32) (w : Wd), fX12_feed_13 N a1 a2 a3 a4 a5 n k58 v6 w = some r → (∀ (w : Wd), k58 w = some r → WW X (pcAt tX12_feed 58) [some (.inr (.inr (16, 0))), some (.inl a1), some (.inl a2), some (.inl a3), some (.inl a4), some (.inl a5), none, none] [] w) → WW X (pcAt tX12_feed 13) [some (.inr (.inr (16, 0))), some (.inl a1), some (.inl a2), some (.inl a3), some (.inl a4), some (.inl a5), some (.inl v6), none] [] w := by
  intro n
  induction n with
  | zero => intro k58 v6 w h h58; cases h
  | succ n ih =>
    intro k58 v6 w h h58
    refine run_sound (r := r) (X := X) (cc := cX12_feed) (own := RX12) (tab := tX12_feed) G (by rw [hn]; exact kX12_feed) (oI := (oF [])) (oL := (oF [])) (oV := (oF [])) (rI := (fun x w => some (x, w))) (rL := (fun _ _ => none)) (rV := (fun _ => none))
      (K := (fun j ls st w => if j = 37 then (lgI ls 6 fun v6 => po1 st fun s0 st => st0 st (callW (fX12_feed_37 N a1 a2 a3 a4 a5 (fX12_feed_13 N a1 a2 a3 a4 a5 n k58) v6 s0) w)) else if j = 58 then (st0 st (k58 w)) else none)) (fun x w pc ls hx hd => hr x w pc ls (Option.some.inj hx) hd) (fun _ _ _ _ hx => by cases hx) (fun _ _ _ hx => by cases hx) hC (fun ls => lsb [some (.inr (.inr (16, 0))), some (.inl a1), some (.inl a2), some (.inl a3), some (.inl a4), some (.inl a5), none, none] 0 ls) (keepsP_of rfl) ?_ 69 13 [some (.inr (.inr (16, 0))), some (.inl a1), some (.inl a2), some (.inl a3), some (.inl a4), some (.inl a5), some (.inl v6), none] [] w ?_ h
    · intro j ls st w hfx h
      obtain ⟨e0, e1, e2, e3, e4, e5, -⟩ : _ = _ ∧ _ = _ ∧ _ = _ ∧ _ = _ ∧ _ = _ ∧ _ = _ ∧ True := hfx
      try dsimp only at h
      by_cases hj : j = 37
      · subst hj
        rw [if_pos rfl] at h
        obtain ⟨v6, e6, h_1⟩ := lgI_some h
        obtain ⟨s0, st0, rfl, h_2⟩ := po1_some h_1
        obtain ⟨rfl, h_3⟩ := st0_some h_2
        clear h h_1 h_2
        have h := h_3
        try rw [callW_eq] at h
        exact WW.le (a := [some (.inr (.inr (16, 0))), some (.inl a1), some (.inl a2), some (.inl a3), some (.inl a4), some (.inl a5), some (.inl v6), none]) (by rw [hn]; rfl) (show _ = _ ∧ _ = _ ∧ _ = _ ∧ _ = _ ∧ _ = _ ∧ _ = _ ∧ _ = _ ∧ True from ⟨e0, e1, e2, e3, e4, e5, e6, trivial⟩) (sX12_feed_37 G hn hC hr a1 a2 a3 a4 a5 (fX12_feed_13 N a1 a2 a3 a4 a5 n k58) v6 s0 w h (fun v6 w h => (ih k58 v6 w h h58)))
      rw [if_neg hj] at h
      by_cases hj : j = 58
      · subst hj
        rw [if_pos rfl] at h
        obtain ⟨rfl, h_1⟩ := st0_some h
        clear h
        have h := h_1
        try rw [callW_eq] at h
        exact WW.le (a := [some (.inr (.inr (16, 0))), some (.inl a1), some (.inl a2), some (.inl a3), some (.inl a4), some (.inl a5), none, none]) (by rw [hn]; rfl) (show _ = _ ∧ _ = _ ∧ _ = _ ∧ _ = _ ∧ _ = _ ∧ _ = _ ∧ True from ⟨e0, e1, e2, e3, e4, e5, trivial⟩) (h58 w h)
      rw [if_neg hj] at h
      cases h
    · exact (show _ = _ ∧ _ = _ ∧ _ = _ ∧ _ = _ ∧ _ = _ ∧ _ = _ ∧ True from ⟨rfl, rfl, rfl, rfl, rfl, rfl, trivial⟩)
set_option maxRecDepth 100000 in
set_option maxHeartbeats 4000000 in
theorem crX12_feed {N : Nat} {X : XT} (G : GX X cX12_feed RX12) (hR : xR X = rmL 1) : CRs X tX12_feed (oF []) (oF []) (oF []) := by
  have hl : tX12_feed.filter isInv = [] := rfl
  intro e he
  rw [hl] at he
  cases he
set_option maxRecDepth 100000 in
set_option maxHeartbeats 4000000 in
theorem MX12_feed (N : Nat) : SndI yX12_feed cX12_feed 8 (some .int) 1 6 true (mX12_feed N) := by
  refine SndI.of tX12_feed (by decide +kernel) rfl rfl ?_ ?_
  · intro as w x h
    obtain ⟨t1, rfl, h_1⟩ := xS1_some h
    obtain ⟨a1, t2, rfl, h_2⟩ := xI1_some h_1
    obtain ⟨a2, t3, rfl, h_3⟩ := xI1_some h_2
    obtain ⟨a3, t4, rfl, h_4⟩ := xI1_some h_3
    obtain ⟨a4, t5, rfl, h_5⟩ := xI1_some h_4
    obtain ⟨a5, t6, rfl, h_6⟩ := xI1_some h_5
    obtain ⟨rfl, h_7⟩ := xN1_some h_6
    clear h h_1 h_2 h_3 h_4 h_5 h_6
    have h := h_7
    rw [callW_eq] at h
    exact ⟨fun _ => ⟨_, _, _, rfl, rfl, _, rfl, rfl⟩, rfl, Nat.le_of_ble_eq_true rfl⟩
  · intro X G hn hR as w r h hr
    have hC := crX12_feed (N := N) G hR
    obtain ⟨t1, rfl, h_1⟩ := xS1_some h
    obtain ⟨a1, t2, rfl, h_2⟩ := xI1_some h_1
    obtain ⟨a2, t3, rfl, h_3⟩ := xI1_some h_2
    obtain ⟨a3, t4, rfl, h_4⟩ := xI1_some h_3
    obtain ⟨a4, t5, rfl, h_5⟩ := xI1_some h_4
    obtain ⟨a5, t6, rfl, h_6⟩ := xI1_some h_5
    obtain ⟨rfl, h_7⟩ := xN1_some h_6
    clear h h_1 h_2 h_3 h_4 h_5 h_6
    have h := h_7
    rw [callW_eq] at h
    refine run_sound (r := r) (X := X) (cc := cX12_feed) (own := RX12) (tab := tX12_feed) G (by rw [hn]; exact kX12_feed) (oI := (oF [])) (oL := (oF [])) (oV := (oF [])) (rI := (fun x w => some (x, w))) (rL := (fun _ _ => none)) (rV := (fun _ => none))
      (K := (fun j ls st w => if j = 13 then (lgI ls 6 fun v6 => st0 st (callW (fX12_feed_13 N a1 a2 a3 a4 a5 N (fX12_feed_58 N) v6) w)) else none)) (fun x w pc ls hx hd => hr x w pc ls (Option.some.inj hx) hd) (fun _ _ _ _ hx => by cases hx) (fun _ _ _ hx => by cases hx) hC (fun ls => lsb [some (.inr (.inr (16, 0))), some (.inl a1), some (.inl a2), some (.inl a3), some (.inl a4), some (.inl a5), none, none] 0 ls) (keepsP_of rfl) ?_ 69 0 [some (.inr (.inr (16, 0))), some (.inl a1), some (.inl a2), some (.inl a3), some (.inl a4), some (.inl a5), none, none] [] w ?_ h
    · intro j ls st w hfx h
      obtain ⟨e0, e1, e2, e3, e4, e5, -⟩ : _ = _ ∧ _ = _ ∧ _ = _ ∧ _ = _ ∧ _ = _ ∧ _ = _ ∧ True := hfx
      try dsimp only at h
      by_cases hj : j = 13
      · subst hj
        rw [if_pos rfl] at h
        obtain ⟨v6, e6, h_1⟩ := lgI_some h
        obtain ⟨rfl, h_2⟩ := st0_some h_1
        clear h h_1
        have h := h_2
        try rw [callW_eq] at h
        exact WW.le (a := [some (.inr (.inr (16, 0))), some (.inl a1), some (.inl a2), some (.inl a3), some (.inl a4), some (.inl a5), some (.inl v6), none]) (by rw [hn]; rfl) (show _ = _ ∧ _ = _ ∧ _ = _ ∧ _ = _ ∧ _ = _ ∧ _ = _ ∧ _ = _ ∧ True from ⟨e0, e1, e2, e3, e4, e5, e6, trivial⟩) (sX12_feed_13 G hn hC hr a1 a2 a3 a4 a5 N (fX12_feed_58 N) v6 w h (fun w h => (sX12_feed_58 G hn hC hr a1 a2 a3 a4 a5 w h)))
      rw [if_neg hj] at h
      cases h
    · exact (show _ = _ ∧ _ = _ ∧ _ = _ ∧ _ = _ ∧ _ = _ ∧ _ = _ ∧ True from ⟨rfl, rfl, rfl, rfl, rfl, rfl, trivial⟩)
-- MoorGuidesModel.isIn(III)Z
def tX12_isIn : List EN := [
  (0, .iload_n 0, 0, 0, 0, 0, 0, []), (1, .iload_n 1, 0, 0, 0, 0, 0, []), (2, .if_icmp .lt 12, 0, 8, 0, 0, 0, []), (5, .iload_n 0, 0, 0, 0, 0, 0, []),
  (6, .iload_n 2, 0, 0, 0, 0, 0, []), (7, .if_icmp .gt 7, 0, 8, 0, 0, 0, []), (10, .iconst 1, 0, 0, 0, 1, 0, []), (11, .goto 4, 0, 9, 0, 0, 0, []),
  (14, .iconst 0, 0, 0, 0, 0, 0, []), (15, .ireturn, 0, 0, 0, 0, 0, [])]
noncomputable def pX12_isIn (N : Nat) (a0 : Int32) (a1 : Int32) (a2 : Int32) (w : Wd) : Option (Int32 × Wd) :=
  if a0 < a1 then some ((0 : Int32), w) else
  if a2 < a0 then some ((0 : Int32), w) else
  some ((1 : Int32), w)
noncomputable def mX12_isIn (N : Nat) (as : List AV) (w : Wd) : Option (Int32 × Wd) := xI1 as fun a0 t => xI1 t fun a1 t => xI1 t fun a2 t => xN1 t (callW (pX12_isIn N a0 a1 a2) w)
set_option maxRecDepth 100000 in
set_option maxHeartbeats 4000000 in
theorem kX12_isIn : TK cX12_isIn RX12 3 tX12_isIn := ⟨by decide +kernel, wok_of [] (by decide +kernel) (by decide +kernel)⟩
set_option maxRecDepth 100000 in
set_option maxHeartbeats 4000000 in
theorem crX12_isIn {N : Nat} {X : XT} (G : GX X cX12_isIn RX12) (hR : xR X = rmL 1) : CRs X tX12_isIn (oF []) (oF []) (oF []) := by
  have hl : tX12_isIn.filter isInv = [] := rfl
  intro e he
  rw [hl] at he
  cases he
set_option maxRecDepth 100000 in
set_option maxHeartbeats 4000000 in
theorem MX12_isIn (N : Nat) : SndI yX12_isIn cX12_isIn 3 (some .boolean) 1 3 false (mX12_isIn N) := by
  refine SndI.ofZ tX12_isIn (by decide +kernel) rfl rfl ?_ ?_
  · intro as w x h
    obtain ⟨a0, t1, rfl, h_1⟩ := xI1_some h
    obtain ⟨a1, t2, rfl, h_2⟩ := xI1_some h_1
    obtain ⟨a2, t3, rfl, h_3⟩ := xI1_some h_2
    obtain ⟨rfl, h_4⟩ := xN1_some h_3
    clear h h_1 h_2 h_3
    have h := h_4
    rw [callW_eq] at h
    exact ⟨(fun z => by cases z), rfl, Nat.le_of_ble_eq_true rfl⟩
  · intro X G hn hR as w r h hr
    have hC := crX12_isIn (N := N) G hR
    obtain ⟨a0, t1, rfl, h_1⟩ := xI1_some h
    obtain ⟨a1, t2, rfl, h_2⟩ := xI1_some h_1
    obtain ⟨a2, t3, rfl, h_3⟩ := xI1_some h_2
    obtain ⟨rfl, h_4⟩ := xN1_some h_3
    clear h h_1 h_2 h_3
    have h := h_4
    rw [callW_eq] at h
    refine run_sound (r := r) (X := X) (cc := cX12_isIn) (own := RX12) (tab := tX12_isIn) G (by rw [hn]; exact kX12_isIn) (oI := (oF [])) (oL := (oF [])) (oV := (oF [])) (rI := retZ) (rL := (fun _ _ => none)) (rV := (fun _ => none))
      (K := (fun j ls st w => none)) hr (fun _ _ _ _ hx => by cases hx) (fun _ _ _ hx => by cases hx) hC (fun ls => lsb [some (.inl a0), some (.inl a1), some (.inl a2)] 0 ls) (keepsP_of rfl) ?_ 12 0 [some (.inl a0), some (.inl a1), some (.inl a2)] [] w ?_ h
    · intro j ls st w hfx h
      obtain ⟨e0, e1, e2, -⟩ : _ = _ ∧ _ = _ ∧ _ = _ ∧ True := hfx
      try dsimp only at h
      cases h
    · exact (show _ = _ ∧ _ = _ ∧ _ = _ ∧ True from ⟨rfl, rfl, rfl, trivial⟩)

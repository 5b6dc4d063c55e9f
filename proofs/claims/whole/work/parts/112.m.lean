-- MoorGuidesModel.lineRead()Z
def tX12_lineRead : List EN := [
  (0, .aload_n 0, 0, 0, 0, 0, 0, []), (1, .getfield 214, 0, 12, 8, 0, 0, []), (4, .iconst 1, 0, 0, 0, 1, 0, []), (5, .if_icmp .ne 12, 0, 8, 0, 0, 0, []),
  (8, .aload_n 0, 0, 0, 0, 0, 0, []), (9, .getfield 225, 0, 12, 9, 0, 0, []), (12, .bipush 7, 0, 0, 0, 7, 0, []), (14, .if_icmp .le 9, 0, 12, 0, 0, 0, []),
  (17, .aload_n 0, 0, 0, 0, 0, 0, []), (18, .iconst 1, 0, 0, 0, 1, 0, []), (19, .invokevirtual 238, 0, 0, 2, 0, 0, []), (22, .ireturn, 0, 0, 0, 0, 0, []),
  (23, .aload_n 0, 0, 0, 0, 0, 0, []), (24, .getfield 225, 0, 12, 9, 0, 0, []), (27, .tableswitch 163 0 6 #[41, 49, 57, 65, 73, 81, 122], 0, 79, 41, 0, 0, [(0, 15), (1, 19), (2, 23), (3, 27), (4, 31), (5, 35), (6, 57)]), (68, .aload_n 0, 0, 0, 0, 0, 0, []),
  (69, .invokevirtual 353, 0, 1, 1, 0, 0, []), (72, .istore_n 1, 0, 0, 0, 0, 0, []), (73, .goto 122, 0, 82, 0, 0, 0, []), (76, .aload_n 0, 0, 0, 0, 0, 0, []),
  (77, .invokevirtual 356, 0, 2, 1, 0, 0, []), (80, .istore_n 1, 0, 0, 0, 0, 0, []), (81, .goto 114, 0, 82, 0, 0, 0, []), (84, .aload_n 0, 0, 0, 0, 0, 0, []),
  (85, .invokevirtual 359, 0, 3, 1, 0, 0, []), (88, .istore_n 1, 0, 0, 0, 0, 0, []), (89, .goto 106, 0, 82, 0, 0, 0, []), (92, .aload_n 0, 0, 0, 0, 0, 0, []),
  (93, .invokevirtual 362, 0, 4, 1, 0, 0, []), (96, .istore_n 1, 0, 0, 0, 0, 0, []), (97, .goto 98, 0, 82, 0, 0, 0, []), (100, .aload_n 0, 0, 0, 0, 0, 0, []),
  (101, .invokevirtual 365, 0, 5, 1, 0, 0, []), (104, .istore_n 1, 0, 0, 0, 0, 0, []), (105, .goto 90, 0, 82, 0, 0, 0, []), (108, .aload_n 0, 0, 0, 0, 0, 0, []),
  (109, .getfield 289, 0, 12, 29, 0, 0, []), (112, .ifCond .eq 9, 0, 42, 0, 0, 0, []), (115, .aload_n 0, 0, 0, 0, 0, 0, []), (116, .iconst 3, 0, 0, 0, 3, 0, []),
  (117, .invokevirtual 238, 0, 0, 2, 0, 0, []), (120, .ireturn, 0, 0, 0, 0, 0, []), (121, .aload_n 0, 0, 0, 0, 0, 0, []), (122, .iconst 1, 0, 0, 0, 1, 0, []),
  (123, .putfield 289, 0, 12, 29, 0, 0, [(0, 0)]), (126, .aload_n 0, 0, 0, 0, 0, 0, []), (127, .invokevirtual 248, 0, 0, 1, 0, 0, [(0, 0), (0, 0)]), (130, .aload_n 0, 0, 0, 0, 0, 0, []),
  (131, .iconst 0, 0, 0, 0, 0, 0, []), (132, .bipush 8, 0, 0, 0, 8, 0, []), (134, .invokevirtual 254, 0, 6, 3, 0, 0, []), (137, .istore_n 1, 0, 0, 0, 0, 0, []),
  (138, .aload_n 0, 0, 0, 0, 0, 0, []), (139, .aload_n 0, 0, 0, 0, 0, 0, []), (140, .getfield 245, 0, 12, 11, 0, 0, []), (143, .putfield 273, 0, 12, 25, 0, 0, []),
  (146, .goto 49, 0, 82, 0, 0, 0, []), (149, .aload_n 0, 0, 0, 0, 0, 0, []), (150, .getfield 292, 0, 12, 30, 0, 0, []), (153, .ifCond .eq 9, 0, 64, 0, 0, 0, []),
  (156, .aload_n 0, 0, 0, 0, 0, 0, []), (157, .iconst 3, 0, 0, 0, 3, 0, []), (158, .invokevirtual 238, 0, 0, 2, 0, 0, []), (161, .ireturn, 0, 0, 0, 0, 0, []),
  (162, .aload_n 0, 0, 0, 0, 0, 0, []), (163, .iconst 1, 0, 0, 0, 1, 0, []), (164, .putfield 292, 0, 12, 30, 0, 0, [(0, 0)]), (167, .aload_n 0, 0, 0, 0, 0, 0, []),
  (168, .invokevirtual 248, 0, 0, 1, 0, 0, [(0, 0), (0, 0)]), (171, .aload_n 0, 0, 0, 0, 0, 0, []), (172, .iconst 0, 0, 0, 0, 0, 0, []), (173, .ldc 234, 0, 0, 0, 99999, 0, []),
  (175, .invokevirtual 254, 0, 6, 3, 0, 0, []), (178, .istore_n 1, 0, 0, 0, 0, 0, []), (179, .aload_n 0, 0, 0, 0, 0, 0, []), (180, .aload_n 0, 0, 0, 0, 0, 0, []),
  (181, .getfield 245, 0, 12, 11, 0, 0, []), (184, .putfield 276, 0, 12, 26, 0, 0, []), (187, .goto 8, 0, 82, 0, 0, 0, []), (190, .aload_n 0, 0, 0, 0, 0, 0, []),
  (191, .invokevirtual 368, 0, 7, 1, 0, 0, []), (194, .istore_n 1, 0, 0, 0, 0, 0, []), (195, .iload_n 1, 83, 0, 0, 0, 0, []), (196, .ifCond .ne 5, 0, 86, 0, 0, 0, []),
  (199, .iconst 0, 0, 0, 0, 0, 0, []), (200, .ireturn, 0, 0, 0, 0, 0, []), (201, .aload_n 0, 0, 0, 0, 0, 0, []), (202, .bipush 59, 0, 0, 0, 59, 0, []),
  (204, .invokevirtual 251, 0, 8, 2, 0, 0, []), (207, .ifCond .ne 9, 0, 94, 0, 0, 0, []), (210, .aload_n 0, 0, 0, 0, 0, 0, []), (211, .iconst 1, 0, 0, 0, 1, 0, []),
  (212, .invokevirtual 238, 0, 0, 2, 0, 0, []), (215, .ireturn, 0, 0, 0, 0, 0, []), (216, .aload_n 0, 0, 0, 0, 0, 0, []), (217, .invokevirtual 248, 0, 0, 1, 0, 0, [(0, 0), (0, 0)]),
  (220, .iconst 1, 0, 0, 0, 1, 0, []), (221, .ireturn, 0, 0, 0, 0, 0, [])]
noncomputable def fX12_lineRead_82 (N : Nat) (v1 : Int32) (w : Wd) : Option (Int32 × Wd) :=
  if v1 = 0 then some ((0 : Int32), w) else
  (callW (pX12_isSign N (59 : Int32)) w).bind fun r1 =>
  if r1.1 = 0 then
    (callW (pX12_wrong N (1 : Int32)) r1.2).bind fun r2 =>
    retZ r2.1 r2.2
  else
  (callW (pX12_token N) r1.2).bind fun w3 =>
  some ((1 : Int32), w3)
noncomputable def pX12_lineRead (N : Nat) (w : Wd) : Option (Int32 × Wd) :=
  if (gI w 16 0 8) = (1 : Int32) then
    if (7 : Int32) < (gI w 16 0 9) then
      (callW (pX12_wrong N (1 : Int32)) w).bind fun r1 =>
      retZ r1.1 r1.2
    else
    if (gI w 16 0 9) = (0 : Int32) then
      (callW (pX12_partLine N) w).bind fun r2 =>
      callW (fX12_lineRead_82 N r2.1) r2.2
    else
    if (gI w 16 0 9) = (1 : Int32) then
      (callW (pX12_personLine N) w).bind fun r3 =>
      callW (fX12_lineRead_82 N r3.1) r3.2
    else
    if (gI w 16 0 9) = (2 : Int32) then
      (callW (pX12_partyLine N) w).bind fun r4 =>
      callW (fX12_lineRead_82 N r4.1) r4.2
    else
    if (gI w 16 0 9) = (3 : Int32) then
      (callW (pX12_weatherLine N) w).bind fun r5 =>
      callW (fX12_lineRead_82 N r5.1) r5.2
    else
    if (gI w 16 0 9) = (4 : Int32) then
      (callW (pX12_slideLine N) w).bind fun r6 =>
      callW (fX12_lineRead_82 N r6.1) r6.2
    else
    if (gI w 16 0 9) = (5 : Int32) then
      if (gI w 16 0 29) = 0 then
        (callW (pX12_token N) (setI w 16 0 29 (1 : Int32))).bind fun w7 =>
        (callW (pX12_number N (0 : Int32) (8 : Int32)) w7).bind fun r8 =>
        callW (fX12_lineRead_82 N r8.1) (setI r8.2 16 0 25 (gI r8.2 16 0 11))
      else
      (callW (pX12_wrong N (3 : Int32)) w).bind fun r9 =>
      retZ r9.1 r9.2
    else
    if (gI w 16 0 9) = (6 : Int32) then
      if (gI w 16 0 30) = 0 then
        (callW (pX12_token N) (setI w 16 0 30 (1 : Int32))).bind fun w10 =>
        (callW (pX12_number N (0 : Int32) (99999 : Int32)) w10).bind fun r11 =>
        callW (fX12_lineRead_82 N r11.1) (setI r11.2 16 0 26 (gI r11.2 16 0 11))
      else
      (callW (pX12_wrong N (3 : Int32)) w).bind fun r12 =>
      retZ r12.1 r12.2
    else
    (callW (pX12_lawLine N) w).bind fun r13 =>
    callW (fX12_lineRead_82 N r13.1) r13.2
  else
  (callW (pX12_wrong N (1 : Int32)) w).bind fun r14 =>
  retZ r14.1 r14.2
noncomputable def mX12_lineRead (N : Nat) (as : List AV) (w : Wd) : Option (Int32 × Wd) := xS1 16 as fun t => xN1 t (callW (pX12_lineRead N) w)
set_option maxRecDepth 100000 in
set_option maxHeartbeats 4000000 in
theorem kX12_lineRead : TK cX12_lineRead RX12 2 tX12_lineRead := ⟨by decide +kernel, wok_of [1608, 1609, 1609, 1629, 1629, 1611, 1625, 1630, 1630, 1958, 1611, 1626] (by decide +kernel) (by decide +kernel)⟩
set_option maxRecDepth 100000 in
set_option maxHeartbeats 4000000 in
theorem sX12_lineRead_82 {N : Nat} {X : XT} (G : GX X cX12_lineRead RX12) (hn : xnL X = 2) (hC : CRs X tX12_lineRead (oF [(mX12_wrong N), (mX12_partLine N), (mX12_personLine N), (mX12_partyLine N), (mX12_weatherLine N), (mX12_slideLine N), (mX12_number N), (mX12_lawLine N), (mX12_isSign N)]) (oF []) (oF [(mX12_token N)])) {r : Int32 × Wd} (hr : RTZ X cX12_lineRead r)  : ∀ (v1 : Int32) (w : Wd), fX12_lineRead_82 N v1 w = some r → WW X (pcAt tX12_lineRead 82) [some (.inr (.inr (16, 0))), some (.inl v1)] [] w := by
  intro v1 w h
  refine run_sound (r := r) (X := X) (cc := cX12_lineRead) (own := RX12) (tab := tX12_lineRead) G (by rw [hn]; exact kX12_lineRead) (oI := (oF [(mX12_wrong N), (mX12_partLine N), (mX12_personLine N), (mX12_partyLine N), (mX12_weatherLine N), (mX12_slideLine N), (mX12_number N), (mX12_lawLine N), (mX12_isSign N)])) (oL := (oF [])) (oV := (oF [(mX12_token N)])) (rI := retZ) (rL := (fun _ _ => none)) (rV := (fun _ => none))
    (K := (fun j ls st w => none)) hr (fun _ _ _ _ hx => by cases hx) (fun _ _ _ hx => by cases hx) hC (fun ls => lsb [some (.inr (.inr (16, 0))), none] 0 ls) (keepsP_of rfl) ?_ 100 82 [some (.inr (.inr (16, 0))), some (.inl v1)] [] w ?_ h
  · intro j ls st w hfx h
    obtain ⟨e0, -⟩ : _ = _ ∧ True := hfx
    try dsimp only at h
    cases h
  · exact (show _ = _ ∧ True from ⟨rfl, trivial⟩)
set_option maxRecDepth 100000 in
set_option maxHeartbeats 4000000 in
theorem crX12_lineRead {N : Nat} {X : XT} (G : GX X cX12_lineRead RX12) (hR : xR X = rmL 6) : CRs X tX12_lineRead (oF [(mX12_wrong N), (mX12_partLine N), (mX12_personLine N), (mX12_partyLine N), (mX12_weatherLine N), (mX12_slideLine N), (mX12_number N), (mX12_lawLine N), (mX12_isSign N)]) (oF []) (oF [(mX12_token N)]) := by
  have hl : tX12_lineRead.filter isInv = [(19, .invokevirtual 238, 0, 0, 2, 0, 0, []), (69, .invokevirtual 353, 0, 1, 1, 0, 0, []), (77, .invokevirtual 356, 0, 2, 1, 0, 0, []), (85, .invokevirtual 359, 0, 3, 1, 0, 0, []), (93, .invokevirtual 362, 0, 4, 1, 0, 0, []), (101, .invokevirtual 365, 0, 5, 1, 0, 0, []), (117, .invokevirtual 238, 0, 0, 2, 0, 0, []), (127, .invokevirtual 248, 0, 0, 1, 0, 0, [(0, 0), (0, 0)]), (134, .invokevirtual 254, 0, 6, 3, 0, 0, []), (158, .invokevirtual 238, 0, 0, 2, 0, 0, []), (168, .invokevirtual 248, 0, 0, 1, 0, 0, [(0, 0), (0, 0)]), (175, .invokevirtual 254, 0, 6, 3, 0, 0, []), (191, .invokevirtual 368, 0, 7, 1, 0, 0, []), (204, .invokevirtual 251, 0, 8, 2, 0, 0, []), (212, .invokevirtual 238, 0, 0, 2, 0, 0, []), (217, .invokevirtual 248, 0, 0, 1, 0, 0, [(0, 0), (0, 0)])] := rfl
  intro e he
  rw [hl] at he
  simp only [List.mem_cons, List.not_mem_nil, or_false] at he
  rcases he with rfl | rfl | rfl | rfl | rfl | rfl | rfl | rfl | rfl | rfl | rfl | rfl | rfl | rfl | rfl | rfl
  · exact crI_V (idx := 238) G (by decide +kernel) (MX12_wrong N) (cw_of (ps := [1967, 1969, 83, 164, 1970]) (by decide +kernel) (by decide +kernel)) ⟨by decide +kernel, by decide +kernel, by decide +kernel⟩ (by unfold rmOk; rw [hR]; exact ⟨by decide, by decide⟩)
  · exact crI_V (idx := 353) G (by decide +kernel) (MX12_partLine N) (cw_of (ps := [1971, 1973, 84, 164, 1974]) (by decide +kernel) (by decide +kernel)) ⟨by decide +kernel, by decide +kernel, by decide +kernel⟩ (by unfold rmOk; rw [hR]; exact ⟨by decide, by decide⟩)
  · exact crI_V (idx := 356) G (by decide +kernel) (MX12_personLine N) (cw_of (ps := [1997, 1999, 89, 164, 2000]) (by decide +kernel) (by decide +kernel)) ⟨by decide +kernel, by decide +kernel, by decide +kernel⟩ (by unfold rmOk; rw [hR]; exact ⟨by decide, by decide⟩)
  · exact crI_V (idx := 359) G (by decide +kernel) (MX12_partyLine N) (cw_of (ps := [2005, 2007, 91, 164, 2008]) (by decide +kernel) (by decide +kernel)) ⟨by decide +kernel, by decide +kernel, by decide +kernel⟩ (by unfold rmOk; rw [hR]; exact ⟨by decide, by decide⟩)
  · exact crI_V (idx := 362) G (by decide +kernel) (MX12_weatherLine N) (cw_of (ps := [2013, 2015, 93, 164, 2016]) (by decide +kernel) (by decide +kernel)) ⟨by decide +kernel, by decide +kernel, by decide +kernel⟩ (by unfold rmOk; rw [hR]; exact ⟨by decide, by decide⟩)
  · exact crI_V (idx := 365) G (by decide +kernel) (MX12_slideLine N) (cw_of (ps := [2017, 2019, 94, 164, 2020]) (by decide +kernel) (by decide +kernel)) ⟨by decide +kernel, by decide +kernel, by decide +kernel⟩ (by unfold rmOk; rw [hR]; exact ⟨by decide, by decide⟩)
  · exact crI_V (idx := 238) G (by decide +kernel) (MX12_wrong N) (cw_of (ps := [1967, 1969, 83, 164, 1970]) (by decide +kernel) (by decide +kernel)) ⟨by decide +kernel, by decide +kernel, by decide +kernel⟩ (by unfold rmOk; rw [hR]; exact ⟨by decide, by decide⟩)
  · exact crV_V (idx := 248) G (by decide +kernel) (MX12_token N) (cw_of (ps := [1938, 1940, 76, 164, 1941]) (by decide +kernel) (by decide +kernel)) ⟨by decide +kernel, by decide +kernel, by decide +kernel⟩ (by unfold rmOk; rw [hR]; exact ⟨by decide, by decide⟩)
  · exact crI_V (idx := 254) G (by decide +kernel) (MX12_number N) (cw_of (ps := [1982, 1984, 86, 164, 1985]) (by decide +kernel) (by decide +kernel)) ⟨by decide +kernel, by decide +kernel, by decide +kernel⟩ (by unfold rmOk; rw [hR]; exact ⟨by decide, by decide⟩)
  · exact crI_V (idx := 238) G (by decide +kernel) (MX12_wrong N) (cw_of (ps := [1967, 1969, 83, 164, 1970]) (by decide +kernel) (by decide +kernel)) ⟨by decide +kernel, by decide +kernel, by decide +kernel⟩ (by unfold rmOk; rw [hR]; exact ⟨by decide, by decide⟩)
  · exact crV_V (idx := 248) G (by decide +kernel) (MX12_token N) (cw_of (ps := [1938, 1940, 76, 164, 1941]) (by decide +kernel) (by decide +kernel)) ⟨by decide +kernel, by decide +kernel, by decide +kernel⟩ (by unfold rmOk; rw [hR]; exact ⟨by decide, by decide⟩)
  · exact crI_V (idx := 254) G (by decide +kernel) (MX12_number N) (cw_of (ps := [1982, 1984, 86, 164, 1985]) (by decide +kernel) (by decide +kernel)) ⟨by decide +kernel, by decide +kernel, by decide +kernel⟩ (by unfold rmOk; rw [hR]; exact ⟨by decide, by decide⟩)
  · exact crI_V (idx := 368) G (by decide +kernel) (MX12_lawLine N) (cw_of (ps := [2021, 2023, 95, 164, 2024]) (by decide +kernel) (by decide +kernel)) ⟨by decide +kernel, by decide +kernel, by decide +kernel⟩ (by unfold rmOk; rw [hR]; exact ⟨by decide, by decide⟩)
  · exact crI_V (idx := 251) G (by decide +kernel) (MX12_isSign N) (cw_of (ps := [2029, 2031, 97, 164, 2032]) (by decide +kernel) (by decide +kernel)) ⟨by decide +kernel, by decide +kernel, by decide +kernel⟩ (by unfold rmOk; rw [hR]; exact ⟨by decide, by decide⟩)
  · exact crI_V (idx := 238) G (by decide +kernel) (MX12_wrong N) (cw_of (ps := [1967, 1969, 83, 164, 1970]) (by decide +kernel) (by decide +kernel)) ⟨by decide +kernel, by decide +kernel, by decide +kernel⟩ (by unfold rmOk; rw [hR]; exact ⟨by decide, by decide⟩)
  · exact crV_V (idx := 248) G (by decide +kernel) (MX12_token N) (cw_of (ps := [1938, 1940, 76, 164, 1941]) (by decide +kernel) (by decide +kernel)) ⟨by decide +kernel, by decide +kernel, by decide +kernel⟩ (by unfold rmOk; rw [hR]; exact ⟨by decide, by decide⟩)
set_option maxRecDepth 100000 in
set_option maxHeartbeats 4000000 in
theorem MX12_lineRead (N : Nat) : SndI yX12_lineRead cX12_lineRead 2 (some .boolean) 6 1 true (mX12_lineRead N) := by
  refine SndI.ofZ tX12_lineRead (by decide +kernel) rfl rfl ?_ ?_
  · intro as w x h
    obtain ⟨t1, rfl, h_1⟩ := xS1_some h
    obtain ⟨rfl, h_2⟩ := xN1_some h_1
    clear h h_1
    have h := h_2
    rw [callW_eq] at h
    exact ⟨fun _ => ⟨_, _, _, rfl, rfl, _, rfl, rfl⟩, rfl, Nat.le_of_ble_eq_true rfl⟩
  · intro X G hn hR as w r h hr
    have hC := crX12_lineRead (N := N) G hR
    obtain ⟨t1, rfl, h_1⟩ := xS1_some h
    obtain ⟨rfl, h_2⟩ := xN1_some h_1
    clear h h_1
    have h := h_2
    rw [callW_eq] at h
    refine run_sound (r := r) (X := X) (cc := cX12_lineRead) (own := RX12) (tab := tX12_lineRead) G (by rw [hn]; exact kX12_lineRead) (oI := (oF [(mX12_wrong N), (mX12_partLine N), (mX12_personLine N), (mX12_partyLine N), (mX12_weatherLine N), (mX12_slideLine N), (mX12_number N), (mX12_lawLine N), (mX12_isSign N)])) (oL := (oF [])) (oV := (oF [(mX12_token N)])) (rI := retZ) (rL := (fun _ _ => none)) (rV := (fun _ => none))
      (K := (fun j ls st w => if j = 82 then (lgI ls 1 fun v1 => st0 st (callW (fX12_lineRead_82 N v1) w)) else none)) hr (fun _ _ _ _ hx => by cases hx) (fun _ _ _ hx => by cases hx) hC (fun ls => lsb [some (.inr (.inr (16, 0))), none] 0 ls) (keepsP_of rfl) ?_ 100 0 [some (.inr (.inr (16, 0))), none] [] w ?_ h
    · intro j ls st w hfx h
      obtain ⟨e0, -⟩ : _ = _ ∧ True := hfx
      try dsimp only at h
      by_cases hj : j = 82
      · subst hj
        rw [if_pos rfl] at h
        obtain ⟨v1, e1, h_1⟩ := lgI_some h
        obtain ⟨rfl, h_2⟩ := st0_some h_1
        clear h h_1
        have h := h_2
        try rw [callW_eq] at h
        exact WW.le (a := [some (.inr (.inr (16, 0))), some (.inl v1)]) (by rw [hn]; rfl) (show _ = _ ∧ _ = _ ∧ True from ⟨e0, e1, trivial⟩) (sX12_lineRead_82 G hn hC hr v1 w h)
      rw [if_neg hj] at h
      cases h
    · exact (show _ = _ ∧ True from ⟨rfl, trivial⟩)
-- MoorGuidesModel.text(I)I
def tX12_text : List EN := [
  (0, .aload_n 0, 0, 0, 0, 0, 0, []), (1, .iconst 0, 0, 0, 0, 0, 0, []), (2, .putfield 196, 0, 12, 2, 0, 0, []), (5, .iload_n 1, 0, 0, 0, 0, 0, []),
  (6, .ifCond .lt 11, 0, 9, 0, 0, 0, []), (9, .iload_n 1, 0, 0, 0, 0, 0, []), (10, .aload_n 0, 0, 0, 0, 0, 0, []), (11, .getfield 199, 0, 12, 1, 0, 0, []),
  (14, .if_icmp .le 6, 0, 11, 0, 0, 0, []), (17, .bipush (-2), 0, 0, 0, (-2), 0, []), (19, .ireturn, 0, 0, 0, 0, 0, []), (20, .aload_n 0, 0, 0, 0, 0, 0, []),
  (21, .iload_n 1, 0, 0, 0, 0, 0, []), (22, .putfield 208, 0, 12, 6, 0, 0, []), (25, .aload_n 0, 0, 0, 0, 0, 0, []), (26, .iconst 0, 0, 0, 0, 0, 0, []),
  (27, .putfield 199, 0, 12, 1, 0, 0, []), (30, .aload_n 0, 0, 0, 0, 0, 0, []), (31, .iconst 0, 0, 0, 0, 0, 0, []), (32, .putfield 202, 0, 12, 4, 0, 0, []),
  (35, .aload_n 0, 0, 0, 0, 0, 0, []), (36, .iconst (-1), 0, 0, 0, (-1), 0, []), (37, .putfield 16, 0, 12, 5, 0, 0, []), (40, .aload_n 0, 0, 0, 0, 0, 0, []),
  (41, .iconst 0, 0, 0, 0, 0, 0, []), (42, .putfield 211, 0, 12, 7, 0, 0, []), (45, .aload_n 0, 0, 0, 0, 0, 0, []), (46, .invokevirtual 190, 0, 0, 1, 0, 0, [(0, 0), (0, 0)]),
  (49, .aload_n 0, 0, 0, 0, 0, 0, []), (50, .invokevirtual 248, 0, 1, 1, 0, 0, [(0, 0), (0, 0)]), (53, .iconst 0, 0, 0, 0, 0, 0, []), (54, .istore_n 2, 0, 0, 0, 0, 0, []),
  (55, .aload_n 0, 33, 0, 0, 0, 0, []), (56, .getfield 214, 0, 12, 8, 0, 0, []), (59, .ifCond .eq 18, 0, 42, 0, 0, 0, []), (62, .aload_n 0, 0, 0, 0, 0, 0, []),
  (63, .invokevirtual 371, 0, 0, 1, 0, 0, []), (66, .ifCond .ne 5, 0, 40, 0, 0, 0, []), (69, .iconst (-1), 0, 0, 0, (-1), 0, []), (70, .ireturn, 0, 0, 0, 0, 0, []),
  (71, .iinc 2 1, 0, 0, 0, 1, 0, []), (74, .goto (-19), 0, 32, 0, 0, 0, []), (77, .aload_n 0, 43, 0, 0, 0, 0, []), (78, .invokevirtual 193, 0, 2, 1, 0, 0, [(0, 0), (0, 0)]),
  (81, .iload_n 2, 0, 0, 0, 0, 0, []), (82, .ireturn, 0, 0, 0, 0, 0, [])]
noncomputable def fX12_text_42 (N : Nat) (v2 : Int32) (w : Wd) : Option (Int32 × Wd) :=
  (callW (pX12_keepText N) w).bind fun w1 =>
  some (v2, w1)
noncomputable def fX12_text_32 (N : Nat) : Nat → (Int32 → Wd → Option (Int32 × Wd)) → Int32 → Wd → Option (Int32 × Wd)
  | 0, _, _, _ => none
  | n + 1, k42, v2, w =>
    if (gI w 16 0 8) = 0 then k42 v2 w else
    (callW (pX12_lineRead N) w).bind fun r1 =>
    if r1.1 = 0 then some ((-1 : Int32), r1.2) else
    callW (fX12_text_32 N n k42 (v2 + (1 : Int32))) r1.2
noncomputable def pX12_text (N : Nat) (a1 : Int32) (w : Wd) : Option (Int32 × Wd) :=
  if a1 < 0 then some ((-2 : Int32), (setI w 16 0 2 (0 : Int32))) else
  if (gI (setI w 16 0 2 (0 : Int32)) 16 0 1) < a1 then some ((-2 : Int32), (setI w 16 0 2 (0 : Int32))) else
  (callW (pX12_plain N) (setI (setI (setI (setI (setI (setI w 16 0 2 (0 : Int32)) 16 0 6 a1) 16 0 1 (0 : Int32)) 16 0 4 (0 : Int32)) 16 0 5 (-1 : Int32)) 16 0 7 (0 : Int32))).bind fun w1 =>
  (callW (pX12_token N) w1).bind fun w2 =>
  callW (fX12_text_32 N N (fX12_text_42 N) (0 : Int32)) w2
noncomputable def mX12_text (N : Nat) (as : List AV) (w : Wd) : Option (Int32 × Wd) := xS1 16 as fun t => xI1 t fun a1 t => xN1 t (callW (pX12_text N a1) w)
set_option maxRecDepth 100000 in
set_option maxHeartbeats 4000000 in
theorem kX12_text : TK cX12_text RX12 3 tX12_text := ⟨by decide +kernel, wok_of [1602, 1601, 1606, 1601, 1604, 1605, 1607, 1608] (by decide +kernel) (by decide +kernel)⟩
set_option maxRecDepth 100000 in
set_option maxHeartbeats 4000000 in
theorem sX12_text_42 {N : Nat} {X : XT} (G : GX X cX12_text RX12) (hn : xnL X = 3) (hC : CRs X tX12_text (oF [(mX12_lineRead N)]) (oF []) (oF [(mX12_plain N), (mX12_token N), (mX12_keepText N)])) {r : Int32 × Wd} (hr : RTI X cX12_text r) (a1 : Int32) : ∀ (v2 : Int32) (w : Wd), fX12_text_42 N v2 w = some r → WW X (pcAt tX12_text 42) [some (.inr (.inr (16, 0))), some (.inl a1), some (.inl v2)] [] w := by
  intro v2 w h
  refine run_sound (r := r) (X := X) (cc := cX12_text) (own := RX12) (tab := tX12_text) G (by rw [hn]; exact kX12_text) (oI := (oF [(mX12_lineRead N)])) (oL := (oF [])) (oV := (oF [(mX12_plain N), (mX12_token N), (mX12_keepText N)])) (rI := (fun x w => some (x, w))) (rL := (fun _ _ => none)) (rV := (fun _ => none))
    (K := (fun j ls st w => none)) (fun x w pc ls hx hd => hr x w pc ls (Option.some.inj hx) hd) (fun _ _ _ _ hx => by cases hx) (fun _ _ _ hx => by cases hx) hC (fun ls => lsb [some (.inr (.inr (16, 0))), some (.inl a1), none] 0 ls) (keepsP_of rfl) ?_ 48 42 [some (.inr (.inr (16, 0))), some (.inl a1), some (.inl v2)] [] w ?_ h
  · intro j ls st w hfx h
    obtain ⟨e0, e1, -⟩ : _ = _ ∧ _ = _ ∧ True := hfx
    try dsimp only at h
    cases h
  · exact (show _ = _ ∧ _ = _ ∧ True from ⟨rfl, rfl, trivial⟩)
set_option maxRecDepth 100000 in
set_option maxHeartbeats 4000000 in
theorem sX12_text_32 {N : Nat} {X : XT} (G : GX X cX12_text RX12) (hn : xnL X = 3) (hC : CRs X tX12_text (oF [(mX12_lineRead N)]) (oF []) (oF [(mX12_plain N), (mX12_token N), (mX12_keepText N)])) {r : Int32 × Wd} (hr : RTI X cX12_text r) (a1 : Int32) : ∀ (n : Nat) (k42 : Int32 → Wd → Option (Int32 × Wd)) (v2 : Int32) (w : Wd), fX12_text_32 N n k42 v2 w = some r → (∀ (v2 : Int32) (w : Wd), k42 v2 w = some r → WW X (pcAt tX12_text 42) [some (.inr (.inr (16, 0))), some (.inl a1), some (.inl v2)] [] w) → WW X (pcAt tX12_text 32) [some (.inr (.inr (16, 0))), some (.inl a1), some (.inl v2)] [] w := by
  intro n
  induction n with
  | zero => intro k42 v2 w h h42; cases h
  | succ n ih =>
    intro k42 v2 w h h42
    refine run_sound (r := r) (X := X) (cc := cX12_text) (own := RX12) (tab := tX12_text) G (by rw [hn]; exact kX12_text) (oI := (oF [(mX12_lineRead N)])) (oL := (oF [])) (oV := (oF [(mX12_plain N), (mX12_token N), (mX12_keepText N)])) (rI := (fun x w => some (x, w))) (rL := (fun _ _ => none)) (rV := (fun _ => none))
      (K := (fun j ls st w => if j = 32 then (lgI ls 2 fun v2 => st0 st (callW (fX12_text_32 N n k42 v2) w)) else if j = 42 then (lgI ls 2 fun v2 => st0 st (k42 v2 w)) else none)) (fun x w pc ls hx hd => hr x w pc ls (Option.some.inj hx) hd) (fun _ _ _ _ hx => by cases hx) (fun _ _ _ hx => by cases hx) hC (fun ls => lsb [some (.inr (.inr (16, 0))), some (.inl a1), none] 0 ls) (keepsP_of rfl) ?_ 48 32 [some (.inr (.inr (16, 0))), some (.inl a1), some (.inl v2)] [] w ?_ h
    · intro j ls st w hfx h
      obtain ⟨e0, e1, -⟩ : _ = _ ∧ _ = _ ∧ True := hfx
      try dsimp only at h
      by_cases hj : j = 32
      · subst hj
        rw [if_pos rfl] at h
        obtain ⟨v2, e2, h_1⟩ := lgI_some h
        obtain ⟨rfl, h_2⟩ := st0_some h_1
        clear h h_1
        have h := h_2
        try rw [callW_eq] at h
        exact WW.le (a := [some (.inr (.inr (16, 0))), some (.inl a1), some (.inl v2)]) (by rw [hn]; rfl) (show _ = _ ∧ _ = _ ∧ _ = _ ∧ True from ⟨e0, e1, e2, trivial⟩) (ih k42 v2 w h h42)
      rw [if_neg hj] at h
      by_cases hj : j = 42
      · subst hj
        rw [if_pos rfl] at h
        obtain ⟨v2, e2, h_1⟩ := lgI_some h
        obtain ⟨rfl, h_2⟩ := st0_some h_1
        clear h h_1
        have h := h_2
        try rw [callW_eq] at h
        exact WW.le (a := [some (.inr (.inr (16, 0))), some (.inl a1), some (.inl v2)]) (by rw [hn]; rfl) (show _ = _ ∧ _ = _ ∧ _ = _ ∧ True from ⟨e0, e1, e2, trivial⟩) (h42 v2 w h)
      rw [if_neg hj] at h
      cases h
    · exact (show _ = _ ∧ _ = _ ∧ True from ⟨rfl, rfl, trivial⟩)
set_option maxRecDepth 100000 in
set_option maxHeartbeats 4000000 in
theorem crX12_text {N : Nat} {X : XT} (G : GX X cX12_text RX12) (hR : xR X = rmL 7) : CRs X tX12_text (oF [(mX12_lineRead N)]) (oF []) (oF [(mX12_plain N), (mX12_token N), (mX12_keepText N)]) := by
  have hl : tX12_text.filter isInv = [(46, .invokevirtual 190, 0, 0, 1, 0, 0, [(0, 0), (0, 0)]), (50, .invokevirtual 248, 0, 1, 1, 0, 0, [(0, 0), (0, 0)]), (63, .invokevirtual 371, 0, 0, 1, 0, 0, []), (78, .invokevirtual 193, 0, 2, 1, 0, 0, [(0, 0), (0, 0)])] := rfl
  intro e he
  rw [hl] at he
  simp only [List.mem_cons, List.not_mem_nil, or_false] at he
  rcases he with rfl | rfl | rfl | rfl
  · exact crV_V (idx := 190) G (by decide +kernel) (MX12_plain N) (cw_of (ps := [1574, 1576, 71, 164, 1577]) (by decide +kernel) (by decide +kernel)) ⟨by decide +kernel, by decide +kernel, by decide +kernel⟩ (by unfold rmOk; rw [hR]; exact ⟨by decide, by decide⟩)
  · exact crV_V (idx := 248) G (by decide +kernel) (MX12_token N) (cw_of (ps := [1938, 1940, 76, 164, 1941]) (by decide +kernel) (by decide +kernel)) ⟨by decide +kernel, by decide +kernel, by decide +kernel⟩ (by unfold rmOk; rw [hR]; exact ⟨by decide, by decide⟩)
  · exact crI_V (idx := 371) G (by decide +kernel) (MX12_lineRead N) (cw_of (ps := [1963, 1965, 82, 164, 1966]) (by decide +kernel) (by decide +kernel)) ⟨by decide +kernel, by decide +kernel, by decide +kernel⟩ (by unfold rmOk; rw [hR]; exact ⟨by decide, by decide⟩)
  · exact crV_V (idx := 193) G (by decide +kernel) (MX12_keepText N) (cw_of (ps := [1578, 1580, 72, 164, 1581]) (by decide +kernel) (by decide +kernel)) ⟨by decide +kernel, by decide +kernel, by decide +kernel⟩ (by unfold rmOk; rw [hR]; exact ⟨by decide, by decide⟩)
set_option maxRecDepth 100000 in
set_option maxHeartbeats 4000000 in
theorem MX12_text (N : Nat) : SndI yX12_text cX12_text 3 (some .int) 7 2 true (mX12_text N) := by
  refine SndI.of tX12_text (by decide +kernel) rfl rfl ?_ ?_
  · intro as w x h
    obtain ⟨t1, rfl, h_1⟩ := xS1_some h
    obtain ⟨a1, t2, rfl, h_2⟩ := xI1_some h_1
    obtain ⟨rfl, h_3⟩ := xN1_some h_2
    clear h h_1 h_2
    have h := h_3
    rw [callW_eq] at h
    exact ⟨fun _ => ⟨_, _, _, rfl, rfl, _, rfl, rfl⟩, rfl, Nat.le_of_ble_eq_true rfl⟩
  · intro X G hn hR as w r h hr
    have hC := crX12_text (N := N) G hR
    obtain ⟨t1, rfl, h_1⟩ := xS1_some h
    obtain ⟨a1, t2, rfl, h_2⟩ := xI1_some h_1
    obtain ⟨rfl, h_3⟩ := xN1_some h_2
    clear h h_1 h_2
    have h := h_3
    rw [callW_eq] at h
    refine run_sound (r := r) (X := X) (cc := cX12_text) (own := RX12) (tab := tX12_text) G (by rw [hn]; exact kX12_text) (oI := (oF [(mX12_lineRead N)])) (oL := (oF [])) (oV := (oF [(mX12_plain N), (mX12_token N), (mX12_keepText N)])) (rI := (fun x w => some (x, w))) (rL := (fun _ _ => none)) (rV := (fun _ => none))
      (K := (fun j ls st w => if j = 32 then (lgI ls 2 fun v2 => st0 st (callW (fX12_text_32 N N (fX12_text_42 N) v2) w)) else none)) (fun x w pc ls hx hd => hr x w pc ls (Option.some.inj hx) hd) (fun _ _ _ _ hx => by cases hx) (fun _ _ _ hx => by cases hx) hC (fun ls => lsb [some (.inr (.inr (16, 0))), some (.inl a1), none] 0 ls) (keepsP_of rfl) ?_ 48 0 [some (.inr (.inr (16, 0))), some (.inl a1), none] [] w ?_ h
    · intro j ls st w hfx h
      obtain ⟨e0, e1, -⟩ : _ = _ ∧ _ = _ ∧ True := hfx
      try dsimp only at h
      by_cases hj : j = 32
      · subst hj
        rw [if_pos rfl] at h
        obtain ⟨v2, e2, h_1⟩ := lgI_some h
        obtain ⟨rfl, h_2⟩ := st0_some h_1
        clear h h_1
        have h := h_2
        try rw [callW_eq] at h
        exact WW.le (a := [some (.inr (.inr (16, 0))), some (.inl a1), some (.inl v2)]) (by rw [hn]; rfl) (show _ = _ ∧ _ = _ ∧ _ = _ ∧ True from ⟨e0, e1, e2, trivial⟩) (sX12_text_32 G hn hC hr a1 N (fX12_text_42 N) v2 w h (fun v2 w h => (sX12_text_42 G hn hC hr a1 v2 w h)))
      rw [if_neg hj] at h
      cases h
    · exact (show _ = _ ∧ _ = _ ∧ True from ⟨rfl, rfl, trivial⟩)
-- MoorGuidesModel.fault(I)I
def tX12_fault : List EN := [
  (0, .aload_n 0, 0, 0, 0, 0, 0, []), (1, .iconst 0, 0, 0, 0, 0, 0, []), (2, .putfield 196, 0, 12, 2, 0, 0, []), (5, .iload_n 1, 0, 0, 0, 0, 0, []),
  (6, .ifCond .ne 10, 0, 8, 0, 0, 0, []), (9, .aload_n 0, 0, 0, 0, 0, 0, []), (10, .getfield 202, 0, 12, 4, 0, 0, []), (13, .goto 16, 0, 15, 0, 0, 0, []),
  (16, .iload_n 1, 0, 0, 0, 0, 0, []), (17, .iconst 1, 0, 0, 0, 1, 0, []), (18, .if_icmp .ne 10, 0, 14, 0, 0, 0, []), (21, .aload_n 0, 0, 0, 0, 0, 0, []),
  (22, .getfield 16, 0, 12, 5, 0, 0, []), (25, .goto 4, 0, 15, 0, 0, 0, []), (28, .iconst (-1), 0, 0, 0, (-1), 0, []), (29, .ireturn, 0, 0, 0, 0, 0, [])]
noncomputable def pX12_fault (N : Nat) (a1 : Int32) (w : Wd) : Option (Int32 × Wd) :=
  if a1 = 0 then some ((gI (setI w 16 0 2 (0 : Int32)) 16 0 4), (setI w 16 0 2 (0 : Int32))) else
  if a1 = (1 : Int32) then some ((gI (setI w 16 0 2 (0 : Int32)) 16 0 5), (setI w 16 0 2 (0 : Int32))) else
  some ((-1 : Int32), (setI w 16 0 2 (0 : Int32)))
noncomputable def mX12_fault (N : Nat) (as : List AV) (w : Wd) : Option (Int32 × Wd) := xS1 16 as fun t => xI1 t fun a1 t => xN1 t (callW (pX12_fault N a1) w)
set_option maxRecDepth 100000 in
set_option maxHeartbeats 4000000 in
theorem kX12_fault : TK cX12_fault RX12 2 tX12_fault := ⟨by decide +kernel, wok_of [1602, 1604, 1605] (by decide +kernel) (by decide +kernel)⟩
set_option maxRecDepth 100000 in
set_option maxHeartbeats 4000000 in
theorem crX12_fault {N : Nat} {X : XT} (G : GX X cX12_fault RX12) (hR : xR X = rmL 1) : CRs X tX12_fault (oF []) (oF []) (oF []) := by
  have hl : tX12_fault.filter isInv = [] := rfl
  intro e he
  rw [hl] at he
  cases he
set_option maxRecDepth 100000 in
set_option maxHeartbeats 4000000 in
theorem MX12_fault (N : Nat) : SndI yX12_fault cX12_fault 2 (some .int) 1 2 true (mX12_fault N) := by
  refine SndI.of tX12_fault (by decide +kernel) rfl rfl ?_ ?_
  · intro as w x h
    obtain ⟨t1, rfl, h_1⟩ := xS1_some h
    obtain ⟨a1, t2, rfl, h_2⟩ := xI1_some h_1
    obtain ⟨rfl, h_3⟩ := xN1_some h_2
    clear h h_1 h_2
    have h := h_3
    rw [callW_eq] at h
    exact ⟨fun _ => ⟨_, _, _, rfl, rfl, _, rfl, rfl⟩, rfl, Nat.le_of_ble_eq_true rfl⟩
  · intro X G hn hR as w r h hr
    have hC := crX12_fault (N := N) G hR
    obtain ⟨t1, rfl, h_1⟩ := xS1_some h
    obtain ⟨a1, t2, rfl, h_2⟩ := xI1_some h_1
    obtain ⟨rfl, h_3⟩ := xN1_some h_2
    clear h h_1 h_2
    have h := h_3
    rw [callW_eq] at h
    refine run_sound (r := r) (X := X) (cc := cX12_fault) (own := RX12) (tab := tX12_fault) G (by rw [hn]; exact kX12_fault) (oI := (oF [])) (oL := (oF [])) (oV := (oF [])) (rI := (fun x w => some (x, w))) (rL := (fun _ _ => none)) (rV := (fun _ => none))
      (K := (fun j ls st w => none)) (fun x w pc ls hx hd => hr x w pc ls (Option.some.inj hx) hd) (fun _ _ _ _ hx => by cases hx) (fun _ _ _ hx => by cases hx) hC (fun ls => lsb [some (.inr (.inr (16, 0))), some (.inl a1)] 0 ls) (keepsP_of rfl) ?_ 18 0 [some (.inr (.inr (16, 0))), some (.inl a1)] [] w ?_ h
    · intro j ls st w hfx h
      obtain ⟨e0, e1, -⟩ : _ = _ ∧ _ = _ ∧ True := hfx
      try dsimp only at h
      cases h
    · exact (show _ = _ ∧ _ = _ ∧ True from ⟨rfl, rfl, trivial⟩)
-- MoorGuidesModel.named(II)I
def tX12_named : List EN := [
  (0, .aload_n 0, 0, 0, 0, 0, 0, []), (1, .iconst 0, 0, 0, 0, 0, 0, []), (2, .putfield 196, 0, 12, 2, 0, 0, []), (5, .iload_n 1, 0, 0, 0, 0, 0, []),
  (6, .ifCond .ne 19, 0, 13, 0, 0, 0, []), (9, .aload_n 0, 0, 0, 0, 0, 0, []), (10, .getfield 20, 0, 12, 31, 0, 0, []), (13, .iconst 0, 0, 0, 0, 0, 0, []),
  (14, .aload_n 0, 0, 0, 0, 0, 0, []), (15, .getfield 295, 0, 12, 12, 0, 0, []), (18, .iload_n 2, 0, 0, 0, 0, 0, []), (19, .invokestatic 326, 0, 0, 4, 0, 0, []),
  (22, .goto 25, 0, 25, 0, 0, 0, []), (25, .iload_n 1, 0, 0, 0, 0, 0, []), (26, .iconst 1, 0, 0, 0, 1, 0, []), (27, .if_icmp .ne 19, 0, 24, 0, 0, 0, []),
  (30, .aload_n 0, 0, 0, 0, 0, 0, []), (31, .getfield 29, 0, 12, 34, 0, 0, []), (34, .iconst 0, 0, 0, 0, 0, 0, []), (35, .aload_n 0, 0, 0, 0, 0, 0, []),
  (36, .getfield 298, 0, 12, 13, 0, 0, []), (39, .iload_n 2, 0, 0, 0, 0, 0, []), (40, .invokestatic 326, 0, 0, 4, 0, 0, []), (43, .goto 4, 0, 25, 0, 0, 0, []),
  (46, .iconst (-1), 0, 0, 0, (-1), 0, []), (47, .ireturn, 0, 0, 0, 0, 0, [])]
noncomputable def pX12_named (N : Nat) (a1 : Int32) (a2 : Int32) (w : Wd) : Option (Int32 × Wd) :=
  if a1 = 0 then
    (callW (pX12_find N 75 0 (0 : Int32) (gI (setI w 16 0 2 (0 : Int32)) 16 0 12) a2) (setI w 16 0 2 (0 : Int32))).bind fun r1 =>
    some (r1.1, r1.2)
  else
  if a1 = (1 : Int32) then
    (callW (pX12_find N 78 0 (0 : Int32) (gI (setI w 16 0 2 (0 : Int32)) 16 0 13) a2) (setI w 16 0 2 (0 : Int32))).bind fun r2 =>
    some (r2.1, r2.2)
  else
  some ((-1 : Int32), (setI w 16 0 2 (0 : Int32)))
noncomputable def mX12_named (N : Nat) (as : List AV) (w : Wd) : Option (Int32 × Wd) := xS1 16 as fun t => xI1 t fun a1 t => xI1 t fun a2 t => xN1 t (callW (pX12_named N a1 a2) w)
set_option maxRecDepth 100000 in
set_option maxHeartbeats 4000000 in
theorem kX12_named : TK cX12_named RX12 3 tX12_named := ⟨by decide +kernel, wok_of [1602, 1631, 1612, 1634, 1613] (by decide +kernel) (by decide +kernel)⟩
set_option maxRecDepth 100000 in
set_option maxHeartbeats 4000000 in
theorem crX12_named {N : Nat} {X : XT} (G : GX X cX12_named RX12) (hR : xR X = rmL 2) : CRs X tX12_named (oF [(mX12_find N)]) (oF []) (oF []) := by
  have hl : tX12_named.filter isInv = [(19, .invokestatic 326, 0, 0, 4, 0, 0, []), (40, .invokestatic 326, 0, 0, 4, 0, 0, [])] := rfl
  intro e he
  rw [hl] at he
  simp only [List.mem_cons, List.not_mem_nil, or_false] at he
  rcases he with rfl | rfl
  · exact crI_S (idx := 326) G (by decide +kernel) (MX12_find N) (cw_of (ps := [1979, 1980, 164, 1981]) (by decide +kernel) (by decide +kernel)) ⟨by decide +kernel, by decide +kernel, by decide +kernel⟩ (by unfold rmOk; rw [hR]; exact ⟨by decide, by decide⟩)
  · exact crI_S (idx := 326) G (by decide +kernel) (MX12_find N) (cw_of (ps := [1979, 1980, 164, 1981]) (by decide +kernel) (by decide +kernel)) ⟨by decide +kernel, by decide +kernel, by decide +kernel⟩ (by unfold rmOk; rw [hR]; exact ⟨by decide, by decide⟩)
set_option maxRecDepth 100000 in
set_option maxHeartbeats 4000000 in
theorem MX12_named (N : Nat) : SndI yX12_named cX12_named 3 (some .int) 2 3 true (mX12_named N) := by
  refine SndI.of tX12_named (by decide +kernel) rfl rfl ?_ ?_
  · intro as w x h
    obtain ⟨t1, rfl, h_1⟩ := xS1_some h
    obtain ⟨a1, t2, rfl, h_2⟩ := xI1_some h_1
    obtain ⟨a2, t3, rfl, h_3⟩ := xI1_some h_2
    obtain ⟨rfl, h_4⟩ := xN1_some h_3
    clear h h_1 h_2 h_3
    have h := h_4
    rw [callW_eq] at h
    exact ⟨fun _ => ⟨_, _, _, rfl, rfl, _, rfl, rfl⟩, rfl, Nat.le_of_ble_eq_true rfl⟩
  · intro X G hn hR as w r h hr
    have hC := crX12_named (N := N) G hR
    obtain ⟨t1, rfl, h_1⟩ := xS1_some h
    obtain ⟨a1, t2, rfl, h_2⟩ := xI1_some h_1
    obtain ⟨a2, t3, rfl, h_3⟩ := xI1_some h_2
    obtain ⟨rfl, h_4⟩ := xN1_some h_3
    clear h h_1 h_2 h_3
    have h := h_4
    rw [callW_eq] at h
    refine run_sound (r := r) (X := X) (cc := cX12_named) (own := RX12) (tab := tX12_named) G (by rw [hn]; exact kX12_named) (oI := (oF [(mX12_find N)])) (oL := (oF [])) (oV := (oF [])) (rI := (fun x w => some (x, w))) (rL := (fun _ _ => none)) (rV := (fun _ => none))
      (K := (fun j ls st w => none)) (fun x w pc ls hx hd => hr x w pc ls (Option.some.inj hx) hd) (fun _ _ _ _ hx => by cases hx) (fun _ _ _ hx => by cases hx) hC (fun ls => lsb [some (.inr (.inr (16, 0))), some (.inl a1), some (.inl a2)] 0 ls) (keepsP_of rfl) ?_ 28 0 [some (.inr (.inr (16, 0))), some (.inl a1), some (.inl a2)] [] w ?_ h
    · intro j ls st w hfx h
      obtain ⟨e0, e1, e2, -⟩ : _ = _ ∧ _ = _ ∧ _ = _ ∧ True := hfx
      try dsimp only at h
      cases h
    · exact (show _ = _ ∧ _ = _ ∧ _ = _ ∧ True from ⟨rfl, rfl, rfl, trivial⟩)
-- MoorGuidesModel.bounded(J)J
def tX12_bounded : List EN := [
  (0, .aload_n 0, 0, 0, 0, 0, 0, []), (1, .aload_n 0, 0, 0, 0, 0, 0, []), (2, .getfield 420, 0, 12, 63, 0, 0, []), (5, .ifCond .ne 19, 0, 12, 0, 0, 0, []),
  (8, .lload_n 1, 0, 0, 0, 0, 0, []), (9, .ldc2_w 423, 0, 0, 0, 0, 1000000000000, []), (12, .lcmp, 0, 0, 0, 0, 0, []), (13, .ifCond .gt 11, 0, 12, 0, 0, 0, []),
  (16, .lload_n 1, 0, 0, 0, 0, 0, []), (17, .ldc2_w 425, 0, 0, 0, 0, (-1000000000000), []), (20, .lcmp, 0, 0, 0, 0, 0, []), (21, .ifCond .ge 7, 0, 14, 0, 0, 0, []),
  (24, .iconst 1, 13, 0, 0, 1, 0, []), (25, .goto 4, 0, 15, 0, 0, 0, []), (28, .iconst 0, 0, 0, 0, 0, 0, []), (29, .putfield 420, 16, 12, 63, 0, 0, [(0, 0)]),
  (32, .aload_n 0, 0, 0, 0, 0, 0, []), (33, .getfield 420, 0, 12, 63, 0, 0, []), (36, .ifCond .eq 7, 0, 21, 0, 0, 0, []), (39, .lconst 0, 0, 0, 0, 0, 0, []),
  (40, .goto 4, 0, 22, 0, 0, 0, []), (43, .lload_n 1, 0, 0, 0, 0, 0, []), (44, .lreturn, 0, 0, 0, 0, 0, [])]
noncomputable def fX12_bounded_15 (N : Nat) (a1 : Int64) (s0 : Int32) (w : Wd) : Option (Int64 × Wd) :=
  (fput w 16 0 63 1 (0, 0, 0) (.inl s0)).bind fun w1 =>
  if (gI w1 16 0 63) = 0 then some (a1, w1) else
  some ((0 : Int64), w1)
noncomputable def fX12_bounded_12 (N : Nat) (a1 : Int64) (w : Wd) : Option (Int64 × Wd) :=
  callW (fX12_bounded_15 N a1 (1 : Int32)) w
noncomputable def pX12_bounded (N : Nat) (a1 : Int64) (w : Wd) : Option (Int64 × Wd) :=
  if (gI w 16 0 63) = 0 then
    if 0 < (lg_cmp a1 (1000000000000 : Int64)) then callW (fX12_bounded_12 N a1) w else
    if (lg_cmp a1 (-1000000000000 : Int64)) < 0 then callW (fX12_bounded_12 N a1) w else
    callW (fX12_bounded_15 N a1 (0 : Int32)) w
  else
  callW (fX12_bounded_12 N a1) w
noncomputable def mX12_bounded (N : Nat) (as : List AV) (w : Wd) : Option (Int64 × Wd) := xS1 16 as fun t => xL1 t fun a1 t => xN1 t (callW (pX12_bounded N a1) w)
set_option maxRecDepth 100000 in
set_option maxHeartbeats 4000000 in
theorem kX12_bounded : TK cX12_bounded RX12 3 tX12_bounded := ⟨by decide +kernel, wok_of [1663, 2146, 2147, 1663, 1663] (by decide +kernel) (by decide +kernel)⟩
set_option maxRecDepth 100000 in
set_option maxHeartbeats 4000000 in
theorem sX12_bounded_15 {N : Nat} {X : XT} (G : GX X cX12_bounded RX12) (hn : xnL X = 3) (hC : CRs X tX12_bounded (oF []) (oF []) (oF [])) {r : Int64 × Wd} (hr : RTL X cX12_bounded r) (a1 : Int64) : ∀ (s0 : Int32) (w : Wd), fX12_bounded_15 N a1 s0 w = some r → WW X (pcAt tX12_bounded 15) [some (.inr (.inr (16, 0))), some (.inr (.inl a1)), none] [.inl s0, .inr (.inr (16, 0))] w := by
  intro s0 w h
  refine run_sound (r := r) (X := X) (cc := cX12_bounded) (own := RX12) (tab := tX12_bounded) G (by rw [hn]; exact kX12_bounded) (oI := (oF [])) (oL := (oF [])) (oV := (oF [])) (rI := (fun _ _ => none)) (rL := (fun x w => some (x, w))) (rV := (fun _ => none))
    (K := (fun j ls st w => none)) (fun _ _ _ _ hx => by cases hx) (fun x w pc ls hx hd => hr x w pc ls (Option.some.inj hx) hd) (fun _ _ _ hx => by cases hx) hC (fun ls => lsb [some (.inr (.inr (16, 0))), some (.inr (.inl a1)), none] 0 ls) (keepsP_of rfl) ?_ 25 15 [some (.inr (.inr (16, 0))), some (.inr (.inl a1)), none] [.inl s0, .inr (.inr (16, 0))] w ?_ h
  · intro j ls st w hfx h
    obtain ⟨e0, e1, -⟩ : _ = _ ∧ _ = _ ∧ True := hfx
    try dsimp only at h
    cases h
  · exact (show _ = _ ∧ _ = _ ∧ True from ⟨rfl, rfl, trivial⟩)
set_option maxRecDepth 100000 in
set_option maxHeartbeats 4000000 in
theorem sX12_bounded_12 {N : Nat} {X : XT} (G : GX X cX12_bounded RX12) (hn : xnL X = 3) (hC : CRs X tX12_bounded (oF []) (oF []) (oF [])) {r : Int64 × Wd} (hr : RTL X cX12_bounded r) (a1 : Int64) : ∀ (w : Wd), fX12_bounded_12 N a1 w = some r → WW X (pcAt tX12_bounded 12) [some (.inr (.inr (16, 0))), some (.inr (.inl a1)), none] [.inr (.inr (16, 0))] w := by
  intro w h
  refine run_sound (r := r) (X := X) (cc := cX12_bounded) (own := RX12) (tab := tX12_bounded) G (by rw [hn]; exact kX12_bounded) (oI := (oF [])) (oL := (oF [])) (oV := (oF [])) (rI := (fun _ _ => none)) (rL := (fun x w => some (x, w))) (rV := (fun _ => none))
    (K := (fun j ls st w => if j = 15 then (po1 st fun s0 st => pr1 st fun kk qq st => if kk = 16 ∧ qq = 0 then st0 st (callW (fX12_bounded_15 N a1 s0) w) else none) else none)) (fun _ _ _ _ hx => by cases hx) (fun x w pc ls hx hd => hr x w pc ls (Option.some.inj hx) hd) (fun _ _ _ hx => by cases hx) hC (fun ls => lsb [some (.inr (.inr (16, 0))), some (.inr (.inl a1)), none] 0 ls) (keepsP_of rfl) ?_ 25 12 [some (.inr (.inr (16, 0))), some (.inr (.inl a1)), none] [.inr (.inr (16, 0))] w ?_ h
  · intro j ls st w hfx h
    obtain ⟨e0, e1, -⟩ : _ = _ ∧ _ = _ ∧ True := hfx
    try dsimp only at h
    by_cases hj : j = 15
    · subst hj
      rw [if_pos rfl] at h
      obtain ⟨s0, st0, rfl, h_1⟩ := po1_some h
      obtain ⟨kkk1, s1, st1, rfl, h_2⟩ := pr1_some h_1
      obtain ⟨⟨rfl, rfl⟩, h_3⟩ := if_some _ h_2
      obtain ⟨rfl, h_4⟩ := st0_some h_3
      clear h h_1 h_2 h_3
      have h := h_4
      try rw [callW_eq] at h
      exact WW.le (a := [some (.inr (.inr (16, 0))), some (.inr (.inl a1)), none]) (by rw [hn]; rfl) (show _ = _ ∧ _ = _ ∧ True from ⟨e0, e1, trivial⟩) (sX12_bounded_15 G hn hC hr a1 s0 w h)
    rw [if_neg hj] at h
    cases h
  · exact (show _ = _ ∧ _ = _ ∧ True from ⟨rfl, rfl, trivial⟩)
set_option maxRecDepth 100000 in
set_option maxHeartbeats 4000000 in
theorem crX12_bounded {N : Nat} {X : XT} (G : GX X cX12_bounded RX12) (hR : xR X = rmL 1) : CRs X tX12_bounded (oF []) (oF []) (oF []) := by
  have hl : tX12_bounded.filter isInv = [] := rfl
  intro e he
  rw [hl] at he
  cases he
set_option maxRecDepth 100000 in
set_option maxHeartbeats 4000000 in
theorem MX12_bounded (N : Nat) : SndL yX12_bounded cX12_bounded 3 (some .long) 1 2 true (mX12_bounded N) := by
  refine SndL.of tX12_bounded (by decide +kernel) rfl rfl ?_ ?_
  · intro as w x h
    obtain ⟨t1, rfl, h_1⟩ := xS1_some h
    obtain ⟨a1, t2, rfl, h_2⟩ := xL1_some h_1
    obtain ⟨rfl, h_3⟩ := xN1_some h_2
    clear h h_1 h_2
    have h := h_3
    rw [callW_eq] at h
    exact ⟨fun _ => ⟨_, _, _, rfl, rfl, _, rfl, rfl⟩, rfl, Nat.le_of_ble_eq_true rfl⟩
  · intro X G hn hR as w r h hr
    have hC := crX12_bounded (N := N) G hR
    obtain ⟨t1, rfl, h_1⟩ := xS1_some h
    obtain ⟨a1, t2, rfl, h_2⟩ := xL1_some h_1
    obtain ⟨rfl, h_3⟩ := xN1_some h_2
    clear h h_1 h_2
    have h := h_3
    rw [callW_eq] at h
    refine run_sound (r := r) (X := X) (cc := cX12_bounded) (own := RX12) (tab := tX12_bounded) G (by rw [hn]; exact kX12_bounded) (oI := (oF [])) (oL := (oF [])) (oV := (oF [])) (rI := (fun _ _ => none)) (rL := (fun x w => some (x, w))) (rV := (fun _ => none))
      (K := (fun j ls st w => if j = 12 then (pr1 st fun kk qq st => if kk = 16 ∧ qq = 0 then st0 st (callW (fX12_bounded_12 N a1) w) else none) else if j = 15 then (po1 st fun s0 st => pr1 st fun kk qq st => if kk = 16 ∧ qq = 0 then st0 st (callW (fX12_bounded_15 N a1 s0) w) else none) else none)) (fun _ _ _ _ hx => by cases hx) (fun x w pc ls hx hd => hr x w pc ls (Option.some.inj hx) hd) (fun _ _ _ hx => by cases hx) hC (fun ls => lsb [some (.inr (.inr (16, 0))), some (.inr (.inl a1)), none] 0 ls) (keepsP_of rfl) ?_ 25 0 [some (.inr (.inr (16, 0))), some (.inr (.inl a1)), none] [] w ?_ h
    · intro j ls st w hfx h
      obtain ⟨e0, e1, -⟩ : _ = _ ∧ _ = _ ∧ True := hfx
      try dsimp only at h
      by_cases hj : j = 12
      · subst hj
        rw [if_pos rfl] at h
        obtain ⟨kkk0, s0, st0, rfl, h_1⟩ := pr1_some h
        obtain ⟨⟨rfl, rfl⟩, h_2⟩ := if_some _ h_1
        obtain ⟨rfl, h_3⟩ := st0_some h_2
        clear h h_1 h_2
        have h := h_3
        try rw [callW_eq] at h
        exact WW.le (a := [some (.inr (.inr (16, 0))), some (.inr (.inl a1)), none]) (by rw [hn]; rfl) (show _ = _ ∧ _ = _ ∧ True from ⟨e0, e1, trivial⟩) (sX12_bounded_12 G hn hC hr a1 w h)
      rw [if_neg hj] at h
      by_cases hj : j = 15
      · subst hj
        rw [if_pos rfl] at h
        obtain ⟨s0, st0, rfl, h_1⟩ := po1_some h
        obtain ⟨kkk1, s1, st1, rfl, h_2⟩ := pr1_some h_1
        obtain ⟨⟨rfl, rfl⟩, h_3⟩ := if_some _ h_2
        obtain ⟨rfl, h_4⟩ := st0_some h_3
        clear h h_1 h_2 h_3
        have h := h_4
        try rw [callW_eq] at h
        exact WW.le (a := [some (.inr (.inr (16, 0))), some (.inr (.inl a1)), none]) (by rw [hn]; rfl) (show _ = _ ∧ _ = _ ∧ True from ⟨e0, e1, trivial⟩) (sX12_bounded_15 G hn hC hr a1 s0 w h)
      rw [if_neg hj] at h
      cases h
    · exact (show _ = _ ∧ _ = _ ∧ True from ⟨rfl, rfl, trivial⟩)
-- MoorGuidesModel.compares(IJJ)Z
def tX12_compares : List EN := [
  (0, .iload_n 0, 0, 0, 0, 0, 0, []), (1, .tableswitch 95 5 9 #[35, 47, 59, 71, 83], 0, 42, 35, 0, 0, [(5, 2), (6, 10), (7, 18), (8, 26), (9, 34)]), (36, .lload_n 1, 0, 0, 0, 0, 0, []), (37, .lload_n 3, 0, 0, 0, 0, 0, []),
  (38, .lcmp, 0, 0, 0, 0, 0, []), (39, .ifCond .ge 7, 0, 8, 0, 0, 0, []), (42, .iconst 1, 0, 0, 0, 1, 0, []), (43, .goto 4, 0, 9, 0, 0, 0, []),
  (46, .iconst 0, 0, 0, 0, 0, 0, []), (47, .ireturn, 0, 0, 0, 0, 0, []), (48, .lload_n 1, 0, 0, 0, 0, 0, []), (49, .lload_n 3, 0, 0, 0, 0, 0, []),
  (50, .lcmp, 0, 0, 0, 0, 0, []), (51, .ifCond .gt 7, 0, 16, 0, 0, 0, []), (54, .iconst 1, 0, 0, 0, 1, 0, []), (55, .goto 4, 0, 17, 0, 0, 0, []),
  (58, .iconst 0, 0, 0, 0, 0, 0, []), (59, .ireturn, 0, 0, 0, 0, 0, []), (60, .lload_n 1, 0, 0, 0, 0, 0, []), (61, .lload_n 3, 0, 0, 0, 0, 0, []),
  (62, .lcmp, 0, 0, 0, 0, 0, []), (63, .ifCond .ne 7, 0, 24, 0, 0, 0, []), (66, .iconst 1, 0, 0, 0, 1, 0, []), (67, .goto 4, 0, 25, 0, 0, 0, []),
  (70, .iconst 0, 0, 0, 0, 0, 0, []), (71, .ireturn, 0, 0, 0, 0, 0, []), (72, .lload_n 1, 0, 0, 0, 0, 0, []), (73, .lload_n 3, 0, 0, 0, 0, 0, []),
  (74, .lcmp, 0, 0, 0, 0, 0, []), (75, .ifCond .eq 7, 0, 32, 0, 0, 0, []), (78, .iconst 1, 0, 0, 0, 1, 0, []), (79, .goto 4, 0, 33, 0, 0, 0, []),
  (82, .iconst 0, 0, 0, 0, 0, 0, []), (83, .ireturn, 0, 0, 0, 0, 0, []), (84, .lload_n 1, 0, 0, 0, 0, 0, []), (85, .lload_n 3, 0, 0, 0, 0, 0, []),
  (86, .lcmp, 0, 0, 0, 0, 0, []), (87, .ifCond .lt 7, 0, 40, 0, 0, 0, []), (90, .iconst 1, 0, 0, 0, 1, 0, []), (91, .goto 4, 0, 41, 0, 0, 0, []),
  (94, .iconst 0, 0, 0, 0, 0, 0, []), (95, .ireturn, 0, 0, 0, 0, 0, []), (96, .lload_n 1, 0, 0, 0, 0, 0, []), (97, .lload_n 3, 0, 0, 0, 0, 0, []),
  (98, .lcmp, 0, 0, 0, 0, 0, []), (99, .ifCond .le 7, 0, 48, 0, 0, 0, []), (102, .iconst 1, 0, 0, 0, 1, 0, []), (103, .goto 4, 0, 49, 0, 0, 0, []),
  (106, .iconst 0, 0, 0, 0, 0, 0, []), (107, .ireturn, 0, 0, 0, 0, 0, [])]
noncomputable def pX12_compares (N : Nat) (a0 : Int32) (a1 : Int64) (a3 : Int64) (w : Wd) : Option (Int32 × Wd) :=
  if a0 = (5 : Int32) then
    if (lg_cmp a1 a3) < 0 then some ((1 : Int32), w) else
    some ((0 : Int32), w)
  else
  if a0 = (6 : Int32) then
    if 0 < (lg_cmp a1 a3) then some ((0 : Int32), w) else
    some ((1 : Int32), w)
  else
  if a0 = (7 : Int32) then
    if (lg_cmp a1 a3) = 0 then some ((1 : Int32), w) else
    some ((0 : Int32), w)
  else
  if a0 = (8 : Int32) then
    if (lg_cmp a1 a3) = 0 then some ((0 : Int32), w) else
    some ((1 : Int32), w)
  else
  if a0 = (9 : Int32) then
    if (lg_cmp a1 a3) < 0 then some ((0 : Int32), w) else
    some ((1 : Int32), w)
  else
  if 0 < (lg_cmp a1 a3) then some ((1 : Int32), w) else
  some ((0 : Int32), w)
noncomputable def mX12_compares (N : Nat) (as : List AV) (w : Wd) : Option (Int32 × Wd) := xI1 as fun a0 t => xL1 t fun a1 t => xL1 t fun a3 t => xN1 t (callW (pX12_compares N a0 a1 a3) w)
set_option maxRecDepth 100000 in
set_option maxHeartbeats 4000000 in
theorem kX12_compares : TK cX12_compares RX12 5 tX12_compares := ⟨by decide +kernel, wok_of [] (by decide +kernel) (by decide +kernel)⟩
set_option maxRecDepth 100000 in
set_option maxHeartbeats 4000000 in
theorem crX12_compares {N : Nat} {X : XT} (G : GX X cX12_compares RX12) (hR : xR X = rmL 1) : CRs X tX12_compares (oF []) (oF []) (oF []) := by
  have hl : tX12_compares.filter isInv = [] := rfl
  intro e he
  rw [hl] at he
  cases he
set_option maxRecDepth 100000 in
set_option maxHeartbeats 4000000 in
theorem MX12_compares (N : Nat) : SndI yX12_compares cX12_compares 5 (some .boolean) 1 3 false (mX12_compares N) := by
  refine SndI.ofZ tX12_compares (by decide +kernel) rfl rfl ?_ ?_
  · intro as w x h
    obtain ⟨a0, t1, rfl, h_1⟩ := xI1_some h
    obtain ⟨a1, t2, rfl, h_2⟩ := xL1_some h_1
    obtain ⟨a3, t3, rfl, h_3⟩ := xL1_some h_2
    obtain ⟨rfl, h_4⟩ := xN1_some h_3
    clear h h_1 h_2 h_3
    have h := h_4
    rw [callW_eq] at h
    exact ⟨(fun z => by cases z), rfl, Nat.le_of_ble_eq_true rfl⟩
  · intro X G hn hR as w r h hr
    have hC := crX12_compares (N := N) G hR
    obtain ⟨a0, t1, rfl, h_1⟩ := xI1_some h
    obtain ⟨a1, t2, rfl, h_2⟩ := xL1_some h_1
    obtain ⟨a3, t3, rfl, h_3⟩ := xL1_some h_2
    obtain ⟨rfl, h_4⟩ := xN1_some h_3
    clear h h_1 h_2 h_3
    have h := h_4
    rw [callW_eq] at h
    refine run_sound (r := r) (X := X) (cc := cX12_compares) (own := RX12) (tab := tX12_compares) G (by rw [hn]; exact kX12_compares) (oI := (oF [])) (oL := (oF [])) (oV := (oF [])) (rI := retZ) (rL := (fun _ _ => none)) (rV := (fun _ => none))
      (K := (fun j ls st w => none)) hr (fun _ _ _ _ hx => by cases hx) (fun _ _ _ hx => by cases hx) hC (fun ls => lsb [some (.inl a0), some (.inr (.inl a1)), none, some (.inr (.inl a3)), none] 0 ls) (keepsP_of rfl) ?_ 52 0 [some (.inl a0), some (.inr (.inl a1)), none, some (.inr (.inl a3)), none] [] w ?_ h
    · intro j ls st w hfx h
      obtain ⟨e0, e1, e3, -⟩ : _ = _ ∧ _ = _ ∧ _ = _ ∧ True := hfx
      try dsimp only at h
      cases h
    · exact (show _ = _ ∧ _ = _ ∧ _ = _ ∧ True from ⟨rfl, rfl, rfl, trivial⟩)
-- MoorGuidesModel.times(JJ)J
def tX12_times : List EN := [
  (0, .lload_n 1, 0, 0, 0, 0, 0, []), (1, .lconst 0, 0, 0, 0, 0, 0, []), (2, .lcmp, 0, 0, 0, 0, 0, []), (3, .ifCond .eq 45, 0, 30, 0, 0, 0, []),
  (6, .lload_n 3, 0, 0, 0, 0, 0, []), (7, .lconst 0, 0, 0, 0, 0, 0, []), (8, .lcmp, 0, 0, 0, 0, 0, []), (9, .ifCond .eq 39, 0, 30, 0, 0, 0, []),
  (12, .lload_n 3, 0, 0, 0, 0, 0, []), (13, .lconst 0, 0, 0, 0, 0, 0, []), (14, .lcmp, 0, 0, 0, 0, 0, []), (15, .ifCond .ge 8, 0, 15, 0, 0, 0, []),
  (18, .lload_n 3, 0, 0, 0, 0, 0, []), (19, .lneg, 0, 0, 0, 0, 0, []), (20, .goto 4, 0, 16, 0, 0, 0, []), (23, .lload_n 3, 0, 0, 0, 0, 0, []),
  (24, .ldc2_w 423, 17, 0, 0, 0, 1000000000000, []), (27, .lload_n 1, 0, 0, 0, 0, 0, []), (28, .lconst 0, 0, 0, 0, 0, 0, []), (29, .lcmp, 0, 0, 0, 0, 0, []),
  (30, .ifCond .ge 8, 0, 24, 0, 0, 0, []), (33, .lload_n 1, 0, 0, 0, 0, 0, []), (34, .lneg, 0, 0, 0, 0, 0, []), (35, .goto 4, 0, 25, 0, 0, 0, []),
  (38, .lload_n 1, 0, 0, 0, 0, 0, []), (39, .ldiv, 26, 0, 0, 0, 0, []), (40, .lcmp, 0, 0, 0, 0, 0, []), (41, .ifCond .le 7, 0, 30, 0, 0, 0, []),
  (44, .iconst 1, 0, 0, 0, 1, 0, []), (45, .goto 4, 0, 31, 0, 0, 0, []), (48, .iconst 0, 31, 0, 0, 0, 0, []), (49, .istore 5, 32, 0, 0, 0, 0, []),
  (51, .aload_n 0, 0, 0, 0, 0, 0, []), (52, .aload_n 0, 0, 0, 0, 0, 0, []), (53, .getfield 420, 0, 12, 63, 0, 0, []), (56, .ifCond .ne 8, 0, 38, 0, 0, 0, []),
  (59, .iload 5, 0, 0, 0, 0, 0, []), (61, .ifCond .eq 7, 0, 40, 0, 0, 0, []), (64, .iconst 1, 39, 0, 0, 1, 0, []), (65, .goto 4, 0, 41, 0, 0, 0, []),
  (68, .iconst 0, 0, 0, 0, 0, 0, []), (69, .putfield 420, 42, 12, 63, 0, 0, [(0, 0)]), (72, .aload_n 0, 0, 0, 0, 0, 0, []), (73, .getfield 420, 0, 12, 63, 0, 0, []),
  (76, .ifCond .eq 7, 0, 47, 0, 0, 0, []), (79, .lconst 0, 0, 0, 0, 0, 0, []), (80, .goto 6, 0, 50, 0, 0, 0, []), (83, .lload_n 1, 0, 0, 0, 0, 0, []),
  (84, .lload_n 3, 0, 0, 0, 0, 0, []), (85, .lmul, 0, 0, 0, 0, 0, []), (86, .lreturn, 0, 0, 0, 0, 0, [])]
noncomputable def fX12_times_41 (N : Nat) (a1 : Int64) (a3 : Int64) (s0 : Int32) (w : Wd) : Option (Int64 × Wd) :=
  (fput w 16 0 63 1 (0, 0, 0) (.inl s0)).bind fun w1 =>
  if (gI w1 16 0 63) = 0 then some ((a1 * a3), w1) else
  some ((0 : Int64), w1)
noncomputable def fX12_times_38 (N : Nat) (a1 : Int64) (a3 : Int64) (w : Wd) : Option (Int64 × Wd) :=
  callW (fX12_times_41 N a1 a3 (1 : Int32)) w
noncomputable def fX12_times_31 (N : Nat) (a1 : Int64) (a3 : Int64) (s0 : Int32) (w : Wd) : Option (Int64 × Wd) :=
  if (gI w 16 0 63) = 0 then
    if s0 = 0 then callW (fX12_times_41 N a1 a3 (0 : Int32)) w else
    callW (fX12_times_38 N a1 a3) w
  else
  callW (fX12_times_38 N a1 a3) w
noncomputable def fX12_times_30 (N : Nat) (a1 : Int64) (a3 : Int64) (w : Wd) : Option (Int64 × Wd) :=
  callW (fX12_times_31 N a1 a3 (0 : Int32)) w
noncomputable def fX12_times_25 (N : Nat) (a1 : Int64) (a3 : Int64) (s0 : Int64) (s1 : Int64) (s2 : Int64) (w : Wd) : Option (Int64 × Wd) :=
  if s0 = 0 then none else
  if 0 < (lg_cmp s2 (s1 / s0)) then callW (fX12_times_31 N a1 a3 (1 : Int32)) w else
  callW (fX12_times_30 N a1 a3) w
noncomputable def fX12_times_16 (N : Nat) (a1 : Int64) (a3 : Int64) (s0 : Int64) (w : Wd) : Option (Int64 × Wd) :=
  if (lg_cmp a1 (0 : Int64)) < 0 then callW (fX12_times_25 N a1 a3 (-a1) (1000000000000 : Int64) s0) w else
  callW (fX12_times_25 N a1 a3 a1 (1000000000000 : Int64) s0) w
noncomputable def pX12_times (N : Nat) (a1 : Int64) (a3 : Int64) (w : Wd) : Option (Int64 × Wd) :=
  if (lg_cmp a1 (0 : Int64)) = 0 then callW (fX12_times_30 N a1 a3) w else
  if (lg_cmp a3 (0 : Int64)) = 0 then callW (fX12_times_30 N a1 a3) w else
  if (lg_cmp a3 (0 : Int64)) < 0 then callW (fX12_times_16 N a1 a3 (-a3)) w else
  callW (fX12_times_16 N a1 a3 a3) w
noncomputable def mX12_times (N : Nat) (as : List AV) (w : Wd) : Option (Int64 × Wd) := xS1 16 as fun t => xL1 t fun a1 t => xL1 t fun a3 t => xN1 t (callW (pX12_times N a1 a3) w)
set_option maxRecDepth 100000 in
set_option maxHeartbeats 4000000 in
theorem kX12_times : TK cX12_times RX12 6 tX12_times := ⟨by decide +kernel, wok_of [2146, 1663, 1663, 1663] (by decide +kernel) (by decide +kernel)⟩
set_option maxRecDepth 100000 in
set_option maxHeartbeats 4000000 in
theorem sX12_times_41 {N : Nat} {X : XT} (G : GX X cX12_times RX12) (hn : xnL X = 6) (hC : CRs X tX12_times (oF []) (oF []) (oF [])) {r : Int64 × Wd} (hr : RTL X cX12_times r) (a1 : Int64) (a3 : Int64) : ∀ (s0 : Int32) (w : Wd), fX12_times_41 N a1 a3 s0 w = some r → WW X (pcAt tX12_times 41) [some (.inr (.inr (16, 0))), some (.inr (.inl a1)), none, some (.inr (.inl a3)), none, none] [.inl s0, .inr (.inr (16, 0))] w := by
  intro s0 w h
  refine run_sound (r := r) (X := X) (cc := cX12_times) (own := RX12) (tab := tX12_times) G (by rw [hn]; exact kX12_times) (oI := (oF [])) (oL := (oF [])) (oV := (oF [])) (rI := (fun _ _ => none)) (rL := (fun x w => some (x, w))) (rV := (fun _ => none))
    (K := (fun j ls st w => none)) (fun _ _ _ _ hx => by cases hx) (fun x w pc ls hx hd => hr x w pc ls (Option.some.inj hx) hd) (fun _ _ _ hx => by cases hx) hC (fun ls => lsb [some (.inr (.inr (16, 0))), some (.inr (.inl a1)), none, some (.inr (.inl a3)), none, none] 0 ls) (keepsP_of rfl) ?_ 53 41 [some (.inr (.inr (16, 0))), some (.inr (.inl a1)), none, some (.inr (.inl a3)), none, none] [.inl s0, .inr (.inr (16, 0))] w ?_ h
  · intro j ls st w hfx h
    obtain ⟨e0, e1, e3, -⟩ : _ = _ ∧ _ = _ ∧ _ = _ ∧ True := hfx
    try dsimp only at h
    cases h
  · exact (show _ = _ ∧ _ = _ ∧ _ = _ ∧ True from ⟨rfl, rfl, rfl, trivial⟩)
set_option maxRecDepth 100000 in
set_option maxHeartbeats 4000000 in
theorem sX12_times_38 {N : Nat} {X : XT} (G : GX X cX12_times RX12) (hn : xnL X = 6) (hC : CRs X tX12_times (oF []) (oF []) (oF [])) {r : Int64 × Wd} (hr : RTL X cX12_times r) (a1 : Int64) (a3 : Int64) : ∀ (w : Wd), fX12_times_38 N a1 a3 w = some r → WW X (pcAt tX12_times 38) [some (.inr (.inr (16, 0))), some (.inr (.inl a1)), none, some (.inr (.inl a3)), none, none] [.inr (.inr (16, 0))] w := by
  intro w h
  refine run_sound (r := r) (X := X) (cc := cX12_times) (own := RX12) (tab := tX12_times) G (by rw [hn]; exact kX12_times) (oI := (oF [])) (oL := (oF [])) (oV := (oF [])) (rI := (fun _ _ => none)) (rL := (fun x w => some (x, w))) (rV := (fun _ => none))
    (K := (fun j ls st w => if j = 41 then (po1 st fun s0 st => pr1 st fun kk qq st => if kk = 16 ∧ qq = 0 then st0 st (callW (fX12_times_41 N a1 a3 s0) w) else none) else none)) (fun _ _ _ _ hx => by cases hx) (fun x w pc ls hx hd => hr x w pc ls (Option.some.inj hx) hd) (fun _ _ _ hx => by cases hx) hC (fun ls => lsb [some (.inr (.inr (16, 0))), some (.inr (.inl a1)), none, some (.inr (.inl a3)), none, none] 0 ls) (keepsP_of rfl) ?_ 53 38 [some (.inr (.inr (16, 0))), some (.inr (.inl a1)), none, some (.inr (.inl a3)), none, none] [.inr (.inr (16, 0))] w ?_ h
  · intro j ls st w hfx h
    obtain ⟨e0, e1, e3, -⟩ : _ = _ ∧ _ = _ ∧ _ = _ ∧ True := hfx
    try dsimp only at h
    by_cases hj : j = 41
    · subst hj
      rw [if_pos rfl] at h
      obtain ⟨s0, st0, rfl, h_1⟩ := po1_some h
      obtain ⟨kkk1, s1, st1, rfl, h_2⟩ := pr1_some h_1
      obtain ⟨⟨rfl, rfl⟩, h_3⟩ := if_some _ h_2
      obtain ⟨rfl, h_4⟩ := st0_some h_3
      clear h h_1 h_2 h_3
      have h := h_4
      try rw [callW_eq] at h
      exact WW.le (a := [some (.inr (.inr (16, 0))), some (.inr (.inl a1)), none, some (.inr (.inl a3)), none, none]) (by rw [hn]; rfl) (show _ = _ ∧ _ = _ ∧ _ = _ ∧ True from ⟨e0, e1, e3, trivial⟩) (sX12_times_41 G hn hC hr a1 a3 s0 w h)
    rw [if_neg hj] at h
    cases h
  · exact (show _ = _ ∧ _ = _ ∧ _ = _ ∧ True from ⟨rfl, rfl, rfl, trivial⟩)
set_option maxRecDepth 100000 in
set_option maxHeartbeats 4000000 in
theorem sX12_times_31 {N : Nat} {X : XT} (G : GX X cX12_times RX12) (hn : xnL X = 6) (hC : CRs X tX12_times (oF []) (oF []) (oF [])) {r : Int64 × Wd} (hr : RTL X cX12_times r) (a1 : Int64) (a3 : Int64) : ∀ (s0 : Int32) (w : Wd), fX12_times_31 N a1 a3 s0 w = some r → WW X (pcAt tX12_times 31) [some (.inr (.inr (16, 0))), some (.inr (.inl a1)), none, some (.inr (.inl a3)), none, none] [.inl s0] w := by
  intro s0 w h
  refine run_sound (r := r) (X := X) (cc := cX12_times) (own := RX12) (tab := tX12_times) G (by rw [hn]; exact kX12_times) (oI := (oF [])) (oL := (oF [])) (oV := (oF [])) (rI := (fun _ _ => none)) (rL := (fun x w => some (x, w))) (rV := (fun _ => none))
    (K := (fun j ls st w => if j = 38 then (pr1 st fun kk qq st => if kk = 16 ∧ qq = 0 then st0 st (callW (fX12_times_38 N a1 a3) w) else none) else if j = 41 then (po1 st fun s0 st => pr1 st fun kk qq st => if kk = 16 ∧ qq = 0 then st0 st (callW (fX12_times_41 N a1 a3 s0) w) else none) else none)) (fun _ _ _ _ hx => by cases hx) (fun x w pc ls hx hd => hr x w pc ls (Option.some.inj hx) hd) (fun _ _ _ hx => by cases hx) hC (fun ls => lsb [some (.inr (.inr (16, 0))), some (.inr (.inl a1)), none, some (.inr (.inl a3)), none, none] 0 ls) (keepsP_of rfl) ?_ 53 31 [some (.inr (.inr (16, 0))), some (.inr (.inl a1)), none, some (.inr (.inl a3)), none, none] [.inl s0] w ?_ h
  · intro j ls st w hfx h
    obtain ⟨e0, e1, e3, -⟩ : _ = _ ∧ _ = _ ∧ _ = _ ∧ True := hfx
    try dsimp only at h
    by_cases hj : j = 38
    · subst hj
      rw [if_pos rfl] at h
      obtain ⟨kkk0, s0, st0, rfl, h_1⟩ := pr1_some h
      obtain ⟨⟨rfl, rfl⟩, h_2⟩ := if_some _ h_1
      obtain ⟨rfl, h_3⟩ := st0_some h_2
      clear h h_1 h_2
      have h := h_3
      try rw [callW_eq] at h
      exact WW.le (a := [some (.inr (.inr (16, 0))), some (.inr (.inl a1)), none, some (.inr (.inl a3)), none, none]) (by rw [hn]; rfl) (show _ = _ ∧ _ = _ ∧ _ = _ ∧ True from ⟨e0, e1, e3, trivial⟩) (sX12_times_38 G hn hC hr a1 a3 w h)
    rw [if_neg hj] at h
    by_cases hj : j = 41
    · subst hj
      rw [if_pos rfl] at h
      obtain ⟨s0, st0, rfl, h_1⟩ := po1_some h
      obtain ⟨kkk1, s1, st1, rfl, h_2⟩ := pr1_some h_1
      obtain ⟨⟨rfl, rfl⟩, h_3⟩ := if_some _ h_2
      obtain ⟨rfl, h_4⟩ := st0_some h_3
      clear h h_1 h_2 h_3
      have h := h_4
      try rw [callW_eq] at h
      exact WW.le (a := [some (.inr (.inr (16, 0))), some (.inr (.inl a1)), none, some (.inr (.inl a3)), none, none]) (by rw [hn]; rfl) (show _ = _ ∧ _ = _ ∧ _ = _ ∧ True from ⟨e0, e1, e3, trivial⟩) (sX12_times_41 G hn hC hr a1 a3 s0 w h)
    rw [if_neg hj] at h
    cases h
  · exact (show _ = _ ∧ _ = _ ∧ _ = _ ∧ True from ⟨rfl, rfl, rfl, trivial⟩)
set_option maxRecDepth 100000 in
set_option maxHeartbeats 4000000 in
theorem sX12_times_30 {N : Nat} {X : XT} (G : GX X cX12_times RX12) (hn : xnL X = 6) (hC : CRs X tX12_times (oF []) (oF []) (oF [])) {r : Int64 × Wd} (hr : RTL X cX12_times r) (a1 : Int64) (a3 : Int64) : ∀ (w : Wd), fX12_times_30 N a1 a3 w = some r → WW X (pcAt tX12_times 30) [some (.inr (.inr (16, 0))), some (.inr (.inl a1)), none, some (.inr (.inl a3)), none, none] [] w := by
  intro w h
  refine run_sound (r := r) (X := X) (cc := cX12_times) (own := RX12) (tab := tX12_times) G (by rw [hn]; exact kX12_times) (oI := (oF [])) (oL := (oF [])) (oV := (oF [])) (rI := (fun _ _ => none)) (rL := (fun x w => some (x, w))) (rV := (fun _ => none))
    (K := (fun j ls st w => if j = 31 then (po1 st fun s0 st => st0 st (callW (fX12_times_31 N a1 a3 s0) w)) else none)) (fun _ _ _ _ hx => by cases hx) (fun x w pc ls hx hd => hr x w pc ls (Option.some.inj hx) hd) (fun _ _ _ hx => by cases hx) hC (fun ls => lsb [some (.inr (.inr (16, 0))), some (.inr (.inl a1)), none, some (.inr (.inl a3)), none, none] 0 ls) (keepsP_of rfl) ?_ 53 30 [some (.inr (.inr (16, 0))), some (.inr (.inl a1)), none, some (.inr (.inl a3)), none, none] [] w ?_ h
  · intro j ls st w hfx h
    obtain ⟨e0, e1, e3, -⟩ : _ = _ ∧ _ = _ ∧ _ = _ ∧ True := hfx
    try dsimp only at h
    by_cases hj : j = 31
    · subst hj
      rw [if_pos rfl] at h
      obtain ⟨s0, st0, rfl, h_1⟩ := po1_some h
      obtain ⟨rfl, h_2⟩ := st0_some h_1
      clear h h_1
      have h := h_2
      try rw [callW_eq] at h
      exact WW.le (a := [some (.inr (.inr (16, 0))), some (.inr (.inl a1)), none, some (.inr (.inl a3)), none, none]) (by rw [hn]; rfl) (show _ = _ ∧ _ = _ ∧ _ = _ ∧ True from ⟨e0, e1, e3, trivial⟩) (sX12_times_31 G hn hC hr a1 a3 s0 w h)
    rw [if_neg hj] at h
    cases h
  · exact (show _ = _ ∧ _ = _ ∧ _ = _ ∧ True from ⟨rfl, rfl, rfl, trivial⟩)
set_option maxRecDepth 100000 in
set_option maxHeartbeats 4000000 in
theorem sX12_times_25 {N : Nat} {X : XT} (G : GX X cX12_times RX12) (hn : xnL X = 6) (hC : CRs X tX12_times (oF []) (oF []) (oF [])) {r : Int64 × Wd} (hr : RTL X cX12_times r) (a1 : Int64) (a3 : Int64) : ∀ (s0 : Int64) (s1 : Int64) (s2 : Int64) (w : Wd), fX12_times_25 N a1 a3 s0 s1 s2 w = some r → WW X (pcAt tX12_times 25) [some (.inr (.inr (16, 0))), some (.inr (.inl a1)), none, some (.inr (.inl a3)), none, none] [.inr (.inl s0), .inr (.inl s1), .inr (.inl s2)] w := by
  intro s0 s1 s2 w h
  refine run_sound (r := r) (X := X) (cc := cX12_times) (own := RX12) (tab := tX12_times) G (by rw [hn]; exact kX12_times) (oI := (oF [])) (oL := (oF [])) (oV := (oF [])) (rI := (fun _ _ => none)) (rL := (fun x w => some (x, w))) (rV := (fun _ => none))
    (K := (fun j ls st w => if j = 30 then (st0 st (callW (fX12_times_30 N a1 a3) w)) else if j = 31 then (po1 st fun s0 st => st0 st (callW (fX12_times_31 N a1 a3 s0) w)) else none)) (fun _ _ _ _ hx => by cases hx) (fun x w pc ls hx hd => hr x w pc ls (Option.some.inj hx) hd) (fun _ _ _ hx => by cases hx) hC (fun ls => lsb [some (.inr (.inr (16, 0))), some (.inr (.inl a1)), none, some (.inr (.inl a3)), none, none] 0 ls) (keepsP_of rfl) ?_ 53 25 [some (.inr (.inr (16, 0))), some (.inr (.inl a1)), none, some (.inr (.inl a3)), none, none] [.inr (.inl s0), .inr (.inl s1), .inr (.inl s2)] w ?_ h
  · intro j ls st w hfx h
    obtain ⟨e0, e1, e3, -⟩ : _ = _ ∧ _ = _ ∧ _ = _ ∧ True := hfx
    try dsimp only at h
    by_cases hj : j = 30
    · subst hj
      rw [if_pos rfl] at h
      obtain ⟨rfl, h_1⟩ := st0_some h
      clear h
      have h := h_1
      try rw [callW_eq] at h
      exact WW.le (a := [some (.inr (.inr (16, 0))), some (.inr (.inl a1)), none, some (.inr (.inl a3)), none, none]) (by rw [hn]; rfl) (show _ = _ ∧ _ = _ ∧ _ = _ ∧ True from ⟨e0, e1, e3, trivial⟩) (sX12_times_30 G hn hC hr a1 a3 w h)
    rw [if_neg hj] at h
    by_cases hj : j = 31
    · subst hj
      rw [if_pos rfl] at h
      obtain ⟨s0, st0, rfl, h_1⟩ := po1_some h
      obtain ⟨rfl, h_2⟩ := st0_some h_1
      clear h h_1
      have h := h_2
      try rw [callW_eq] at h
      exact WW.le (a := [some (.inr (.inr (16, 0))), some (.inr (.inl a1)), none, some (.inr (.inl a3)), none, none]) (by rw [hn]; rfl) (show _ = _ ∧ _ = _ ∧ _ = _ ∧ True from ⟨e0, e1, e3, trivial⟩) (sX12_times_31 G hn hC hr a1 a3 s0 w h)
    rw [if_neg hj] at h
    cases h
  · exact (show _ = _ ∧ _ = _ ∧ _ = _ ∧ True from ⟨rfl, rfl, rfl, trivial⟩)
set_option maxRecDepth 100000 in
set_option maxHeartbeats 4000000 in
theorem sX12_times_16 {N : Nat} {X : XT} (G : GX X cX12_times RX12) (hn : xnL X = 6) (hC : CRs X tX12_times (oF []) (oF []) (oF [])) {r : Int64 × Wd} (hr : RTL X cX12_times r) (a1 : Int64) (a3 : Int64) : ∀ (s0 : Int64) (w : Wd), fX12_times_16 N a1 a3 s0 w = some r → WW X (pcAt tX12_times 16) [some (.inr (.inr (16, 0))), some (.inr (.inl a1)), none, some (.inr (.inl a3)), none, none] [.inr (.inl s0)] w := by
  intro s0 w h
  refine run_sound (r := r) (X := X) (cc := cX12_times) (own := RX12) (tab := tX12_times) G (by rw [hn]; exact kX12_times) (oI := (oF [])) (oL := (oF [])) (oV := (oF [])) (rI := (fun _ _ => none)) (rL := (fun x w => some (x, w))) (rV := (fun _ => none))
    (K := (fun j ls st w => if j = 25 then (pl1 st fun s0 st => pl1 st fun s1 st => pl1 st fun s2 st => st0 st (callW (fX12_times_25 N a1 a3 s0 s1 s2) w)) else none)) (fun _ _ _ _ hx => by cases hx) (fun x w pc ls hx hd => hr x w pc ls (Option.some.inj hx) hd) (fun _ _ _ hx => by cases hx) hC (fun ls => lsb [some (.inr (.inr (16, 0))), some (.inr (.inl a1)), none, some (.inr (.inl a3)), none, none] 0 ls) (keepsP_of rfl) ?_ 53 16 [some (.inr (.inr (16, 0))), some (.inr (.inl a1)), none, some (.inr (.inl a3)), none, none] [.inr (.inl s0)] w ?_ h
  · intro j ls st w hfx h
    obtain ⟨e0, e1, e3, -⟩ : _ = _ ∧ _ = _ ∧ _ = _ ∧ True := hfx
    try dsimp only at h
    by_cases hj : j = 25
    · subst hj
      rw [if_pos rfl] at h
      obtain ⟨s0, st0, rfl, h_1⟩ := pl1_some h
      obtain ⟨s1, st1, rfl, h_2⟩ := pl1_some h_1
      obtain ⟨s2, st2, rfl, h_3⟩ := pl1_some h_2
      obtain ⟨rfl, h_4⟩ := st0_some h_3
      clear h h_1 h_2 h_3
      have h := h_4
      try rw [callW_eq] at h
      exact WW.le (a := [some (.inr (.inr (16, 0))), some (.inr (.inl a1)), none, some (.inr (.inl a3)), none, none]) (by rw [hn]; rfl) (show _ = _ ∧ _ = _ ∧ _ = _ ∧ True from ⟨e0, e1, e3, trivial⟩) (sX12_times_25 G hn hC hr a1 a3 s0 s1 s2 w h)
    rw [if_neg hj] at h
    cases h
  · exact (show _ = _ ∧ _ = _ ∧ _ = _ ∧ True from ⟨rfl, rfl, rfl, trivial⟩)
set_option maxRecDepth 100000 in
set_option maxHeartbeats 4000000 in
theorem crX12_times {N : Nat} {X : XT} (G : GX X cX12_times RX12) (hR : xR X = rmL 1) : CRs X tX12_times (oF []) (oF []) (oF []) := by
  have hl : tX12_times.filter isInv = [] := rfl
  intro e he
  rw [hl] at he
  cases he
set_option maxRecDepth 100000 in
set_option maxHeartbeats 4000000 in
theorem MX12_times (N : Nat) : SndL yX12_times cX12_times 6 (some .long) 1 3 true (mX12_times N) := by
  refine SndL.of tX12_times (by decide +kernel) rfl rfl ?_ ?_
  · intro as w x h
    obtain ⟨t1, rfl, h_1⟩ := xS1_some h
    obtain ⟨a1, t2, rfl, h_2⟩ := xL1_some h_1
    obtain ⟨a3, t3, rfl, h_3⟩ := xL1_some h_2
    obtain ⟨rfl, h_4⟩ := xN1_some h_3
    clear h h_1 h_2 h_3
    have h := h_4
    rw [callW_eq] at h
    exact ⟨fun _ => ⟨_, _, _, rfl, rfl, _, rfl, rfl⟩, rfl, Nat.le_of_ble_eq_true rfl⟩
  · intro X G hn hR as w r h hr
    have hC := crX12_times (N := N) G hR
    obtain ⟨t1, rfl, h_1⟩ := xS1_some h
    obtain ⟨a1, t2, rfl, h_2⟩ := xL1_some h_1
    obtain ⟨a3, t3, rfl, h_3⟩ := xL1_some h_2
    obtain ⟨rfl, h_4⟩ := xN1_some h_3
    clear h h_1 h_2 h_3
    have h := h_4
    rw [callW_eq] at h
    refine run_sound (r := r) (X := X) (cc := cX12_times) (own := RX12) (tab := tX12_times) G (by rw [hn]; exact kX12_times) (oI := (oF [])) (oL := (oF [])) (oV := (oF [])) (rI := (fun _ _ => none)) (rL := (fun x w => some (x, w))) (rV := (fun _ => none))
      (K := (fun j ls st w => if j = 16 then (pl1 st fun s0 st => st0 st (callW (fX12_times_16 N a1 a3 s0) w)) else if j = 30 then (st0 st (callW (fX12_times_30 N a1 a3) w)) else none)) (fun _ _ _ _ hx => by cases hx) (fun x w pc ls hx hd => hr x w pc ls (Option.some.inj hx) hd) (fun _ _ _ hx => by cases hx) hC (fun ls => lsb [some (.inr (.inr (16, 0))), some (.inr (.inl a1)), none, some (.inr (.inl a3)), none, none] 0 ls) (keepsP_of rfl) ?_ 53 0 [some (.inr (.inr (16, 0))), some (.inr (.inl a1)), none, some (.inr (.inl a3)), none, none] [] w ?_ h
    · intro j ls st w hfx h
      obtain ⟨e0, e1, e3, -⟩ : _ = _ ∧ _ = _ ∧ _ = _ ∧ True := hfx
      try dsimp only at h
      by_cases hj : j = 16
      · subst hj
        rw [if_pos rfl] at h
        obtain ⟨s0, st0, rfl, h_1⟩ := pl1_some h
        obtain ⟨rfl, h_2⟩ := st0_some h_1
        clear h h_1
        have h := h_2
        try rw [callW_eq] at h
        exact WW.le (a := [some (.inr (.inr (16, 0))), some (.inr (.inl a1)), none, some (.inr (.inl a3)), none, none]) (by rw [hn]; rfl) (show _ = _ ∧ _ = _ ∧ _ = _ ∧ True from ⟨e0, e1, e3, trivial⟩) (sX12_times_16 G hn hC hr a1 a3 s0 w h)
      rw [if_neg hj] at h
      by_cases hj : j = 30
      · subst hj
        rw [if_pos rfl] at h
        obtain ⟨rfl, h_1⟩ := st0_some h
        clear h
        have h := h_1
        try rw [callW_eq] at h
        exact WW.le (a := [some (.inr (.inr (16, 0))), some (.inr (.inl a1)), none, some (.inr (.inl a3)), none, none]) (by rw [hn]; rfl) (show _ = _ ∧ _ = _ ∧ _ = _ ∧ True from ⟨e0, e1, e3, trivial⟩) (sX12_times_30 G hn hC hr a1 a3 w h)
      rw [if_neg hj] at h
      cases h
    · exact (show _ = _ ∧ _ = _ ∧ _ = _ ∧ True from ⟨rfl, rfl, rfl, trivial⟩)
-- MoorGuidesModel.valueOf(I)J
def tX12_valueOf : List EN := [
  (0, .aload_n 0, 0, 0, 0, 0, 0, []), (1, .getfield 78, 0, 12, 50, 0, 0, []), (4, .iload_n 1, 0, 0, 0, 0, 0, []), (5, .iaload, 0, 0, 0, 0, 0, []),
  (6, .ifCond .ne 11, 0, 11, 0, 0, 0, []), (9, .aload_n 0, 0, 0, 0, 0, 0, []), (10, .getfield 81, 0, 12, 51, 0, 0, []), (13, .iload_n 1, 0, 0, 0, 0, 0, []),
  (14, .iaload, 0, 0, 0, 0, 0, []), (15, .i2l, 0, 0, 0, 0, 0, []), (16, .lreturn, 0, 0, 0, 0, 0, []), (17, .aload_n 0, 0, 0, 0, 0, 0, []),
  (18, .getfield 78, 0, 12, 50, 0, 0, []), (21, .iload_n 1, 0, 0, 0, 0, 0, []), (22, .iaload, 0, 0, 0, 0, 0, []), (23, .iconst 1, 0, 0, 0, 1, 0, []),
  (24, .if_icmp .ne 15, 0, 25, 0, 0, 0, []), (27, .aload_n 0, 0, 0, 0, 0, 0, []), (28, .getfield 93, 0, 12, 61, 0, 0, []), (31, .aload_n 0, 0, 0, 0, 0, 0, []),
  (32, .getfield 81, 0, 12, 51, 0, 0, []), (35, .iload_n 1, 0, 0, 0, 0, 0, []), (36, .iaload, 0, 0, 0, 0, 0, []), (37, .laload, 0, 0, 0, 0, 0, []),
  (38, .lreturn, 0, 0, 0, 0, 0, []), (39, .aload_n 0, 0, 0, 0, 0, 0, []), (40, .getfield 97, 0, 12, 62, 0, 0, []), (43, .aload_n 0, 0, 0, 0, 0, 0, []),
  (44, .getfield 81, 0, 12, 51, 0, 0, []), (47, .iload_n 1, 0, 0, 0, 0, 0, []), (48, .iaload, 0, 0, 0, 0, 0, []), (49, .laload, 0, 0, 0, 0, 0, []),
  (50, .lstore_n 2, 0, 0, 0, 0, 0, []), (51, .aload_n 0, 0, 0, 0, 0, 0, []), (52, .getfield 78, 0, 12, 50, 0, 0, []), (55, .iload_n 1, 0, 0, 0, 0, 0, []),
  (56, .iaload, 0, 0, 0, 0, 0, []), (57, .iconst 2, 0, 0, 0, 2, 0, []), (58, .if_icmp .ne 15, 0, 47, 0, 0, 0, []), (61, .lload_n 2, 0, 0, 0, 0, 0, []),
  (62, .lconst 0, 0, 0, 0, 0, 0, []), (63, .lcmp, 0, 0, 0, 0, 0, []), (64, .ifCond .ne 7, 0, 45, 0, 0, 0, []), (67, .lconst 1, 0, 0, 0, 0, 1, []),
  (68, .goto 4, 0, 46, 0, 0, 0, []), (71, .lconst 0, 0, 0, 0, 0, 0, []), (72, .lreturn, 0, 0, 0, 0, 0, []), (73, .aload_n 0, 0, 0, 0, 0, 0, []),
  (74, .getfield 97, 0, 12, 62, 0, 0, []), (77, .aload_n 0, 0, 0, 0, 0, 0, []), (78, .getfield 84, 0, 12, 52, 0, 0, []), (81, .iload_n 1, 0, 0, 0, 0, 0, []),
  (82, .iaload, 0, 0, 0, 0, 0, []), (83, .laload, 0, 0, 0, 0, 0, []), (84, .lstore 4, 0, 0, 0, 0, 0, []), (86, .aload_n 0, 0, 0, 0, 0, 0, []),
  (87, .getfield 78, 0, 12, 50, 0, 0, []), (90, .iload_n 1, 0, 0, 0, 0, 0, []), (91, .iaload, 0, 0, 0, 0, 0, []), (92, .tableswitch 167 3 14 #[64, 83, 167, 167, 167, 167, 167, 167, 102, 111, 120, 128], 0, 122, 64, 0, 0, [(3, 60), (4, 72), (5, 122), (6, 122), (7, 122), (8, 122), (9, 122), (10, 122), (11, 84), (12, 90), (13, 96), (14, 101)]),
  (156, .lload_n 2, 0, 0, 0, 0, 0, []), (157, .lconst 0, 0, 0, 0, 0, 0, []), (158, .lcmp, 0, 0, 0, 0, 0, []), (159, .ifCond .eq 14, 0, 70, 0, 0, 0, []),
  (162, .lload 4, 0, 0, 0, 0, 0, []), (164, .lconst 0, 0, 0, 0, 0, 0, []), (165, .lcmp, 0, 0, 0, 0, 0, []), (166, .ifCond .eq 7, 0, 70, 0, 0, 0, []),
  (169, .lconst 1, 0, 0, 0, 0, 1, []), (170, .goto 4, 0, 71, 0, 0, 0, []), (173, .lconst 0, 0, 0, 0, 0, 0, []), (174, .lreturn, 0, 0, 0, 0, 0, []),
  (175, .lload_n 2, 0, 0, 0, 0, 0, []), (176, .lconst 0, 0, 0, 0, 0, 0, []), (177, .lcmp, 0, 0, 0, 0, 0, []), (178, .ifCond .ne 10, 0, 80, 0, 0, 0, []),
  (181, .lload 4, 0, 0, 0, 0, 0, []), (183, .lconst 0, 0, 0, 0, 0, 0, []), (184, .lcmp, 0, 0, 0, 0, 0, []), (185, .ifCond .eq 7, 0, 82, 0, 0, 0, []),
  (188, .lconst 1, 0, 0, 0, 0, 1, []), (189, .goto 4, 0, 83, 0, 0, 0, []), (192, .lconst 0, 0, 0, 0, 0, 0, []), (193, .lreturn, 0, 0, 0, 0, 0, []),
  (194, .aload_n 0, 0, 0, 0, 0, 0, []), (195, .lload_n 2, 0, 0, 0, 0, 0, []), (196, .lload 4, 0, 0, 0, 0, 0, []), (198, .ladd, 0, 0, 0, 0, 0, []),
  (199, .invokevirtual 427, 0, 0, 2, 0, 0, [(0, 0)]), (202, .lreturn, 0, 0, 0, 0, 0, []), (203, .aload_n 0, 0, 0, 0, 0, 0, []), (204, .lload_n 2, 0, 0, 0, 0, 0, []),
  (205, .lload 4, 0, 0, 0, 0, 0, []), (207, .lsub, 0, 0, 0, 0, 0, []), (208, .invokevirtual 427, 0, 0, 2, 0, 0, [(0, 0)]), (211, .lreturn, 0, 0, 0, 0, 0, []),
  (212, .aload_n 0, 0, 0, 0, 0, 0, []), (213, .lload_n 2, 0, 0, 0, 0, 0, []), (214, .lload 4, 0, 0, 0, 0, 0, []), (216, .invokevirtual 431, 0, 1, 3, 0, 0, [(0, 0)]),
  (219, .lreturn, 0, 0, 0, 0, 0, []), (220, .aload_n 0, 0, 0, 0, 0, 0, []), (221, .aload_n 0, 0, 0, 0, 0, 0, []), (222, .getfield 420, 0, 12, 63, 0, 0, []),
  (225, .ifCond .ne 10, 0, 109, 0, 0, 0, []), (228, .lload 4, 0, 0, 0, 0, 0, []), (230, .lconst 0, 0, 0, 0, 0, 0, []), (231, .lcmp, 0, 0, 0, 0, 0, []),
  (232, .ifCond .ne 7, 0, 111, 0, 0, 0, []), (235, .iconst 1, 110, 0, 0, 1, 0, []), (236, .goto 4, 0, 112, 0, 0, 0, []), (239, .iconst 0, 0, 0, 0, 0, 0, []),
  (240, .putfield 420, 113, 12, 63, 0, 0, [(0, 0)]), (243, .aload_n 0, 0, 0, 0, 0, 0, []), (244, .getfield 420, 0, 12, 63, 0, 0, []), (247, .ifCond .eq 7, 0, 118, 0, 0, 0, []),
  (250, .lconst 0, 0, 0, 0, 0, 0, []), (251, .goto 7, 0, 121, 0, 0, 0, []), (254, .lload_n 2, 0, 0, 0, 0, 0, []), (255, .lload 4, 0, 0, 0, 0, 0, []),
  (257, .ldiv, 0, 0, 0, 0, 0, []), (258, .lreturn, 0, 0, 0, 0, 0, []), (259, .aload_n 0, 0, 0, 0, 0, 0, []), (260, .getfield 78, 0, 12, 50, 0, 0, []),
  (263, .iload_n 1, 0, 0, 0, 0, 0, []), (264, .iaload, 0, 0, 0, 0, 0, []), (265, .lload_n 2, 0, 0, 0, 0, 0, []), (266, .lload 4, 0, 0, 0, 0, 0, []),
  (268, .invokestatic 434, 0, 0, 3, 0, 0, []), (271, .ifCond .eq 7, 0, 132, 0, 0, 0, []), (274, .lconst 1, 0, 0, 0, 0, 1, []), (275, .goto 4, 0, 133, 0, 0, 0, []),
  (278, .lconst 0, 0, 0, 0, 0, 0, []), (279, .lreturn, 0, 0, 0, 0, 0, [])]
noncomputable def fX12_valueOf_112 (N : Nat) (v2 : Int64) (v4 : Int64) (s0 : Int32) (w : Wd) : Option (Int64 × Wd) :=
  (fput w 16 0 63 1 (0, 0, 0) (.inl s0)).bind fun w1 =>
  if (gI w1 16 0 63) = 0 then
    if v4 = 0 then none else
    some ((v2 / v4), w1)
  else
  some ((0 : Int64), w1)
noncomputable def fX12_valueOf_109 (N : Nat) (v2 : Int64) (v4 : Int64) (w : Wd) : Option (Int64 × Wd) :=
  callW (fX12_valueOf_112 N v2 v4 (1 : Int32)) w
noncomputable def pX12_valueOf (N : Nat) (a1 : Int32) (w : Wd) : Option (Int64 × Wd) :=
  (ldI w 94 0 a1 128).bind fun x1 =>
  if x1 = 0 then
    (ldI w 95 0 a1 128).bind fun x2 =>
    some (x2.toInt64, w)
  else
  (ldI w 94 0 a1 128).bind fun x3 =>
  if x3 = (1 : Int32) then
    (ldI w 95 0 a1 128).bind fun x4 =>
    (ldL w 99 0 x4 7).bind fun x5 =>
    some (x5, w)
  else
  (ldI w 95 0 a1 128).bind fun x6 =>
  (ldL w 100 0 x6 64).bind fun x7 =>
  (ldI w 94 0 a1 128).bind fun x8 =>
  if x8 = (2 : Int32) then
    if (lg_cmp x7 (0 : Int64)) = 0 then some ((1 : Int64), w) else
    some ((0 : Int64), w)
  else
  (ldI w 96 0 a1 128).bind fun x9 =>
  (ldL w 100 0 x9 64).bind fun x10 =>
  (ldI w 94 0 a1 128).bind fun x11 =>
  if x11 = (3 : Int32) then
    if (lg_cmp x7 (0 : Int64)) = 0 then some ((0 : Int64), w) else
    if (lg_cmp x10 (0 : Int64)) = 0 then some ((0 : Int64), w) else
    some ((1 : Int64), w)
  else
  if x11 = (4 : Int32) then
    if (lg_cmp x7 (0 : Int64)) = 0 then
      if (lg_cmp x10 (0 : Int64)) = 0 then some ((0 : Int64), w) else
      some ((1 : Int64), w)
    else
    some ((1 : Int64), w)
  else
  if x11 = (5 : Int32) then
    (ldI w 94 0 a1 128).bind fun x12 =>
    (callW (pX12_compares N x12 x7 x10) w).bind fun r13 =>
    if r13.1 = 0 then some ((0 : Int64), r13.2) else
    some ((1 : Int64), r13.2)
  else
  if x11 = (6 : Int32) then
    (ldI w 94 0 a1 128).bind fun x14 =>
    (callW (pX12_compares N x14 x7 x10) w).bind fun r15 =>
    if r15.1 = 0 then some ((0 : Int64), r15.2) else
    some ((1 : Int64), r15.2)
  else
  if x11 = (7 : Int32) then
    (ldI w 94 0 a1 128).bind fun x16 =>
    (callW (pX12_compares N x16 x7 x10) w).bind fun r17 =>
    if r17.1 = 0 then some ((0 : Int64), r17.2) else
    some ((1 : Int64), r17.2)
  else
  if x11 = (8 : Int32) then
    (ldI w 94 0 a1 128).bind fun x18 =>
    (callW (pX12_compares N x18 x7 x10) w).bind fun r19 =>
    if r19.1 = 0 then some ((0 : Int64), r19.2) else
    some ((1 : Int64), r19.2)
  else
  if x11 = (9 : Int32) then
    (ldI w 94 0 a1 128).bind fun x20 =>
    (callW (pX12_compares N x20 x7 x10) w).bind fun r21 =>
    if r21.1 = 0 then some ((0 : Int64), r21.2) else
    some ((1 : Int64), r21.2)
  else
  if x11 = (10 : Int32) then
    (ldI w 94 0 a1 128).bind fun x22 =>
    (callW (pX12_compares N x22 x7 x10) w).bind fun r23 =>
    if r23.1 = 0 then some ((0 : Int64), r23.2) else
    some ((1 : Int64), r23.2)
  else
  if x11 = (11 : Int32) then
    (callW (pX12_bounded N (x7 + x10)) w).bind fun r24 =>
    some (r24.1, r24.2)
  else
  if x11 = (12 : Int32) then
    (callW (pX12_bounded N (x7 - x10)) w).bind fun r25 =>
    some (r25.1, r25.2)
  else
  if x11 = (13 : Int32) then
    (callW (pX12_times N x7 x10) w).bind fun r26 =>
    some (r26.1, r26.2)
  else
  if x11 = (14 : Int32) then
    if (gI w 16 0 63) = 0 then
      if (lg_cmp x10 (0 : Int64)) = 0 then callW (fX12_valueOf_109 N x7 x10) w else
      callW (fX12_valueOf_112 N x7 x10 (0 : Int32)) w
    else
    callW (fX12_valueOf_109 N x7 x10) w
  else
  (ldI w 94 0 a1 128).bind fun x27 =>
  (callW (pX12_compares N x27 x7 x10) w).bind fun r28 =>
  if r28.1 = 0 then some ((0 : Int64), r28.2) else
  some ((1 : Int64), r28.2)
noncomputable def mX12_valueOf (N : Nat) (as : List AV) (w : Wd) : Option (Int64 × Wd) := xS1 16 as fun t => xI1 t fun a1 t => xN1 t (callW (pX12_valueOf N a1) w)
set_option maxRecDepth 100000 in
set_option maxHeartbeats 4000000 in
theorem kX12_valueOf : TK cX12_valueOf RX12 6 tX12_valueOf := ⟨by decide +kernel, wok_of [1650, 1651, 1650, 1661, 1651, 1662, 1651, 1650, 1662, 1652, 1650, 1663, 1663, 1663, 1650] (by decide +kernel) (by decide +kernel)⟩
set_option maxRecDepth 100000 in
set_option maxHeartbeats 4000000 in
theorem sX12_valueOf_112 {N : Nat} {X : XT} (G : GX X cX12_valueOf RX12) (hn : xnL X = 6) (hC : CRs X tX12_valueOf (oF [(mX12_compares N)]) (oF [(mX12_bounded N), (mX12_times N)]) (oF [])) {r : Int64 × Wd} (hr : RTL X cX12_valueOf r) (a1 : Int32) : ∀ (v2 : Int64) (v4 : Int64) (s0 : Int32) (w : Wd), fX12_valueOf_112 N v2 v4 s0 w = some r → WW X (pcAt tX12_valueOf 112) [some (.inr (.inr (16, 0))), some (.inl a1), some (.inr (.inl v2)), none, some (.inr (.inl v4)), none] [.inl s0, .inr (.inr (16, 0))] w := by
  intro v2 v4 s0 w h
  refine run_sound (r := r) (X := X) (cc := cX12_valueOf) (own := RX12) (tab := tX12_valueOf) G (by rw [hn]; exact kX12_valueOf) (oI := (oF [(mX12_compares N)])) (oL := (oF [(mX12_bounded N), (mX12_times N)])) (oV := (oF [])) (rI := (fun _ _ => none)) (rL := (fun x w => some (x, w))) (rV := (fun _ => none))
    (K := (fun j ls st w => none)) (fun _ _ _ _ hx => by cases hx) (fun x w pc ls hx hd => hr x w pc ls (Option.some.inj hx) hd) (fun _ _ _ hx => by cases hx) hC (fun ls => lsb [some (.inr (.inr (16, 0))), some (.inl a1), none, none, none, none] 0 ls) (keepsP_of rfl) ?_ 136 112 [some (.inr (.inr (16, 0))), some (.inl a1), some (.inr (.inl v2)), none, some (.inr (.inl v4)), none] [.inl s0, .inr (.inr (16, 0))] w ?_ h
  · intro j ls st w hfx h
    obtain ⟨e0, e1, -⟩ : _ = _ ∧ _ = _ ∧ True := hfx
    try dsimp only at h
    cases h
  · exact (show _ = _ ∧ _ = _ ∧ True from ⟨rfl, rfl, trivial⟩)
set_option maxRecDepth 100000 in
set_option maxHeartbeats 4000000 in
theorem sX12_valueOf_109 {N : Nat} {X : XT} (G : GX X cX12_valueOf RX12) (hn : xnL X = 6) (hC : CRs X tX12_valueOf (oF [(mX12_compares N)]) (oF [(mX12_bounded N), (mX12_times N)]) (oF [])) {r : Int64 × Wd} (hr : RTL X cX12_valueOf r) (a1 : Int32) : ∀ (v2 : Int64) (v4 : Int64) (w : Wd), fX12_valueOf_109 N v2 v4 w = some r → WW X (pcAt tX12_valueOf 109) [some (.inr (.inr (16, 0))), some (.inl a1), some (.inr (.inl v2)), none, some (.inr (.inl v4)), none] [.inr (.inr (16, 0))] w := by
  intro v2 v4 w h
  refine run_sound (r := r) (X := X) (cc := cX12_valueOf) (own := RX12) (tab := tX12_valueOf) G (by rw [hn]; exact kX12_valueOf) (oI := (oF [(mX12_compares N)])) (oL := (oF [(mX12_bounded N), (mX12_times N)])) (oV := (oF [])) (rI := (fun _ _ => none)) (rL := (fun x w => some (x, w))) (rV := (fun _ => none))
    (K := (fun j ls st w => if j = 112 then (lgL ls 2 fun v2 => lgL ls 4 fun v4 => po1 st fun s0 st => pr1 st fun kk qq st => if kk = 16 ∧ qq = 0 then st0 st (callW (fX12_valueOf_112 N v2 v4 s0) w) else none) else none)) (fun _ _ _ _ hx => by cases hx) (fun x w pc ls hx hd => hr x w pc ls (Option.some.inj hx) hd) (fun _ _ _ hx => by cases hx) hC (fun ls => lsb [some (.inr (.inr (16, 0))), some (.inl a1), none, none, none, none] 0 ls) (keepsP_of rfl) ?_ 136 109 [some (.inr (.inr (16, 0))), some (.inl a1), some (.inr (.inl v2)), none, some (.inr (.inl v4)), none] [.inr (.inr (16, 0))] w ?_ h
  · intro j ls st w hfx h
    obtain ⟨e0, e1, -⟩ : _ = _ ∧ _ = _ ∧ True := hfx
    try dsimp only at h
    by_cases hj : j = 112
    · subst hj
      rw [if_pos rfl] at h
      obtain ⟨v2, e2, h_1⟩ := lgL_some h
      obtain ⟨v4, e4, h_2⟩ := lgL_some h_1
      obtain ⟨s0, st0, rfl, h_3⟩ := po1_some h_2
      obtain ⟨kkk1, s1, st1, rfl, h_4⟩ := pr1_some h_3
      obtain ⟨⟨rfl, rfl⟩, h_5⟩ := if_some _ h_4
      obtain ⟨rfl, h_6⟩ := st0_some h_5
      clear h h_1 h_2 h_3 h_4 h_5
      have h := h_6
      try rw [callW_eq] at h
      exact WW.le (a := [some (.inr (.inr (16, 0))), some (.inl a1), some (.inr (.inl v2)), none, some (.inr (.inl v4)), none]) (by rw [hn]; rfl) (show _ = _ ∧ _ = _ ∧ _ = _ ∧ _ = _ ∧ True from ⟨e0, e1, e2, e4, trivial⟩) (sX12_valueOf_112 G hn hC hr a1 v2 v4 s0 w h)
    rw [if_neg hj] at h
    cases h
  · exact (show _ = _ ∧ _ = _ ∧ True from ⟨rfl, rfl, trivial⟩)
set_option maxRecDepth 100000 in
set_option maxHeartbeats 4000000 in
theorem crX12_valueOf {N : Nat} {X : XT} (G : GX X cX12_valueOf RX12) (hR : xR X = rmL 2) : CRs X tX12_valueOf (oF [(mX12_compares N)]) (oF [(mX12_bounded N), (mX12_times N)]) (oF []) := by
  have hl : tX12_valueOf.filter isInv = [(199, .invokevirtual 427, 0, 0, 2, 0, 0, [(0, 0)]), (208, .invokevirtual 427, 0, 0, 2, 0, 0, [(0, 0)]), (216, .invokevirtual 431, 0, 1, 3, 0, 0, [(0, 0)]), (268, .invokestatic 434, 0, 0, 3, 0, 0, [])] := rfl
  intro e he
  rw [hl] at he
  simp only [List.mem_cons, List.not_mem_nil, or_false] at he
  rcases he with rfl | rfl | rfl | rfl
  · exact crL_V (idx := 427) G (by decide +kernel) (MX12_bounded N) (cw_of (ps := [2142, 2144, 116, 164, 2145]) (by decide +kernel) (by decide +kernel)) ⟨by decide +kernel, by decide +kernel, by decide +kernel⟩ (by unfold rmOk; rw [hR]; exact ⟨by decide, by decide⟩)
  · exact crL_V (idx := 427) G (by decide +kernel) (MX12_bounded N) (cw_of (ps := [2142, 2144, 116, 164, 2145]) (by decide +kernel) (by decide +kernel)) ⟨by decide +kernel, by decide +kernel, by decide +kernel⟩ (by unfold rmOk; rw [hR]; exact ⟨by decide, by decide⟩)
  · exact crL_V (idx := 431) G (by decide +kernel) (MX12_times N) (cw_of (ps := [2148, 2150, 117, 164, 2151]) (by decide +kernel) (by decide +kernel)) ⟨by decide +kernel, by decide +kernel, by decide +kernel⟩ (by unfold rmOk; rw [hR]; exact ⟨by decide, by decide⟩)
  · exact crI_S (idx := 434) G (by decide +kernel) (MX12_compares N) (cw_of (ps := [2152, 2153, 164, 2154]) (by decide +kernel) (by decide +kernel)) ⟨by decide +kernel, by decide +kernel, by decide +kernel⟩ (by unfold rmOk; rw [hR]; exact ⟨by decide, by decide⟩)
set_option maxRecDepth 100000 in
set_option maxHeartbeats 4000000 in
theorem MX12_valueOf (N : Nat) : SndL yX12_valueOf cX12_valueOf 6 (some .long) 2 2 true (mX12_valueOf N) := by
  refine SndL.of tX12_valueOf (by decide +kernel) rfl rfl ?_ ?_
  · intro as w x h
    obtain ⟨t1, rfl, h_1⟩ := xS1_some h
    obtain ⟨a1, t2, rfl, h_2⟩ := xI1_some h_1
    obtain ⟨rfl, h_3⟩ := xN1_some h_2
    clear h h_1 h_2
    have h := h_3
    rw [callW_eq] at h
    exact ⟨fun _ => ⟨_, _, _, rfl, rfl, _, rfl, rfl⟩, rfl, Nat.le_of_ble_eq_true rfl⟩
  · intro X G hn hR as w r h hr
    have hC := crX12_valueOf (N := N) G hR
    obtain ⟨t1, rfl, h_1⟩ := xS1_some h
    obtain ⟨a1, t2, rfl, h_2⟩ := xI1_some h_1
    obtain ⟨rfl, h_3⟩ := xN1_some h_2
    clear h h_1 h_2
    have h := h_3
    rw [callW_eq] at h
    refine run_sound (r := r) (X := X) (cc := cX12_valueOf) (own := RX12) (tab := tX12_valueOf) G (by rw [hn]; exact kX12_valueOf) (oI := (oF [(mX12_compares N)])) (oL := (oF [(mX12_bounded N), (mX12_times N)])) (oV := (oF [])) (rI := (fun _ _ => none)) (rL := (fun x w => some (x, w))) (rV := (fun _ => none))
      (K := (fun j ls st w => if j = 109 then (lgL ls 2 fun v2 => lgL ls 4 fun v4 => pr1 st fun kk qq st => if kk = 16 ∧ qq = 0 then st0 st (callW (fX12_valueOf_109 N v2 v4) w) else none) else if j = 112 then (lgL ls 2 fun v2 => lgL ls 4 fun v4 => po1 st fun s0 st => pr1 st fun kk qq st => if kk = 16 ∧ qq = 0 then st0 st (callW (fX12_valueOf_112 N v2 v4 s0) w) else none) else none)) (fun _ _ _ _ hx => by cases hx) (fun x w pc ls hx hd => hr x w pc ls (Option.some.inj hx) hd) (fun _ _ _ hx => by cases hx) hC (fun ls => lsb [some (.inr (.inr (16, 0))), some (.inl a1), none, none, none, none] 0 ls) (keepsP_of rfl) ?_ 136 0 [some (.inr (.inr (16, 0))), some (.inl a1), none, none, none, none] [] w ?_ h
    · intro j ls st w hfx h
      obtain ⟨e0, e1, -⟩ : _ = _ ∧ _ = _ ∧ True := hfx
      try dsimp only at h
      by_cases hj : j = 109
      · subst hj
        rw [if_pos rfl] at h
        obtain ⟨v2, e2, h_1⟩ := lgL_some h
        obtain ⟨v4, e4, h_2⟩ := lgL_some h_1
        obtain ⟨kkk0, s0, st0, rfl, h_3⟩ := pr1_some h_2
        obtain ⟨⟨rfl, rfl⟩, h_4⟩ := if_some _ h_3
        obtain ⟨rfl, h_5⟩ := st0_some h_4
        clear h h_1 h_2 h_3 h_4
        have h := h_5
        try rw [callW_eq] at h
        exact WW.le (a := [some (.inr (.inr (16, 0))), some (.inl a1), some (.inr (.inl v2)), none, some (.inr (.inl v4)), none]) (by rw [hn]; rfl) (show _ = _ ∧ _ = _ ∧ _ = _ ∧ _ = _ ∧ True from ⟨e0, e1, e2, e4, trivial⟩) (sX12_valueOf_109 G hn hC hr a1 v2 v4 w h)
      rw [if_neg hj] at h
      by_cases hj : j = 112
      · subst hj
        rw [if_pos rfl] at h
        obtain ⟨v2, e2, h_1⟩ := lgL_some h
        obtain ⟨v4, e4, h_2⟩ := lgL_some h_1
        obtain ⟨s0, st0, rfl, h_3⟩ := po1_some h_2
        obtain ⟨kkk1, s1, st1, rfl, h_4⟩ := pr1_some h_3
        obtain ⟨⟨rfl, rfl⟩, h_5⟩ := if_some _ h_4
        obtain ⟨rfl, h_6⟩ := st0_some h_5
        clear h h_1 h_2 h_3 h_4 h_5
        have h := h_6
        try rw [callW_eq] at h
        exact WW.le (a := [some (.inr (.inr (16, 0))), some (.inl a1), some (.inr (.inl v2)), none, some (.inr (.inl v4)), none]) (by rw [hn]; rfl) (show _ = _ ∧ _ = _ ∧ _ = _ ∧ _ = _ ∧ True from ⟨e0, e1, e2, e4, trivial⟩) (sX12_valueOf_112 G hn hC hr a1 v2 v4 s0 w h)
      rw [if_neg hj] at h
      cases h
    · exact (show _ = _ ∧ _ = _ ∧ True from ⟨rfl, rfl, trivial⟩)
-- MoorGuidesModel.layTried()V
def tX12_layTried : List EN := [
  (0, .iconst 0, 0, 0, 0, 0, 0, []), (1, .istore_n 1, 0, 0, 0, 0, 0, []), (2, .iload_n 1, 3, 0, 0, 0, 0, []), (3, .bipush 48, 0, 0, 0, 48, 0, []),
  (5, .if_icmp .ge 39, 0, 27, 0, 0, 0, []), (8, .aload_n 0, 0, 0, 0, 0, 0, []), (9, .getfield 100, 0, 12, 66, 0, 0, []), (12, .bipush 48, 0, 0, 0, 48, 0, []),
  (14, .iload_n 1, 0, 0, 0, 0, 0, []), (15, .iadd, 0, 0, 0, 0, 0, []), (16, .aload_n 0, 0, 0, 0, 0, 0, []), (17, .getfield 100, 0, 12, 66, 0, 0, []),
  (20, .iload_n 1, 0, 0, 0, 0, 0, []), (21, .iaload, 0, 0, 0, 0, 0, []), (22, .iastore, 0, 0, 0, 0, 0, []), (23, .aload_n 0, 0, 0, 0, 0, 0, []),
  (24, .getfield 103, 0, 12, 67, 0, 0, []), (27, .bipush 48, 0, 0, 0, 48, 0, []), (29, .iload_n 1, 0, 0, 0, 0, 0, []), (30, .iadd, 0, 0, 0, 0, 0, []),
  (31, .aload_n 0, 0, 0, 0, 0, 0, []), (32, .getfield 103, 0, 12, 67, 0, 0, []), (35, .iload_n 1, 0, 0, 0, 0, 0, []), (36, .baload, 0, 0, 0, 0, 0, []),
  (37, .bastore, 0, 0, 0, 0, 0, []), (38, .iinc 1 1, 0, 0, 0, 1, 0, []), (41, .goto (-39), 0, 2, 0, 0, 0, []), (44, .iconst 0, 28, 0, 0, 0, 0, []),
  (45, .istore_n 1, 0, 0, 0, 0, 0, []), (46, .iload_n 1, 30, 0, 0, 0, 0, []), (47, .bipush 6, 0, 0, 0, 6, 0, []), (49, .if_icmp .ge 49, 0, 61, 0, 0, 0, []),
  (52, .aload_n 0, 0, 0, 0, 0, 0, []), (53, .getfield 106, 0, 12, 68, 0, 0, []), (56, .bipush 6, 0, 0, 0, 6, 0, []), (58, .iload_n 1, 0, 0, 0, 0, 0, []),
  (59, .iadd, 0, 0, 0, 0, 0, []), (60, .aload_n 0, 0, 0, 0, 0, 0, []), (61, .getfield 106, 0, 12, 68, 0, 0, []), (64, .iload_n 1, 0, 0, 0, 0, 0, []),
  (65, .baload, 0, 0, 0, 0, 0, []), (66, .bastore, 0, 0, 0, 0, 0, []), (67, .aload_n 0, 0, 0, 0, 0, 0, []), (68, .getfield 109, 0, 12, 69, 0, 0, []),
  (71, .bipush 6, 0, 0, 0, 6, 0, []), (73, .iload_n 1, 0, 0, 0, 0, 0, []), (74, .iadd, 0, 0, 0, 0, 0, []), (75, .aload_n 0, 0, 0, 0, 0, 0, []),
  (76, .getfield 109, 0, 12, 69, 0, 0, []), (79, .iload_n 1, 0, 0, 0, 0, 0, []), (80, .iaload, 0, 0, 0, 0, 0, []), (81, .iastore, 0, 0, 0, 0, 0, []),
  (82, .aload_n 0, 0, 0, 0, 0, 0, []), (83, .getfield 112, 0, 12, 70, 0, 0, []), (86, .bipush 6, 0, 0, 0, 6, 0, []), (88, .iload_n 1, 0, 0, 0, 0, 0, []),
  (89, .iadd, 0, 0, 0, 0, 0, []), (90, .iconst (-1), 0, 0, 0, (-1), 0, []), (91, .iastore, 0, 0, 0, 0, 0, []), (92, .iinc 1 1, 0, 0, 0, 1, 0, []),
  (95, .goto (-49), 0, 29, 0, 0, 0, []), (98, .return_, 0, 0, 0, 0, 0, [])]
noncomputable def fX12_layTried_29 (N : Nat) : Nat → Int32 → Wd → Option (Wd)
  | 0, _, _ => none
  | n + 1, v1, w =>
    if v1 < (6 : Int32) then
      (ldI w 103 0 v1 12).bind fun x1 =>
      (stI w 103 0 ((6 : Int32) + v1) 12 (x1 &&& 1)).bind fun w2 =>
      (ldI w2 104 0 v1 12).bind fun x3 =>
      (stI w2 104 0 ((6 : Int32) + v1) 12 x3).bind fun w4 =>
      (stI w4 105 0 ((6 : Int32) + v1) 12 (-1 : Int32)).bind fun w5 =>
      callW (fX12_layTried_29 N n (v1 + (1 : Int32))) w5
    else
    some w
noncomputable def fX12_layTried_27 (N : Nat) (w : Wd) : Option (Wd) :=
  callW (fX12_layTried_29 N N (0 : Int32)) w
noncomputable def fX12_layTried_2 (N : Nat) : Nat → (Wd → Option (Wd)) → Int32 → Wd → Option (Wd)
  | 0, _, _, _ => none
  | n + 1, k27, v1, w =>
    if v1 < (48 : Int32) then
      (ldI w 101 0 v1 96).bind fun x1 =>
      (stI w 101 0 ((48 : Int32) + v1) 96 x1).bind fun w2 =>
      (ldI w2 102 0 v1 96).bind fun x3 =>
      (stI w2 102 0 ((48 : Int32) + v1) 96 (x3 &&& 1)).bind fun w4 =>
      callW (fX12_layTried_2 N n k27 (v1 + (1 : Int32))) w4
    else
    k27 w
noncomputable def pX12_layTried (N : Nat) (w : Wd) : Option (Wd) :=
  callW (fX12_layTried_2 N N (fX12_layTried_27 N) (0 : Int32)) w
noncomputable def mX12_layTried (N : Nat) (as : List AV) (w : Wd) : Option (Wd) := xS1 16 as fun t => xN1 t (callW (pX12_layTried N) w)
set_option maxRecDepth 100000 in
set_option maxHeartbeats 4000000 in
theorem kX12_layTried : TK cX12_layTried RX12 2 tX12_layTried := ⟨by decide +kernel, wok_of [1666, 1666, 1667, 1667, 1668, 1668, 1669, 1669, 1670] (by decide +kernel) (by decide +kernel)⟩
set_option maxRecDepth 100000 in
set_option maxHeartbeats 4000000 in
theorem sX12_layTried_29 {N : Nat} {X : XT} (G : GX X cX12_layTried RX12) (hn : xnL X = 2) (hC : CRs X tX12_layTried (oF []) (oF []) (oF [])) {r : Wd} (hr : RTV X cX12_layTried r)  : ∀ (n : Nat) (v1 : Int32) (w : Wd), fX12_layTried_29 N n v1 w = some r → WW X (pcAt tX12_layTried 29) [some (.inr (.inr (16, 0))), some (.inl v1)] [] w := by
  intro n
  induction n with
  | zero => intro v1 w h; cases h
  | succ n ih =>
    intro v1 w h
    refine run_sound (r := r) (X := X) (cc := cX12_layTried) (own := RX12) (tab := tX12_layTried) G (by rw [hn]; exact kX12_layTried) (oI := (oF [])) (oL := (oF [])) (oV := (oF [])) (rI := (fun _ _ => none)) (rL := (fun _ _ => none)) (rV := (fun w => some w))
      (K := (fun j ls st w => if j = 29 then (lgI ls 1 fun v1 => st0 st (callW (fX12_layTried_29 N n v1) w)) else none)) (fun _ _ _ _ hx => by cases hx) (fun _ _ _ _ hx => by cases hx) (fun w pc ls hx hd => hr w pc ls (Option.some.inj hx) hd) hC (fun ls => lsb [some (.inr (.inr (16, 0))), none] 0 ls) (keepsP_of rfl) ?_ 64 29 [some (.inr (.inr (16, 0))), some (.inl v1)] [] w ?_ h
    · intro j ls st w hfx h
      obtain ⟨e0, -⟩ : _ = _ ∧ True := hfx
      try dsimp only at h
      by_cases hj : j = 29
      · subst hj
        rw [if_pos rfl] at h
        obtain ⟨v1, e1, h_1⟩ := lgI_some h
        obtain ⟨rfl, h_2⟩ := st0_some h_1
        clear h h_1
        have h := h_2
        try rw [callW_eq] at h
        exact WW.le (a := [some (.inr (.inr (16, 0))), some (.inl v1)]) (by rw [hn]; rfl) (show _ = _ ∧ _ = _ ∧ True from ⟨e0, e1, trivial⟩) (ih v1 w h)
      rw [if_neg hj] at h
      cases h
    · exact (show _ = _ ∧ True from ⟨rfl, trivial⟩)
set_option maxRecDepth 100000 in
set_option maxHeartbeats 4000000 in
theorem sX12_layTried_27 {N : Nat} {X : XT} (G : GX X cX12_layTried RX12) (hn : xnL X = 2) (hC : CRs X tX12_layTried (oF []) (oF []) (oF [])) {r : Wd} (hr : RTV X cX12_layTried r)  : ∀ (w : Wd), fX12_layTried_27 N w = some r → WW X (pcAt tX12_layTried 27) [some (.inr (.inr (16, 0))), none] [] w := by
  intro w h
  refine run_sound (r := r) (X := X) (cc := cX12_layTried) (own := RX12) (tab := tX12_layTried) G (by rw [hn]; exact kX12_layTried) (oI := (oF [])) (oL := (oF [])) (oV := (oF [])) (rI := (fun _ _ => none)) (rL := (fun _ _ => none)) (rV := (fun w => some w))
    (K := (fun j ls st w => if j = 29 then (lgI ls 1 fun v1 => st0 st (callW (fX12_layTried_29 N N v1) w)) else none)) (fun _ _ _ _ hx => by cases hx) (fun _ _ _ _ hx => by cases hx) (fun w pc ls hx hd => hr w pc ls (Option.some.inj hx) hd) hC (fun ls => lsb [some (.inr (.inr (16, 0))), none] 0 ls) (keepsP_of rfl) ?_ 64 27 [some (.inr (.inr (16, 0))), none] [] w ?_ h
  · intro j ls st w hfx h
    obtain ⟨e0, -⟩ : _ = _ ∧ True := hfx
    try dsimp only at h
    by_cases hj : j = 29
    · subst hj
      rw [if_pos rfl] at h
      obtain ⟨v1, e1, h_1⟩ := lgI_some h
      obtain ⟨rfl, h_2⟩ := st0_some h_1
      clear h h_1
      have h := h_2
      try rw [callW_eq] at h
      exact WW.le (a := [some (.inr (.inr (16, 0))), some (.inl v1)]) (by rw [hn]; rfl) (show _ = _ ∧ _ = _ ∧ True from ⟨e0, e1, trivial⟩) (sX12_layTried_29 G hn hC hr N v1 w h)
    rw [if_neg hj] at h
    cases h
  · exact (show _ = _ ∧ True from ⟨rfl, trivial⟩)
set_option maxRecDepth 100000 in
set_option maxHeartbeats 4000000 in
theorem sX12_layTried_2 {N : Nat} {X : XT} (G : GX X cX12_layTried RX12) (hn : xnL X = 2) (hC : CRs X tX12_layTried (oF []) (oF []) (oF [])) {r : Wd} (hr : RTV X cX12_layTried r)  : ∀ (n : Nat) (k27 : Wd → Option (Wd)) (v1 : Int32) (w : Wd), fX12_layTried_2 N n k27 v1 w = some r → (∀ (w : Wd), k27 w = some r → WW X (pcAt tX12_layTried 27) [some (.inr (.inr (16, 0))), none] [] w) → WW X (pcAt tX12_layTried 2) [some (.inr (.inr (16, 0))), some (.inl v1)] [] w := by
  intro n
  induction n with
  | zero => intro k27 v1 w h h27; cases h
  | succ n ih =>
    intro k27 v1 w h h27
    refine run_sound (r := r) (X := X) (cc := cX12_layTried) (own := RX12) (tab := tX12_layTried) G (by rw [hn]; exact kX12_layTried) (oI := (oF [])) (oL := (oF [])) (oV := (oF [])) (rI := (fun _ _ => none)) (rL := (fun _ _ => none)) (rV := (fun w => some w))
      (K := (fun j ls st w => if j = 2 then (lgI ls 1 fun v1 => st0 st (callW (fX12_layTried_2 N n k27 v1) w)) else if j = 27 then (st0 st (k27 w)) else none)) (fun _ _ _ _ hx => by cases hx) (fun _ _ _ _ hx => by cases hx) (fun w pc ls hx hd => hr w pc ls (Option.some.inj hx) hd) hC (fun ls => lsb [some (.inr (.inr (16, 0))), none] 0 ls) (keepsP_of rfl) ?_ 64 2 [some (.inr (.inr (16, 0))), some (.inl v1)] [] w ?_ h
    · intro j ls st w hfx h
      obtain ⟨e0, -⟩ : _ = _ ∧ True := hfx
      try dsimp only at h
      by_cases hj : j = 2
      · subst hj
        rw [if_pos rfl] at h
        obtain ⟨v1, e1, h_1⟩ := lgI_some h
        obtain ⟨rfl, h_2⟩ := st0_some h_1
        clear h h_1
        have h := h_2
        try rw [callW_eq] at h
        exact WW.le (a := [some (.inr (.inr (16, 0))), some (.inl v1)]) (by rw [hn]; rfl) (show _ = _ ∧ _ = _ ∧ True from ⟨e0, e1, trivial⟩) (ih k27 v1 w h h27)
      rw [if_neg hj] at h
      by_cases hj : j = 27
      · subst hj
        rw [if_pos rfl] at h
        obtain ⟨rfl, h_1⟩ := st0_some h
        clear h
        have h := h_1
        try rw [callW_eq] at h
        exact WW.le (a := [some (.inr (.inr (16, 0))), none]) (by rw [hn]; rfl) (show _ = _ ∧ True from ⟨e0, trivial⟩) (h27 w h)
      rw [if_neg hj] at h
      cases h
    · exact (show _ = _ ∧ True from ⟨rfl, trivial⟩)
set_option maxRecDepth 100000 in
set_option maxHeartbeats 4000000 in
theorem crX12_layTried {N : Nat} {X : XT} (G : GX X cX12_layTried RX12) (hR : xR X = rmL 1) : CRs X tX12_layTried (oF []) (oF []) (oF []) := by
  have hl : tX12_layTried.filter isInv = [] := rfl
  intro e he
  rw [hl] at he
  cases he
set_option maxRecDepth 100000 in
set_option maxHeartbeats 4000000 in
theorem MX12_layTried (N : Nat) : SndV yX12_layTried cX12_layTried 2 none 1 1 true (mX12_layTried N) := by
  refine SndV.of tX12_layTried (by decide +kernel) rfl rfl ?_ ?_
  · intro as w x h
    obtain ⟨t1, rfl, h_1⟩ := xS1_some h
    obtain ⟨rfl, h_2⟩ := xN1_some h_1
    clear h h_1
    have h := h_2
    rw [callW_eq] at h
    exact ⟨fun _ => ⟨_, _, _, rfl, rfl, _, rfl, rfl⟩, rfl, Nat.le_of_ble_eq_true rfl⟩
  · intro X G hn hR as w r h hr
    have hC := crX12_layTried (N := N) G hR
    obtain ⟨t1, rfl, h_1⟩ := xS1_some h
    obtain ⟨rfl, h_2⟩ := xN1_some h_1
    clear h h_1
    have h := h_2
    rw [callW_eq] at h
    refine run_sound (r := r) (X := X) (cc := cX12_layTried) (own := RX12) (tab := tX12_layTried) G (by rw [hn]; exact kX12_layTried) (oI := (oF [])) (oL := (oF [])) (oV := (oF [])) (rI := (fun _ _ => none)) (rL := (fun _ _ => none)) (rV := (fun w => some w))
      (K := (fun j ls st w => if j = 2 then (lgI ls 1 fun v1 => st0 st (callW (fX12_layTried_2 N N (fX12_layTried_27 N) v1) w)) else none)) (fun _ _ _ _ hx => by cases hx) (fun _ _ _ _ hx => by cases hx) (fun w pc ls hx hd => hr w pc ls (Option.some.inj hx) hd) hC (fun ls => lsb [some (.inr (.inr (16, 0))), none] 0 ls) (keepsP_of rfl) ?_ 64 0 [some (.inr (.inr (16, 0))), none] [] w ?_ h
    · intro j ls st w hfx h
      obtain ⟨e0, -⟩ : _ = _ ∧ True := hfx
      try dsimp only at h
      by_cases hj : j = 2
      · subst hj
        rw [if_pos rfl] at h
        obtain ⟨v1, e1, h_1⟩ := lgI_some h
        obtain ⟨rfl, h_2⟩ := st0_some h_1
        clear h h_1
        have h := h_2
        try rw [callW_eq] at h
        exact WW.le (a := [some (.inr (.inr (16, 0))), some (.inl v1)]) (by rw [hn]; rfl) (show _ = _ ∧ _ = _ ∧ True from ⟨e0, e1, trivial⟩) (sX12_layTried_2 G hn hC hr N (fX12_layTried_27 N) v1 w h (fun w h => (sX12_layTried_27 G hn hC hr w h)))
      rw [if_neg hj] at h
      cases h
    · exact (show _ = _ ∧ True from ⟨rfl, trivial⟩)
-- MoorGuidesModel.isThere(III)Z
def tX12_isThere : List EN := [
  (0, .aload_n 0, 0, 0, 0, 0, 0, []), (1, .getfield 106, 0, 12, 68, 0, 0, []), (4, .bipush 6, 0, 0, 0, 6, 0, []), (6, .iload_n 1, 0, 0, 0, 0, 0, []),
  (7, .imul, 0, 0, 0, 0, 0, []), (8, .iload_n 2, 0, 0, 0, 0, 0, []), (9, .iadd, 0, 0, 0, 0, 0, []), (10, .baload, 0, 0, 0, 0, 0, []),
  (11, .ifCond .ne 27, 0, 23, 0, 0, 0, []), (14, .iload_n 3, 0, 0, 0, 0, 0, []), (15, .aload_n 0, 0, 0, 0, 0, 0, []), (16, .getfield 38, 0, 12, 37, 0, 0, []),
  (19, .iload_n 2, 0, 0, 0, 0, 0, []), (20, .iaload, 0, 0, 0, 0, 0, []), (21, .if_icmp .lt 17, 0, 23, 0, 0, 0, []), (24, .iload_n 3, 0, 0, 0, 0, 0, []),
  (25, .aload_n 0, 0, 0, 0, 0, 0, []), (26, .getfield 41, 0, 12, 38, 0, 0, []), (29, .iload_n 2, 0, 0, 0, 0, 0, []), (30, .iaload, 0, 0, 0, 0, 0, []),
  (31, .if_icmp .ge 7, 0, 23, 0, 0, 0, []), (34, .iconst 1, 0, 0, 0, 1, 0, []), (35, .goto 4, 0, 24, 0, 0, 0, []), (38, .iconst 0, 0, 0, 0, 0, 0, []),
  (39, .ireturn, 0, 0, 0, 0, 0, [])]
noncomputable def pX12_isThere (N : Nat) (a1 : Int32) (a2 : Int32) (a3 : Int32) (w : Wd) : Option (Int32 × Wd) :=
  (ldI w 103 0 (((6 : Int32) * a1) + a2) 12).bind fun x1 =>
  if x1 = 0 then
    (ldI w 81 0 a2 12).bind fun x2 =>
    if a3 < x2 then some ((0 : Int32), w) else
    (ldI w 82 0 a2 12).bind fun x3 =>
    if a3 < x3 then some ((1 : Int32), w) else
    some ((0 : Int32), w)
  else
  some ((0 : Int32), w)
noncomputable def mX12_isThere (N : Nat) (as : List AV) (w : Wd) : Option (Int32 × Wd) := xS1 16 as fun t => xI1 t fun a1 t => xI1 t fun a2 t => xI1 t fun a3 t => xN1 t (callW (pX12_isThere N a1 a2 a3) w)
set_option maxRecDepth 100000 in
set_option maxHeartbeats 4000000 in
theorem kX12_isThere : TK cX12_isThere RX12 4 tX12_isThere := ⟨by decide +kernel, wok_of [1668, 1637, 1638] (by decide +kernel) (by decide +kernel)⟩
set_option maxRecDepth 100000 in
set_option maxHeartbeats 4000000 in
theorem crX12_isThere {N : Nat} {X : XT} (G : GX X cX12_isThere RX12) (hR : xR X = rmL 1) : CRs X tX12_isThere (oF []) (oF []) (oF []) := by
  have hl : tX12_isThere.filter isInv = [] := rfl
  intro e he
  rw [hl] at he
  cases he
set_option maxRecDepth 100000 in
set_option maxHeartbeats 4000000 in
theorem MX12_isThere (N : Nat) : SndI yX12_isThere cX12_isThere 4 (some .boolean) 1 4 true (mX12_isThere N) := by
  refine SndI.ofZ tX12_isThere (by decide +kernel) rfl rfl ?_ ?_
  · intro as w x h
    obtain ⟨t1, rfl, h_1⟩ := xS1_some h
    obtain ⟨a1, t2, rfl, h_2⟩ := xI1_some h_1
    obtain ⟨a2, t3, rfl, h_3⟩ := xI1_some h_2
    obtain ⟨a3, t4, rfl, h_4⟩ := xI1_some h_3
    obtain ⟨rfl, h_5⟩ := xN1_some h_4
    clear h h_1 h_2 h_3 h_4
    have h := h_5
    rw [callW_eq] at h
    exact ⟨fun _ => ⟨_, _, _, rfl, rfl, _, rfl, rfl⟩, rfl, Nat.le_of_ble_eq_true rfl⟩
  · intro X G hn hR as w r h hr
    have hC := crX12_isThere (N := N) G hR
    obtain ⟨t1, rfl, h_1⟩ := xS1_some h
    obtain ⟨a1, t2, rfl, h_2⟩ := xI1_some h_1
    obtain ⟨a2, t3, rfl, h_3⟩ := xI1_some h_2
    obtain ⟨a3, t4, rfl, h_4⟩ := xI1_some h_3
    obtain ⟨rfl, h_5⟩ := xN1_some h_4
    clear h h_1 h_2 h_3 h_4
    have h := h_5
    rw [callW_eq] at h
    refine run_sound (r := r) (X := X) (cc := cX12_isThere) (own := RX12) (tab := tX12_isThere) G (by rw [hn]; exact kX12_isThere) (oI := (oF [])) (oL := (oF [])) (oV := (oF [])) (rI := retZ) (rL := (fun _ _ => none)) (rV := (fun _ => none))
      (K := (fun j ls st w => none)) hr (fun _ _ _ _ hx => by cases hx) (fun _ _ _ hx => by cases hx) hC (fun ls => lsb [some (.inr (.inr (16, 0))), some (.inl a1), some (.inl a2), some (.inl a3)] 0 ls) (keepsP_of rfl) ?_ 27 0 [some (.inr (.inr (16, 0))), some (.inl a1), some (.inl a2), some (.inl a3)] [] w ?_ h
    · intro j ls st w hfx h
      obtain ⟨e0, e1, e2, e3, -⟩ : _ = _ ∧ _ = _ ∧ _ = _ ∧ _ = _ ∧ True := hfx
      try dsimp only at h
      cases h
    · exact (show _ = _ ∧ _ = _ ∧ _ = _ ∧ _ = _ ∧ True from ⟨rfl, rfl, rfl, rfl, trivial⟩)
-- MoorGuidesModel.hasKnown(IIII)Z
def tX12_hasKnown : List EN := [
  (0, .bipush 48, 0, 0, 0, 48, 0, []), (2, .iload_n 1, 0, 0, 0, 0, 0, []), (3, .imul, 0, 0, 0, 0, 0, []), (4, .bipush 8, 0, 0, 0, 8, 0, []),
  (6, .iload_n 2, 0, 0, 0, 0, 0, []), (7, .imul, 0, 0, 0, 0, 0, []), (8, .iadd, 0, 0, 0, 0, 0, []), (9, .iload_n 3, 0, 0, 0, 0, 0, []),
  (10, .iadd, 0, 0, 0, 0, 0, []), (11, .istore 5, 0, 0, 0, 0, 0, []), (13, .aload_n 0, 0, 0, 0, 0, 0, []), (14, .getfield 100, 0, 12, 66, 0, 0, []),
  (17, .iload 5, 0, 0, 0, 0, 0, []), (19, .iaload, 0, 0, 0, 0, 0, []), (20, .istore 6, 0, 0, 0, 0, 0, []), (22, .aload_n 0, 0, 0, 0, 0, 0, []),
  (23, .iload_n 1, 0, 0, 0, 0, 0, []), (24, .iload_n 2, 0, 0, 0, 0, 0, []), (25, .iload 4, 0, 0, 0, 0, 0, []), (27, .invokevirtual 456, 0, 0, 4, 0, 0, []),
  (30, .ifCond .eq 29, 0, 34, 0, 0, 0, []), (33, .iload 6, 0, 0, 0, 0, 0, []), (35, .ifCond .lt 24, 0, 34, 0, 0, 0, []), (38, .iload 6, 0, 0, 0, 0, 0, []),
  (40, .iload 4, 0, 0, 0, 0, 0, []), (42, .if_icmp .gt 17, 0, 34, 0, 0, 0, []), (45, .iload 4, 0, 0, 0, 0, 0, []), (47, .iload 6, 0, 0, 0, 0, 0, []),
  (49, .isub, 0, 0, 0, 0, 0, []), (50, .aload_n 0, 0, 0, 0, 0, 0, []), (51, .getfield 44, 0, 12, 39, 0, 0, []), (54, .iload_n 2, 0, 0, 0, 0, 0, []),
  (55, .iaload, 0, 0, 0, 0, 0, []), (56, .if_icmp .le 5, 0, 36, 0, 0, 0, []), (59, .iconst 0, 0, 0, 0, 0, 0, []), (60, .ireturn, 0, 0, 0, 0, 0, []),
  (61, .iconst 0, 0, 0, 0, 0, 0, []), (62, .istore 7, 0, 0, 0, 0, 0, []), (64, .iload 7, 39, 0, 0, 0, 0, []), (66, .aload_n 0, 0, 0, 0, 0, 0, []),
  (67, .getfield 441, 0, 12, 65, 0, 0, []), (70, .if_icmp .ge 80, 0, 81, 0, 0, 0, []), (73, .aload_n 0, 0, 0, 0, 0, 0, []), (74, .getfield 65, 0, 12, 46, 0, 0, []),
  (77, .iload 7, 0, 0, 0, 0, 0, []), (79, .iaload, 0, 0, 0, 0, 0, []), (80, .iload 6, 0, 0, 0, 0, 0, []), (82, .if_icmp .gt 25, 0, 59, 0, 0, 0, []),
  (85, .aload_n 0, 0, 0, 0, 0, 0, []), (86, .getfield 103, 0, 12, 67, 0, 0, []), (89, .iload 5, 0, 0, 0, 0, 0, []), (91, .baload, 0, 0, 0, 0, 0, []),
  (92, .ifCond .eq 19, 0, 61, 0, 0, 0, []), (95, .aload_n 0, 0, 0, 0, 0, 0, []), (96, .getfield 65, 0, 12, 46, 0, 0, []), (99, .iload 7, 0, 0, 0, 0, 0, []),
  (101, .iaload, 0, 0, 0, 0, 0, []), (102, .iload 6, 0, 0, 0, 0, 0, []), (104, .if_icmp .ne 7, 0, 61, 0, 0, 0, []), (107, .iconst 1, 60, 0, 0, 1, 0, []),
  (108, .goto 4, 0, 62, 0, 0, 0, []), (111, .iconst 0, 62, 0, 0, 0, 0, []), (112, .istore 8, 63, 0, 0, 0, 0, []), (114, .aload_n 0, 0, 0, 0, 0, 0, []),
  (115, .getfield 62, 0, 12, 45, 0, 0, []), (118, .iload 7, 0, 0, 0, 0, 0, []), (120, .iaload, 0, 0, 0, 0, 0, []), (121, .iload_n 3, 0, 0, 0, 0, 0, []),
  (122, .if_icmp .ne 22, 0, 79, 0, 0, 0, []), (125, .iload 8, 0, 0, 0, 0, 0, []), (127, .ifCond .eq 17, 0, 79, 0, 0, 0, []), (130, .aload_n 0, 0, 0, 0, 0, 0, []),
  (131, .getfield 65, 0, 12, 46, 0, 0, []), (134, .iload 7, 0, 0, 0, 0, 0, []), (136, .iaload, 0, 0, 0, 0, 0, []), (137, .iload 4, 0, 0, 0, 0, 0, []),
  (139, .if_icmp .gt 5, 0, 79, 0, 0, 0, []), (142, .iconst 0, 0, 0, 0, 0, 0, []), (143, .ireturn, 0, 0, 0, 0, 0, []), (144, .iinc 7 1, 0, 0, 0, 1, 0, []),
  (147, .goto (-83), 0, 38, 0, 0, 0, []), (150, .iconst 1, 0, 0, 0, 1, 0, []), (151, .ireturn, 0, 0, 0, 0, 0, [])]
noncomputable def fX12_hasKnown_62 (N : Nat) (a3 : Int32) (a4 : Int32) (k38 : Int32 → Int32 → Int32 → Wd → Option (Int32 × Wd)) (v5 : Int32) (v6 : Int32) (v7 : Int32) (s0 : Int32) (w : Wd) : Option (Int32 × Wd) :=
  (ldI w 89 0 v7 24).bind fun x1 =>
  if x1 = a3 then
    if s0 = 0 then k38 v5 v6 (v7 + (1 : Int32)) w else
    (ldI w 90 0 v7 24).bind fun x2 =>
    if a4 < x2 then k38 v5 v6 (v7 + (1 : Int32)) w else
    some ((0 : Int32), w)
  else
  k38 v5 v6 (v7 + (1 : Int32)) w
noncomputable def fX12_hasKnown_61 (N : Nat) (a3 : Int32) (a4 : Int32) (k38 : Int32 → Int32 → Int32 → Wd → Option (Int32 × Wd)) (v5 : Int32) (v6 : Int32) (v7 : Int32) (w : Wd) : Option (Int32 × Wd) :=
  callW (fX12_hasKnown_62 N a3 a4 k38 v5 v6 v7 (0 : Int32)) w
noncomputable def fX12_hasKnown_59 (N : Nat) (a3 : Int32) (a4 : Int32) (k38 : Int32 → Int32 → Int32 → Wd → Option (Int32 × Wd)) (v5 : Int32) (v6 : Int32) (v7 : Int32) (w : Wd) : Option (Int32 × Wd) :=
  callW (fX12_hasKnown_62 N a3 a4 k38 v5 v6 v7 (1 : Int32)) w
noncomputable def fX12_hasKnown_38 (N : Nat) (a3 : Int32) (a4 : Int32) : Nat → Int32 → Int32 → Int32 → Wd → Option (Int32 × Wd)
  | 0, _, _, _, _ => none
  | n + 1, v5, v6, v7, w =>
    if v7 < (gI w 16 0 65) then
      (ldI w 90 0 v7 24).bind fun x1 =>
      if v6 < x1 then callW (fX12_hasKnown_59 N a3 a4 (fX12_hasKnown_38 N a3 a4 n) v5 v6 v7) w else
      (ldI w 102 0 v5 96).bind fun x2 =>
      if x2 = 0 then callW (fX12_hasKnown_61 N a3 a4 (fX12_hasKnown_38 N a3 a4 n) v5 v6 v7) w else
      (ldI w 90 0 v7 24).bind fun x3 =>
      if x3 = v6 then callW (fX12_hasKnown_59 N a3 a4 (fX12_hasKnown_38 N a3 a4 n) v5 v6 v7) w else
      callW (fX12_hasKnown_61 N a3 a4 (fX12_hasKnown_38 N a3 a4 n) v5 v6 v7) w
    else
    some ((1 : Int32), w)
noncomputable def pX12_hasKnown (N : Nat) (a1 : Int32) (a2 : Int32) (a3 : Int32) (a4 : Int32) (w : Wd) : Option (Int32 × Wd) :=
  (ldI w 101 0 ((((48 : Int32) * a1) + ((8 : Int32) * a2)) + a3) 96).bind fun x1 =>
  (callW (pX12_isThere N a1 a2 a4) w).bind fun r2 =>
  if r2.1 = 0 then some ((0 : Int32), r2.2) else
  if x1 < 0 then some ((0 : Int32), r2.2) else
  if a4 < x1 then some ((0 : Int32), r2.2) else
  (ldI r2.2 83 0 a2 12).bind fun x3 =>
  if x3 < (a4 - x1) then some ((0 : Int32), r2.2) else
  callW (fX12_hasKnown_38 N a3 a4 N ((((48 : Int32) * a1) + ((8 : Int32) * a2)) + a3) x1 (0 : Int32)) r2.2
noncomputable def mX12_hasKnown (N : Nat) (as : List AV) (w : Wd) : Option (Int32 × Wd) := xS1 16 as fun t => xI1 t fun a1 t => xI1 t fun a2 t => xI1 t fun a3 t => xI1 t fun a4 t => xN1 t (callW (pX12_hasKnown N a1 a2 a3 a4) w)
set_option maxRecDepth 100000 in
set_option maxHeartbeats 4000000 in
theorem kX12_hasKnown : TK cX12_hasKnown RX12 9 tX12_hasKnown := ⟨by decide +kernel, wok_of [1666, 1639, 1665, 1646, 1667, 1646, 1645, 1646] (by decide +kernel) (by decide +kernel)⟩
set_option maxRecDepth 100000 in
set_option maxHeartbeats 4000000 in
theorem sX12_hasKnown_62 {N : Nat} {X : XT} (G : GX X cX12_hasKnown RX12) (hn : xnL X = 9) (hC : CRs X tX12_hasKnown (oF [(mX12_isThere N)]) (oF []) (oF [])) {r : Int32 × Wd} (hr : RTZ X cX12_hasKnown r) (a1 : Int32) (a2 : Int32) (a3 : Int32) (a4 : Int32) : ∀ (k38 : Int32 → Int32 → Int32 → Wd → Option (Int32 × Wd)) (v5 : Int32) (v6 : Int32) (v7 : Int32) (s0 : Int32) (w : Wd), fX12_hasKnown_62 N a3 a4 k38 v5 v6 v7 s0 w = some r → (∀ (v5 : Int32) (v6 : Int32) (v7 : Int32) (w : Wd), k38 v5 v6 v7 w = some r → WW X (pcAt tX12_hasKnown 38) [some (.inr (.inr (16, 0))), some (.inl a1), some (.inl a2), some (.inl a3), some (.inl a4), some (.inl v5), some (.inl v6), some (.inl v7), none] [] w) → WW X (pcAt tX12_hasKnown 62) [some (.inr (.inr (16, 0))), some (.inl a1), some (.inl a2), some (.inl a3), some (.inl a4), some (.inl v5), some (.inl v6), some (.inl v7), none] [.inl s0] w := by
  intro k38 v5 v6 v7 s0 w h h38
  refine run_sound (r := r) (X := X) (cc := cX12_hasKnown) (own := RX12) (tab := tX12_hasKnown) G (by rw [hn]; exact kX12_hasKnown) (oI := (oF [(mX12_isThere N)])) (oL := (oF [])) (oV := (oF [])) (rI := retZ) (rL := (fun _ _ => none)) (rV := (fun _ => none))
    (K := (fun j ls st w => if j = 38 then (lgI ls 5 fun v5 => lgI ls 6 fun v6 => lgI ls 7 fun v7 => st0 st (k38 v5 v6 v7 w)) else none)) hr (fun _ _ _ _ hx => by cases hx) (fun _ _ _ hx => by cases hx) hC (fun ls => lsb [some (.inr (.inr (16, 0))), some (.inl a1), some (.inl a2), some (.inl a3), some (.inl a4), none, none, none, none] 0 ls) (keepsP_of rfl) ?_ 85 62 [some (.inr (.inr (16, 0))), some (.inl a1), some (.inl a2), some (.inl a3), some (.inl a4), some (.inl v5), some (.inl v6), some (.inl v7), none] [.inl s0] w ?_ h
  · intro j ls st w hfx h
    obtain ⟨e0, e1, e2, e3, e4, -⟩ : _ = _ ∧ _ = _ ∧ _ = _ ∧ _ = _ ∧ _ = _ ∧ True := hfx
    try dsimp only at h
    by_cases hj : j = 38
    · subst hj
      rw [if_pos rfl] at h
      obtain ⟨v5, e5, h_1⟩ := lgI_some h
      obtain ⟨v6, e6, h_2⟩ := lgI_some h_1
      obtain ⟨v7, e7, h_3⟩ := lgI_some h_2
      obtain ⟨rfl, h_4⟩ := st0_some h_3
      clear h h_1 h_2 h_3
      have h := h_4
      try rw [callW_eq] at h
      exact WW.le (a := [some (.inr (.inr (16, 0))), some (.inl a1), some (.inl a2), some (.inl a3), some (.inl a4), some (.inl v5), some (.inl v6), some (.inl v7), none]) (by rw [hn]; rfl) (show _ = _ ∧ _ = _ ∧ _ = _ ∧ _ = _ ∧ _ = _ ∧ _ = _ ∧ _ = _ ∧ _ = _ ∧ True from ⟨e0, e1, e2, e3, e4, e5, e6, e7, trivial⟩) (h38 v5 v6 v7 w h)
    rw [if_neg hj] at h
    cases h
  · exact (show _ = _ ∧ _ = _ ∧ _ = _ ∧ _ = _ ∧ _ = _ ∧ True from ⟨rfl, rfl, rfl, rfl, rfl, trivial⟩)
set_option maxRecDepth 100000 in
set_option maxHeartbeats 4000000 in
theorem sX12_hasKnown_61 {N : Nat} {X : XT} (G : GX X cX12_hasKnown RX12) (hn : xnL X = 9) (hC : CRs X tX12_hasKnown (oF [(mX12_isThere N)]) (oF []) (oF [])) {r : Int32 × Wd} (hr : RTZ X cX12_hasKnown r) (a1 : Int32) (a2 : Int32) (a3 : Int32) (a4 : Int32) : ∀ (k38 : Int32 → Int32 → Int32 → Wd → Option (Int32 × Wd)) (v5 : Int32) (v6 : Int32) (v7 : Int32) (w : Wd), fX12_hasKnown_61 N a3 a4 k38 v5 v6 v7 w = some r → (∀ (v5 : Int32) (v6 : Int32) (v7 : Int32) (w : Wd), k38 v5 v6 v7 w = some r → WW X (pcAt tX12_hasKnown 38) [some (.inr (.inr (16, 0))), some (.inl a1), some (.inl a2), some (.inl a3), some (.inl a4), some (.inl v5), some (.inl v6), some (.inl v7), none] [] w) → WW X (pcAt tX12_hasKnown 61) [some (.inr (.inr (16, 0))), some (.inl a1), some (.inl a2), some (.inl a3), some (.inl a4), some (.inl v5), some (.inl v6), some (.inl v7), none] [] w := by
  intro k38 v5 v6 v7 w h h38
  refine run_sound (r := r) (X := X) (cc := cX12_hasKnown) (own := RX12) (tab := tX12_hasKnown) G (by rw [hn]; exact kX12_hasKnown) (oI := (oF [(mX12_isThere N)])) (oL := (oF [])) (oV := (oF [])) (rI := retZ) (rL := (fun _ _ => none)) (rV := (fun _ => none))
    (K := (fun j ls st w => if j = 62 then (lgI ls 5 fun v5 => lgI ls 6 fun v6 => lgI ls 7 fun v7 => po1 st fun s0 st => st0 st (callW (fX12_hasKnown_62 N a3 a4 k38 v5 v6 v7 s0) w)) else none)) hr (fun _ _ _ _ hx => by cases hx) (fun _ _ _ hx => by cases hx) hC (fun ls => lsb [some (.inr (.inr (16, 0))), some (.inl a1), some (.inl a2), some (.inl a3), some (.inl a4), none, none, none, none] 0 ls) (keepsP_of rfl) ?_ 85 61 [some (.inr (.inr (16, 0))), some (.inl a1), some (.inl a2), some (.inl a3), some (.inl a4), some (.inl v5), some (.inl v6), some (.inl v7), none] [] w ?_ h
  · intro j ls st w hfx h
    obtain ⟨e0, e1, e2, e3, e4, -⟩ : _ = _ ∧ _ = _ ∧ _ = _ ∧ _ = _ ∧ _ = _ ∧ True := hfx
    try dsimp only at h
    by_cases hj : j = 62
    · subst hj
      rw [if_pos rfl] at h
      obtain ⟨v5, e5, h_1⟩ := lgI_some h
      obtain ⟨v6, e6, h_2⟩ := lgI_some h_1
      obtain ⟨v7, e7, h_3⟩ := lgI_some h_2
      obtain ⟨s0, st0, rfl, h_4⟩ := po1_some h_3
      obtain ⟨rfl, h_5⟩ := st0_some h_4
      clear h h_1 h_2 h_3 h_4
      have h := h_5
      try rw [callW_eq] at h
      exact WW.le (a := [some (.inr (.inr (16, 0))), some (.inl a1), some (.inl a2), some (.inl a3), some (.inl a4), some (.inl v5), some (.inl v6), some (.inl v7), none]) (by rw [hn]; rfl) (show _ = _ ∧ _ = _ ∧ _ = _ ∧ _ = _ ∧ _ = _ ∧ _ = _ ∧ _ = _ ∧ _ = _ ∧ True from ⟨e0, e1, e2, e3, e4, e5, e6, e7, trivial⟩) (sX12_hasKnown_62 G hn hC hr a1 a2 a3 a4 k38 v5 v6 v7 s0 w h (fun v5 v6 v7 w h => (h38 v5 v6 v7 w h)))
    rw [if_neg hj] at h
    cases h
  · exact (show _ = _ ∧ _ = _ ∧ _ = _ ∧ _ = _ ∧ _ = _ ∧ True from ⟨rfl, rfl, rfl, rfl, rfl, trivial⟩)
set_option maxRecDepth 100000 in
set_option maxHeartbeats 4000000 in
theorem sX12_hasKnown_59 {N : Nat} {X : XT} (G : GX X cX12_hasKnown RX12) (hn : xnL X = 9) (hC : CRs X tX12_hasKnown (oF [(mX12_isThere N)]) (oF []) (oF [])) {r : Int32 × Wd} (hr : RTZ X cX12_hasKnown r) (a1 : Int32) (a2 : Int32) (a3 : Int32) (a4 : Int32) : ∀ (k38 : Int32 → Int32 → Int32 → Wd → Option (Int32 × Wd)) (v5 : Int32) (v6 : Int32) (v7 : Int32) (w : Wd), fX12_hasKnown_59 N a3 a4 k38 v5 v6 v7 w = some r → (∀ (v5 : Int32) (v6 : Int32) (v7 : Int32) (w : Wd), k38 v5 v6 v7 w = some r → WW X (pcAt tX12_hasKnown 38) [some (.inr (.inr (16, 0))), some (.inl a1), some (.inl a2), some (.inl a3), some (.inl a4), some (.inl v5), some (.inl v6), some (.inl v7), none] [] w) → WW X (pcAt tX12_hasKnown 59) [some (.inr (.inr (16, 0))), some (.inl a1), some (.inl a2), some (.inl a3), some (.inl a4), some (.inl v5), some (.inl v6), some (.inl v7), none] [] w := by
  intro k38 v5 v6 v7 w h h38
  refine run_sound (r := r) (X := X) (cc := cX12_hasKnown) (own := RX12) (tab := tX12_hasKnown) G (by rw [hn]; exact kX12_hasKnown) (oI := (oF [(mX12_isThere N)])) (oL := (oF [])) (oV := (oF [])) (rI := retZ) (rL := (fun _ _ => none)) (rV := (fun _ => none))
    (K := (fun j ls st w => if j = 62 then (lgI ls 5 fun v5 => lgI ls 6 fun v6 => lgI ls 7 fun v7 => po1 st fun s0 st => st0 st (callW (fX12_hasKnown_62 N a3 a4 k38 v5 v6 v7 s0) w)) else none)) hr (fun _ _ _ _ hx => by cases hx) (fun _ _ _ hx => by cases hx) hC (fun ls => lsb [some (.inr (.inr (16, 0))), some (.inl a1), some (.inl a2), some (.inl a3), some (.inl a4), none, none, none, none] 0 ls) (keepsP_of rfl) ?_ 85 59 [some (.inr (.inr (16, 0))), some (.inl a1), some (.inl a2), some (.inl a3), some (.inl a4), some (.inl v5), some (.inl v6), some (.inl v7), none] [] w ?_ h
  · intro j ls st w hfx h
    obtain ⟨e0, e1, e2, e3, e4, -⟩ : _ = _ ∧ _ = _ ∧ _ = _ ∧ _ = _ ∧ _ = _ ∧ True := hfx
    try dsimp only at h
    by_cases hj : j = 62
    · subst hj
      rw [if_pos rfl] at h
      obtain ⟨v5, e5, h_1⟩ := lgI_some h
      obtain ⟨v6, e6, h_2⟩ := lgI_some h_1
      obtain ⟨v7, e7, h_3⟩ := lgI_some h_2
      obtain ⟨s0, st0, rfl, h_4⟩ := po1_some h_3
      obtain ⟨rfl, h_5⟩ := st0_some h_4
      clear h h_1 h_2 h_3 h_4
      have h := h_5
      try rw [callW_eq] at h
      exact WW.le (a := [some (.inr (.inr (16, 0))), some (.inl a1), some (.inl a2), some (.inl a3), some (.inl a4), some (.inl v5), some (.inl v6), some (.inl v7), none]) (by rw [hn]; rfl) (show _ = _ ∧ _ = _ ∧ _ = _ ∧ _ = _ ∧ _ = _ ∧ _ = _ ∧ _ = _ ∧ _ = _ ∧ True from ⟨e0, e1, e2, e3, e4, e5, e6, e7, trivial⟩) (sX12_hasKnown_62 G hn hC hr a1 a2 a3 a4 k38 v5 v6 v7 s0 w h (fun v5 v6 v7 w h => (h38 v5 v6 v7 w h)))
    rw [if_neg hj] at h
    cases h
  · exact (show _ = _ ∧ _ = _ ∧ _ = _ ∧ _ = _ ∧ _ = _ ∧ True from ⟨rfl, rfl, rfl, rfl, rfl, trivial⟩)
set_option maxRecDepth 100000 in
set_option maxHeartbeats 4000000 in
theorem sX12_hasKnown_38 {N : Nat} {X : XT} (G : GX X cX12_hasKnown RX12) (hn : xnL X = 9) (hC : CRs X tX12_hasKnown (oF [(mX12_isThere N)]) (oF []) (oF [])) {r : Int32 × Wd} (hr : RTZ X cX12_hasKnown r) (a1 : Int32) (a2 : Int32) (a3 : Int32) (a4 : Int32) : ∀ (n : Nat) (v5 : Int32) (v6 : Int32) (v7 : Int32) (w : Wd), fX12_hasKnown_38 N a3 a4 n v5 v6 v7 w = some r → WW X (pcAt tX12_hasKnown 38) [some (.inr (.inr (16, 0))), some (.inl a1), some (.inl a2), some (.inl a3), some (.inl a4), some (.inl v5), some (.inl v6), some (.inl v7), none] [] w := by
  intro n
  induction n with
  | zero => intro v5 v6 v7 w h; cases h
  | succ n ih =>
    intro v5 v6 v7 w h
    refine run_sound (r := r) (X := X) (cc := cX12_hasKnown) (own := RX12) (tab := tX12_hasKnown) G (by rw [hn]; exact kX12_hasKnown) (oI := (oF [(mX12_isThere N)])) (oL := (oF [])) (oV := (oF [])) (rI := retZ) (rL := (fun _ _ => none)) (rV := (fun _ => none))
      (K := (fun j ls st w => if j = 59 then (lgI ls 5 fun v5 => lgI ls 6 fun v6 => lgI ls 7 fun v7 => st0 st (callW (fX12_hasKnown_59 N a3 a4 (fX12_hasKnown_38 N a3 a4 n) v5 v6 v7) w)) else if j = 61 then (lgI ls 5 fun v5 => lgI ls 6 fun v6 => lgI ls 7 fun v7 => st0 st (callW (fX12_hasKnown_61 N a3 a4 (fX12_hasKnown_38 N a3 a4 n) v5 v6 v7) w)) else none)) hr (fun _ _ _ _ hx => by cases hx) (fun _ _ _ hx => by cases hx) hC (fun ls => lsb [some (.inr (.inr (16, 0))), some (.inl a1), some (.inl a2), some (.inl a3), some (.inl a4), none, none, none, none] 0 ls) (keepsP_of rfl) ?_ 85 38 [some (.inr (.inr (16, 0))), some (.inl a1), some (.inl a2), some (.inl a3), some (.inl a4), some (.inl v5), some (.inl v6), some (.inl v7), none] [] w ?_ h
    · intro j ls st w hfx h
      obtain ⟨e0, e1, e2, e3, e4, -⟩ : _ = _ ∧ _ = _ ∧ _ = _ ∧ _ = _ ∧ _ = _ ∧ True := hfx
      try dsimp only at h
      by_cases hj : j = 59
      · subst hj
        rw [if_pos rfl] at h
        obtain ⟨v5, e5, h_1⟩ := lgI_some h
        obtain ⟨v6, e6, h_2⟩ := lgI_some h_1
        obtain ⟨v7, e7, h_3⟩ := lgI_some h_2
        obtain ⟨rfl, h_4⟩ := st0_some h_3
        clear h h_1 h_2 h_3
        have h := h_4
        try rw [callW_eq] at h
        exact WW.le (a := [some (.inr (.inr (16, 0))), some (.inl a1), some (.inl a2), some (.inl a3), some (.inl a4), some (.inl v5), some (.inl v6), some (.inl v7), none]) (by rw [hn]; rfl) (show _ = _ ∧ _ = _ ∧ _ = _ ∧ _ = _ ∧ _ = _ ∧ _ = _ ∧ _ = _ ∧ _ = _ ∧ True from ⟨e0, e1, e2, e3, e4, e5, e6, e7, trivial⟩) (sX12_hasKnown_59 G hn hC hr a1 a2 a3 a4 (fX12_hasKnown_38 N a3 a4 n) v5 v6 v7 w h (fun v5 v6 v7 w h => (ih v5 v6 v7 w h)))
      rw [if_neg hj] at h
      by_cases hj : j = 61
      · subst hj
        rw [if_pos rfl] at h
        obtain ⟨v5, e5, h_1⟩ := lgI_some h
        obtain ⟨v6, e6, h_2⟩ := lgI_some h_1
        obtain ⟨v7, e7, h_3⟩ := lgI_some h_2
        obtain ⟨rfl, h_4⟩ := st0_some h_3
        clear h h_1 h_2 h_3
        have h := h_4
        try rw [callW_eq] at h
        exact WW.le (a := [some (.inr (.inr (16, 0))), some (.inl a1), some (.inl a2), some (.inl a3), some (.inl a4), some (.inl v5), some (.inl v6), some (.inl v7), none]) (by rw [hn]; rfl) (show _ = _ ∧ _ = _ ∧ _ = _ ∧ _ = _ ∧ _ = _ ∧ _ = _ ∧ _ = _ ∧ _ = _ ∧ True from ⟨e0, e1, e2, e3, e4, e5, e6, e7, trivial⟩) (sX12_hasKnown_61 G hn hC hr a1 a2 a3 a4 (fX12_hasKnown_38 N a3 a4 n) v5 v6 v7 w h (fun v5 v6 v7 w h => (ih v5 v6 v7 w h)))
      rw [if_neg hj] at h
      cases h
    · exact (show _ = _ ∧ _ = _ ∧ _ = _ ∧ _ = _ ∧ _ = _ ∧ True from ⟨rfl, rfl, rfl, rfl, rfl, trivial⟩)
set_option maxRecDepth 100000 in
set_option maxHeartbeats 4000000 in
theorem crX12_hasKnown {N : Nat} {X : XT} (G : GX X cX12_hasKnown RX12) (hR : xR X = rmL 2) : CRs X tX12_hasKnown (oF [(mX12_isThere N)]) (oF []) (oF []) := by
  have hl : tX12_hasKnown.filter isInv = [(27, .invokevirtual 456, 0, 0, 4, 0, 0, [])] := rfl
  intro e he
  rw [hl] at he
  simp only [List.mem_cons, List.not_mem_nil, or_false] at he
  rcases he with rfl
  · exact crI_V (idx := 456) G (by decide +kernel) (MX12_isThere N) (cw_of (ps := [2088, 2090, 108, 164, 2091]) (by decide +kernel) (by decide +kernel)) ⟨by decide +kernel, by decide +kernel, by decide +kernel⟩ (by unfold rmOk; rw [hR]; exact ⟨by decide, by decide⟩)
set_option maxRecDepth 100000 in
set_option maxHeartbeats 4000000 in
theorem MX12_hasKnown (N : Nat) : SndI yX12_hasKnown cX12_hasKnown 9 (some .boolean) 2 5 true (mX12_hasKnown N) := by
  refine SndI.ofZ tX12_hasKnown (by decide +kernel) rfl rfl ?_ ?_
  · intro as w x h
    obtain ⟨t1, rfl, h_1⟩ := xS1_some h
    obtain ⟨a1, t2, rfl, h_2⟩ := xI1_some h_1
    obtain ⟨a2, t3, rfl, h_3⟩ := xI1_some h_2
    obtain ⟨a3, t4, rfl, h_4⟩ := xI1_some h_3
    obtain ⟨a4, t5, rfl, h_5⟩ := xI1_some h_4
    obtain ⟨rfl, h_6⟩ := xN1_some h_5
    clear h h_1 h_2 h_3 h_4 h_5
    have h := h_6
    rw [callW_eq] at h
    exact ⟨fun _ => ⟨_, _, _, rfl, rfl, _, rfl, rfl⟩, rfl, Nat.le_of_ble_eq_true rfl⟩
  · intro X G hn hR as w r h hr
    have hC := crX12_hasKnown (N := N) G hR
    obtain ⟨t1, rfl, h_1⟩ := xS1_some h
    obtain ⟨a1, t2, rfl, h_2⟩ := xI1_some h_1
    obtain ⟨a2, t3, rfl, h_3⟩ := xI1_some h_2
    obtain ⟨a3, t4, rfl, h_4⟩ := xI1_some h_3
    obtain ⟨a4, t5, rfl, h_5⟩ := xI1_some h_4
    obtain ⟨rfl, h_6⟩ := xN1_some h_5
    clear h h_1 h_2 h_3 h_4 h_5
    have h := h_6
    rw [callW_eq] at h
    refine run_sound (r := r) (X := X) (cc := cX12_hasKnown) (own := RX12) (tab := tX12_hasKnown) G (by rw [hn]; exact kX12_hasKnown) (oI := (oF [(mX12_isThere N)])) (oL := (oF [])) (oV := (oF [])) (rI := retZ) (rL := (fun _ _ => none)) (rV := (fun _ => none))
      (K := (fun j ls st w => if j = 38 then (lgI ls 5 fun v5 => lgI ls 6 fun v6 => lgI ls 7 fun v7 => st0 st (callW (fX12_hasKnown_38 N a3 a4 N v5 v6 v7) w)) else none)) hr (fun _ _ _ _ hx => by cases hx) (fun _ _ _ hx => by cases hx) hC (fun ls => lsb [some (.inr (.inr (16, 0))), some (.inl a1), some (.inl a2), some (.inl a3), some (.inl a4), none, none, none, none] 0 ls) (keepsP_of rfl) ?_ 85 0 [some (.inr (.inr (16, 0))), some (.inl a1), some (.inl a2), some (.inl a3), some (.inl a4), none, none, none, none] [] w ?_ h
    · intro j ls st w hfx h
      obtain ⟨e0, e1, e2, e3, e4, -⟩ : _ = _ ∧ _ = _ ∧ _ = _ ∧ _ = _ ∧ _ = _ ∧ True := hfx
      try dsimp only at h
      by_cases hj : j = 38
      · subst hj
        rw [if_pos rfl] at h
        obtain ⟨v5, e5, h_1⟩ := lgI_some h
        obtain ⟨v6, e6, h_2⟩ := lgI_some h_1
        obtain ⟨v7, e7, h_3⟩ := lgI_some h_2
        obtain ⟨rfl, h_4⟩ := st0_some h_3
        clear h h_1 h_2 h_3
        have h := h_4
        try rw [callW_eq] at h
        exact WW.le (a := [some (.inr (.inr (16, 0))), some (.inl a1), some (.inl a2), some (.inl a3), some (.inl a4), some (.inl v5), some (.inl v6), some (.inl v7), none]) (by rw [hn]; rfl) (show _ = _ ∧ _ = _ ∧ _ = _ ∧ _ = _ ∧ _ = _ ∧ _ = _ ∧ _ = _ ∧ _ = _ ∧ True from ⟨e0, e1, e2, e3, e4, e5, e6, e7, trivial⟩) (sX12_hasKnown_38 G hn hC hr a1 a2 a3 a4 N v5 v6 v7 w h)
      rw [if_neg hj] at h
      cases h
    · exact (show _ = _ ∧ _ = _ ∧ _ = _ ∧ _ = _ ∧ _ = _ ∧ True from ⟨rfl, rfl, rfl, rfl, rfl, trivial⟩)
-- MoorGuidesModel.knownBy(III)I
def tX12_knownBy : List EN := [
  (0, .iconst 0, 0, 0, 0, 0, 0, []), (1, .istore 4, 0, 0, 0, 0, 0, []), (3, .iconst 0, 0, 0, 0, 0, 0, []), (4, .istore 5, 0, 0, 0, 0, 0, []),
  (6, .iload 5, 5, 0, 0, 0, 0, []), (8, .aload_n 0, 0, 0, 0, 0, 0, []), (9, .getfield 295, 0, 12, 12, 0, 0, []), (12, .if_icmp .ge 34, 0, 25, 0, 0, 0, []),
  (15, .iload 4, 0, 0, 0, 0, 0, []), (17, .aload_n 0, 0, 0, 0, 0, 0, []), (18, .iload_n 1, 0, 0, 0, 0, 0, []), (19, .iload_n 2, 0, 0, 0, 0, 0, []),
  (20, .iload 5, 0, 0, 0, 0, 0, []), (22, .iload_n 3, 0, 0, 0, 0, 0, []), (23, .invokevirtual 459, 0, 0, 5, 0, 0, []), (26, .ifCond .eq 10, 0, 20, 0, 0, 0, []),
  (29, .iconst 1, 0, 0, 0, 1, 0, []), (30, .iload 5, 0, 0, 0, 0, 0, []), (32, .ishl, 0, 0, 0, 0, 0, []), (33, .goto 4, 0, 21, 0, 0, 0, []),
  (36, .iconst 0, 0, 0, 0, 0, 0, []), (37, .ior, 0, 0, 0, 0, 0, []), (38, .istore 4, 0, 0, 0, 0, 0, []), (40, .iinc 5 1, 0, 0, 0, 1, 0, []),
  (43, .goto (-37), 0, 4, 0, 0, 0, []), (46, .iload 4, 0, 0, 0, 0, 0, []), (48, .ireturn, 0, 0, 0, 0, 0, [])]
noncomputable def fX12_knownBy_4 (N : Nat) (a1 : Int32) (a2 : Int32) (a3 : Int32) : Nat → Int32 → Int32 → Wd → Option (Int32 × Wd)
  | 0, _, _, _ => none
  | n + 1, v4, v5, w =>
    if v5 < (gI w 16 0 12) then
      (callW (pX12_hasKnown N a1 a2 v5 a3) w).bind fun r1 =>
      if r1.1 = 0 then callW (fX12_knownBy_4 N a1 a2 a3 n (v4 ||| (0 : Int32)) (v5 + (1 : Int32))) r1.2 else
      callW (fX12_knownBy_4 N a1 a2 a3 n (v4 ||| ((1 : Int32) <<< (v5 &&& (31 : Int32)))) (v5 + (1 : Int32))) r1.2
    else
    some (v4, w)
noncomputable def pX12_knownBy (N : Nat) (a1 : Int32) (a2 : Int32) (a3 : Int32) (w : Wd) : Option (Int32 × Wd) :=
  callW (fX12_knownBy_4 N a1 a2 a3 N (0 : Int32) (0 : Int32)) w
noncomputable def mX12_knownBy (N : Nat) (as : List AV) (w : Wd) : Option (Int32 × Wd) := xS1 16 as fun t => xI1 t fun a1 t => xI1 t fun a2 t => xI1 t fun a3 t => xN1 t (callW (pX12_knownBy N a1 a2 a3) w)
set_option maxRecDepth 100000 in
set_option maxHeartbeats 4000000 in
theorem kX12_knownBy : TK cX12_knownBy RX12 6 tX12_knownBy := ⟨by decide +kernel, wok_of [1612] (by decide +kernel) (by decide +kernel)⟩
set_option maxRecDepth 100000 in
set_option maxHeartbeats 4000000 in
theorem sX12_knownBy_4 {N : Nat} {X : XT} (G : GX X cX12_knownBy RX12) (hn : xnL X = 6) (hC : CRs X tX12_knownBy (oF [(mX12_hasKnown N)]) (oF []) (oF [])) {r : Int32 × Wd} (hr : RTI X cX12_knownBy r) (a1 : Int32) (a2 : Int32) (a3 : Int32) : ∀ (n : Nat) (v4 : Int32) (v5 : Int32) (w : Wd), fX12_knownBy_4 N a1 a2 a3 n v4 v5 w = some r → WW X (pcAt tX12_knownBy 4) [some (.inr (.inr (16, 0))), some (.inl a1), some (.inl a2), some (.inl a3), some (.inl v4), some (.inl v5)] [] w := by
  intro n
  induction n with
  | zero => intro v4 v5 w h; cases h
  | succ n ih =>
    intro v4 v5 w h
    refine run_sound (r := r) (X := X) (cc := cX12_knownBy) (own := RX12) (tab := tX12_knownBy) G (by rw [hn]; exact kX12_knownBy) (oI := (oF [(mX12_hasKnown N)])) (oL := (oF [])) (oV := (oF [])) (rI := (fun x w => some (x, w))) (rL := (fun _ _ => none)) (rV := (fun _ => none))
      (K := (fun j ls st w => if j = 4 then (lgI ls 4 fun v4 => lgI ls 5 fun v5 => st0 st (callW (fX12_knownBy_4 N a1 a2 a3 n v4 v5) w)) else none)) (fun x w pc ls hx hd => hr x w pc ls (Option.some.inj hx) hd) (fun _ _ _ _ hx => by cases hx) (fun _ _ _ hx => by cases hx) hC (fun ls => lsb [some (.inr (.inr (16, 0))), some (.inl a1), some (.inl a2), some (.inl a3), none, none] 0 ls) (keepsP_of rfl) ?_ 29 4 [some (.inr (.inr (16, 0))), some (.inl a1), some (.inl a2), some (.inl a3), some (.inl v4), some (.inl v5)] [] w ?_ h
    · intro j ls st w hfx h
      obtain ⟨e0, e1, e2, e3, -⟩ : _ = _ ∧ _ = _ ∧ _ = _ ∧ _ = _ ∧ True := hfx
      try dsimp only at h
      by_cases hj : j = 4
      · subst hj
        rw [if_pos rfl] at h
        obtain ⟨v4, e4, h_1⟩ := lgI_some h
        obtain ⟨v5, e5, h_2⟩ := lgI_some h_1
        obtain ⟨rfl, h_3⟩ := st0_some h_2
        clear h h_1 h_2
        have h := h_3
        try rw [callW_eq] at h
        exact WW.le (a := [some (.inr (.inr (16, 0))), some (.inl a1), some (.inl a2), some (.inl a3), some (.inl v4), some (.inl v5)]) (by rw [hn]; rfl) (show _ = _ ∧ _ = _ ∧ _ = _ ∧ _ = _ ∧ _ = _ ∧ _ = _ ∧ True from ⟨e0, e1, e2, e3, e4, e5, trivial⟩) (ih v4 v5 w h)
      rw [if_neg hj] at h
      cases h
    · exact (show _ = _ ∧ _ = _ ∧ _ = _ ∧ _ = _ ∧ True from ⟨rfl, rfl, rfl, rfl, trivial⟩)
set_option maxRecDepth 100000 in
set_option maxHeartbeats 4000000 in
theorem crX12_knownBy {N : Nat} {X : XT} (G : GX X cX12_knownBy RX12) (hR : xR X = rmL 3) : CRs X tX12_knownBy (oF [(mX12_hasKnown N)]) (oF []) (oF []) := by
  have hl : tX12_knownBy.filter isInv = [(23, .invokevirtual 459, 0, 0, 5, 0, 0, [])] := rfl
  intro e he
  rw [hl] at he
  simp only [List.mem_cons, List.not_mem_nil, or_false] at he
  rcases he with rfl
  · exact crI_V (idx := 459) G (by decide +kernel) (MX12_hasKnown N) (cw_of (ps := [2096, 2098, 110, 164, 2099]) (by decide +kernel) (by decide +kernel)) ⟨by decide +kernel, by decide +kernel, by decide +kernel⟩ (by unfold rmOk; rw [hR]; exact ⟨by decide, by decide⟩)
set_option maxRecDepth 100000 in
set_option maxHeartbeats 4000000 in
theorem MX12_knownBy (N : Nat) : SndI yX12_knownBy cX12_knownBy 6 (some .int) 3 4 true (mX12_knownBy N) := by
  refine SndI.of tX12_knownBy (by decide +kernel) rfl rfl ?_ ?_
  · intro as w x h
    obtain ⟨t1, rfl, h_1⟩ := xS1_some h
    obtain ⟨a1, t2, rfl, h_2⟩ := xI1_some h_1
    obtain ⟨a2, t3, rfl, h_3⟩ := xI1_some h_2
    obtain ⟨a3, t4, rfl, h_4⟩ := xI1_some h_3
    obtain ⟨rfl, h_5⟩ := xN1_some h_4
    clear h h_1 h_2 h_3 h_4
    have h := h_5
    rw [callW_eq] at h
    exact ⟨fun _ => ⟨_, _, _, rfl, rfl, _, rfl, rfl⟩, rfl, Nat.le_of_ble_eq_true rfl⟩
  · intro X G hn hR as w r h hr
    have hC := crX12_knownBy (N := N) G hR
    obtain ⟨t1, rfl, h_1⟩ := xS1_some h
    obtain ⟨a1, t2, rfl, h_2⟩ := xI1_some h_1
    obtain ⟨a2, t3, rfl, h_3⟩ := xI1_some h_2
    obtain ⟨a3, t4, rfl, h_4⟩ := xI1_some h_3
    obtain ⟨rfl, h_5⟩ := xN1_some h_4
    clear h h_1 h_2 h_3 h_4
    have h := h_5
    rw [callW_eq] at h
    refine run_sound (r := r) (X := X) (cc := cX12_knownBy) (own := RX12) (tab := tX12_knownBy) G (by rw [hn]; exact kX12_knownBy) (oI := (oF [(mX12_hasKnown N)])) (oL := (oF [])) (oV := (oF [])) (rI := (fun x w => some (x, w))) (rL := (fun _ _ => none)) (rV := (fun _ => none))
      (K := (fun j ls st w => if j = 4 then (lgI ls 4 fun v4 => lgI ls 5 fun v5 => st0 st (callW (fX12_knownBy_4 N a1 a2 a3 N v4 v5) w)) else none)) (fun x w pc ls hx hd => hr x w pc ls (Option.some.inj hx) hd) (fun _ _ _ _ hx => by cases hx) (fun _ _ _ hx => by cases hx) hC (fun ls => lsb [some (.inr (.inr (16, 0))), some (.inl a1), some (.inl a2), some (.inl a3), none, none] 0 ls) (keepsP_of rfl) ?_ 29 0 [some (.inr (.inr (16, 0))), some (.inl a1), some (.inl a2), some (.inl a3), none, none] [] w ?_ h
    · intro j ls st w hfx h
      obtain ⟨e0, e1, e2, e3, -⟩ : _ = _ ∧ _ = _ ∧ _ = _ ∧ _ = _ ∧ True := hfx
      try dsimp only at h
      by_cases hj : j = 4
      · subst hj
        rw [if_pos rfl] at h
        obtain ⟨v4, e4, h_1⟩ := lgI_some h
        obtain ⟨v5, e5, h_2⟩ := lgI_some h_1
        obtain ⟨rfl, h_3⟩ := st0_some h_2
        clear h h_1 h_2
        have h := h_3
        try rw [callW_eq] at h
        exact WW.le (a := [some (.inr (.inr (16, 0))), some (.inl a1), some (.inl a2), some (.inl a3), some (.inl v4), some (.inl v5)]) (by rw [hn]; rfl) (show _ = _ ∧ _ = _ ∧ _ = _ ∧ _ = _ ∧ _ = _ ∧ _ = _ ∧ True from ⟨e0, e1, e2, e3, e4, e5, trivial⟩) (sX12_knownBy_4 G hn hC hr a1 a2 a3 N v4 v5 w h)
      rw [if_neg hj] at h
      cases h
    · exact (show _ = _ ∧ _ = _ ∧ _ = _ ∧ _ = _ ∧ True from ⟨rfl, rfl, rfl, rfl, trivial⟩)
-- MoorGuidesModel.isPerson(I)Z
def tX12_isPerson : List EN := [
  (0, .iload_n 1, 0, 0, 0, 0, 0, []), (1, .ifCond .lt 15, 0, 8, 0, 0, 0, []), (4, .iload_n 1, 0, 0, 0, 0, 0, []), (5, .aload_n 0, 0, 0, 0, 0, 0, []),
  (6, .getfield 298, 0, 12, 13, 0, 0, []), (9, .if_icmp .ge 7, 0, 8, 0, 0, 0, []), (12, .iconst 1, 0, 0, 0, 1, 0, []), (13, .goto 4, 0, 9, 0, 0, 0, []),
  (16, .iconst 0, 0, 0, 0, 0, 0, []), (17, .ireturn, 0, 0, 0, 0, 0, [])]
noncomputable def pX12_isPerson (N : Nat) (a1 : Int32) (w : Wd) : Option (Int32 × Wd) :=
  if a1 < 0 then some ((0 : Int32), w) else
  if a1 < (gI w 16 0 13) then some ((1 : Int32), w) else
  some ((0 : Int32), w)
noncomputable def mX12_isPerson (N : Nat) (as : List AV) (w : Wd) : Option (Int32 × Wd) := xS1 16 as fun t => xI1 t fun a1 t => xN1 t (callW (pX12_isPerson N a1) w)
set_option maxRecDepth 100000 in
set_option maxHeartbeats 4000000 in
theorem kX12_isPerson : TK cX12_isPerson RX12 2 tX12_isPerson := ⟨by decide +kernel, wok_of [1613] (by decide +kernel) (by decide +kernel)⟩
set_option maxRecDepth 100000 in
set_option maxHeartbeats 4000000 in
theorem crX12_isPerson {N : Nat} {X : XT} (G : GX X cX12_isPerson RX12) (hR : xR X = rmL 1) : CRs X tX12_isPerson (oF []) (oF []) (oF []) := by
  have hl : tX12_isPerson.filter isInv = [] := rfl
  intro e he
  rw [hl] at he
  cases he
set_option maxRecDepth 100000 in
set_option maxHeartbeats 4000000 in
theorem MX12_isPerson (N : Nat) : SndI yX12_isPerson cX12_isPerson 2 (some .boolean) 1 2 true (mX12_isPerson N) := by
  refine SndI.ofZ tX12_isPerson (by decide +kernel) rfl rfl ?_ ?_
  · intro as w x h
    obtain ⟨t1, rfl, h_1⟩ := xS1_some h
    obtain ⟨a1, t2, rfl, h_2⟩ := xI1_some h_1
    obtain ⟨rfl, h_3⟩ := xN1_some h_2
    clear h h_1 h_2
    have h := h_3
    rw [callW_eq] at h
    exact ⟨fun _ => ⟨_, _, _, rfl, rfl, _, rfl, rfl⟩, rfl, Nat.le_of_ble_eq_true rfl⟩
  · intro X G hn hR as w r h hr
    have hC := crX12_isPerson (N := N) G hR
    obtain ⟨t1, rfl, h_1⟩ := xS1_some h
    obtain ⟨a1, t2, rfl, h_2⟩ := xI1_some h_1
    obtain ⟨rfl, h_3⟩ := xN1_some h_2
    clear h h_1 h_2
    have h := h_3
    rw [callW_eq] at h
    refine run_sound (r := r) (X := X) (cc := cX12_isPerson) (own := RX12) (tab := tX12_isPerson) G (by rw [hn]; exact kX12_isPerson) (oI := (oF [])) (oL := (oF [])) (oV := (oF [])) (rI := retZ) (rL := (fun _ _ => none)) (rV := (fun _ => none))
      (K := (fun j ls st w => none)) hr (fun _ _ _ _ hx => by cases hx) (fun _ _ _ hx => by cases hx) hC (fun ls => lsb [some (.inr (.inr (16, 0))), some (.inl a1)] 0 ls) (keepsP_of rfl) ?_ 12 0 [some (.inr (.inr (16, 0))), some (.inl a1)] [] w ?_ h
    · intro j ls st w hfx h
      obtain ⟨e0, e1, -⟩ : _ = _ ∧ _ = _ ∧ True := hfx
      try dsimp only at h
      cases h
    · exact (show _ = _ ∧ _ = _ ∧ True from ⟨rfl, rfl, trivial⟩)
-- MoorGuidesModel.isPart(I)Z
def tX12_isPart : List EN := [
  (0, .iload_n 1, 0, 0, 0, 0, 0, []), (1, .ifCond .lt 15, 0, 8, 0, 0, 0, []), (4, .iload_n 1, 0, 0, 0, 0, 0, []), (5, .aload_n 0, 0, 0, 0, 0, 0, []),
  (6, .getfield 295, 0, 12, 12, 0, 0, []), (9, .if_icmp .ge 7, 0, 8, 0, 0, 0, []), (12, .iconst 1, 0, 0, 0, 1, 0, []), (13, .goto 4, 0, 9, 0, 0, 0, []),
  (16, .iconst 0, 0, 0, 0, 0, 0, []), (17, .ireturn, 0, 0, 0, 0, 0, [])]
noncomputable def pX12_isPart (N : Nat) (a1 : Int32) (w : Wd) : Option (Int32 × Wd) :=
  if a1 < 0 then some ((0 : Int32), w) else
  if a1 < (gI w 16 0 12) then some ((1 : Int32), w) else
  some ((0 : Int32), w)
noncomputable def mX12_isPart (N : Nat) (as : List AV) (w : Wd) : Option (Int32 × Wd) := xS1 16 as fun t => xI1 t fun a1 t => xN1 t (callW (pX12_isPart N a1) w)
set_option maxRecDepth 100000 in
set_option maxHeartbeats 4000000 in
theorem kX12_isPart : TK cX12_isPart RX12 2 tX12_isPart := ⟨by decide +kernel, wok_of [1612] (by decide +kernel) (by decide +kernel)⟩
set_option maxRecDepth 100000 in
set_option maxHeartbeats 4000000 in
theorem crX12_isPart {N : Nat} {X : XT} (G : GX X cX12_isPart RX12) (hR : xR X = rmL 1) : CRs X tX12_isPart (oF []) (oF []) (oF []) := by
  have hl : tX12_isPart.filter isInv = [] := rfl
  intro e he
  rw [hl] at he
  cases he
set_option maxRecDepth 100000 in
set_option maxHeartbeats 4000000 in
theorem MX12_isPart (N : Nat) : SndI yX12_isPart cX12_isPart 2 (some .boolean) 1 2 true (mX12_isPart N) := by
  refine SndI.ofZ tX12_isPart (by decide +kernel) rfl rfl ?_ ?_
  · intro as w x h
    obtain ⟨t1, rfl, h_1⟩ := xS1_some h
    obtain ⟨a1, t2, rfl, h_2⟩ := xI1_some h_1
    obtain ⟨rfl, h_3⟩ := xN1_some h_2
    clear h h_1 h_2
    have h := h_3
    rw [callW_eq] at h
    exact ⟨fun _ => ⟨_, _, _, rfl, rfl, _, rfl, rfl⟩, rfl, Nat.le_of_ble_eq_true rfl⟩
  · intro X G hn hR as w r h hr
    have hC := crX12_isPart (N := N) G hR
    obtain ⟨t1, rfl, h_1⟩ := xS1_some h
    obtain ⟨a1, t2, rfl, h_2⟩ := xI1_some h_1
    obtain ⟨rfl, h_3⟩ := xN1_some h_2
    clear h h_1 h_2
    have h := h_3
    rw [callW_eq] at h
    refine run_sound (r := r) (X := X) (cc := cX12_isPart) (own := RX12) (tab := tX12_isPart) G (by rw [hn]; exact kX12_isPart) (oI := (oF [])) (oL := (oF [])) (oV := (oF [])) (rI := retZ) (rL := (fun _ _ => none)) (rV := (fun _ => none))
      (K := (fun j ls st w => none)) hr (fun _ _ _ _ hx => by cases hx) (fun _ _ _ hx => by cases hx) hC (fun ls => lsb [some (.inr (.inr (16, 0))), some (.inl a1)] 0 ls) (keepsP_of rfl) ?_ 12 0 [some (.inr (.inr (16, 0))), some (.inl a1)] [] w ?_ h
    · intro j ls st w hfx h
      obtain ⟨e0, e1, -⟩ : _ = _ ∧ _ = _ ∧ True := hfx
      try dsimp only at h
      cases h
    · exact (show _ = _ ∧ _ = _ ∧ True from ⟨rfl, rfl, trivial⟩)
-- MoorGuidesModel.isParty(I)Z
def tX12_isParty : List EN := [
  (0, .iload_n 1, 0, 0, 0, 0, 0, []), (1, .ifCond .lt 15, 0, 8, 0, 0, 0, []), (4, .iload_n 1, 0, 0, 0, 0, 0, []), (5, .aload_n 0, 0, 0, 0, 0, 0, []),
  (6, .getfield 301, 0, 12, 14, 0, 0, []), (9, .if_icmp .ge 7, 0, 8, 0, 0, 0, []), (12, .iconst 1, 0, 0, 0, 1, 0, []), (13, .goto 4, 0, 9, 0, 0, 0, []),
  (16, .iconst 0, 0, 0, 0, 0, 0, []), (17, .ireturn, 0, 0, 0, 0, 0, [])]
noncomputable def pX12_isParty (N : Nat) (a1 : Int32) (w : Wd) : Option (Int32 × Wd) :=
  if a1 < 0 then some ((0 : Int32), w) else
  if a1 < (gI w 16 0 14) then some ((1 : Int32), w) else
  some ((0 : Int32), w)
noncomputable def mX12_isParty (N : Nat) (as : List AV) (w : Wd) : Option (Int32 × Wd) := xS1 16 as fun t => xI1 t fun a1 t => xN1 t (callW (pX12_isParty N a1) w)
set_option maxRecDepth 100000 in
set_option maxHeartbeats 4000000 in
theorem kX12_isParty : TK cX12_isParty RX12 2 tX12_isParty := ⟨by decide +kernel, wok_of [1614] (by decide +kernel) (by decide +kernel)⟩
set_option maxRecDepth 100000 in
set_option maxHeartbeats 4000000 in
theorem crX12_isParty {N : Nat} {X : XT} (G : GX X cX12_isParty RX12) (hR : xR X = rmL 1) : CRs X tX12_isParty (oF []) (oF []) (oF []) := by
  have hl : tX12_isParty.filter isInv = [] := rfl
  intro e he
  rw [hl] at he
  cases he
set_option maxRecDepth 100000 in
set_option maxHeartbeats 4000000 in
theorem MX12_isParty (N : Nat) : SndI yX12_isParty cX12_isParty 2 (some .boolean) 1 2 true (mX12_isParty N) := by
  refine SndI.ofZ tX12_isParty (by decide +kernel) rfl rfl ?_ ?_
  · intro as w x h
    obtain ⟨t1, rfl, h_1⟩ := xS1_some h
    obtain ⟨a1, t2, rfl, h_2⟩ := xI1_some h_1
    obtain ⟨rfl, h_3⟩ := xN1_some h_2
    clear h h_1 h_2
    have h := h_3
    rw [callW_eq] at h
    exact ⟨fun _ => ⟨_, _, _, rfl, rfl, _, rfl, rfl⟩, rfl, Nat.le_of_ble_eq_true rfl⟩
  · intro X G hn hR as w r h hr
    have hC := crX12_isParty (N := N) G hR
    obtain ⟨t1, rfl, h_1⟩ := xS1_some h
    obtain ⟨a1, t2, rfl, h_2⟩ := xI1_some h_1
    obtain ⟨rfl, h_3⟩ := xN1_some h_2
    clear h h_1 h_2
    have h := h_3
    rw [callW_eq] at h
    refine run_sound (r := r) (X := X) (cc := cX12_isParty) (own := RX12) (tab := tX12_isParty) G (by rw [hn]; exact kX12_isParty) (oI := (oF [])) (oL := (oF [])) (oV := (oF [])) (rI := retZ) (rL := (fun _ _ => none)) (rV := (fun _ => none))
      (K := (fun j ls st w => none)) hr (fun _ _ _ _ hx => by cases hx) (fun _ _ _ hx => by cases hx) hC (fun ls => lsb [some (.inr (.inr (16, 0))), some (.inl a1)] 0 ls) (keepsP_of rfl) ?_ 12 0 [some (.inr (.inr (16, 0))), some (.inl a1)] [] w ?_ h
    · intro j ls st w hfx h
      obtain ⟨e0, e1, -⟩ : _ = _ ∧ _ = _ ∧ True := hfx
      try dsimp only at h
      cases h
    · exact (show _ = _ ∧ _ = _ ∧ True from ⟨rfl, rfl, trivial⟩)
-- MoorGuidesModel.isNight(I)Z
def tX12_isNight : List EN := [
  (0, .iload_n 0, 0, 0, 0, 0, 0, []), (1, .iconst 0, 0, 0, 0, 0, 0, []), (2, .sipush 999, 0, 0, 0, 999, 0, []), (5, .invokestatic 241, 0, 0, 3, 0, 0, []),
  (8, .ireturn, 0, 0, 0, 0, 0, [])]
noncomputable def pX12_isNight (N : Nat) (a0 : Int32) (w : Wd) : Option (Int32 × Wd) :=
  (callW (pX12_isIn N a0 (0 : Int32) (999 : Int32)) w).bind fun r1 =>
  retZ r1.1 r1.2
noncomputable def mX12_isNight (N : Nat) (as : List AV) (w : Wd) : Option (Int32 × Wd) := xI1 as fun a0 t => xN1 t (callW (pX12_isNight N a0) w)
set_option maxRecDepth 100000 in
set_option maxHeartbeats 4000000 in
theorem kX12_isNight : TK cX12_isNight RX12 1 tX12_isNight := ⟨by decide +kernel, wok_of [] (by decide +kernel) (by decide +kernel)⟩
set_option maxRecDepth 100000 in
set_option maxHeartbeats 4000000 in
theorem crX12_isNight {N : Nat} {X : XT} (G : GX X cX12_isNight RX12) (hR : xR X = rmL 2) : CRs X tX12_isNight (oF [(mX12_isIn N)]) (oF []) (oF []) := by
  have hl : tX12_isNight.filter isInv = [(5, .invokestatic 241, 0, 0, 3, 0, 0, [])] := rfl
  intro e he
  rw [hl] at he
  simp only [List.mem_cons, List.not_mem_nil, or_false] at he
  rcases he with rfl
  · exact crI_S (idx := 241) G (by decide +kernel) (MX12_isIn N) (cw_of (ps := [1986, 1987, 164, 1988]) (by decide +kernel) (by decide +kernel)) ⟨by decide +kernel, by decide +kernel, by decide +kernel⟩ (by unfold rmOk; rw [hR]; exact ⟨by decide, by decide⟩)
set_option maxRecDepth 100000 in
set_option maxHeartbeats 4000000 in
theorem MX12_isNight (N : Nat) : SndI yX12_isNight cX12_isNight 1 (some .boolean) 2 1 false (mX12_isNight N) := by
  refine SndI.ofZ tX12_isNight (by decide +kernel) rfl rfl ?_ ?_
  · intro as w x h
    obtain ⟨a0, t1, rfl, h_1⟩ := xI1_some h
    obtain ⟨rfl, h_2⟩ := xN1_some h_1
    clear h h_1
    have h := h_2
    rw [callW_eq] at h
    exact ⟨(fun z => by cases z), rfl, Nat.le_of_ble_eq_true rfl⟩
  · intro X G hn hR as w r h hr
    have hC := crX12_isNight (N := N) G hR
    obtain ⟨a0, t1, rfl, h_1⟩ := xI1_some h
    obtain ⟨rfl, h_2⟩ := xN1_some h_1
    clear h h_1
    have h := h_2
    rw [callW_eq] at h
    refine run_sound (r := r) (X := X) (cc := cX12_isNight) (own := RX12) (tab := tX12_isNight) G (by rw [hn]; exact kX12_isNight) (oI := (oF [(mX12_isIn N)])) (oL := (oF [])) (oV := (oF [])) (rI := retZ) (rL := (fun _ _ => none)) (rV := (fun _ => none))
      (K := (fun j ls st w => none)) hr (fun _ _ _ _ hx => by cases hx) (fun _ _ _ hx => by cases hx) hC (fun ls => lsb [some (.inl a0)] 0 ls) (keepsP_of rfl) ?_ 7 0 [some (.inl a0)] [] w ?_ h
    · intro j ls st w hfx h
      obtain ⟨e0, -⟩ : _ = _ ∧ True := hfx
      try dsimp only at h
      cases h
    · exact (show _ = _ ∧ True from ⟨rfl, trivial⟩)
-- MoorGuidesModel.fails(I)I
def tX12_fails : List EN := [
  (0, .aload_n 0, 0, 0, 0, 0, 0, []), (1, .iload_n 1, 0, 0, 0, 0, 0, []), (2, .putfield 196, 0, 12, 2, 0, 0, []), (5, .iconst 0, 0, 0, 0, 0, 0, []),
  (6, .ireturn, 0, 0, 0, 0, 0, [])]
noncomputable def pX12_fails (N : Nat) (a1 : Int32) (w : Wd) : Option (Int32 × Wd) :=
  some ((0 : Int32), (setI w 16 0 2 a1))
noncomputable def mX12_fails (N : Nat) (as : List AV) (w : Wd) : Option (Int32 × Wd) := xS1 16 as fun t => xI1 t fun a1 t => xN1 t (callW (pX12_fails N a1) w)
set_option maxRecDepth 100000 in
set_option maxHeartbeats 4000000 in
theorem kX12_fails : TK cX12_fails RX12 2 tX12_fails := ⟨by decide +kernel, wok_of [1602] (by decide +kernel) (by decide +kernel)⟩
set_option maxRecDepth 100000 in
set_option maxHeartbeats 4000000 in
theorem crX12_fails {N : Nat} {X : XT} (G : GX X cX12_fails RX12) (hR : xR X = rmL 1) : CRs X tX12_fails (oF []) (oF []) (oF []) := by
  have hl : tX12_fails.filter isInv = [] := rfl
  intro e he
  rw [hl] at he
  cases he
set_option maxRecDepth 100000 in
set_option maxHeartbeats 4000000 in
theorem MX12_fails (N : Nat) : SndI yX12_fails cX12_fails 2 (some .int) 1 2 true (mX12_fails N) := by
  refine SndI.of tX12_fails (by decide +kernel) rfl rfl ?_ ?_
  · intro as w x h
    obtain ⟨t1, rfl, h_1⟩ := xS1_some h
    obtain ⟨a1, t2, rfl, h_2⟩ := xI1_some h_1
    obtain ⟨rfl, h_3⟩ := xN1_some h_2
    clear h h_1 h_2
    have h := h_3
    rw [callW_eq] at h
    exact ⟨fun _ => ⟨_, _, _, rfl, rfl, _, rfl, rfl⟩, rfl, Nat.le_of_ble_eq_true rfl⟩
  · intro X G hn hR as w r h hr
    have hC := crX12_fails (N := N) G hR
    obtain ⟨t1, rfl, h_1⟩ := xS1_some h
    obtain ⟨a1, t2, rfl, h_2⟩ := xI1_some h_1
    obtain ⟨rfl, h_3⟩ := xN1_some h_2
    clear h h_1 h_2
    have h := h_3
    rw [callW_eq] at h
    refine run_sound (r := r) (X := X) (cc := cX12_fails) (own := RX12) (tab := tX12_fails) G (by rw [hn]; exact kX12_fails) (oI := (oF [])) (oL := (oF [])) (oV := (oF [])) (rI := (fun x w => some (x, w))) (rL := (fun _ _ => none)) (rV := (fun _ => none))
      (K := (fun j ls st w => none)) (fun x w pc ls hx hd => hr x w pc ls (Option.some.inj hx) hd) (fun _ _ _ _ hx => by cases hx) (fun _ _ _ hx => by cases hx) hC (fun ls => lsb [some (.inr (.inr (16, 0))), some (.inl a1)] 0 ls) (keepsP_of rfl) ?_ 7 0 [some (.inr (.inr (16, 0))), some (.inl a1)] [] w ?_ h
    · intro j ls st w hfx h
      obtain ⟨e0, e1, -⟩ : _ = _ ∧ _ = _ ∧ True := hfx
      try dsimp only at h
      cases h
    · exact (show _ = _ ∧ _ = _ ∧ True from ⟨rfl, rfl, trivial⟩)

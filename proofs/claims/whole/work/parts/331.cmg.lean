/-! ===== constructors: MoorGuides ===== -/
-- MoorGuides
def tC11 (i : Nat) : List CE := [
  (0, .aload_n 0, 0, 0, 0), (1, .invokespecial 1, 0, 1, 0), (4, .aload_n 0, 0, 0, 0), (5, .sipush 900, 0, 0, 900), (8, .newarray .byte, 3, 0, 0), (10, .putfield 9, 11, 0, 0),
  (13, .aload_n 0, 0, 0, 0), (14, .new 13, 8, 0, 0), (17, .dup, 0, 0, 0), (18, .invokespecial 15, 5, 1, 0), (21, .putfield 16, 11, 2, 0), (24, .aload_n 0, 0, 0, 0),
  (25, .new 13, 8, 1, 0), (28, .dup, 0, 0, 0), (29, .invokespecial 15, 5, 1, 0), (32, .putfield 20, 11, 3, 0), (35, .aload_n 0, 0, 0, 0), (36, .new 23, 11, 0, 0),
  (39, .dup, 0, 0, 0), (40, .aload_n 0, 0, 0, 0), (41, .getfield 20, 11, 3, 0), (44, .invokespecial 25, 8, 2, 0), (47, .putfield 28, 11, 4, 0), (50, .aload_n 0, 0, 0, 0),
  (51, .new 32, 13, 0, 0), (54, .dup, 0, 0, 0), (55, .aload_n 0, 0, 0, 0), (56, .getfield 16, 11, 2, 0), (59, .invokespecial 34, 10, 2, 0), (62, .putfield 35, 11, 5, 0),
  (65, .aload_n 0, 0, 0, 0), (66, .new 32, 13, 1, 0), (69, .dup, 0, 0, 0), (70, .aload_n 0, 0, 0, 0), (71, .getfield 16, 11, 2, 0), (74, .invokespecial 34, 10, 2, 0),
  (77, .putfield 39, 11, 6, 0), (80, .aload_n 0, 0, 0, 0), (81, .bipush 20, 0, 0, 20), (83, .newarray .int, 71, 0, 0), (85, .putfield 42, 11, 9, 0), (88, .aload_n 0, 0, 0, 0),
  (89, .bipush 20, 0, 0, 20), (91, .newarray .int, 72, 0, 0), (93, .putfield 46, 11, 10, 0), (96, .aload_n 0, 0, 0, 0), (97, .new 49, 6, 0, 0), (100, .dup, 0, 0, 0),
  (101, .aload_n 0, 0, 0, 0), (102, .getfield 35, 11, 5, 0), (105, .invokespecial 51, 3, 2, 0), (108, .putfield 54, 11, 11, 0), (111, .aload_n 0, 0, 0, 0), (112, .new 58, 12, 0, 0),
  (115, .dup, 0, 0, 0), (116, .aload_n 0, 0, 0, 0), (117, .getfield 35, 11, 5, 0), (120, .invokespecial 60, 9, 2, 0), (123, .putfield 61, 11, 12, 0), (126, .aload_n 0, 0, 0, 0),
  (127, .new 65, 9, 0, 0), (130, .dup, 0, 0, 0), (131, .aload_n 0, 0, 0, 0), (132, .getfield 35, 11, 5, 0), (135, .invokespecial 67, 6, 2, 0), (138, .putfield 68, 11, 13, 0),
  (141, .aload_n 0, 0, 0, 0), (142, .new 72, 7, 0, 0), (145, .dup, 0, 0, 0), (146, .aload_n 0, 0, 0, 0), (147, .getfield 16, 11, 2, 0), (150, .invokespecial 74, 4, 2, 0),
  (153, .putfield 75, 11, 14, 0), (156, .aload_n 0, 0, 0, 0), (157, .new 79, 4, 0, 0), (160, .dup, 0, 0, 0), (161, .invokespecial 81, 1, 1, 0), (164, .putfield 82, 11, 15, 0),
  (167, .return_, 0, 0, 0)]
def oX11 (as : List AV) (n : Nat) : List AV → CS → Option (CS × List WO) := match n with
  | 5 => oN Lc 149 6665 (xt0 as) 8 1 0 23 383 sb1 xt0 rX4
  | 8 => oN Lc 149 6665 (xt0 as) 11 2 1 7 2810 sb1 xt1 rX7
  | 10 => oN Lc 149 6665 (xt0 as) 13 2 1 12 114 sbM xt0 rX9
  | 3 => oN Lc 149 6665 (xt0 as) 6 2 1 14 94 sb1 xt1 rX2
  | 9 => oN Lc 149 6665 (xt0 as) 12 2 1 13 609 sb1 xt1 rX8
  | 6 => oN Lc 149 6665 (xt0 as) 9 2 1 15 936 sb1 xt1 rX5
  | 4 => oN Lc 149 6665 (xt0 as) 7 2 1 13 125 sbM xt0 rX3
  | 1 => oN Lc 149 6665 (xt0 as) 4 1 0 4 48 sb1 xt0 rX0
  | _ => fun _ _ => none
def rX11 : List AV → CS → Option (CS × List WO) := rTab oX11 149 6665 1 xt0 tC11
theorem tC11_ok (i : Nat) : ctok cX11_init RX11 (tC11 i) = true := by
  show ctok cX11_init RX11 (tC11 0) = true
  decide +kernel
theorem tC11_w (i : Nat) : ∀ e ∈ tC11 i, ∀ x ∈ cwd RX11 e, x ∈ lwg := by
  have h : (tC11 i).flatMap (cwd RX11) = (tC11 0).flatMap (cwd RX11) := rfl
  have h1 : ((tC11 0).flatMap (cwd RX11)).all (fun x => lw_tbl.contains x && goodWord x) = true := by decide +kernel
  intro e he x hx
  exact wds_of h1 x (by rw [← h]; exact List.mem_flatMap.mpr ⟨e, he, hx⟩)
theorem RSX11 (N : Nat) : RS (Fc N) yX11_init cX11_init 1 8 149 6665 15 0 xt0 rX11 := by
  refine RS_run (lev := 7) (by decide +kernel) rfl (fun i => ⟨_, _, rfl, rfl⟩) tC11_ok tC11_w (fun i t X G hmc hms hR e he => ?_)
  have hl : (tC11 i).filter cCall = [(18, .invokespecial 15, 5, 1, 0), (29, .invokespecial 15, 5, 1, 0), (44, .invokespecial 25, 8, 2, 0), (59, .invokespecial 34, 10, 2, 0), (74, .invokespecial 34, 10, 2, 0), (105, .invokespecial 51, 3, 2, 0), (120, .invokespecial 60, 9, 2, 0), (135, .invokespecial 67, 6, 2, 0), (150, .invokespecial 74, 4, 2, 0), (161, .invokespecial 81, 1, 1, 0)] := rfl
  rw [hl] at he
  simp only [List.mem_cons, List.not_mem_nil, or_false] at he
  rcases he with rfl | rfl | rfl | rfl | rfl | rfl | rfl | rfl | rfl | rfl
  · exact crc_N (nest := true) (idx := 15) (y := yX4_init) G (Fc_ag N) hmc hms (by decide +kernel) (cw_of (ps := [184, 149, 185]) (by decide +kernel) (by decide +kernel)) (fun z => List.mem_of_getElem? (i := 0) rfl) rfl ⟨by decide +kernel, by decide +kernel, by decide +kernel⟩ (by rw [hR]; exact ⟨by decide, by decide⟩) (RSX4 N)
  · exact crc_N (nest := true) (idx := 15) (y := yX4_init) G (Fc_ag N) hmc hms (by decide +kernel) (cw_of (ps := [184, 149, 185]) (by decide +kernel) (by decide +kernel)) (fun z => List.mem_of_getElem? (i := 0) rfl) rfl ⟨by decide +kernel, by decide +kernel, by decide +kernel⟩ (by rw [hR]; exact ⟨by decide, by decide⟩) (RSX4 N)
  · exact crc_N (nest := false) (idx := 25) (y := yX7_init) G (Fc_ag N) hmc hms (by decide +kernel) (cw_of (ps := [370, 371, 152, 372]) (by decide +kernel) (by decide +kernel)) (fun z => by cases z) rfl ⟨by decide +kernel, by decide +kernel, by decide +kernel⟩ (by rw [hR]; exact ⟨by decide, by decide⟩) (RSX7 N)
  · exact crc_N (nest := false) (idx := 34) (y := yX9_init) G (Fc_ag N) hmc hms (by decide +kernel) (cw_of (ps := [502, 503, 158, 504]) (by decide +kernel) (by decide +kernel)) (fun z => by cases z) rfl ⟨by decide +kernel, by decide +kernel, by decide +kernel⟩ (by rw [hR]; exact ⟨by decide, by decide⟩) (RSX9 N)
  · exact crc_N (nest := false) (idx := 34) (y := yX9_init) G (Fc_ag N) hmc hms (by decide +kernel) (cw_of (ps := [502, 503, 158, 504]) (by decide +kernel) (by decide +kernel)) (fun z => by cases z) rfl ⟨by decide +kernel, by decide +kernel, by decide +kernel⟩ (by rw [hR]; exact ⟨by decide, by decide⟩) (RSX9 N)
  · exact crc_N (nest := false) (idx := 51) (y := yX2_init) G (Fc_ag N) hmc hms (by decide +kernel) (cw_of (ps := [568, 569, 159, 570]) (by decide +kernel) (by decide +kernel)) (fun z => by cases z) rfl ⟨by decide +kernel, by decide +kernel, by decide +kernel⟩ (by rw [hR]; exact ⟨by decide, by decide⟩) (RSX2 N)
  · exact crc_N (nest := false) (idx := 60) (y := yX8_init) G (Fc_ag N) hmc hms (by decide +kernel) (cw_of (ps := [607, 608, 160, 609]) (by decide +kernel) (by decide +kernel)) (fun z => by cases z) rfl ⟨by decide +kernel, by decide +kernel, by decide +kernel⟩ (by rw [hR]; exact ⟨by decide, by decide⟩) (RSX8 N)
  · exact crc_N (nest := false) (idx := 67) (y := yX5_init) G (Fc_ag N) hmc hms (by decide +kernel) (cw_of (ps := [631, 632, 161, 633]) (by decide +kernel) (by decide +kernel)) (fun z => by cases z) rfl ⟨by decide +kernel, by decide +kernel, by decide +kernel⟩ (by rw [hR]; exact ⟨by decide, by decide⟩) (RSX5 N)
  · exact crc_N (nest := false) (idx := 74) (y := yX3_init) G (Fc_ag N) hmc hms (by decide +kernel) (cw_of (ps := [680, 681, 162, 682]) (by decide +kernel) (by decide +kernel)) (fun z => by cases z) rfl ⟨by decide +kernel, by decide +kernel, by decide +kernel⟩ (by rw [hR]; exact ⟨by decide, by decide⟩) (RSX3 N)
  · exact crc_N (nest := true) (idx := 81) (y := yX0_init) G (Fc_ag N) hmc hms (by decide +kernel) (cw_of (ps := [709, 163, 710]) (by decide +kernel) (by decide +kernel)) (fun z => List.mem_of_getElem? (i := 3) rfl) rfl ⟨by decide +kernel, by decide +kernel, by decide +kernel⟩ (by rw [hR]; exact ⟨by decide, by decide⟩) (RSX0 N)

/-! ===== constructors: tables and runs ===== -/
def sb1 (as : List AV) : List (Nat × Nat) := match as with
  | .inr (.inr c) :: _ => [c]
  | _ => []
/-- the cell, and a moor's cells -/
def sbM (as : List AV) : List (Nat × Nat) := match as with
  | .inr (.inr c) :: .inr (.inr d) :: _ => c :: moorC d.2
  | _ => []
def sbB (as : List AV) : List (Nat × Nat) := match as with
  | .inr (.inr c) :: _ => stdC c.2
  | _ => []
def xt0 (_ : List AV) : List (Nat × Nat) := []
def xt1 (as : List AV) : List (Nat × Nat) := match as with
  | _ :: .inr (.inr d) :: _ => [d]
  | _ => []
def oNo (_ : List AV) (_ : Nat) (_ : List AV) (_ : CS) : Option (CS × List WO) := none
-- MoorGuides$Claims
def tC0 (i : Nat) : List CE := [
  (0, .aload_n 0, 0, 0, 0), (1, .invokespecial 3, 0, 1, 0), (4, .aload_n 0, 0, 0, 0), (5, .bipush 12, 0, 0, 12), (7, .newarray .int, 17, 0, 0), (9, .putfield 9, 0, 1, 0),
  (12, .aload_n 0, 0, 0, 0), (13, .bipush 12, 0, 0, 12), (15, .newarray .int, 18, 0, 0), (17, .putfield 15, 0, 2, 0), (20, .aload_n 0, 0, 0, 0), (21, .bipush 12, 0, 0, 12),
  (23, .newarray .int, 19, 0, 0), (25, .putfield 18, 0, 3, 0), (28, .aload_n 0, 0, 0, 0), (29, .bipush 12, 0, 0, 12), (31, .newarray .int, 20, 0, 0), (33, .putfield 21, 0, 4, 0),
  (36, .return_, 0, 0, 0)]
def rX0 : List AV → CS → Option (CS × List WO) := rTab oNo 4 48 1 xt0 tC0
theorem tC0_ok (i : Nat) : ctok cX0_init RX0 (tC0 i) = true := by
  show ctok cX0_init RX0 (tC0 0) = true
  decide +kernel
theorem tC0_w (i : Nat) : ∀ e ∈ tC0 i, ∀ x ∈ cwd RX0 e, x ∈ lwg := by
  have h : (tC0 i).flatMap (cwd RX0) = (tC0 0).flatMap (cwd RX0) := rfl
  have h1 : ((tC0 0).flatMap (cwd RX0)).all (fun x => lw_tbl.contains x && goodWord x) = true := by decide +kernel
  intro e he x hx
  exact wds_of h1 x (by rw [← h]; exact List.mem_flatMap.mpr ⟨e, he, hx⟩)
theorem RSX0 (N : Nat) : RS (Fc N) yX0_init cX0_init 1 1 4 48 4 0 xt0 rX0 := by
  refine RS_run (lev := 0) (by decide +kernel) rfl (fun i => ⟨_, _, rfl, rfl⟩) tC0_ok tC0_w (fun i t X G hmc hms hR e he => ?_)
  have hl : (tC0 i).filter cCall = [] := rfl
  rw [hl] at he
  cases he
-- MoorGuides$Law
def tC1 (i : Nat) : List CE := [
  (0, .aload_n 0, 0, 0, 0), (1, .invokespecial 5, 0, 1, 0), (4, .aload_n 0, 0, 0, 0), (5, .bipush 64, 0, 0, 64), (7, .newarray .int, 21, i, 0), (9, .putfield 11, 1, 0, 0),
  (12, .aload_n 0, 0, 0, 0), (13, .bipush 64, 0, 0, 64), (15, .newarray .long, 22, i, 0), (17, .putfield 17, 1, 1, 0), (20, .return_, 0, 0, 0)]
def rX1 : List AV → CS → Option (CS × List WO) := rTab oNo 2 128 1 xt0 tC1
theorem tC1_ok (i : Nat) : ctok cX1_init RX1 (tC1 i) = true := by
  show ctok cX1_init RX1 (tC1 0) = true
  decide +kernel
theorem tC1_w (i : Nat) : ∀ e ∈ tC1 i, ∀ x ∈ cwd RX1 e, x ∈ lwg := by
  have h : (tC1 i).flatMap (cwd RX1) = (tC1 0).flatMap (cwd RX1) := rfl
  have h1 : ((tC1 0).flatMap (cwd RX1)).all (fun x => lw_tbl.contains x && goodWord x) = true := by decide +kernel
  intro e he x hx
  exact wds_of h1 x (by rw [← h]; exact List.mem_flatMap.mpr ⟨e, he, hx⟩)
theorem RSX1 (N : Nat) : RS (Fc N) yX1_init cX1_init 1 1 2 128 5 0 xt0 rX1 := by
  refine RS_run (lev := 0) (by decide +kernel) rfl (fun i => ⟨_, _, rfl, rfl⟩) tC1_ok tC1_w (fun i t X G hmc hms hR e he => ?_)
  have hl : (tC1 i).filter cCall = [] := rfl
  rw [hl] at he
  cases he
-- MoorGuides$Leading
def tC2 (i : Nat) : List CE := [
  (0, .aload_n 0, 0, 0, 0), (1, .invokespecial 3, 0, 1, 0), (4, .aload_n 0, 0, 0, 0), (5, .bipush 6, 0, 0, 6), (7, .newarray .int, 23, 0, 0), (9, .putfield 9, 2, 1, 0),
  (12, .aload_n 0, 0, 0, 0), (13, .bipush 8, 0, 0, 8), (15, .bipush 6, 0, 0, 6), (17, .multianewarray 15 2, 24, 0, 0), (21, .putfield 17, 2, 2, 0), (24, .aload_n 0, 0, 0, 0),
  (25, .bipush 8, 0, 0, 8), (27, .newarray .int, 26, 0, 0), (29, .putfield 20, 2, 3, 0), (32, .aload_n 0, 0, 0, 0), (33, .bipush 8, 0, 0, 8), (35, .newarray .int, 27, 0, 0),
  (37, .putfield 23, 2, 4, 0), (40, .aload_n 0, 0, 0, 0), (41, .bipush 8, 0, 0, 8), (43, .newarray .int, 28, 0, 0), (45, .putfield 26, 2, 5, 0), (48, .aload_n 0, 0, 0, 0),
  (49, .bipush 8, 0, 0, 8), (51, .newarray .int, 29, 0, 0), (53, .putfield 29, 2, 6, 0), (56, .aload_n 0, 0, 0, 0), (57, .aload_n 1, 0, 0, 0), (58, .putfield 32, 2, 0, 0),
  (61, .return_, 0, 0, 0)]
def rX2 : List AV → CS → Option (CS × List WO) := rTab oNo 14 94 2 xt1 tC2
theorem tC2_ok (i : Nat) : ctok cX2_init RX2 (tC2 i) = true := by
  show ctok cX2_init RX2 (tC2 0) = true
  decide +kernel
theorem tC2_w (i : Nat) : ∀ e ∈ tC2 i, ∀ x ∈ cwd RX2 e, x ∈ lwg := by
  have h : (tC2 i).flatMap (cwd RX2) = (tC2 0).flatMap (cwd RX2) := rfl
  have h1 : ((tC2 0).flatMap (cwd RX2)).all (fun x => lw_tbl.contains x && goodWord x) = true := by decide +kernel
  intro e he x hx
  exact wds_of h1 x (by rw [← h]; exact List.mem_flatMap.mpr ⟨e, he, hx⟩)
theorem RSX2 (N : Nat) : RS (Fc N) yX2_init cX2_init 2 1 14 94 6 1 xt1 rX2 := by
  refine RS_run (lev := 0) (by decide +kernel) rfl (fun i => ⟨_, _, rfl, rfl⟩) tC2_ok tC2_w (fun i t X G hmc hms hR e he => ?_)
  have hl : (tC2 i).filter cCall = [] := rfl
  rw [hl] at he
  cases he
-- MoorGuides$Ordering
def tC5 (i : Nat) : List CE := [
  (0, .aload_n 0, 0, 0, 0), (1, .invokespecial 3, 0, 1, 0), (4, .aload_n 0, 0, 0, 0), (5, .iconst (-1), 0, 0, (-1)), (6, .putfield 9, 5, 1, 0), (9, .aload_n 0, 0, 0, 0),
  (10, .sipush 576, 0, 0, 576), (13, .newarray .int, 40, 0, 0), (15, .putfield 15, 5, 3, 0), (18, .aload_n 0, 0, 0, 0), (19, .bipush 8, 0, 0, 8), (21, .newarray .int, 41, 0, 0),
  (23, .putfield 19, 5, 4, 0), (26, .aload_n 0, 0, 0, 0), (27, .bipush 8, 0, 0, 8), (29, .bipush 8, 0, 0, 8), (31, .multianewarray 22 2, 42, 0, 0), (35, .putfield 24, 5, 5, 0),
  (38, .aload_n 0, 0, 0, 0), (39, .bipush 8, 0, 0, 8), (41, .newarray .int, 44, 0, 0), (43, .putfield 27, 5, 6, 0), (46, .aload_n 0, 0, 0, 0), (47, .sipush 256, 0, 0, 256),
  (50, .newarray .long, 45, 0, 0), (52, .putfield 30, 5, 8, 0), (55, .aload_n 0, 0, 0, 0), (56, .bipush 8, 0, 0, 8), (58, .newarray .int, 46, 0, 0), (60, .putfield 34, 5, 9, 0),
  (63, .aload_n 0, 0, 0, 0), (64, .bipush 8, 0, 0, 8), (66, .newarray .int, 47, 0, 0), (68, .putfield 37, 5, 11, 0), (71, .aload_n 0, 0, 0, 0), (72, .aload_n 1, 0, 0, 0),
  (73, .putfield 40, 5, 0, 0), (76, .return_, 0, 0, 0)]
def rX5 : List AV → CS → Option (CS × List WO) := rTab oNo 15 936 2 xt1 tC5
theorem tC5_ok (i : Nat) : ctok cX5_init RX5 (tC5 i) = true := by
  show ctok cX5_init RX5 (tC5 0) = true
  decide +kernel
theorem tC5_w (i : Nat) : ∀ e ∈ tC5 i, ∀ x ∈ cwd RX5 e, x ∈ lwg := by
  have h : (tC5 i).flatMap (cwd RX5) = (tC5 0).flatMap (cwd RX5) := rfl
  have h1 : ((tC5 0).flatMap (cwd RX5)).all (fun x => lw_tbl.contains x && goodWord x) = true := by decide +kernel
  intro e he x hx
  exact wds_of h1 x (by rw [← h]; exact List.mem_flatMap.mpr ⟨e, he, hx⟩)
theorem RSX5 (N : Nat) : RS (Fc N) yX5_init cX5_init 2 1 15 936 9 1 xt1 rX5 := by
  refine RS_run (lev := 0) (by decide +kernel) rfl (fun i => ⟨_, _, rfl, rfl⟩) tC5_ok tC5_w (fun i t X G hmc hms hR e he => ?_)
  have hl : (tC5 i).filter cCall = [] := rfl
  rw [hl] at he
  cases he
-- MoorGuides$People
def tC6 (i : Nat) : List CE := [
  (0, .aload_n 0, 0, 0, 0), (1, .invokespecial 3, 0, 1, 0), (4, .aload_n 0, 0, 0, 0), (5, .bipush 6, 0, 0, 6), (7, .newarray .int, 48, i, 0), (9, .putfield 9, 6, 1, 0),
  (12, .aload_n 0, 0, 0, 0), (13, .bipush 6, 0, 0, 6), (15, .newarray .int, 49, i, 0), (17, .putfield 15, 6, 2, 0), (20, .aload_n 0, 0, 0, 0), (21, .bipush 6, 0, 0, 6),
  (23, .newarray .int, 50, i, 0), (25, .putfield 18, 6, 3, 0), (28, .aload_n 0, 0, 0, 0), (29, .bipush 6, 0, 0, 6), (31, .newarray .int, 51, i, 0), (33, .putfield 21, 6, 4, 0),
  (36, .aload_n 0, 0, 0, 0), (37, .bipush 6, 0, 0, 6), (39, .newarray .int, 52, i, 0), (41, .putfield 24, 6, 5, 0), (44, .aload_n 0, 0, 0, 0), (45, .bipush 6, 0, 0, 6),
  (47, .newarray .int, 53, i, 0), (49, .putfield 27, 6, 6, 0), (52, .return_, 0, 0, 0)]
def rX6 : List AV → CS → Option (CS × List WO) := rTab oNo 6 36 1 xt0 tC6
theorem tC6_ok (i : Nat) : ctok cX6_init RX6 (tC6 i) = true := by
  show ctok cX6_init RX6 (tC6 0) = true
  decide +kernel
theorem tC6_w (i : Nat) : ∀ e ∈ tC6 i, ∀ x ∈ cwd RX6 e, x ∈ lwg := by
  have h : (tC6 i).flatMap (cwd RX6) = (tC6 0).flatMap (cwd RX6) := rfl
  have h1 : ((tC6 0).flatMap (cwd RX6)).all (fun x => lw_tbl.contains x && goodWord x) = true := by decide +kernel
  intro e he x hx
  exact wds_of h1 x (by rw [← h]; exact List.mem_flatMap.mpr ⟨e, he, hx⟩)
theorem RSX6 (N : Nat) : RS (Fc N) yX6_init cX6_init 1 1 6 36 10 0 xt0 rX6 := by
  refine RS_run (lev := 0) (by decide +kernel) rfl (fun i => ⟨_, _, rfl, rfl⟩) tC6_ok tC6_w (fun i t X G hmc hms hR e he => ?_)
  have hl : (tC6 i).filter cCall = [] := rfl
  rw [hl] at he
  cases he
-- MoorGuides$Sharing
def tC8 (i : Nat) : List CE := [
  (0, .aload_n 0, 0, 0, 0), (1, .invokespecial 3, 0, 1, 0), (4, .aload_n 0, 0, 0, 0), (5, .bipush 9, 0, 0, 9), (7, .bipush 64, 0, 0, 64), (9, .multianewarray 11 2, 55, 0, 0),
  (13, .putfield 13, 8, 1, 0), (16, .aload_n 0, 0, 0, 0), (17, .bipush 8, 0, 0, 8), (19, .newarray .int, 57, 0, 0), (21, .putfield 16, 8, 2, 0), (24, .aload_n 0, 0, 0, 0),
  (25, .bipush 8, 0, 0, 8), (27, .newarray .int, 58, 0, 0), (29, .putfield 20, 8, 3, 0), (32, .aload_n 0, 0, 0, 0), (33, .bipush 8, 0, 0, 8), (35, .newarray .int, 59, 0, 0),
  (37, .putfield 23, 8, 4, 0), (40, .aload_n 0, 0, 0, 0), (41, .aload_n 1, 0, 0, 0), (42, .putfield 26, 8, 0, 0), (45, .return_, 0, 0, 0)]
def rX8 : List AV → CS → Option (CS × List WO) := rTab oNo 13 609 2 xt1 tC8
theorem tC8_ok (i : Nat) : ctok cX8_init RX8 (tC8 i) = true := by
  show ctok cX8_init RX8 (tC8 0) = true
  decide +kernel
theorem tC8_w (i : Nat) : ∀ e ∈ tC8 i, ∀ x ∈ cwd RX8 e, x ∈ lwg := by
  have h : (tC8 i).flatMap (cwd RX8) = (tC8 0).flatMap (cwd RX8) := rfl
  have h1 : ((tC8 0).flatMap (cwd RX8)).all (fun x => lw_tbl.contains x && goodWord x) = true := by decide +kernel
  intro e he x hx
  exact wds_of h1 x (by rw [← h]; exact List.mem_flatMap.mpr ⟨e, he, hx⟩)
theorem RSX8 (N : Nat) : RS (Fc N) yX8_init cX8_init 2 1 13 609 12 1 xt1 rX8 := by
  refine RS_run (lev := 0) (by decide +kernel) rfl (fun i => ⟨_, _, rfl, rfl⟩) tC8_ok tC8_w (fun i t X G hmc hms hR e he => ?_)
  have hl : (tC8 i).filter cCall = [] := rfl
  rw [hl] at he
  cases he
-- MoorGuides$Moor
def tC4 (i : Nat) : List CE := [
  (0, .aload_n 0, 0, 0, 0), (1, .invokespecial 3, 0, 1, 0), (4, .aload_n 0, 0, 0, 0), (5, .bipush 8, 0, 0, 8), (7, .newarray .int, 30, i, 0), (9, .putfield 9, 4, 1, 0),
  (12, .aload_n 0, 0, 0, 0), (13, .bipush 8, 0, 0, 8), (15, .newarray .int, 31, i, 0), (17, .putfield 15, 4, 2, 0), (20, .aload_n 0, 0, 0, 0), (21, .bipush 8, 0, 0, 8),
  (23, .newarray .int, 32, i, 0), (25, .putfield 18, 4, 3, 0), (28, .aload_n 0, 0, 0, 0), (29, .new 21, 10, i, 0), (32, .dup, 0, 0, 0), (33, .invokespecial 23, 7, 1, 0),
  (36, .putfield 24, 4, 4, 0), (39, .aload_n 0, 0, 0, 0), (40, .bipush 8, 0, 0, 8), (42, .newarray .int, 33, i, 0), (44, .putfield 28, 4, 6, 0), (47, .aload_n 0, 0, 0, 0),
  (48, .bipush 8, 0, 0, 8), (50, .newarray .int, 34, i, 0), (52, .putfield 31, 4, 7, 0), (55, .aload_n 0, 0, 0, 0), (56, .bipush 8, 0, 0, 8), (58, .newarray .int, 35, i, 0),
  (60, .putfield 34, 4, 8, 0), (63, .aload_n 0, 0, 0, 0), (64, .bipush 8, 0, 0, 8), (66, .newarray .int, 36, i, 0), (68, .putfield 37, 4, 9, 0), (71, .aload_n 0, 0, 0, 0),
  (72, .bipush 14, 0, 0, 14), (74, .newarray .int, 37, i, 0), (76, .putfield 40, 4, 11, 0), (79, .aload_n 0, 0, 0, 0), (80, .iconst 4, 0, 0, 4), (81, .newarray .int, 38, i, 0),
  (83, .putfield 43, 4, 13, 0), (86, .aload_n 0, 0, 0, 0), (87, .iconst 4, 0, 0, 4), (88, .newarray .int, 39, i, 0), (90, .putfield 46, 4, 14, 0), (93, .aload_n 0, 0, 0, 0),
  (94, .new 49, 5, 2 * i, 0), (97, .dup, 0, 0, 0), (98, .invokespecial 51, 2, 1, 0), (101, .putfield 52, 4, 18, 0), (104, .aload_n 0, 0, 0, 0), (105, .new 49, 5, 2 * i + 1, 0),
  (108, .dup, 0, 0, 0), (109, .invokespecial 51, 2, 1, 0), (112, .putfield 56, 4, 19, 0), (115, .return_, 0, 0, 0)]
def oX4 (as : List AV) (n : Nat) : List AV → CS → Option (CS × List WO) := match n with
  | 7 => oN Lc 23 383 (xt0 as) 10 1 0 6 36 sb1 xt0 rX6
  | 2 => oN Lc 23 383 (xt0 as) 5 1 0 2 128 sb1 xt0 rX1
  | _ => fun _ _ => none
def rX4 : List AV → CS → Option (CS × List WO) := rTab oX4 23 383 1 xt0 tC4
theorem tC4_ok (i : Nat) : ctok cX4_init RX4 (tC4 i) = true := by
  show ctok cX4_init RX4 (tC4 0) = true
  decide +kernel
theorem tC4_w (i : Nat) : ∀ e ∈ tC4 i, ∀ x ∈ cwd RX4 e, x ∈ lwg := by
  have h : (tC4 i).flatMap (cwd RX4) = (tC4 0).flatMap (cwd RX4) := rfl
  have h1 : ((tC4 0).flatMap (cwd RX4)).all (fun x => lw_tbl.contains x && goodWord x) = true := by decide +kernel
  intro e he x hx
  exact wds_of h1 x (by rw [← h]; exact List.mem_flatMap.mpr ⟨e, he, hx⟩)
theorem RSX4 (N : Nat) : RS (Fc N) yX4_init cX4_init 1 2 23 383 8 0 xt0 rX4 := by
  refine RS_run (lev := 1) (by decide +kernel) rfl (fun i => ⟨_, _, rfl, rfl⟩) tC4_ok tC4_w (fun i t X G hmc hms hR e he => ?_)
  have hl : (tC4 i).filter cCall = [(33, .invokespecial 23, 7, 1, 0), (98, .invokespecial 51, 2, 1, 0), (109, .invokespecial 51, 2, 1, 0)] := rfl
  rw [hl] at he
  simp only [List.mem_cons, List.not_mem_nil, or_false] at he
  rcases he with rfl | rfl | rfl
  · exact crc_N (nest := true) (idx := 23) (y := yX6_init) G (Fc_ag N) hmc hms (by decide +kernel) (cw_of (ps := [190, 150, 191]) (by decide +kernel) (by decide +kernel)) (fun z => List.mem_of_getElem? (i := 1) rfl) rfl ⟨by decide +kernel, by decide +kernel, by decide +kernel⟩ (by rw [hR]; exact ⟨by decide, by decide⟩) (RSX6 N)
  · exact crc_N (nest := true) (idx := 51) (y := yX1_init) G (Fc_ag N) hmc hms (by decide +kernel) (cw_of (ps := [240, 151, 241]) (by decide +kernel) (by decide +kernel)) (fun z => List.mem_of_getElem? (i := 2) rfl) rfl ⟨by decide +kernel, by decide +kernel, by decide +kernel⟩ (by rw [hR]; exact ⟨by decide, by decide⟩) (RSX1 N)
  · exact crc_N (nest := true) (idx := 51) (y := yX1_init) G (Fc_ag N) hmc hms (by decide +kernel) (cw_of (ps := [240, 151, 241]) (by decide +kernel) (by decide +kernel)) (fun z => List.mem_of_getElem? (i := 2) rfl) rfl ⟨by decide +kernel, by decide +kernel, by decide +kernel⟩ (by rw [hR]; exact ⟨by decide, by decide⟩) (RSX1 N)
-- MoorGuides$Reader
def tC7 (i : Nat) : List CE := [
  (0, .aload_n 0, 0, 0, 0), (1, .invokespecial 3, 0, 1, 0), (4, .aload_n 0, 0, 0, 0), (5, .new 9, 14, 0, 0), (8, .dup, 0, 0, 0), (9, .invokespecial 11, 11, 1, 0),
  (12, .putfield 12, 7, 0, 0), (15, .aload_n 0, 0, 0, 0), (16, .bipush 72, 0, 0, 72), (18, .newarray .int, 54, 0, 0), (20, .putfield 18, 7, 4, 0), (23, .aload_n 0, 0, 0, 0),
  (24, .iconst (-1), 0, 0, (-1)), (25, .putfield 22, 7, 9, 0), (28, .aload_n 0, 0, 0, 0), (29, .aload_n 1, 0, 0, 0), (30, .putfield 26, 7, 1, 0), (33, .return_, 0, 0, 0)]
def oX7 (as : List AV) (n : Nat) : List AV → CS → Option (CS × List WO) := match n with
  | 11 => oN Lc 7 2810 (xt1 as) 14 3 0 5 2727 sb1 xt0 rX10
  | _ => fun _ _ => none
def rX7 : List AV → CS → Option (CS × List WO) := rTab oX7 7 2810 2 xt1 tC7
theorem tC7_ok (i : Nat) : ctok cX7_init RX7 (tC7 i) = true := by
  show ctok cX7_init RX7 (tC7 0) = true
  decide +kernel
theorem tC7_w (i : Nat) : ∀ e ∈ tC7 i, ∀ x ∈ cwd RX7 e, x ∈ lwg := by
  have h : (tC7 i).flatMap (cwd RX7) = (tC7 0).flatMap (cwd RX7) := rfl
  have h1 : ((tC7 0).flatMap (cwd RX7)).all (fun x => lw_tbl.contains x && goodWord x) = true := by decide +kernel
  intro e he x hx
  exact wds_of h1 x (by rw [← h]; exact List.mem_flatMap.mpr ⟨e, he, hx⟩)
theorem RSX7 (N : Nat) : RS (Fc N) yX7_init cX7_init 2 7 7 2810 11 1 xt1 rX7 := by
  refine RS_run (lev := 6) (by decide +kernel) rfl (fun i => ⟨_, _, rfl, rfl⟩) tC7_ok tC7_w (fun i t X G hmc hms hR e he => ?_)
  have hl : (tC7 i).filter cCall = [(9, .invokespecial 11, 11, 1, 0)] := rfl
  rw [hl] at he
  simp only [List.mem_cons, List.not_mem_nil, or_false] at he
  rcases he with rfl
  · exact crc_N (nest := false) (idx := 11) (y := yX10_init) G (Fc_ag N) hmc hms (by decide +kernel) (cw_of (ps := [376, 377, 153, 378]) (by decide +kernel) (by decide +kernel)) (fun z => by cases z) rfl ⟨by decide +kernel, by decide +kernel, by decide +kernel⟩ (by rw [hR]; exact ⟨by decide, by decide⟩) (RSX10 N)
-- MoorGuides$Stand
def tC9 (i : Nat) : List CE := [
  (0, .aload_n 0, 0, 0, 0), (1, .invokespecial 3, 0, 1, 0), (4, .aload_n 0, 0, 0, 0), (5, .bipush 6, 0, 0, 6), (7, .newarray .int, 60, i, 0), (9, .putfield 9, 9, 4, 0),
  (12, .aload_n 0, 0, 0, 0), (13, .bipush 6, 0, 0, 6), (15, .bipush 8, 0, 0, 8), (17, .multianewarray 15 2, 61, i, 0), (21, .putfield 17, 9, 5, 0), (24, .aload_n 0, 0, 0, 0),
  (25, .bipush 6, 0, 0, 6), (27, .newarray .int, 63, i, 0), (29, .putfield 20, 9, 6, 0), (32, .aload_n 0, 0, 0, 0), (33, .bipush 12, 0, 0, 12), (35, .newarray .int, 64, i, 0),
  (37, .putfield 23, 9, 8, 0), (40, .aload_n 0, 0, 0, 0), (41, .bipush 12, 0, 0, 12), (43, .newarray .int, 65, i, 0), (45, .putfield 26, 9, 9, 0), (48, .aload_n 0, 0, 0, 0),
  (49, .bipush 24, 0, 0, 24), (51, .newarray .long, 66, i, 0), (53, .putfield 31, 9, 10, 0), (56, .aload_n 0, 0, 0, 0), (57, .aload_n 1, 0, 0, 0), (58, .invokevirtual 35, 100, 2, 0),
  (61, .return_, 0, 0, 0)]
def oX9 (as : List AV) (n : Nat) : List AV → CS → Option (CS × List WO) := match n with
  | 100 => oN Lc 12 114 (xt0 as) 13 4 1 0 0 sbB (fun _ => []) rBeg
  | _ => fun _ _ => none
def rX9 : List AV → CS → Option (CS × List WO) := rTab oX9 12 114 2 xt0 tC9
theorem tC9_ok (i : Nat) : ctok cX9_init RX9 (tC9 i) = true := by
  show ctok cX9_init RX9 (tC9 0) = true
  decide +kernel
theorem tC9_w (i : Nat) : ∀ e ∈ tC9 i, ∀ x ∈ cwd RX9 e, x ∈ lwg := by
  have h : (tC9 i).flatMap (cwd RX9) = (tC9 0).flatMap (cwd RX9) := rfl
  have h1 : ((tC9 0).flatMap (cwd RX9)).all (fun x => lw_tbl.contains x && goodWord x) = true := by decide +kernel
  intro e he x hx
  exact wds_of h1 x (by rw [← h]; exact List.mem_flatMap.mpr ⟨e, he, hx⟩)
theorem RSX9 (N : Nat) : RS (Fc N) yX9_init cX9_init 2 3 12 114 13 1 xt0 rX9 := by
  refine RS_run (lev := 2) (by decide +kernel) rfl (fun i => ⟨_, _, rfl, rfl⟩) tC9_ok tC9_w (fun i t X G hmc hms hR e he => ?_)
  have hl : (tC9 i).filter cCall = [(58, .invokevirtual 35, 100, 2, 0)] := rfl
  rw [hl] at he
  simp only [List.mem_cons, List.not_mem_nil, or_false] at he
  rcases he with rfl
  · exact crc_M (idx := 35) (y := yX9_begin) G (Fc_ag N) hmc hms (by decide +kernel) (cw_of (ps := [508, 509, 510, 158, 511]) (by decide +kernel) (by decide +kernel)) ⟨by decide +kernel, by decide +kernel, by decide +kernel⟩ (by rw [hR]; exact ⟨by decide, by decide⟩) ⟨rfl, _, rfl, rfl⟩ (RSbeg N)
-- MoorGuides$Masters
def tC3 (i : Nat) : List CE := [
  (0, .aload_n 0, 0, 0, 0), (1, .invokespecial 3, 0, 1, 0), (4, .aload_n 0, 0, 0, 0), (5, .new 9, 13, 2, 0), (8, .dup, 0, 0, 0), (9, .aload_n 1, 0, 0, 0),
  (10, .invokespecial 11, 10, 2, 0), (13, .putfield 14, 3, 0, 0), (16, .return_, 0, 0, 0)]
def oX3 (as : List AV) (n : Nat) : List AV → CS → Option (CS × List WO) := match n with
  | 10 => oN Lc 13 125 (xt0 as) 13 2 1 12 114 sbM xt0 rX9
  | _ => fun _ _ => none
def rX3 : List AV → CS → Option (CS × List WO) := rTab oX3 13 125 2 xt0 tC3
theorem tC3_ok (i : Nat) : ctok cX3_init RX3 (tC3 i) = true := by
  show ctok cX3_init RX3 (tC3 0) = true
  decide +kernel
theorem tC3_w (i : Nat) : ∀ e ∈ tC3 i, ∀ x ∈ cwd RX3 e, x ∈ lwg := by
  have h : (tC3 i).flatMap (cwd RX3) = (tC3 0).flatMap (cwd RX3) := rfl
  have h1 : ((tC3 0).flatMap (cwd RX3)).all (fun x => lw_tbl.contains x && goodWord x) = true := by decide +kernel
  intro e he x hx
  exact wds_of h1 x (by rw [← h]; exact List.mem_flatMap.mpr ⟨e, he, hx⟩)
theorem RSX3 (N : Nat) : RS (Fc N) yX3_init cX3_init 2 4 13 125 7 1 xt0 rX3 := by
  refine RS_run (lev := 3) (by decide +kernel) rfl (fun i => ⟨_, _, rfl, rfl⟩) tC3_ok tC3_w (fun i t X G hmc hms hR e he => ?_)
  have hl : (tC3 i).filter cCall = [(10, .invokespecial 11, 10, 2, 0)] := rfl
  rw [hl] at he
  simp only [List.mem_cons, List.not_mem_nil, or_false] at he
  rcases he with rfl
  · exact crc_N (nest := false) (idx := 11) (y := yX9_init) G (Fc_ag N) hmc hms (by decide +kernel) (cw_of (ps := [685, 503, 158, 504]) (by decide +kernel) (by decide +kernel)) (fun z => by cases z) rfl ⟨by decide +kernel, by decide +kernel, by decide +kernel⟩ (by rw [hR]; exact ⟨by decide, by decide⟩) (RSX9 N)

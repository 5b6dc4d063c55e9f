-- MoorGuidesModel.signs()Z
def tX12_signs : List EN := [
  (0, .aload_n 0, 0, 0, 0, 0, 0, []), (1, .bipush 41, 0, 0, 0, 41, 0, []), (3, .invokevirtual 251, 0, 0, 2, 0, 0, []), (6, .ifCond .eq 41, 0, 26, 0, 0, 0, []),
  (9, .aload_n 0, 0, 0, 0, 0, 0, []), (10, .getfield 392, 0, 12, 57, 0, 0, []), (13, .ifCond .le 34, 0, 26, 0, 0, 0, []), (16, .aload_n 0, 0, 0, 0, 0, 0, []),
  (17, .iconst 1, 0, 0, 0, 1, 0, []), (18, .invokevirtual 411, 0, 0, 2, 0, 0, [(0, 0), (0, 0)]), (21, .aload_n 0, 0, 0, 0, 0, 0, []), (22, .dup, 0, 0, 0, 0, 0, []),
  (23, .getfield 377, 0, 12, 55, 0, 0, []), (26, .iconst 1, 0, 0, 0, 1, 0, []), (27, .isub, 0, 0, 0, 0, 0, []), (28, .putfield 377, 0, 12, 55, 0, 0, []),
  (31, .aload_n 0, 0, 0, 0, 0, 0, []), (32, .dup, 0, 0, 0, 0, 0, []), (33, .getfield 392, 0, 12, 57, 0, 0, []), (36, .iconst 1, 0, 0, 0, 1, 0, []),
  (37, .isub, 0, 0, 0, 0, 0, []), (38, .putfield 392, 0, 12, 57, 0, 0, []), (41, .aload_n 0, 0, 0, 0, 0, 0, []), (42, .invokevirtual 248, 0, 1, 1, 0, 0, [(0, 0), (0, 0)]),
  (45, .iconst 1, 0, 0, 0, 1, 0, []), (46, .ireturn, 0, 0, 0, 0, 0, []), (47, .aload_n 0, 27, 0, 0, 0, 0, []), (48, .bipush 16, 0, 0, 0, 16, 0, []),
  (50, .invokevirtual 338, 0, 1, 2, 0, 0, []), (53, .ifCond .eq 7, 0, 32, 0, 0, 0, []), (56, .iconst 3, 0, 0, 0, 3, 0, []), (57, .goto 90, 0, 72, 0, 0, 0, []),
  (60, .aload_n 0, 0, 0, 0, 0, 0, []), (61, .bipush 17, 0, 0, 0, 17, 0, []), (63, .invokevirtual 338, 0, 1, 2, 0, 0, []), (66, .ifCond .eq 7, 0, 38, 0, 0, 0, []),
  (69, .iconst 4, 0, 0, 0, 4, 0, []), (70, .goto 77, 0, 72, 0, 0, 0, []), (73, .aload_n 0, 0, 0, 0, 0, 0, []), (74, .getfield 214, 0, 12, 8, 0, 0, []),
  (77, .iconst 5, 0, 0, 0, 5, 0, []), (78, .if_icmp .ne 12, 0, 47, 0, 0, 0, []), (81, .iconst 5, 0, 0, 0, 5, 0, []), (82, .aload_n 0, 0, 0, 0, 0, 0, []),
  (83, .getfield 225, 0, 12, 9, 0, 0, []), (86, .iadd, 0, 0, 0, 0, 0, []), (87, .goto 60, 0, 72, 0, 0, 0, []), (90, .aload_n 0, 0, 0, 0, 0, 0, []),
  (91, .bipush 43, 0, 0, 0, 43, 0, []), (93, .invokevirtual 251, 0, 0, 2, 0, 0, []), (96, .ifCond .eq 8, 0, 53, 0, 0, 0, []), (99, .bipush 11, 0, 0, 0, 11, 0, []),
  (101, .goto 46, 0, 72, 0, 0, 0, []), (104, .aload_n 0, 0, 0, 0, 0, 0, []), (105, .bipush 45, 0, 0, 0, 45, 0, []), (107, .invokevirtual 251, 0, 0, 2, 0, 0, []),
  (110, .ifCond .eq 8, 0, 59, 0, 0, 0, []), (113, .bipush 12, 0, 0, 0, 12, 0, []), (115, .goto 32, 0, 72, 0, 0, 0, []), (118, .aload_n 0, 0, 0, 0, 0, 0, []),
  (119, .bipush 42, 0, 0, 0, 42, 0, []), (121, .invokevirtual 251, 0, 0, 2, 0, 0, []), (124, .ifCond .eq 8, 0, 65, 0, 0, 0, []), (127, .bipush 13, 0, 0, 0, 13, 0, []),
  (129, .goto 18, 0, 72, 0, 0, 0, []), (132, .aload_n 0, 0, 0, 0, 0, 0, []), (133, .bipush 47, 0, 0, 0, 47, 0, []), (135, .invokevirtual 251, 0, 0, 2, 0, 0, []),
  (138, .ifCond .eq 8, 0, 71, 0, 0, 0, []), (141, .bipush 14, 0, 0, 0, 14, 0, []), (143, .goto 4, 0, 72, 0, 0, 0, []), (146, .iconst 0, 0, 0, 0, 0, 0, []),
  (147, .istore_n 1, 73, 0, 0, 0, 0, []), (148, .iload_n 1, 0, 0, 0, 0, 0, []), (149, .ifCond .ne 9, 0, 79, 0, 0, 0, []), (152, .aload_n 0, 0, 0, 0, 0, 0, []),
  (153, .iconst 1, 0, 0, 0, 1, 0, []), (154, .invokevirtual 238, 0, 2, 2, 0, 0, []), (157, .ireturn, 0, 0, 0, 0, 0, []), (158, .aload_n 0, 0, 0, 0, 0, 0, []),
  (159, .iload_n 1, 0, 0, 0, 0, 0, []), (160, .invokestatic 380, 0, 3, 1, 0, 0, []), (163, .iconst 4, 0, 0, 0, 4, 0, []), (164, .if_icmp .ne 7, 0, 86, 0, 0, 0, []),
  (167, .iconst 5, 0, 0, 0, 5, 0, []), (168, .goto 7, 0, 88, 0, 0, 0, []), (171, .iload_n 1, 0, 0, 0, 0, 0, []), (172, .invokestatic 380, 0, 3, 1, 0, 0, []),
  (175, .invokevirtual 411, 89, 0, 2, 0, 0, [(0, 0), (0, 0)]), (178, .iload_n 1, 0, 0, 0, 0, 0, []), (179, .invokestatic 380, 0, 3, 1, 0, 0, []), (182, .iconst 4, 0, 0, 0, 4, 0, []),
  (183, .if_icmp .ne 34, 0, 110, 0, 0, 0, []), (186, .aload_n 0, 0, 0, 0, 0, 0, []), (187, .getfield 377, 0, 12, 55, 0, 0, []), (190, .ifCond .le 27, 0, 110, 0, 0, 0, []),
  (193, .aload_n 0, 0, 0, 0, 0, 0, []), (194, .getfield 87, 0, 12, 53, 0, 0, []), (197, .aload_n 0, 0, 0, 0, 0, 0, []), (198, .getfield 377, 0, 12, 55, 0, 0, []),
  (201, .iconst 1, 0, 0, 0, 1, 0, []), (202, .isub, 0, 0, 0, 0, 0, []), (203, .iaload, 0, 0, 0, 0, 0, []), (204, .invokestatic 380, 0, 3, 1, 0, 0, []),
  (207, .iconst 4, 0, 0, 0, 4, 0, []), (208, .if_icmp .ne 9, 0, 110, 0, 0, 0, []), (211, .aload_n 0, 0, 0, 0, 0, 0, []), (212, .iconst 1, 0, 0, 0, 1, 0, []),
  (213, .invokevirtual 238, 0, 2, 2, 0, 0, []), (216, .ireturn, 0, 0, 0, 0, 0, []), (217, .aload_n 0, 111, 0, 0, 0, 0, []), (218, .invokevirtual 402, 0, 4, 1, 0, 0, []),
  (221, .ifCond .ne 5, 0, 115, 0, 0, 0, []), (224, .iconst 0, 0, 0, 0, 0, 0, []), (225, .ireturn, 0, 0, 0, 0, 0, []), (226, .aload_n 0, 0, 0, 0, 0, 0, []),
  (227, .iload_n 1, 0, 0, 0, 0, 0, []), (228, .invokevirtual 395, 0, 2, 2, 0, 0, [(0, 0), (0, 0)]), (231, .aload_n 0, 0, 0, 0, 0, 0, []), (232, .iconst 1, 0, 0, 0, 1, 0, []),
  (233, .putfield 408, 0, 12, 59, 0, 0, [(0, 0)]), (236, .aload_n 0, 0, 0, 0, 0, 0, []), (237, .iload_n 1, 0, 0, 0, 0, 0, []), (238, .invokestatic 380, 0, 3, 1, 0, 0, []),
  (241, .iconst 3, 0, 0, 0, 3, 0, []), (242, .if_icmp .ge 7, 0, 128, 0, 0, 0, []), (245, .iconst 1, 0, 0, 0, 1, 0, []), (246, .goto 4, 0, 129, 0, 0, 0, []),
  (249, .iconst 0, 0, 0, 0, 0, 0, []), (250, .putfield 399, 0, 12, 60, 0, 0, [(0, 0)]), (253, .aload_n 0, 0, 0, 0, 0, 0, []), (254, .invokevirtual 248, 0, 1, 1, 0, 0, [(0, 0), (0, 0)]),
  (257, .iconst 1, 0, 0, 0, 1, 0, []), (258, .ireturn, 0, 0, 0, 0, 0, [])]
noncomputable def fX12_signs_110 (N : Nat) (v1 : Int32) (w : Wd) : Option (Int32 × Wd) :=
  (callW (pX12_isCounted N) w).bind fun r1 =>
  if r1.1 = 0 then some ((0 : Int32), r1.2) else
  (callW (pX12_waitsFor N v1) r1.2).bind fun w2 =>
  (callW (pX12_rank N v1) (setI w2 16 0 59 (1 : Int32))).bind fun r3 =>
  if r3.1 < (3 : Int32) then
    (callW (pX12_token N) (setI r3.2 16 0 60 (1 : Int32))).bind fun w4 =>
    some ((1 : Int32), w4)
  else
  (callW (pX12_token N) (setI r3.2 16 0 60 (0 : Int32))).bind fun w5 =>
  some ((1 : Int32), w5)
noncomputable def fX12_signs_88 (N : Nat) (v1 : Int32) (s0 : Int32) (w : Wd) : Option (Int32 × Wd) :=
  (callW (pX12_bind N s0) w).bind fun w1 =>
  (callW (pX12_rank N v1) w1).bind fun r2 =>
  if r2.1 = (4 : Int32) then
    if 0 < (gI r2.2 16 0 55) then
      (ldI r2.2 97 0 ((gI r2.2 16 0 55) - (1 : Int32)) 96).bind fun x3 =>
      (callW (pX12_rank N x3) r2.2).bind fun r4 =>
      if r4.1 = (4 : Int32) then
        (callW (pX12_wrong N (1 : Int32)) r4.2).bind fun r5 =>
        retZ r5.1 r5.2
      else
      callW (fX12_signs_110 N v1) r4.2
    else
    callW (fX12_signs_110 N v1) r2.2
  else
  callW (fX12_signs_110 N v1) r2.2
noncomputable def fX12_signs_72 (N : Nat) (s0 : Int32) (w : Wd) : Option (Int32 × Wd) :=
  if s0 = 0 then
    (callW (pX12_wrong N (1 : Int32)) w).bind fun r1 =>
    retZ r1.1 r1.2
  else
  (callW (pX12_rank N s0) w).bind fun r2 =>
  if r2.1 = (4 : Int32) then callW (fX12_signs_88 N s0 (5 : Int32)) r2.2 else
  (callW (pX12_rank N s0) r2.2).bind fun r3 =>
  callW (fX12_signs_88 N s0 r3.1) r3.2
noncomputable def fX12_signs_26 (N : Nat) (w : Wd) : Option (Int32 × Wd) :=
  (callW (pX12_isKey N (16 : Int32)) w).bind fun r1 =>
  if r1.1 = 0 then
    (callW (pX12_isKey N (17 : Int32)) r1.2).bind fun r2 =>
    if r2.1 = 0 then
      if (gI r2.2 16 0 8) = (5 : Int32) then callW (fX12_signs_72 N ((5 : Int32) + (gI r2.2 16 0 9))) r2.2 else
      (callW (pX12_isSign N (43 : Int32)) r2.2).bind fun r3 =>
      if r3.1 = 0 then
        (callW (pX12_isSign N (45 : Int32)) r3.2).bind fun r4 =>
        if r4.1 = 0 then
          (callW (pX12_isSign N (42 : Int32)) r4.2).bind fun r5 =>
          if r5.1 = 0 then
            (callW (pX12_isSign N (47 : Int32)) r5.2).bind fun r6 =>
            if r6.1 = 0 then callW (fX12_signs_72 N (0 : Int32)) r6.2 else
            callW (fX12_signs_72 N (14 : Int32)) r6.2
          else
          callW (fX12_signs_72 N (13 : Int32)) r5.2
        else
        callW (fX12_signs_72 N (12 : Int32)) r4.2
      else
      callW (fX12_signs_72 N (11 : Int32)) r3.2
    else
    callW (fX12_signs_72 N (4 : Int32)) r2.2
  else
  callW (fX12_signs_72 N (3 : Int32)) r1.2
noncomputable def pX12_signs (N : Nat) (w : Wd) : Option (Int32 × Wd) :=
  (callW (pX12_isSign N (41 : Int32)) w).bind fun r1 =>
  if r1.1 = 0 then callW (fX12_signs_26 N) r1.2 else
  if 0 < (gI r1.2 16 0 57) then
    (callW (pX12_bind N (1 : Int32)) r1.2).bind fun w2 =>
    (callW (pX12_token N) (setI (setI w2 16 0 55 ((gI w2 16 0 55) - (1 : Int32))) 16 0 57 ((gI (setI w2 16 0 55 ((gI w2 16 0 55) - (1 : Int32))) 16 0 57) - (1 : Int32)))).bind fun w3 =>
    some ((1 : Int32), w3)
  else
  callW (fX12_signs_26 N) r1.2
noncomputable def mX12_signs (N : Nat) (as : List AV) (w : Wd) : Option (Int32 × Wd) := xS1 16 as fun t => xN1 t (callW (pX12_signs N) w)
set_option maxRecDepth 100000 in
set_option maxHeartbeats 4000000 in
theorem kX12_signs : TK cX12_signs RX12 2 tX12_signs := ⟨by decide +kernel, wok_of [1647, 1645, 1645, 1647, 1647, 1598, 1599, 1645, 1643, 1645, 1649, 1650] (by decide +kernel) (by decide +kernel)⟩
set_option maxRecDepth 100000 in
set_option maxHeartbeats 4000000 in
theorem sX12_signs_110 {N : Nat} {X : XT} (G : GX X cX12_signs RX12) (hn : xnL X = 2) (hC : CRs X tX12_signs (oF [(mX12_isSign N), (mX12_isKey N), (mX12_wrong N), (mX12_rank N), (mX12_isCounted N)]) (oF []) (oF [(mX12_bind N), (mX12_token N), (mX12_waitsFor N)])) {r : Int32 × Wd} (hr : RTZ X cX12_signs r)  : ∀ (v1 : Int32) (w : Wd), fX12_signs_110 N v1 w = some r → WW X (pcAt tX12_signs 110) [some (.inr (.inr (16, 0))), some (.inl v1)] [] w := by
  intro v1 w h
  refine run_sound (r := r) (X := X) (cc := cX12_signs) (own := RX12) (tab := tX12_signs) G (by rw [hn]; exact kX12_signs) (oI := (oF [(mX12_isSign N), (mX12_isKey N), (mX12_wrong N), (mX12_rank N), (mX12_isCounted N)])) (oL := (oF [])) (oV := (oF [(mX12_bind N), (mX12_token N), (mX12_waitsFor N)])) (rI := retZ) (rL := (fun _ _ => none)) (rV := (fun _ => none))
    (K := (fun j ls st w => none)) hr (fun _ _ _ _ hx => by cases hx) (fun _ _ _ hx => by cases hx) hC (fun ls => lsb [some (.inr (.inr (16, 0))), none] 0 ls) (keepsP_of rfl) ?_ 136 110 [some (.inr (.inr (16, 0))), some (.inl v1)] [] w ?_ h
  · intro j ls st w hfx h
    obtain ⟨e0, -⟩ : _ = _ ∧ True := hfx
    try dsimp only at h
    cases h
  · exact (show _ = _ ∧ True from ⟨rfl, trivial⟩)
set_option maxRecDepth 100000 in
set_option maxHeartbeats 4000000 in
theorem sX12_signs_88 {N : Nat} {X : XT} (G : GX X cX12_signs RX12) (hn : xnL X = 2) (hC : CRs X tX12_signs (oF [(mX12_isSign N), (mX12_isKey N), (mX12_wrong N), (mX12_rank N), (mX12_isCounted N)]) (oF []) (oF [(mX12_bind N), (mX12_token N), (mX12_waitsFor N)])) {r : Int32 × Wd} (hr : RTZ X cX12_signs r)  : ∀ (v1 : Int32) (s0 : Int32) (w : Wd), fX12_signs_88 N v1 s0 w = some r → WW X (pcAt tX12_signs 88) [some (.inr (.inr (16, 0))), some (.inl v1)] [.inl s0, .inr (.inr (16, 0))] w := by
  intro v1 s0 w h
  refine run_sound (r := r) (X := X) (cc := cX12_signs) (own := RX12) (tab := tX12_signs) G (by rw [hn]; exact kX12_signs) (oI := (oF [(mX12_isSign N), (mX12_isKey N), (mX12_wrong N), (mX12_rank N), (mX12_isCounted N)])) (oL := (oF [])) (oV := (oF [(mX12_bind N), (mX12_token N), (mX12_waitsFor N)])) (rI := retZ) (rL := (fun _ _ => none)) (rV := (fun _ => none))
    (K := (fun j ls st w => if j = 110 then (lgI ls 1 fun v1 => st0 st (callW (fX12_signs_110 N v1) w)) else none)) hr (fun _ _ _ _ hx => by cases hx) (fun _ _ _ hx => by cases hx) hC (fun ls => lsb [some (.inr (.inr (16, 0))), none] 0 ls) (keepsP_of rfl) ?_ 136 88 [some (.inr (.inr (16, 0))), some (.inl v1)] [.inl s0, .inr (.inr (16, 0))] w ?_ h
  · intro j ls st w hfx h
    obtain ⟨e0, -⟩ : _ = _ ∧ True := hfx
    try dsimp only at h
    by_cases hj : j = 110
    · subst hj
      rw [if_pos rfl] at h
      obtain ⟨v1, e1, h_1⟩ := lgI_some h
      obtain ⟨rfl, h_2⟩ := st0_some h_1
      clear h h_1
      have h := h_2
      try rw [callW_eq] at h
      exact WW.le (a := [some (.inr (.inr (16, 0))), some (.inl v1)]) (by rw [hn]; rfl) (show _ = _ ∧ _ = _ ∧ True from ⟨e0, e1, trivial⟩) (sX12_signs_110 G hn hC hr v1 w h)
    rw [if_neg hj] at h
    cases h
  · exact (show _ = _ ∧ True from ⟨rfl, trivial⟩)
set_option maxRecDepth 100000 in
set_option maxHeartbeats 4000000 in
theorem sX12_signs_72 {N : Nat} {X : XT} (G : GX X cX12_signs RX12) (hn : xnL X = 2) (hC : CRs X tX12_signs (oF [(mX12_isSign N), (mX12_isKey N), (mX12_wrong N), (mX12_rank N), (mX12_isCounted N)]) (oF []) (oF [(mX12_bind N), (mX12_token N), (mX12_waitsFor N)])) {r : Int32 × Wd} (hr : RTZ X cX12_signs r)  : ∀ (s0 : Int32) (w : Wd), fX12_signs_72 N s0 w = some r → WW X (pcAt tX12_signs 72) [some (.inr (.inr (16, 0))), none] [.inl s0] w := by
  intro s0 w h
  refine run_sound (r := r) (X := X) (cc := cX12_signs) (own := RX12) (tab := tX12_signs) G (by rw [hn]; exact kX12_signs) (oI := (oF [(mX12_isSign N), (mX12_isKey N), (mX12_wrong N), (mX12_rank N), (mX12_isCounted N)])) (oL := (oF [])) (oV := (oF [(mX12_bind N), (mX12_token N), (mX12_waitsFor N)])) (rI := retZ) (rL := (fun _ _ => none)) (rV := (fun _ => none))
    (K := (fun j ls st w => if j = 88 then (lgI ls 1 fun v1 => po1 st fun s0 st => pr1 st fun kk qq st => if kk = 16 ∧ qq = 0 then st0 st (callW (fX12_signs_88 N v1 s0) w) else none) else none)) hr (fun _ _ _ _ hx => by cases hx) (fun _ _ _ hx => by cases hx) hC (fun ls => lsb [some (.inr (.inr (16, 0))), none] 0 ls) (keepsP_of rfl) ?_ 136 72 [some (.inr (.inr (16, 0))), none] [.inl s0] w ?_ h
  · intro j ls st w hfx h
    obtain ⟨e0, -⟩ : _ = _ ∧ True := hfx
    try dsimp only at h
    by_cases hj : j = 88
    · subst hj
      rw [if_pos rfl] at h
      obtain ⟨v1, e1, h_1⟩ := lgI_some h
      obtain ⟨s0, st0, rfl, h_2⟩ := po1_some h_1
      obtain ⟨kkk1, s1, st1, rfl, h_3⟩ := pr1_some h_2
      obtain ⟨⟨rfl, rfl⟩, h_4⟩ := if_some _ h_3
      obtain ⟨rfl, h_5⟩ := st0_some h_4
      clear h h_1 h_2 h_3 h_4
      have h := h_5
      try rw [callW_eq] at h
      exact WW.le (a := [some (.inr (.inr (16, 0))), some (.inl v1)]) (by rw [hn]; rfl) (show _ = _ ∧ _ = _ ∧ True from ⟨e0, e1, trivial⟩) (sX12_signs_88 G hn hC hr v1 s0 w h)
    rw [if_neg hj] at h
    cases h
  · exact (show _ = _ ∧ True from ⟨rfl, trivial⟩)
set_option maxRecDepth 100000 in
set_option maxHeartbeats 4000000 in
theorem sX12_signs_26 {N : Nat} {X : XT} (G : GX X cX12_signs RX12) (hn : xnL X = 2) (hC : CRs X tX12_signs (oF [(mX12_isSign N), (mX12_isKey N), (mX12_wrong N), (mX12_rank N), (mX12_isCounted N)]) (oF []) (oF [(mX12_bind N), (mX12_token N), (mX12_waitsFor N)])) {r : Int32 × Wd} (hr : RTZ X cX12_signs r)  : ∀ (w : Wd), fX12_signs_26 N w = some r → WW X (pcAt tX12_signs 26) [some (.inr (.inr (16, 0))), none] [] w := by
  intro w h
  refine run_sound (r := r) (X := X) (cc := cX12_signs) (own := RX12) (tab := tX12_signs) G (by rw [hn]; exact kX12_signs) (oI := (oF [(mX12_isSign N), (mX12_isKey N), (mX12_wrong N), (mX12_rank N), (mX12_isCounted N)])) (oL := (oF [])) (oV := (oF [(mX12_bind N), (mX12_token N), (mX12_waitsFor N)])) (rI := retZ) (rL := (fun _ _ => none)) (rV := (fun _ => none))
    (K := (fun j ls st w => if j = 72 then (po1 st fun s0 st => st0 st (callW (fX12_signs_72 N s0) w)) else none)) hr (fun _ _ _ _ hx => by cases hx) (fun _ _ _ hx => by cases hx) hC (fun ls => lsb [some (.inr (.inr (16, 0))), none] 0 ls) (keepsP_of rfl) ?_ 136 26 [some (.inr (.inr (16, 0))), none] [] w ?_ h
  · intro j ls st w hfx h
    obtain ⟨e0, -⟩ : _ = _ ∧ True := hfx
    try dsimp only at h
    by_cases hj : j = 72
    · subst hj
      rw [if_pos rfl] at h
      obtain ⟨s0, st0, rfl, h_1⟩ := po1_some h
      obtain ⟨rfl, h_2⟩ := st0_some h_1
      clear h h_1
      have h := h_2
      try rw [callW_eq] at h
      exact WW.le (a := [some (.inr (.inr (16, 0))), none]) (by rw [hn]; rfl) (show _ = _ ∧ True from ⟨e0, trivial⟩) (sX12_signs_72 G hn hC hr s0 w h)
    rw [if_neg hj] at h
    cases h
  · exact (show _ = _ ∧ True from ⟨rfl, trivial⟩)
set_option maxRecDepth 100000 in
set_option maxHeartbeats 4000000 in
theorem crX12_signs {N : Nat} {X : XT} (G : GX X cX12_signs RX12) (hR : xR X = rmL 3) : CRs X tX12_signs (oF [(mX12_isSign N), (mX12_isKey N), (mX12_wrong N), (mX12_rank N), (mX12_isCounted N)]) (oF []) (oF [(mX12_bind N), (mX12_token N), (mX12_waitsFor N)]) := by
  have hl : tX12_signs.filter isInv = [(3, .invokevirtual 251, 0, 0, 2, 0, 0, []), (18, .invokevirtual 411, 0, 0, 2, 0, 0, [(0, 0), (0, 0)]), (42, .invokevirtual 248, 0, 1, 1, 0, 0, [(0, 0), (0, 0)]), (50, .invokevirtual 338, 0, 1, 2, 0, 0, []), (63, .invokevirtual 338, 0, 1, 2, 0, 0, []), (93, .invokevirtual 251, 0, 0, 2, 0, 0, []), (107, .invokevirtual 251, 0, 0, 2, 0, 0, []), (121, .invokevirtual 251, 0, 0, 2, 0, 0, []), (135, .invokevirtual 251, 0, 0, 2, 0, 0, []), (154, .invokevirtual 238, 0, 2, 2, 0, 0, []), (160, .invokestatic 380, 0, 3, 1, 0, 0, []), (172, .invokestatic 380, 0, 3, 1, 0, 0, []), (175, .invokevirtual 411, 89, 0, 2, 0, 0, [(0, 0), (0, 0)]), (179, .invokestatic 380, 0, 3, 1, 0, 0, []), (204, .invokestatic 380, 0, 3, 1, 0, 0, []), (213, .invokevirtual 238, 0, 2, 2, 0, 0, []), (218, .invokevirtual 402, 0, 4, 1, 0, 0, []), (228, .invokevirtual 395, 0, 2, 2, 0, 0, [(0, 0), (0, 0)]), (238, .invokestatic 380, 0, 3, 1, 0, 0, []), (254, .invokevirtual 248, 0, 1, 1, 0, 0, [(0, 0), (0, 0)])] := rfl
  intro e he
  rw [hl] at he
  simp only [List.mem_cons, List.not_mem_nil, or_false] at he
  rcases he with rfl | rfl | rfl | rfl | rfl | rfl | rfl | rfl | rfl | rfl | rfl | rfl | rfl | rfl | rfl | rfl | rfl | rfl | rfl | rfl
  · exact crI_V (idx := 251) G (by decide +kernel) (MX12_isSign N) (cw_of (ps := [2019, 2021, 95, 162, 2022]) (by decide +kernel) (by decide +kernel)) ⟨by decide +kernel, by decide +kernel, by decide +kernel⟩ (by unfold rmOk; rw [hR]; exact ⟨by decide, by decide⟩)
  · exact crV_V (idx := 411) G (by decide +kernel) (MX12_bind N) (cw_of (ps := [2047, 2049, 102, 162, 2050]) (by decide +kernel) (by decide +kernel)) ⟨by decide +kernel, by decide +kernel, by decide +kernel⟩ (by unfold rmOk; rw [hR]; exact ⟨by decide, by decide⟩)
  · exact crV_V (idx := 248) G (by decide +kernel) (MX12_token N) (cw_of (ps := [1928, 1930, 74, 162, 1931]) (by decide +kernel) (by decide +kernel)) ⟨by decide +kernel, by decide +kernel, by decide +kernel⟩ (by unfold rmOk; rw [hR]; exact ⟨by decide, by decide⟩)
  · exact crI_V (idx := 338) G (by decide +kernel) (MX12_isKey N) (cw_of (ps := [1979, 1981, 85, 162, 1982]) (by decide +kernel) (by decide +kernel)) ⟨by decide +kernel, by decide +kernel, by decide +kernel⟩ (by unfold rmOk; rw [hR]; exact ⟨by decide, by decide⟩)
  · exact crI_V (idx := 338) G (by decide +kernel) (MX12_isKey N) (cw_of (ps := [1979, 1981, 85, 162, 1982]) (by decide +kernel) (by decide +kernel)) ⟨by decide +kernel, by decide +kernel, by decide +kernel⟩ (by unfold rmOk; rw [hR]; exact ⟨by decide, by decide⟩)
  · exact crI_V (idx := 251) G (by decide +kernel) (MX12_isSign N) (cw_of (ps := [2019, 2021, 95, 162, 2022]) (by decide +kernel) (by decide +kernel)) ⟨by decide +kernel, by decide +kernel, by decide +kernel⟩ (by unfold rmOk; rw [hR]; exact ⟨by decide, by decide⟩)
  · exact crI_V (idx := 251) G (by decide +kernel) (MX12_isSign N) (cw_of (ps := [2019, 2021, 95, 162, 2022]) (by decide +kernel) (by decide +kernel)) ⟨by decide +kernel, by decide +kernel, by decide +kernel⟩ (by unfold rmOk; rw [hR]; exact ⟨by decide, by decide⟩)
  · exact crI_V (idx := 251) G (by decide +kernel) (MX12_isSign N) (cw_of (ps := [2019, 2021, 95, 162, 2022]) (by decide +kernel) (by decide +kernel)) ⟨by decide +kernel, by decide +kernel, by decide +kernel⟩ (by unfold rmOk; rw [hR]; exact ⟨by decide, by decide⟩)
  · exact crI_V (idx := 251) G (by decide +kernel) (MX12_isSign N) (cw_of (ps := [2019, 2021, 95, 162, 2022]) (by decide +kernel) (by decide +kernel)) ⟨by decide +kernel, by decide +kernel, by decide +kernel⟩ (by unfold rmOk; rw [hR]; exact ⟨by decide, by decide⟩)
  · exact crI_V (idx := 238) G (by decide +kernel) (MX12_wrong N) (cw_of (ps := [1957, 1959, 81, 162, 1960]) (by decide +kernel) (by decide +kernel)) ⟨by decide +kernel, by decide +kernel, by decide +kernel⟩ (by unfold rmOk; rw [hR]; exact ⟨by decide, by decide⟩)
  · exact crI_S (idx := 380) G (by decide +kernel) (MX12_rank N) (cw_of (ps := [2051, 2052, 162, 2053]) (by decide +kernel) (by decide +kernel)) ⟨by decide +kernel, by decide +kernel, by decide +kernel⟩ (by unfold rmOk; rw [hR]; exact ⟨by decide, by decide⟩)
  · exact crI_S (idx := 380) G (by decide +kernel) (MX12_rank N) (cw_of (ps := [2051, 2052, 162, 2053]) (by decide +kernel) (by decide +kernel)) ⟨by decide +kernel, by decide +kernel, by decide +kernel⟩ (by unfold rmOk; rw [hR]; exact ⟨by decide, by decide⟩)
  · exact crV_V (idx := 411) G (by decide +kernel) (MX12_bind N) (cw_of (ps := [2047, 2049, 102, 162, 2050]) (by decide +kernel) (by decide +kernel)) ⟨by decide +kernel, by decide +kernel, by decide +kernel⟩ (by unfold rmOk; rw [hR]; exact ⟨by decide, by decide⟩)
  · exact crI_S (idx := 380) G (by decide +kernel) (MX12_rank N) (cw_of (ps := [2051, 2052, 162, 2053]) (by decide +kernel) (by decide +kernel)) ⟨by decide +kernel, by decide +kernel, by decide +kernel⟩ (by unfold rmOk; rw [hR]; exact ⟨by decide, by decide⟩)
  · exact crI_S (idx := 380) G (by decide +kernel) (MX12_rank N) (cw_of (ps := [2051, 2052, 162, 2053]) (by decide +kernel) (by decide +kernel)) ⟨by decide +kernel, by decide +kernel, by decide +kernel⟩ (by unfold rmOk; rw [hR]; exact ⟨by decide, by decide⟩)
  · exact crI_V (idx := 238) G (by decide +kernel) (MX12_wrong N) (cw_of (ps := [1957, 1959, 81, 162, 1960]) (by decide +kernel) (by decide +kernel)) ⟨by decide +kernel, by decide +kernel, by decide +kernel⟩ (by unfold rmOk; rw [hR]; exact ⟨by decide, by decide⟩)
  · exact crI_V (idx := 402) G (by decide +kernel) (MX12_isCounted N) (cw_of (ps := [2031, 2033, 98, 162, 2034]) (by decide +kernel) (by decide +kernel)) ⟨by decide +kernel, by decide +kernel, by decide +kernel⟩ (by unfold rmOk; rw [hR]; exact ⟨by decide, by decide⟩)
  · exact crV_V (idx := 395) G (by decide +kernel) (MX12_waitsFor N) (cw_of (ps := [2027, 2029, 97, 162, 2030]) (by decide +kernel) (by decide +kernel)) ⟨by decide +kernel, by decide +kernel, by decide +kernel⟩ (by unfold rmOk; rw [hR]; exact ⟨by decide, by decide⟩)
  · exact crI_S (idx := 380) G (by decide +kernel) (MX12_rank N) (cw_of (ps := [2051, 2052, 162, 2053]) (by decide +kernel) (by decide +kernel)) ⟨by decide +kernel, by decide +kernel, by decide +kernel⟩ (by unfold rmOk; rw [hR]; exact ⟨by decide, by decide⟩)
  · exact crV_V (idx := 248) G (by decide +kernel) (MX12_token N) (cw_of (ps := [1928, 1930, 74, 162, 1931]) (by decide +kernel) (by decide +kernel)) ⟨by decide +kernel, by decide +kernel, by decide +kernel⟩ (by unfold rmOk; rw [hR]; exact ⟨by decide, by decide⟩)
set_option maxRecDepth 100000 in
set_option maxHeartbeats 4000000 in
theorem MX12_signs (N : Nat) : SndI yX12_signs cX12_signs 2 (some .boolean) 3 1 true (mX12_signs N) := by
  refine SndI.ofZ tX12_signs (by decide +kernel) rfl rfl ?_ ?_
  · intro as w x h
    obtain ⟨t1, rfl, h_1⟩ := xS1_some h
    obtain ⟨rfl, h_2⟩ := xN1_some h_1
    clear h h_1
    have h := h_2
    rw [callW_eq] at h
    exact ⟨fun _ => ⟨_, _, _, rfl, rfl, _, rfl, rfl⟩, rfl, Nat.le_of_ble_eq_true rfl⟩
  · intro X G hn hR as w r h hr
    have hC := crX12_signs (N := N) G hR
    obtain ⟨t1, rfl, h_1⟩ := xS1_some h
    obtain ⟨rfl, h_2⟩ := xN1_some h_1
    clear h h_1
    have h := h_2
    rw [callW_eq] at h
    refine run_sound (r := r) (X := X) (cc := cX12_signs) (own := RX12) (tab := tX12_signs) G (by rw [hn]; exact kX12_signs) (oI := (oF [(mX12_isSign N), (mX12_isKey N), (mX12_wrong N), (mX12_rank N), (mX12_isCounted N)])) (oL := (oF [])) (oV := (oF [(mX12_bind N), (mX12_token N), (mX12_waitsFor N)])) (rI := retZ) (rL := (fun _ _ => none)) (rV := (fun _ => none))
      (K := (fun j ls st w => if j = 26 then (st0 st (callW (fX12_signs_26 N) w)) else none)) hr (fun _ _ _ _ hx => by cases hx) (fun _ _ _ hx => by cases hx) hC (fun ls => lsb [some (.inr (.inr (16, 0))), none] 0 ls) (keepsP_of rfl) ?_ 136 0 [some (.inr (.inr (16, 0))), none] [] w ?_ h
    · intro j ls st w hfx h
      obtain ⟨e0, -⟩ : _ = _ ∧ True := hfx
      try dsimp only at h
      by_cases hj : j = 26
      · subst hj
        rw [if_pos rfl] at h
        obtain ⟨rfl, h_1⟩ := st0_some h
        clear h
        have h := h_1
        try rw [callW_eq] at h
        exact WW.le (a := [some (.inr (.inr (16, 0))), none]) (by rw [hn]; rfl) (show _ = _ ∧ True from ⟨e0, trivial⟩) (sX12_signs_26 G hn hC hr w h)
      rw [if_neg hj] at h
      cases h
    · exact (show _ = _ ∧ True from ⟨rfl, trivial⟩)
-- MoorGuidesModel.sumRead()Z
def tX12_sumRead : List EN := [
  (0, .aload_n 0, 0, 0, 0, 0, 0, []), (1, .iconst 0, 0, 0, 0, 0, 0, []), (2, .putfield 377, 0, 12, 55, 0, 0, []), (5, .aload_n 0, 0, 0, 0, 0, 0, []),
  (6, .iconst 0, 0, 0, 0, 0, 0, []), (7, .putfield 374, 0, 12, 56, 0, 0, []), (10, .aload_n 0, 0, 0, 0, 0, 0, []), (11, .iconst 0, 0, 0, 0, 0, 0, []),
  (12, .putfield 392, 0, 12, 57, 0, 0, []), (15, .aload_n 0, 0, 0, 0, 0, 0, []), (16, .iconst 1, 0, 0, 0, 1, 0, []), (17, .putfield 408, 0, 12, 59, 0, 0, [(0, 0)]),
  (20, .aload_n 0, 0, 0, 0, 0, 0, []), (21, .iconst 1, 0, 0, 0, 1, 0, []), (22, .putfield 399, 0, 12, 60, 0, 0, [(0, 0)]), (25, .aload_n 0, 16, 0, 0, 0, 0, []),
  (26, .bipush 59, 0, 0, 0, 59, 0, []), (28, .invokevirtual 251, 0, 0, 2, 0, 0, []), (31, .ifCond .eq 17, 0, 25, 0, 0, 0, []), (34, .aload_n 0, 0, 0, 0, 0, 0, []),
  (35, .getfield 408, 0, 12, 59, 0, 0, []), (38, .ifCond .ne 10, 0, 25, 0, 0, 0, []), (41, .aload_n 0, 0, 0, 0, 0, 0, []), (42, .getfield 392, 0, 12, 57, 0, 0, []),
  (45, .ifCond .le 29, 0, 37, 0, 0, 0, []), (48, .aload_n 0, 26, 0, 0, 0, 0, []), (49, .getfield 408, 0, 12, 59, 0, 0, []), (52, .ifCond .eq 13, 0, 32, 0, 0, 0, []),
  (55, .aload_n 0, 0, 0, 0, 0, 0, []), (56, .invokevirtual 414, 0, 1, 1, 0, 0, []), (59, .ifCond .eq 13, 0, 35, 0, 0, 0, []), (62, .goto (-37), 0, 15, 0, 0, 0, []),
  (65, .aload_n 0, 0, 0, 0, 0, 0, []), (66, .invokevirtual 417, 0, 2, 1, 0, 0, []), (69, .ifCond .ne (-44), 0, 15, 0, 0, 0, []), (72, .iconst 0, 0, 0, 0, 0, 0, []),
  (73, .ireturn, 0, 0, 0, 0, 0, []), (74, .aload_n 0, 38, 0, 0, 0, 0, []), (75, .iconst 1, 0, 0, 0, 1, 0, []), (76, .invokevirtual 411, 0, 0, 2, 0, 0, [(0, 0), (0, 0)]),
  (79, .iconst 1, 0, 0, 0, 1, 0, []), (80, .ireturn, 0, 0, 0, 0, 0, [])]
noncomputable def fX12_sumRead_37 (N : Nat) (w : Wd) : Option (Int32 × Wd) :=
  (callW (pX12_bind N (1 : Int32)) w).bind fun w1 =>
  some ((1 : Int32), w1)
noncomputable def fX12_sumRead_25 (N : Nat) (k15 : Wd → Option (Int32 × Wd)) (w : Wd) : Option (Int32 × Wd) :=
  if (gI w 16 0 59) = 0 then
    (callW (pX12_signs N) w).bind fun r1 =>
    if r1.1 = 0 then some ((0 : Int32), r1.2) else
    k15 r1.2
  else
  (callW (pX12_leafRead N) w).bind fun r2 =>
  if r2.1 = 0 then some ((0 : Int32), r2.2) else
  k15 r2.2
noncomputable def fX12_sumRead_15 (N : Nat) : Nat → (Wd → Option (Int32 × Wd)) → Wd → Option (Int32 × Wd)
  | 0, _, _ => none
  | n + 1, k37, w =>
    (callW (pX12_isSign N (59 : Int32)) w).bind fun r1 =>
    if r1.1 = 0 then callW (fX12_sumRead_25 N (fX12_sumRead_15 N n k37)) r1.2 else
    if (gI r1.2 16 0 59) = 0 then
      if 0 < (gI r1.2 16 0 57) then callW (fX12_sumRead_25 N (fX12_sumRead_15 N n k37)) r1.2 else
      k37 r1.2
    else
    callW (fX12_sumRead_25 N (fX12_sumRead_15 N n k37)) r1.2
noncomputable def pX12_sumRead (N : Nat) (w : Wd) : Option (Int32 × Wd) :=
  callW (fX12_sumRead_15 N N (fX12_sumRead_37 N)) (setI (setI (setI (setI (setI w 16 0 55 (0 : Int32)) 16 0 56 (0 : Int32)) 16 0 57 (0 : Int32)) 16 0 59 (1 : Int32)) 16 0 60 (1 : Int32))
noncomputable def mX12_sumRead (N : Nat) (as : List AV) (w : Wd) : Option (Int32 × Wd) := xS1 16 as fun t => xN1 t (callW (pX12_sumRead N) w)
set_option maxRecDepth 100000 in
set_option maxHeartbeats 4000000 in
theorem kX12_sumRead : TK cX12_sumRead RX12 1 tX12_sumRead := ⟨by decide +kernel, wok_of [1645, 1646, 1647, 1649, 1650, 1649, 1647, 1649] (by decide +kernel) (by decide +kernel)⟩
set_option maxRecDepth 100000 in
set_option maxHeartbeats 4000000 in
theorem sX12_sumRead_37 {N : Nat} {X : XT} (G : GX X cX12_sumRead RX12) (hn : xnL X = 1) (hC : CRs X tX12_sumRead (oF [(mX12_isSign N), (mX12_leafRead N), (mX12_signs N)]) (oF []) (oF [(mX12_bind N)])) {r : Int32 × Wd} (hr : RTZ X cX12_sumRead r)  : ∀ (w : Wd), fX12_sumRead_37 N w = some r → WW X (pcAt tX12_sumRead 37) [some (.inr (.inr (16, 0)))] [] w := by
  intro w h
  refine run_sound (r := r) (X := X) (cc := cX12_sumRead) (own := RX12) (tab := tX12_sumRead) G (by rw [hn]; exact kX12_sumRead) (oI := (oF [(mX12_isSign N), (mX12_leafRead N), (mX12_signs N)])) (oL := (oF [])) (oV := (oF [(mX12_bind N)])) (rI := retZ) (rL := (fun _ _ => none)) (rV := (fun _ => none))
    (K := (fun j ls st w => none)) hr (fun _ _ _ _ hx => by cases hx) (fun _ _ _ hx => by cases hx) hC (fun ls => lsb [some (.inr (.inr (16, 0)))] 0 ls) (keepsP_of rfl) ?_ 44 37 [some (.inr (.inr (16, 0)))] [] w ?_ h
  · intro j ls st w hfx h
    obtain ⟨e0, -⟩ : _ = _ ∧ True := hfx
    try dsimp only at h
    cases h
  · exact (show _ = _ ∧ True from ⟨rfl, trivial⟩)
set_option maxRecDepth 100000 in
set_option maxHeartbeats 4000000 in
theorem sX12_sumRead_25 {N : Nat} {X : XT} (G : GX X cX12_sumRead RX12) (hn : xnL X = 1) (hC : CRs X tX12_sumRead (oF [(mX12_isSign N), (mX12_leafRead N), (mX12_signs N)]) (oF []) (oF [(mX12_bind N)])) {r : Int32 × Wd} (hr : RTZ X cX12_sumRead r)  : ∀ (k15 : Wd → Option (Int32 × Wd)) (w : Wd), fX12_sumRead_25 N k15 w = some r → (∀ (w : Wd), k15 w = some r → WW X (pcAt tX12_sumRead 15) [some (.inr (.inr (16, 0)))] [] w) → WW X (pcAt tX12_sumRead 25) [some (.inr (.inr (16, 0)))] [] w := by
  intro k15 w h h15
  refine run_sound (r := r) (X := X) (cc := cX12_sumRead) (own := RX12) (tab := tX12_sumRead) G (by rw [hn]; exact kX12_sumRead) (oI := (oF [(mX12_isSign N), (mX12_leafRead N), (mX12_signs N)])) (oL := (oF [])) (oV := (oF [(mX12_bind N)])) (rI := retZ) (rL := (fun _ _ => none)) (rV := (fun _ => none))
    (K := (fun j ls st w => if j = 15 then (st0 st (k15 w)) else none)) hr (fun _ _ _ _ hx => by cases hx) (fun _ _ _ hx => by cases hx) hC (fun ls => lsb [some (.inr (.inr (16, 0)))] 0 ls) (keepsP_of rfl) ?_ 44 25 [some (.inr (.inr (16, 0)))] [] w ?_ h
  · intro j ls st w hfx h
    obtain ⟨e0, -⟩ : _ = _ ∧ True := hfx
    try dsimp only at h
    by_cases hj : j = 15
    · subst hj
      rw [if_pos rfl] at h
      obtain ⟨rfl, h_1⟩ := st0_some h
      clear h
      have h := h_1
      try rw [callW_eq] at h
      exact WW.le (a := [some (.inr (.inr (16, 0)))]) (by rw [hn]; rfl) (show _ = _ ∧ True from ⟨e0, trivial⟩) (h15 w h)
    rw [if_neg hj] at h
    cases h
  · exact (show _ = _ ∧ True from ⟨rfl, trivial⟩)
set_option maxRecDepth 100000 in
set_option maxHeartbeats 4000000 in
theorem sX12_sumRead_15 {N : Nat} {X : XT} (G : GX X cX12_sumRead RX12) (hn : xnL X = 1) (hC : CRs X tX12_sumRead (oF [(mX12_isSign N), (mX12_leafRead N), (mX12_signs N)]) (oF []) (oF [(mX12_bind N)])) {r : Int32 × Wd} (hr : RTZ X cX12_sumRead r)  : ∀ (n : Nat) (k37 : Wd → Option (Int32 × Wd)) (w : Wd), fX12_sumRead_15 N n k37 w = some r → (∀ (w : Wd), k37 w = some r → WW X (pcAt tX12_sumRead 37) [some (.inr (.inr (16, 0)))] [] w) → WW X (pcAt tX12_sumRead 15) [some (.inr (.inr (16, 0)))] [] w := by
  intro n
  induction n with
  | zero => intro k37 w h h37; cases h
  | succ n ih =>
    intro k37 w h h37
    refine run_sound (r := r) (X := X) (cc := cX12_sumRead) (own := RX12) (tab := tX12_sumRead) G (by rw [hn]; exact kX12_sumRead) (oI := (oF [(mX12_isSign N), (mX12_leafRead N), (mX12_signs N)])) (oL := (oF [])) (oV := (oF [(mX12_bind N)])) (rI := retZ) (rL := (fun _ _ => none)) (rV := (fun _ => none))
      (K := (fun j ls st w => if j = 25 then (st0 st (callW (fX12_sumRead_25 N (fX12_sumRead_15 N n k37)) w)) else if j = 37 then (st0 st (k37 w)) else none)) hr (fun _ _ _ _ hx => by cases hx) (fun _ _ _ hx => by cases hx) hC (fun ls => lsb [some (.inr (.inr (16, 0)))] 0 ls) (keepsP_of rfl) ?_ 44 15 [some (.inr (.inr (16, 0)))] [] w ?_ h
    · intro j ls st w hfx h
      obtain ⟨e0, -⟩ : _ = _ ∧ True := hfx
      try dsimp only at h
      by_cases hj : j = 25
      · subst hj
        rw [if_pos rfl] at h
        obtain ⟨rfl, h_1⟩ := st0_some h
        clear h
        have h := h_1
        try rw [callW_eq] at h
        exact WW.le (a := [some (.inr (.inr (16, 0)))]) (by rw [hn]; rfl) (show _ = _ ∧ True from ⟨e0, trivial⟩) (sX12_sumRead_25 G hn hC hr (fX12_sumRead_15 N n k37) w h (fun w h => (ih k37 w h h37)))
      rw [if_neg hj] at h
      by_cases hj : j = 37
      · subst hj
        rw [if_pos rfl] at h
        obtain ⟨rfl, h_1⟩ := st0_some h
        clear h
        have h := h_1
        try rw [callW_eq] at h
        exact WW.le (a := [some (.inr (.inr (16, 0)))]) (by rw [hn]; rfl) (show _ = _ ∧ True from ⟨e0, trivial⟩) (h37 w h)
      rw [if_neg hj] at h
      cases h
    · exact (show _ = _ ∧ True from ⟨rfl, trivial⟩)
set_option maxRecDepth 100000 in
set_option maxHeartbeats 4000000 in
theorem crX12_sumRead {N : Nat} {X : XT} (G : GX X cX12_sumRead RX12) (hR : xR X = rmL 4) : CRs X tX12_sumRead (oF [(mX12_isSign N), (mX12_leafRead N), (mX12_signs N)]) (oF []) (oF [(mX12_bind N)]) := by
  have hl : tX12_sumRead.filter isInv = [(28, .invokevirtual 251, 0, 0, 2, 0, 0, []), (56, .invokevirtual 414, 0, 1, 1, 0, 0, []), (66, .invokevirtual 417, 0, 2, 1, 0, 0, []), (76, .invokevirtual 411, 0, 0, 2, 0, 0, [(0, 0), (0, 0)])] := rfl
  intro e he
  rw [hl] at he
  simp only [List.mem_cons, List.not_mem_nil, or_false] at he
  rcases he with rfl | rfl | rfl | rfl
  · exact crI_V (idx := 251) G (by decide +kernel) (MX12_isSign N) (cw_of (ps := [2019, 2021, 95, 162, 2022]) (by decide +kernel) (by decide +kernel)) ⟨by decide +kernel, by decide +kernel, by decide +kernel⟩ (by unfold rmOk; rw [hR]; exact ⟨by decide, by decide⟩)
  · exact crI_V (idx := 414) G (by decide +kernel) (MX12_leafRead N) (cw_of (ps := [2023, 2025, 96, 162, 2026]) (by decide +kernel) (by decide +kernel)) ⟨by decide +kernel, by decide +kernel, by decide +kernel⟩ (by unfold rmOk; rw [hR]; exact ⟨by decide, by decide⟩)
  · exact crI_V (idx := 417) G (by decide +kernel) (MX12_signs N) (cw_of (ps := [2043, 2045, 101, 162, 2046]) (by decide +kernel) (by decide +kernel)) ⟨by decide +kernel, by decide +kernel, by decide +kernel⟩ (by unfold rmOk; rw [hR]; exact ⟨by decide, by decide⟩)
  · exact crV_V (idx := 411) G (by decide +kernel) (MX12_bind N) (cw_of (ps := [2047, 2049, 102, 162, 2050]) (by decide +kernel) (by decide +kernel)) ⟨by decide +kernel, by decide +kernel, by decide +kernel⟩ (by unfold rmOk; rw [hR]; exact ⟨by decide, by decide⟩)
set_option maxRecDepth 100000 in
set_option maxHeartbeats 4000000 in
theorem MX12_sumRead (N : Nat) : SndI yX12_sumRead cX12_sumRead 1 (some .boolean) 4 1 true (mX12_sumRead N) := by
  refine SndI.ofZ tX12_sumRead (by decide +kernel) rfl rfl ?_ ?_
  · intro as w x h
    obtain ⟨t1, rfl, h_1⟩ := xS1_some h
    obtain ⟨rfl, h_2⟩ := xN1_some h_1
    clear h h_1
    have h := h_2
    rw [callW_eq] at h
    exact ⟨fun _ => ⟨_, _, _, rfl, rfl, _, rfl, rfl⟩, rfl, Nat.le_of_ble_eq_true rfl⟩
  · intro X G hn hR as w r h hr
    have hC := crX12_sumRead (N := N) G hR
    obtain ⟨t1, rfl, h_1⟩ := xS1_some h
    obtain ⟨rfl, h_2⟩ := xN1_some h_1
    clear h h_1
    have h := h_2
    rw [callW_eq] at h
    refine run_sound (r := r) (X := X) (cc := cX12_sumRead) (own := RX12) (tab := tX12_sumRead) G (by rw [hn]; exact kX12_sumRead) (oI := (oF [(mX12_isSign N), (mX12_leafRead N), (mX12_signs N)])) (oL := (oF [])) (oV := (oF [(mX12_bind N)])) (rI := retZ) (rL := (fun _ _ => none)) (rV := (fun _ => none))
      (K := (fun j ls st w => if j = 15 then (st0 st (callW (fX12_sumRead_15 N N (fX12_sumRead_37 N)) w)) else none)) hr (fun _ _ _ _ hx => by cases hx) (fun _ _ _ hx => by cases hx) hC (fun ls => lsb [some (.inr (.inr (16, 0)))] 0 ls) (keepsP_of rfl) ?_ 44 0 [some (.inr (.inr (16, 0)))] [] w ?_ h
    · intro j ls st w hfx h
      obtain ⟨e0, -⟩ : _ = _ ∧ True := hfx
      try dsimp only at h
      by_cases hj : j = 15
      · subst hj
        rw [if_pos rfl] at h
        obtain ⟨rfl, h_1⟩ := st0_some h
        clear h
        have h := h_1
        try rw [callW_eq] at h
        exact WW.le (a := [some (.inr (.inr (16, 0)))]) (by rw [hn]; rfl) (show _ = _ ∧ True from ⟨e0, trivial⟩) (sX12_sumRead_15 G hn hC hr N (fX12_sumRead_37 N) w h (fun w h => (sX12_sumRead_37 G hn hC hr w h)))
      rw [if_neg hj] at h
      cases h
    · exact (show _ = _ ∧ True from ⟨rfl, trivial⟩)
-- MoorGuidesModel.lawLine()Z
def tX12_lawLine : List EN := [
  (0, .aload_n 0, 0, 0, 0, 0, 0, []), (1, .invokevirtual 248, 0, 0, 1, 0, 0, [(0, 0), (0, 0)]), (4, .aload_n 0, 0, 0, 0, 0, 0, []), (5, .bipush 14, 0, 0, 0, 14, 0, []),
  (7, .invokevirtual 338, 0, 0, 2, 0, 0, []), (10, .ifCond .ne 18, 0, 14, 0, 0, 0, []), (13, .aload_n 0, 0, 0, 0, 0, 0, []), (14, .bipush 15, 0, 0, 0, 15, 0, []),
  (16, .invokevirtual 338, 0, 0, 2, 0, 0, []), (19, .ifCond .ne 9, 0, 14, 0, 0, 0, []), (22, .aload_n 0, 0, 0, 0, 0, 0, []), (23, .iconst 1, 0, 0, 0, 1, 0, []),
  (24, .invokevirtual 238, 0, 1, 2, 0, 0, []), (27, .ireturn, 0, 0, 0, 0, 0, []), (28, .iconst 2, 15, 0, 0, 2, 0, []), (29, .aload_n 0, 0, 0, 0, 0, 0, []),
  (30, .getfield 225, 0, 12, 9, 0, 0, []), (33, .iadd, 0, 0, 0, 0, 0, []), (34, .bipush 14, 0, 0, 0, 14, 0, []), (36, .isub, 0, 0, 0, 0, 0, []),
  (37, .istore_n 1, 0, 0, 0, 0, 0, []), (38, .aload_n 0, 0, 0, 0, 0, 0, []), (39, .getfield 68, 0, 12, 47, 0, 0, []), (42, .iload_n 1, 0, 0, 0, 0, 0, []),
  (43, .baload, 0, 0, 0, 0, 0, []), (44, .ifCond .eq 9, 0, 30, 0, 0, 0, []), (47, .aload_n 0, 0, 0, 0, 0, 0, []), (48, .iconst 3, 0, 0, 0, 3, 0, []),
  (49, .invokevirtual 238, 0, 1, 2, 0, 0, []), (52, .ireturn, 0, 0, 0, 0, 0, []), (53, .aload_n 0, 0, 0, 0, 0, 0, []), (54, .getfield 68, 0, 12, 47, 0, 0, []),
  (57, .iload_n 1, 0, 0, 0, 0, 0, []), (58, .iconst 1, 0, 0, 0, 1, 0, []), (59, .bastore, 0, 0, 0, 0, 0, []), (60, .aload_n 0, 0, 0, 0, 0, 0, []),
  (61, .invokevirtual 248, 0, 0, 1, 0, 0, [(0, 0), (0, 0)]), (64, .aload_n 0, 0, 0, 0, 0, 0, []), (65, .getfield 72, 0, 12, 48, 0, 0, []), (68, .iload_n 1, 0, 0, 0, 0, 0, []),
  (69, .aload_n 0, 0, 0, 0, 0, 0, []), (70, .getfield 279, 0, 12, 27, 0, 0, []), (73, .iastore, 0, 0, 0, 0, 0, []), (74, .aload_n 0, 0, 0, 0, 0, 0, []),
  (75, .invokevirtual 350, 0, 2, 1, 0, 0, []), (78, .ifCond .ne 5, 0, 48, 0, 0, 0, []), (81, .iconst 0, 0, 0, 0, 0, 0, []), (82, .ireturn, 0, 0, 0, 0, 0, []),
  (83, .aload_n 0, 0, 0, 0, 0, 0, []), (84, .getfield 75, 0, 12, 49, 0, 0, []), (87, .iload_n 1, 0, 0, 0, 0, 0, []), (88, .aload_n 0, 0, 0, 0, 0, 0, []),
  (89, .getfield 279, 0, 12, 27, 0, 0, []), (92, .iastore, 0, 0, 0, 0, 0, []), (93, .iconst 1, 0, 0, 0, 1, 0, []), (94, .ireturn, 0, 0, 0, 0, 0, [])]
noncomputable def fX12_lawLine_14 (N : Nat) (w : Wd) : Option (Int32 × Wd) :=
  (ldI w 91 0 (((2 : Int32) + (gI w 16 0 9)) - (14 : Int32)) 4).bind fun x1 =>
  if x1 = 0 then
    (stI w 91 0 (((2 : Int32) + (gI w 16 0 9)) - (14 : Int32)) 4 ((1 : Int32) &&& 1)).bind fun w2 =>
    (callW (pX12_token N) w2).bind fun w3 =>
    (stI w3 92 0 (((2 : Int32) + (gI w 16 0 9)) - (14 : Int32)) 4 (gI w3 16 0 27)).bind fun w4 =>
    (callW (pX12_sumRead N) w4).bind fun r5 =>
    if r5.1 = 0 then some ((0 : Int32), r5.2) else
    (stI r5.2 93 0 (((2 : Int32) + (gI w 16 0 9)) - (14 : Int32)) 4 (gI r5.2 16 0 27)).bind fun w6 =>
    some ((1 : Int32), w6)
  else
  (callW (pX12_wrong N (3 : Int32)) w).bind fun r7 =>
  retZ r7.1 r7.2
noncomputable def pX12_lawLine (N : Nat) (w : Wd) : Option (Int32 × Wd) :=
  (callW (pX12_token N) w).bind fun w1 =>
  (callW (pX12_isKey N (14 : Int32)) w1).bind fun r2 =>
  if r2.1 = 0 then
    (callW (pX12_isKey N (15 : Int32)) r2.2).bind fun r3 =>
    if r3.1 = 0 then
      (callW (pX12_wrong N (1 : Int32)) r3.2).bind fun r4 =>
      retZ r4.1 r4.2
    else
    callW (fX12_lawLine_14 N) r3.2
  else
  callW (fX12_lawLine_14 N) r2.2
noncomputable def mX12_lawLine (N : Nat) (as : List AV) (w : Wd) : Option (Int32 × Wd) := xS1 16 as fun t => xN1 t (callW (pX12_lawLine N) w)
set_option maxRecDepth 100000 in
set_option maxHeartbeats 4000000 in
theorem kX12_lawLine : TK cX12_lawLine RX12 2 tX12_lawLine := ⟨by decide +kernel, wok_of [1599, 1637, 1637, 1638, 1617, 1639, 1617] (by decide +kernel) (by decide +kernel)⟩
set_option maxRecDepth 100000 in
set_option maxHeartbeats 4000000 in
theorem sX12_lawLine_14 {N : Nat} {X : XT} (G : GX X cX12_lawLine RX12) (hn : xnL X = 2) (hC : CRs X tX12_lawLine (oF [(mX12_isKey N), (mX12_wrong N), (mX12_sumRead N)]) (oF []) (oF [(mX12_token N)])) {r : Int32 × Wd} (hr : RTZ X cX12_lawLine r)  : ∀ (w : Wd), fX12_lawLine_14 N w = some r → WW X (pcAt tX12_lawLine 14) [some (.inr (.inr (16, 0))), none] [] w := by
  intro w h
  refine run_sound (r := r) (X := X) (cc := cX12_lawLine) (own := RX12) (tab := tX12_lawLine) G (by rw [hn]; exact kX12_lawLine) (oI := (oF [(mX12_isKey N), (mX12_wrong N), (mX12_sumRead N)])) (oL := (oF [])) (oV := (oF [(mX12_token N)])) (rI := retZ) (rL := (fun _ _ => none)) (rV := (fun _ => none))
    (K := (fun j ls st w => none)) hr (fun _ _ _ _ hx => by cases hx) (fun _ _ _ hx => by cases hx) hC (fun ls => lsb [some (.inr (.inr (16, 0))), none] 0 ls) (keepsP_of rfl) ?_ 58 14 [some (.inr (.inr (16, 0))), none] [] w ?_ h
  · intro j ls st w hfx h
    obtain ⟨e0, -⟩ : _ = _ ∧ True := hfx
    try dsimp only at h
    cases h
  · exact (show _ = _ ∧ True from ⟨rfl, trivial⟩)
set_option maxRecDepth 100000 in
set_option maxHeartbeats 4000000 in
theorem crX12_lawLine {N : Nat} {X : XT} (G : GX X cX12_lawLine RX12) (hR : xR X = rmL 5) : CRs X tX12_lawLine (oF [(mX12_isKey N), (mX12_wrong N), (mX12_sumRead N)]) (oF []) (oF [(mX12_token N)]) := by
  have hl : tX12_lawLine.filter isInv = [(1, .invokevirtual 248, 0, 0, 1, 0, 0, [(0, 0), (0, 0)]), (7, .invokevirtual 338, 0, 0, 2, 0, 0, []), (16, .invokevirtual 338, 0, 0, 2, 0, 0, []), (24, .invokevirtual 238, 0, 1, 2, 0, 0, []), (49, .invokevirtual 238, 0, 1, 2, 0, 0, []), (61, .invokevirtual 248, 0, 0, 1, 0, 0, [(0, 0), (0, 0)]), (75, .invokevirtual 350, 0, 2, 1, 0, 0, [])] := rfl
  intro e he
  rw [hl] at he
  simp only [List.mem_cons, List.not_mem_nil, or_false] at he
  rcases he with rfl | rfl | rfl | rfl | rfl | rfl | rfl
  · exact crV_V (idx := 248) G (by decide +kernel) (MX12_token N) (cw_of (ps := [1928, 1930, 74, 162, 1931]) (by decide +kernel) (by decide +kernel)) ⟨by decide +kernel, by decide +kernel, by decide +kernel⟩ (by unfold rmOk; rw [hR]; exact ⟨by decide, by decide⟩)
  · exact crI_V (idx := 338) G (by decide +kernel) (MX12_isKey N) (cw_of (ps := [1979, 1981, 85, 162, 1982]) (by decide +kernel) (by decide +kernel)) ⟨by decide +kernel, by decide +kernel, by decide +kernel⟩ (by unfold rmOk; rw [hR]; exact ⟨by decide, by decide⟩)
  · exact crI_V (idx := 338) G (by decide +kernel) (MX12_isKey N) (cw_of (ps := [1979, 1981, 85, 162, 1982]) (by decide +kernel) (by decide +kernel)) ⟨by decide +kernel, by decide +kernel, by decide +kernel⟩ (by unfold rmOk; rw [hR]; exact ⟨by decide, by decide⟩)
  · exact crI_V (idx := 238) G (by decide +kernel) (MX12_wrong N) (cw_of (ps := [1957, 1959, 81, 162, 1960]) (by decide +kernel) (by decide +kernel)) ⟨by decide +kernel, by decide +kernel, by decide +kernel⟩ (by unfold rmOk; rw [hR]; exact ⟨by decide, by decide⟩)
  · exact crI_V (idx := 238) G (by decide +kernel) (MX12_wrong N) (cw_of (ps := [1957, 1959, 81, 162, 1960]) (by decide +kernel) (by decide +kernel)) ⟨by decide +kernel, by decide +kernel, by decide +kernel⟩ (by unfold rmOk; rw [hR]; exact ⟨by decide, by decide⟩)
  · exact crV_V (idx := 248) G (by decide +kernel) (MX12_token N) (cw_of (ps := [1928, 1930, 74, 162, 1931]) (by decide +kernel) (by decide +kernel)) ⟨by decide +kernel, by decide +kernel, by decide +kernel⟩ (by unfold rmOk; rw [hR]; exact ⟨by decide, by decide⟩)
  · exact crI_V (idx := 350) G (by decide +kernel) (MX12_sumRead N) (cw_of (ps := [2015, 2017, 94, 162, 2018]) (by decide +kernel) (by decide +kernel)) ⟨by decide +kernel, by decide +kernel, by decide +kernel⟩ (by unfold rmOk; rw [hR]; exact ⟨by decide, by decide⟩)
set_option maxRecDepth 100000 in
set_option maxHeartbeats 4000000 in
theorem MX12_lawLine (N : Nat) : SndI yX12_lawLine cX12_lawLine 2 (some .boolean) 5 1 true (mX12_lawLine N) := by
  refine SndI.ofZ tX12_lawLine (by decide +kernel) rfl rfl ?_ ?_
  · intro as w x h
    obtain ⟨t1, rfl, h_1⟩ := xS1_some h
    obtain ⟨rfl, h_2⟩ := xN1_some h_1
    clear h h_1
    have h := h_2
    rw [callW_eq] at h
    exact ⟨fun _ => ⟨_, _, _, rfl, rfl, _, rfl, rfl⟩, rfl, Nat.le_of_ble_eq_true rfl⟩
  · intro X G hn hR as w r h hr
    have hC := crX12_lawLine (N := N) G hR
    obtain ⟨t1, rfl, h_1⟩ := xS1_some h
    obtain ⟨rfl, h_2⟩ := xN1_some h_1
    clear h h_1
    have h := h_2
    rw [callW_eq] at h
    refine run_sound (r := r) (X := X) (cc := cX12_lawLine) (own := RX12) (tab := tX12_lawLine) G (by rw [hn]; exact kX12_lawLine) (oI := (oF [(mX12_isKey N), (mX12_wrong N), (mX12_sumRead N)])) (oL := (oF [])) (oV := (oF [(mX12_token N)])) (rI := retZ) (rL := (fun _ _ => none)) (rV := (fun _ => none))
      (K := (fun j ls st w => if j = 14 then (st0 st (callW (fX12_lawLine_14 N) w)) else none)) hr (fun _ _ _ _ hx => by cases hx) (fun _ _ _ hx => by cases hx) hC (fun ls => lsb [some (.inr (.inr (16, 0))), none] 0 ls) (keepsP_of rfl) ?_ 58 0 [some (.inr (.inr (16, 0))), none] [] w ?_ h
    · intro j ls st w hfx h
      obtain ⟨e0, -⟩ : _ = _ ∧ True := hfx
      try dsimp only at h
      by_cases hj : j = 14
      · subst hj
        rw [if_pos rfl] at h
        obtain ⟨rfl, h_1⟩ := st0_some h
        clear h
        have h := h_1
        try rw [callW_eq] at h
        exact WW.le (a := [some (.inr (.inr (16, 0))), none]) (by rw [hn]; rfl) (show _ = _ ∧ True from ⟨e0, trivial⟩) (sX12_lawLine_14 G hn hC hr w h)
      rw [if_neg hj] at h
      cases h
    · exact (show _ = _ ∧ True from ⟨rfl, trivial⟩)
-- MoorGuidesModel.lineRead()Z
def tX12_lineRead : List EN := [
  (0, .aload_n 0, 0, 0, 0, 0, 0, []), (1, .getfield 214, 0, 12, 8, 0, 0, []), (4, .iconst 1, 0, 0, 0, 1, 0, []), (5, .if_icmp .ne 12, 0, 8, 0, 0, 0, []),
  (8, .aload_n 0, 0, 0, 0, 0, 0, []), (9, .getfield 225, 0, 12, 9, 0, 0, []), (12, .bipush 7, 0, 0, 0, 7, 0, []), (14, .if_icmp .le 9, 0, 12, 0, 0, 0, []),
  (17, .aload_n 0, 0, 0, 0, 0, 0, []), (18, .iconst 1, 0, 0, 0, 1, 0, []), (19, .invokevirtual 238, 0, 0, 2, 0, 0, []), (22, .ireturn, 0, 0, 0, 0, 0, []),
  (23, .aload_n 0, 0, 0, 0, 0, 0, []), (24, .getfield 225, 0, 12, 9, 0, 0, []), (27, .tableswitch 163 0 6 #[41, 49, 57, 65, 73, 81, 122], 0, 79, 41, 0, 0, [(0, 15), (1, 19), (2, 23), (3, 27), (4, 31), (5, 35), (6, 57)]), (68, .aload_n 0, 0, 0, 0, 0, 0, []),
  (69, .invokevirtual 353, 0, 1, 1, 0, 0, []), (72, .istore_n 1, 0, 0, 0, 0, 0, []), (73, .goto 122, 0, 82, 0, 0, 0, []), (76, .aload_n 0, 0, 0, 0, 0, 0, []),
  (77, .invokevirtual 356, 0, 2, 1, 0, 0, []), (80, .istore_n 1, 0, 0, 0, 0, 0, []), (81, .goto 114, 0, 82, 0, 0, 0, []), (84, .aload_n 0, 0, 0, 0, 0, 0, []),
  (85, .invokevirtual 359, 0, 3, 1, 0, 0, []), (88, .istore_n 1, 0, 0, 0, 0, 0, []), (89, .goto 106, 0, 82, 0, 0, 0, []), (92, .aload_n 0, 0, 0, 0, 0, 0, []),
  (93, .invokevirtual 362, 0, 4, 1, 0, 0, []), (96, .istore_n 1, 0, 0, 0, 0, 0, []), (97, .goto 98, 0, 82, 0, 0, 0, []), (100, .aload_n 0, 0, 0, 0, 0, 0, []),
  (101, .invokevirtual 365, 0, 5, 1, 0, 0, []), (104, .istore_n 1, 0, 0, 0, 0, 0, []), (105, .goto 90, 0, 82, 0, 0, 0, []), (108, .aload_n 0, 0, 0, 0, 0, 0, []),
  (109, .getfield 289, 0, 12, 29, 0, 0, []), (112, .ifCond .eq 9, 0, 42, 0, 0, 0, []), (115, .aload_n 0, 0, 0, 0, 0, 0, []), (116, .iconst 3, 0, 0, 0, 3, 0, []),
  (117, .invokevirtual 238, 0, 0, 2, 0, 0, []), (120, .ireturn, 0, 0, 0, 0, 0, []), (121, .aload_n 0, 0, 0, 0, 0, 0, []), (122, .iconst 1, 0, 0, 0, 1, 0, []),
  (123, .putfield 289, 0, 12, 29, 0, 0, [(0, 0)]), (126, .aload_n 0, 0, 0, 0, 0, 0, []), (127, .invokevirtual 248, 0, 0, 1, 0, 0, [(0, 0), (0, 0)]), (130, .aload_n 0, 0, 0, 0, 0, 0, []),
  (131, .iconst 0, 0, 0, 0, 0, 0, []), (132, .bipush 8, 0, 0, 0, 8, 0, []), (134, .invokevirtual 254, 0, 6, 3, 0, 0, []), (137, .istore_n 1, 0, 0, 0, 0, 0, []),
  (138, .aload_n 0, 0, 0, 0, 0, 0, []), (139, .aload_n 0, 0, 0, 0, 0, 0, []), (140, .getfield 245, 0, 12, 11, 0, 0, []), (143, .putfield 273, 0, 12, 25, 0, 0, []),
  (146, .goto 49, 0, 82, 0, 0, 0, []), (149, .aload_n 0, 0, 0, 0, 0, 0, []), (150, .getfield 292, 0, 12, 30, 0, 0, []), (153, .ifCond .eq 9, 0, 64, 0, 0, 0, []),
  (156, .aload_n 0, 0, 0, 0, 0, 0, []), (157, .iconst 3, 0, 0, 0, 3, 0, []), (158, .invokevirtual 238, 0, 0, 2, 0, 0, []), (161, .ireturn, 0, 0, 0, 0, 0, []),
  (162, .aload_n 0, 0, 0, 0, 0, 0, []), (163, .iconst 1, 0, 0, 0, 1, 0, []), (164, .putfield 292, 0, 12, 30, 0, 0, [(0, 0)]), (167, .aload_n 0, 0, 0, 0, 0, 0, []),
  (168, .invokevirtual 248, 0, 0, 1, 0, 0, [(0, 0), (0, 0)]), (171, .aload_n 0, 0, 0, 0, 0, 0, []), (172, .iconst 0, 0, 0, 0, 0, 0, []), (173, .ldc 234, 0, 0, 0, 99999, 0, []),
  (175, .invokevirtual 254, 0, 6, 3, 0, 0, []), (178, .istore_n 1, 0, 0, 0, 0, 0, []), (179, .aload_n 0, 0, 0, 0, 0, 0, []), (180, .aload_n 0, 0, 0, 0, 0, 0, []),
  (181, .getfield 245, 0, 12, 11, 0, 0, []), (184, .putfield 276, 0, 12, 26, 0, 0, []), (187, .goto 8, 0, 82, 0, 0, 0, []), (190, .aload_n 0, 0, 0, 0, 0, 0, []),
  (191, .invokevirtual 368, 0, 7, 1, 0, 0, []), (194, .istore_n 1, 0, 0, 0, 0, 0, []), (195, .iload_n 1, 83, 0, 0, 0, 0, []), (196, .ifCond .ne 5, 0, 86, 0, 0, 0, []),
  (199, .iconst 0, 0, 0, 0, 0, 0, []), (200, .ireturn, 0, 0, 0, 0, 0, []), (201, .aload_n 0, 0, 0, 0, 0, 0, []), (202, .bipush 59, 0, 0, 0, 59, 0, []),
  (204, .invokevirtual 251, 0, 8, 2, 0, 0, []), (207, .ifCond .ne 9, 0, 94, 0, 0, 0, []), (210, .aload_n 0, 0, 0, 0, 0, 0, []), (211, .iconst 1, 0, 0, 0, 1, 0, []),
  (212, .invokevirtual 238, 0, 0, 2, 0, 0, []), (215, .ireturn, 0, 0, 0, 0, 0, []), (216, .aload_n 0, 0, 0, 0, 0, 0, []), (217, .invokevirtual 248, 0, 0, 1, 0, 0, [(0, 0), (0, 0)]),
  (220, .iconst 1, 0, 0, 0, 1, 0, []), (221, .ireturn, 0, 0, 0, 0, 0, [])]
noncomputable def fX12_lineRead_82 (N : Nat) (v1 : Int32) (w : Wd) : Option (Int32 × Wd) :=
  if v1 = 0 then some ((0 : Int32), w) else
  (callW (pX12_isSign N (59 : Int32)) w).bind fun r1 =>
  if r1.1 = 0 then
    (callW (pX12_wrong N (1 : Int32)) r1.2).bind fun r2 =>
    retZ r2.1 r2.2
  else
  (callW (pX12_token N) r1.2).bind fun w3 =>
  some ((1 : Int32), w3)
noncomputable def pX12_lineRead (N : Nat) (w : Wd) : Option (Int32 × Wd) :=
  if (gI w 16 0 8) = (1 : Int32) then
    if (7 : Int32) < (gI w 16 0 9) then
      (callW (pX12_wrong N (1 : Int32)) w).bind fun r1 =>
      retZ r1.1 r1.2
    else
    if (gI w 16 0 9) = (0 : Int32) then
      (callW (pX12_partLine N) w).bind fun r2 =>
      callW (fX12_lineRead_82 N r2.1) r2.2
    else
    if (gI w 16 0 9) = (1 : Int32) then
      (callW (pX12_personLine N) w).bind fun r3 =>
      callW (fX12_lineRead_82 N r3.1) r3.2
    else
    if (gI w 16 0 9) = (2 : Int32) then
      (callW (pX12_partyLine N) w).bind fun r4 =>
      callW (fX12_lineRead_82 N r4.1) r4.2
    else
    if (gI w 16 0 9) = (3 : Int32) then
      (callW (pX12_weatherLine N) w).bind fun r5 =>
      callW (fX12_lineRead_82 N r5.1) r5.2
    else
    if (gI w 16 0 9) = (4 : Int32) then
      (callW (pX12_slideLine N) w).bind fun r6 =>
      callW (fX12_lineRead_82 N r6.1) r6.2
    else
    if (gI w 16 0 9) = (5 : Int32) then
      if (gI w 16 0 29) = 0 then
        (callW (pX12_token N) (setI w 16 0 29 (1 : Int32))).bind fun w7 =>
        (callW (pX12_number N (0 : Int32) (8 : Int32)) w7).bind fun r8 =>
        callW (fX12_lineRead_82 N r8.1) (setI r8.2 16 0 25 (gI r8.2 16 0 11))
      else
      (callW (pX12_wrong N (3 : Int32)) w).bind fun r9 =>
      retZ r9.1 r9.2
    else
    if (gI w 16 0 9) = (6 : Int32) then
      if (gI w 16 0 30) = 0 then
        (callW (pX12_token N) (setI w 16 0 30 (1 : Int32))).bind fun w10 =>
        (callW (pX12_number N (0 : Int32) (99999 : Int32)) w10).bind fun r11 =>
        callW (fX12_lineRead_82 N r11.1) (setI r11.2 16 0 26 (gI r11.2 16 0 11))
      else
      (callW (pX12_wrong N (3 : Int32)) w).bind fun r12 =>
      retZ r12.1 r12.2
    else
    (callW (pX12_lawLine N) w).bind fun r13 =>
    callW (fX12_lineRead_82 N r13.1) r13.2
  else
  (callW (pX12_wrong N (1 : Int32)) w).bind fun r14 =>
  retZ r14.1 r14.2
noncomputable def mX12_lineRead (N : Nat) (as : List AV) (w : Wd) : Option (Int32 × Wd) := xS1 16 as fun t => xN1 t (callW (pX12_lineRead N) w)
set_option maxRecDepth 100000 in
set_option maxHeartbeats 4000000 in
theorem kX12_lineRead : TK cX12_lineRead RX12 2 tX12_lineRead := ⟨by decide +kernel, wok_of [1598, 1599, 1599, 1619, 1619, 1601, 1615, 1620, 1620, 1948, 1601, 1616] (by decide +kernel) (by decide +kernel)⟩
set_option maxRecDepth 100000 in
set_option maxHeartbeats 4000000 in
theorem sX12_lineRead_82 {N : Nat} {X : XT} (G : GX X cX12_lineRead RX12) (hn : xnL X = 2) (hC : CRs X tX12_lineRead (oF [(mX12_wrong N), (mX12_partLine N), (mX12_personLine N), (mX12_partyLine N), (mX12_weatherLine N), (mX12_slideLine N), (mX12_number N), (mX12_lawLine N), (mX12_isSign N)]) (oF []) (oF [(mX12_token N)])) {r : Int32 × Wd} (hr : RTZ X cX12_lineRead r)  : ∀ (v1 : Int32) (w : Wd), fX12_lineRead_82 N v1 w = some r → WW X (pcAt tX12_lineRead 82) [some (.inr (.inr (16, 0))), some (.inl v1)] [] w := by
  intro v1 w h
  refine run_sound (r := r) (X := X) (cc := cX12_lineRead) (own := RX12) (tab := tX12_lineRead) G (by rw [hn]; exact kX12_lineRead) (oI := (oF [(mX12_wrong N), (mX12_partLine N), (mX12_personLine N), (mX12_partyLine N), (mX12_weatherLine N), (mX12_slideLine N), (mX12_number N), (mX12_lawLine N), (mX12_isSign N)])) (oL := (oF [])) (oV := (oF [(mX12_token N)])) (rI := retZ) (rL := (fun _ _ => none)) (rV := (fun _ => none))
    (K := (fun j ls st w => none)) hr (fun _ _ _ _ hx => by cases hx) (fun _ _ _ hx => by cases hx) hC (fun ls => lsb [some (.inr (.inr (16, 0))), none] 0 ls) (keepsP_of rfl) ?_ 100 82 [some (.inr (.inr (16, 0))), some (.inl v1)] [] w ?_ h
  · intro j ls st w hfx h
    obtain ⟨e0, -⟩ : _ = _ ∧ True := hfx
    try dsimp only at h
    cases h
  · exact (show _ = _ ∧ True from ⟨rfl, trivial⟩)
set_option maxRecDepth 100000 in
set_option maxHeartbeats 4000000 in
theorem crX12_lineRead {N : Nat} {X : XT} (G : GX X cX12_lineRead RX12) (hR : xR X = rmL 6) : CRs X tX12_lineRead (oF [(mX12_wrong N), (mX12_partLine N), (mX12_personLine N), (mX12_partyLine N), (mX12_weatherLine N), (mX12_slideLine N), (mX12_number N), (mX12_lawLine N), (mX12_isSign N)]) (oF []) (oF [(mX12_token N)]) := by
  have hl : tX12_lineRead.filter isInv = [(19, .invokevirtual 238, 0, 0, 2, 0, 0, []), (69, .invokevirtual 353, 0, 1, 1, 0, 0, []), (77, .invokevirtual 356, 0, 2, 1, 0, 0, []), (85, .invokevirtual 359, 0, 3, 1, 0, 0, []), (93, .invokevirtual 362, 0, 4, 1, 0, 0, []), (101, .invokevirtual 365, 0, 5, 1, 0, 0, []), (117, .invokevirtual 238, 0, 0, 2, 0, 0, []), (127, .invokevirtual 248, 0, 0, 1, 0, 0, [(0, 0), (0, 0)]), (134, .invokevirtual 254, 0, 6, 3, 0, 0, []), (158, .invokevirtual 238, 0, 0, 2, 0, 0, []), (168, .invokevirtual 248, 0, 0, 1, 0, 0, [(0, 0), (0, 0)]), (175, .invokevirtual 254, 0, 6, 3, 0, 0, []), (191, .invokevirtual 368, 0, 7, 1, 0, 0, []), (204, .invokevirtual 251, 0, 8, 2, 0, 0, []), (212, .invokevirtual 238, 0, 0, 2, 0, 0, []), (217, .invokevirtual 248, 0, 0, 1, 0, 0, [(0, 0), (0, 0)])] := rfl
  intro e he
  rw [hl] at he
  simp only [List.mem_cons, List.not_mem_nil, or_false] at he
  rcases he with rfl | rfl | rfl | rfl | rfl | rfl | rfl | rfl | rfl | rfl | rfl | rfl | rfl | rfl | rfl | rfl
  · exact crI_V (idx := 238) G (by decide +kernel) (MX12_wrong N) (cw_of (ps := [1957, 1959, 81, 162, 1960]) (by decide +kernel) (by decide +kernel)) ⟨by decide +kernel, by decide +kernel, by decide +kernel⟩ (by unfold rmOk; rw [hR]; exact ⟨by decide, by decide⟩)
  · exact crI_V (idx := 353) G (by decide +kernel) (MX12_partLine N) (cw_of (ps := [1961, 1963, 82, 162, 1964]) (by decide +kernel) (by decide +kernel)) ⟨by decide +kernel, by decide +kernel, by decide +kernel⟩ (by unfold rmOk; rw [hR]; exact ⟨by decide, by decide⟩)
  · exact crI_V (idx := 356) G (by decide +kernel) (MX12_personLine N) (cw_of (ps := [1987, 1989, 87, 162, 1990]) (by decide +kernel) (by decide +kernel)) ⟨by decide +kernel, by decide +kernel, by decide +kernel⟩ (by unfold rmOk; rw [hR]; exact ⟨by decide, by decide⟩)
  · exact crI_V (idx := 359) G (by decide +kernel) (MX12_partyLine N) (cw_of (ps := [1995, 1997, 89, 162, 1998]) (by decide +kernel) (by decide +kernel)) ⟨by decide +kernel, by decide +kernel, by decide +kernel⟩ (by unfold rmOk; rw [hR]; exact ⟨by decide, by decide⟩)
  · exact crI_V (idx := 362) G (by decide +kernel) (MX12_weatherLine N) (cw_of (ps := [2003, 2005, 91, 162, 2006]) (by decide +kernel) (by decide +kernel)) ⟨by decide +kernel, by decide +kernel, by decide +kernel⟩ (by unfold rmOk; rw [hR]; exact ⟨by decide, by decide⟩)
  · exact crI_V (idx := 365) G (by decide +kernel) (MX12_slideLine N) (cw_of (ps := [2007, 2009, 92, 162, 2010]) (by decide +kernel) (by decide +kernel)) ⟨by decide +kernel, by decide +kernel, by decide +kernel⟩ (by unfold rmOk; rw [hR]; exact ⟨by decide, by decide⟩)
  · exact crI_V (idx := 238) G (by decide +kernel) (MX12_wrong N) (cw_of (ps := [1957, 1959, 81, 162, 1960]) (by decide +kernel) (by decide +kernel)) ⟨by decide +kernel, by decide +kernel, by decide +kernel⟩ (by unfold rmOk; rw [hR]; exact ⟨by decide, by decide⟩)
  · exact crV_V (idx := 248) G (by decide +kernel) (MX12_token N) (cw_of (ps := [1928, 1930, 74, 162, 1931]) (by decide +kernel) (by decide +kernel)) ⟨by decide +kernel, by decide +kernel, by decide +kernel⟩ (by unfold rmOk; rw [hR]; exact ⟨by decide, by decide⟩)
  · exact crI_V (idx := 254) G (by decide +kernel) (MX12_number N) (cw_of (ps := [1972, 1974, 84, 162, 1975]) (by decide +kernel) (by decide +kernel)) ⟨by decide +kernel, by decide +kernel, by decide +kernel⟩ (by unfold rmOk; rw [hR]; exact ⟨by decide, by decide⟩)
  · exact crI_V (idx := 238) G (by decide +kernel) (MX12_wrong N) (cw_of (ps := [1957, 1959, 81, 162, 1960]) (by decide +kernel) (by decide +kernel)) ⟨by decide +kernel, by decide +kernel, by decide +kernel⟩ (by unfold rmOk; rw [hR]; exact ⟨by decide, by decide⟩)
  · exact crV_V (idx := 248) G (by decide +kernel) (MX12_token N) (cw_of (ps := [1928, 1930, 74, 162, 1931]) (by decide +kernel) (by decide +kernel)) ⟨by decide +kernel, by decide +kernel, by decide +kernel⟩ (by unfold rmOk; rw [hR]; exact ⟨by decide, by decide⟩)
  · exact crI_V (idx := 254) G (by decide +kernel) (MX12_number N) (cw_of (ps := [1972, 1974, 84, 162, 1975]) (by decide +kernel) (by decide +kernel)) ⟨by decide +kernel, by decide +kernel, by decide +kernel⟩ (by unfold rmOk; rw [hR]; exact ⟨by decide, by decide⟩)
  · exact crI_V (idx := 368) G (by decide +kernel) (MX12_lawLine N) (cw_of (ps := [2011, 2013, 93, 162, 2014]) (by decide +kernel) (by decide +kernel)) ⟨by decide +kernel, by decide +kernel, by decide +kernel⟩ (by unfold rmOk; rw [hR]; exact ⟨by decide, by decide⟩)
  · exact crI_V (idx := 251) G (by decide +kernel) (MX12_isSign N) (cw_of (ps := [2019, 2021, 95, 162, 2022]) (by decide +kernel) (by decide +kernel)) ⟨by decide +kernel, by decide +kernel, by decide +kernel⟩ (by unfold rmOk; rw [hR]; exact ⟨by decide, by decide⟩)
  · exact crI_V (idx := 238) G (by decide +kernel) (MX12_wrong N) (cw_of (ps := [1957, 1959, 81, 162, 1960]) (by decide +kernel) (by decide +kernel)) ⟨by decide +kernel, by decide +kernel, by decide +kernel⟩ (by unfold rmOk; rw [hR]; exact ⟨by decide, by decide⟩)
  · exact crV_V (idx := 248) G (by decide +kernel) (MX12_token N) (cw_of (ps := [1928, 1930, 74, 162, 1931]) (by decide +kernel) (by decide +kernel)) ⟨by decide +kernel, by decide +kernel, by decide +kernel⟩ (by unfold rmOk; rw [hR]; exact ⟨by decide, by decide⟩)
set_option maxRecDepth 100000 in
set_option maxHeartbeats 4000000 in
theorem MX12_lineRead (N : Nat) : SndI yX12_lineRead cX12_lineRead 2 (some .boolean) 6 1 true (mX12_lineRead N) := by
  refine SndI.ofZ tX12_lineRead (by decide +kernel) rfl rfl ?_ ?_
  · intro as w x h
    obtain ⟨t1, rfl, h_1⟩ := xS1_some h
    obtain ⟨rfl, h_2⟩ := xN1_some h_1
    clear h h_1
    have h := h_2
    rw [callW_eq] at h
    exact ⟨fun _ => ⟨_, _, _, rfl, rfl, _, rfl, rfl⟩, rfl, Nat.le_of_ble_eq_true rfl⟩
  · intro X G hn hR as w r h hr
    have hC := crX12_lineRead (N := N) G hR
    obtain ⟨t1, rfl, h_1⟩ := xS1_some h
    obtain ⟨rfl, h_2⟩ := xN1_some h_1
    clear h h_1
    have h := h_2
    rw [callW_eq] at h
    refine run_sound (r := r) (X := X) (cc := cX12_lineRead) (own := RX12) (tab := tX12_lineRead) G (by rw [hn]; exact kX12_lineRead) (oI := (oF [(mX12_wrong N), (mX12_partLine N), (mX12_personLine N), (mX12_partyLine N), (mX12_weatherLine N), (mX12_slideLine N), (mX12_number N), (mX12_lawLine N), (mX12_isSign N)])) (oL := (oF [])) (oV := (oF [(mX12_token N)])) (rI := retZ) (rL := (fun _ _ => none)) (rV := (fun _ => none))
      (K := (fun j ls st w => if j = 82 then (lgI ls 1 fun v1 => st0 st (callW (fX12_lineRead_82 N v1) w)) else none)) hr (fun _ _ _ _ hx => by cases hx) (fun _ _ _ hx => by cases hx) hC (fun ls => lsb [some (.inr (.inr (16, 0))), none] 0 ls) (keepsP_of rfl) ?_ 100 0 [some (.inr (.inr (16, 0))), none] [] w ?_ h
    · intro j ls st w hfx h
      obtain ⟨e0, -⟩ : _ = _ ∧ True := hfx
      try dsimp only at h
      by_cases hj : j = 82
      · subst hj
        rw [if_pos rfl] at h
        obtain ⟨v1, e1, h_1⟩ := lgI_some h
        obtain ⟨rfl, h_2⟩ := st0_some h_1
        clear h h_1
        have h := h_2
        try rw [callW_eq] at h
        exact WW.le (a := [some (.inr (.inr (16, 0))), some (.inl v1)]) (by rw [hn]; rfl) (show _ = _ ∧ _ = _ ∧ True from ⟨e0, e1, trivial⟩) (sX12_lineRead_82 G hn hC hr v1 w h)
      rw [if_neg hj] at h
      cases h
    · exact (show _ = _ ∧ True from ⟨rfl, trivial⟩)
-- MoorGuidesModel.text(I)I
def tX12_text : List EN := [
  (0, .aload_n 0, 0, 0, 0, 0, 0, []), (1, .iconst 0, 0, 0, 0, 0, 0, []), (2, .putfield 196, 0, 12, 2, 0, 0, []), (5, .iload_n 1, 0, 0, 0, 0, 0, []),
  (6, .ifCond .lt 11, 0, 9, 0, 0, 0, []), (9, .iload_n 1, 0, 0, 0, 0, 0, []), (10, .aload_n 0, 0, 0, 0, 0, 0, []), (11, .getfield 199, 0, 12, 1, 0, 0, []),
  (14, .if_icmp .le 6, 0, 11, 0, 0, 0, []), (17, .bipush (-2), 0, 0, 0, (-2), 0, []), (19, .ireturn, 0, 0, 0, 0, 0, []), (20, .aload_n 0, 0, 0, 0, 0, 0, []),
  (21, .iload_n 1, 0, 0, 0, 0, 0, []), (22, .putfield 208, 0, 12, 6, 0, 0, []), (25, .aload_n 0, 0, 0, 0, 0, 0, []), (26, .iconst 0, 0, 0, 0, 0, 0, []),
  (27, .putfield 199, 0, 12, 1, 0, 0, []), (30, .aload_n 0, 0, 0, 0, 0, 0, []), (31, .iconst 0, 0, 0, 0, 0, 0, []), (32, .putfield 202, 0, 12, 4, 0, 0, []),
  (35, .aload_n 0, 0, 0, 0, 0, 0, []), (36, .iconst (-1), 0, 0, 0, (-1), 0, []), (37, .putfield 16, 0, 12, 5, 0, 0, []), (40, .aload_n 0, 0, 0, 0, 0, 0, []),
  (41, .iconst 0, 0, 0, 0, 0, 0, []), (42, .putfield 211, 0, 12, 7, 0, 0, []), (45, .aload_n 0, 0, 0, 0, 0, 0, []), (46, .invokevirtual 190, 0, 0, 1, 0, 0, [(0, 0), (0, 0)]),
  (49, .aload_n 0, 0, 0, 0, 0, 0, []), (50, .invokevirtual 248, 0, 1, 1, 0, 0, [(0, 0), (0, 0)]), (53, .iconst 0, 0, 0, 0, 0, 0, []), (54, .istore_n 2, 0, 0, 0, 0, 0, []),
  (55, .aload_n 0, 33, 0, 0, 0, 0, []), (56, .getfield 214, 0, 12, 8, 0, 0, []), (59, .ifCond .eq 18, 0, 42, 0, 0, 0, []), (62, .aload_n 0, 0, 0, 0, 0, 0, []),
  (63, .invokevirtual 371, 0, 0, 1, 0, 0, []), (66, .ifCond .ne 5, 0, 40, 0, 0, 0, []), (69, .iconst (-1), 0, 0, 0, (-1), 0, []), (70, .ireturn, 0, 0, 0, 0, 0, []),
  (71, .iinc 2 1, 0, 0, 0, 1, 0, []), (74, .goto (-19), 0, 32, 0, 0, 0, []), (77, .aload_n 0, 43, 0, 0, 0, 0, []), (78, .invokevirtual 193, 0, 2, 1, 0, 0, [(0, 0), (0, 0)]),
  (81, .iload_n 2, 0, 0, 0, 0, 0, []), (82, .ireturn, 0, 0, 0, 0, 0, [])]
noncomputable def fX12_text_42 (N : Nat) (v2 : Int32) (w : Wd) : Option (Int32 × Wd) :=
  (callW (pX12_keepText N) w).bind fun w1 =>
  some (v2, w1)
noncomputable def fX12_text_32 (N : Nat) : Nat → (Int32 → Wd → Option (Int32 × Wd)) → Int32 → Wd → Option (Int32 × Wd)
  | 0, _, _, _ => none
  | n + 1, k42, v2, w =>
    if (gI w 16 0 8) = 0 then k42 v2 w else
    (callW (pX12_lineRead N) w).bind fun r1 =>
    if r1.1 = 0 then some ((-1 : Int32), r1.2) else
    callW (fX12_text_32 N n k42 (v2 + (1 : Int32))) r1.2
noncomputable def pX12_text (N : Nat) (a1 : Int32) (w : Wd) : Option (Int32 × Wd) :=
  if a1 < 0 then some ((-2 : Int32), (setI w 16 0 2 (0 : Int32))) else
  if (gI (setI w 16 0 2 (0 : Int32)) 16 0 1) < a1 then some ((-2 : Int32), (setI w 16 0 2 (0 : Int32))) else
  (callW (pX12_plain N) (setI (setI (setI (setI (setI (setI w 16 0 2 (0 : Int32)) 16 0 6 a1) 16 0 1 (0 : Int32)) 16 0 4 (0 : Int32)) 16 0 5 (-1 : Int32)) 16 0 7 (0 : Int32))).bind fun w1 =>
  (callW (pX12_token N) w1).bind fun w2 =>
  callW (fX12_text_32 N N (fX12_text_42 N) (0 : Int32)) w2
noncomputable def mX12_text (N : Nat) (as : List AV) (w : Wd) : Option (Int32 × Wd) := xS1 16 as fun t => xI1 t fun a1 t => xN1 t (callW (pX12_text N a1) w)
set_option maxRecDepth 100000 in
set_option maxHeartbeats 4000000 in
theorem kX12_text : TK cX12_text RX12 3 tX12_text := ⟨by decide +kernel, wok_of [1592, 1591, 1596, 1591, 1594, 1595, 1597, 1598] (by decide +kernel) (by decide +kernel)⟩
set_option maxRecDepth 100000 in
set_option maxHeartbeats 4000000 in
theorem sX12_text_42 {N : Nat} {X : XT} (G : GX X cX12_text RX12) (hn : xnL X = 3) (hC : CRs X tX12_text (oF [(mX12_lineRead N)]) (oF []) (oF [(mX12_plain N), (mX12_token N), (mX12_keepText N)])) {r : Int32 × Wd} (hr : RTI X cX12_text r) (a1 : Int32) : ∀ (v2 : Int32) (w : Wd), fX12_text_42 N v2 w = some r → WW X (pcAt tX12_text 42) [some (.inr (.inr (16, 0))), some (.inl a1), some (.inl v2)] [] w := by
  intro v2 w h
  refine run_sound (r := r) (X := X) (cc := cX12_text) (own := RX12) (tab := tX12_text) G (by rw [hn]; exact kX12_text) (oI := (oF [(mX12_lineRead N)])) (oL := (oF [])) (oV := (oF [(mX12_plain N), (mX12_token N), (mX12_keepText N)])) (rI := (fun x w => some (x, w))) (rL := (fun _ _ => none)) (rV := (fun _ => none))
    (K := (fun j ls st w => none)) (fun x w pc ls hx hd => hr x w pc ls (Option.some.inj hx) hd) (fun _ _ _ _ hx => by cases hx) (fun _ _ _ hx => by cases hx) hC (fun ls => lsb [some (.inr (.inr (16, 0))), some (.inl a1), none] 0 ls) (keepsP_of rfl) ?_ 48 42 [some (.inr (.inr (16, 0))), some (.inl a1), some (.inl v2)] [] w ?_ h
  · intro j ls st w hfx h
    obtain ⟨e0, e1, -⟩ : _ = _ ∧ _ = _ ∧ True := hfx
    try dsimp only at h
    cases h
  · exact (show _ = _ ∧ _ = _ ∧ True from ⟨rfl, rfl, trivial⟩)
set_option maxRecDepth 100000 in
set_option maxHeartbeats 4000000 in
theorem sX12_text_32 {N : Nat} {X : XT} (G : GX X cX12_text RX12) (hn : xnL X = 3) (hC : CRs X tX12_text (oF [(mX12_lineRead N)]) (oF []) (oF [(mX12_plain N), (mX12_token N), (mX12_keepText N)])) {r : Int32 × Wd} (hr : RTI X cX12_text r) (a1 : Int32) : ∀ (n : Nat) (k42 : Int32 → Wd → Option (Int32 × Wd)) (v2 : Int32) (w : Wd), fX12_text_32 N n k42 v2 w = some r → (∀ (v2 : Int32) (w : Wd), k42 v2 w = some r → WW X (pcAt tX12_text 42) [some (.inr (.inr (16, 0))), some (.inl a1), some (.inl v2)] [] w) → WW X (pcAt tX12_text 32) [some (.inr (.inr (16, 0))), some (.inl a1), some (.inl v2)] [] w := by
  intro n
  induction n with
  | zero => intro k42 v2 w h h42; cases h
  | succ n ih =>
    intro k42 v2 w h h42
    refine run_sound (r := r) (X := X) (cc := cX12_text) (own := RX12) (tab := tX12_text) G (by rw [hn]; exact kX12_text) (oI := (oF [(mX12_lineRead N)])) (oL := (oF [])) (oV := (oF [(mX12_plain N), (mX12_token N), (mX12_keepText N)])) (rI := (fun x w => some (x, w))) (rL := (fun _ _ => none)) (rV := (fun _ => none))
      (K := (fun j ls st w => if j = 32 then (lgI ls 2 fun v2 => st0 st (callW (fX12_text_32 N n k42 v2) w)) else if j = 42 then (lgI ls 2 fun v2 => st0 st (k42 v2 w)) else none)) (fun x w pc ls hx hd => hr x w pc ls (Option.some.inj hx) hd) (fun _ _ _ _ hx => by cases hx) (fun _ _ _ hx => by cases hx) hC (fun ls => lsb [some (.inr (.inr (16, 0))), some (.inl a1), none] 0 ls) (keepsP_of rfl) ?_ 48 32 [some (.inr (.inr (16, 0))), some (.inl a1), some (.inl v2)] [] w ?_ h
    · intro j ls st w hfx h
      obtain ⟨e0, e1, -⟩ : _ = _ ∧ _ = _ ∧ True := hfx
      try dsimp only at h
      by_cases hj : j = 32
      · subst hj
        rw [if_pos rfl] at h
        obtain ⟨v2, e2, h_1⟩ := lgI_some h
        obtain ⟨rfl, h_2⟩ := st0_some h_1
        clear h h_1
        have h := h_2
        try rw [callW_eq] at h
        exact WW.le (a := [some (.inr (.inr (16, 0))), some (.inl a1), some (.inl v2)]) (by rw [hn]; rfl) (show _ = _ ∧ _ = _ ∧ _ = _ ∧ True from ⟨e0, e1, e2, trivial⟩) (ih k42 v2 w h h42)
      rw [if_neg hj] at h
      by_cases hj : j = 42
      · subst hj
        rw [if_pos rfl] at h
        obtain ⟨v2, e2, h_1⟩ := lgI_some h
        obtain ⟨rfl, h_2⟩ := st0_some h_1
        clear h h_1
        have h := h_2
        try rw [callW_eq] at h
        exact WW.le (a := [some (.inr (.inr (16, 0))), some (.inl a1), some (.inl v2)]) (by rw [hn]; rfl) (show _ = _ ∧ _ = _ ∧ _ = _ ∧ True from ⟨e0, e1, e2, trivial⟩) (h42 v2 w h)
      rw [if_neg hj] at h
      cases h
    · exact (show _ = _ ∧ _ = _ ∧ True from ⟨rfl, rfl, trivial⟩)
set_option maxRecDepth 100000 in
set_option maxHeartbeats 4000000 in
theorem crX12_text {N : Nat} {X : XT} (G : GX X cX12_text RX12) (hR : xR X = rmL 7) : CRs X tX12_text (oF [(mX12_lineRead N)]) (oF []) (oF [(mX12_plain N), (mX12_token N), (mX12_keepText N)]) := by
  have hl : tX12_text.filter isInv = [(46, .invokevirtual 190, 0, 0, 1, 0, 0, [(0, 0), (0, 0)]), (50, .invokevirtual 248, 0, 1, 1, 0, 0, [(0, 0), (0, 0)]), (63, .invokevirtual 371, 0, 0, 1, 0, 0, []), (78, .invokevirtual 193, 0, 2, 1, 0, 0, [(0, 0), (0, 0)])] := rfl
  intro e he
  rw [hl] at he
  simp only [List.mem_cons, List.not_mem_nil, or_false] at he
  rcases he with rfl | rfl | rfl | rfl
  · exact crV_V (idx := 190) G (by decide +kernel) (MX12_plain N) (cw_of (ps := [1564, 1566, 69, 162, 1567]) (by decide +kernel) (by decide +kernel)) ⟨by decide +kernel, by decide +kernel, by decide +kernel⟩ (by unfold rmOk; rw [hR]; exact ⟨by decide, by decide⟩)
  · exact crV_V (idx := 248) G (by decide +kernel) (MX12_token N) (cw_of (ps := [1928, 1930, 74, 162, 1931]) (by decide +kernel) (by decide +kernel)) ⟨by decide +kernel, by decide +kernel, by decide +kernel⟩ (by unfold rmOk; rw [hR]; exact ⟨by decide, by decide⟩)
  · exact crI_V (idx := 371) G (by decide +kernel) (MX12_lineRead N) (cw_of (ps := [1953, 1955, 80, 162, 1956]) (by decide +kernel) (by decide +kernel)) ⟨by decide +kernel, by decide +kernel, by decide +kernel⟩ (by unfold rmOk; rw [hR]; exact ⟨by decide, by decide⟩)
  · exact crV_V (idx := 193) G (by decide +kernel) (MX12_keepText N) (cw_of (ps := [1568, 1570, 70, 162, 1571]) (by decide +kernel) (by decide +kernel)) ⟨by decide +kernel, by decide +kernel, by decide +kernel⟩ (by unfold rmOk; rw [hR]; exact ⟨by decide, by decide⟩)
set_option maxRecDepth 100000 in
set_option maxHeartbeats 4000000 in
theorem MX12_text (N : Nat) : SndI yX12_text cX12_text 3 (some .int) 7 2 true (mX12_text N) := by
  refine SndI.of tX12_text (by decide +kernel) rfl rfl ?_ ?_
  · intro as w x h
    obtain ⟨t1, rfl, h_1⟩ := xS1_some h
    obtain ⟨a1, t2, rfl, h_2⟩ := xI1_some h_1
    obtain ⟨rfl, h_3⟩ := xN1_some h_2
    clear h h_1 h_2
    have h := h_3
    rw [callW_eq] at h
    exact ⟨fun _ => ⟨_, _, _, rfl, rfl, _, rfl, rfl⟩, rfl, Nat.le_of_ble_eq_true rfl⟩
  · intro X G hn hR as w r h hr
    have hC := crX12_text (N := N) G hR
    obtain ⟨t1, rfl, h_1⟩ := xS1_some h
    obtain ⟨a1, t2, rfl, h_2⟩ := xI1_some h_1
    obtain ⟨rfl, h_3⟩ := xN1_some h_2
    clear h h_1 h_2
    have h := h_3
    rw [callW_eq] at h
    refine run_sound (r := r) (X := X) (cc := cX12_text) (own := RX12) (tab := tX12_text) G (by rw [hn]; exact kX12_text) (oI := (oF [(mX12_lineRead N)])) (oL := (oF [])) (oV := (oF [(mX12_plain N), (mX12_token N), (mX12_keepText N)])) (rI := (fun x w => some (x, w))) (rL := (fun _ _ => none)) (rV := (fun _ => none))
      (K := (fun j ls st w => if j = 32 then (lgI ls 2 fun v2 => st0 st (callW (fX12_text_32 N N (fX12_text_42 N) v2) w)) else none)) (fun x w pc ls hx hd => hr x w pc ls (Option.some.inj hx) hd) (fun _ _ _ _ hx => by cases hx) (fun _ _ _ hx => by cases hx) hC (fun ls => lsb [some (.inr (.inr (16, 0))), some (.inl a1), none] 0 ls) (keepsP_of rfl) ?_ 48 0 [some (.inr (.inr (16, 0))), some (.inl a1), none] [] w ?_ h
    · intro j ls st w hfx h
      obtain ⟨e0, e1, -⟩ : _ = _ ∧ _ = _ ∧ True := hfx
      try dsimp only at h
      by_cases hj : j = 32
      · subst hj
        rw [if_pos rfl] at h
        obtain ⟨v2, e2, h_1⟩ := lgI_some h
        obtain ⟨rfl, h_2⟩ := st0_some h_1
        clear h h_1
        have h := h_2
        try rw [callW_eq] at h
        exact WW.le (a := [some (.inr (.inr (16, 0))), some (.inl a1), some (.inl v2)]) (by rw [hn]; rfl) (show _ = _ ∧ _ = _ ∧ _ = _ ∧ True from ⟨e0, e1, e2, trivial⟩) (sX12_text_32 G hn hC hr a1 N (fX12_text_42 N) v2 w h (fun v2 w h => (sX12_text_42 G hn hC hr a1 v2 w h)))
      rw [if_neg hj] at h
      cases h
    · exact (show _ = _ ∧ _ = _ ∧ True from ⟨rfl, rfl, trivial⟩)
-- MoorGuidesModel.fault(I)I
def tX12_fault : List EN := [
  (0, .aload_n 0, 0, 0, 0, 0, 0, []), (1, .iconst 0, 0, 0, 0, 0, 0, []), (2, .putfield 196, 0, 12, 2, 0, 0, []), (5, .iload_n 1, 0, 0, 0, 0, 0, []),
  (6, .ifCond .ne 10, 0, 8, 0, 0, 0, []), (9, .aload_n 0, 0, 0, 0, 0, 0, []), (10, .getfield 202, 0, 12, 4, 0, 0, []), (13, .goto 16, 0, 15, 0, 0, 0, []),
  (16, .iload_n 1, 0, 0, 0, 0, 0, []), (17, .iconst 1, 0, 0, 0, 1, 0, []), (18, .if_icmp .ne 10, 0, 14, 0, 0, 0, []), (21, .aload_n 0, 0, 0, 0, 0, 0, []),
  (22, .getfield 16, 0, 12, 5, 0, 0, []), (25, .goto 4, 0, 15, 0, 0, 0, []), (28, .iconst (-1), 0, 0, 0, (-1), 0, []), (29, .ireturn, 0, 0, 0, 0, 0, [])]
noncomputable def pX12_fault (N : Nat) (a1 : Int32) (w : Wd) : Option (Int32 × Wd) :=
  if a1 = 0 then some ((gI (setI w 16 0 2 (0 : Int32)) 16 0 4), (setI w 16 0 2 (0 : Int32))) else
  if a1 = (1 : Int32) then some ((gI (setI w 16 0 2 (0 : Int32)) 16 0 5), (setI w 16 0 2 (0 : Int32))) else
  some ((-1 : Int32), (setI w 16 0 2 (0 : Int32)))
noncomputable def mX12_fault (N : Nat) (as : List AV) (w : Wd) : Option (Int32 × Wd) := xS1 16 as fun t => xI1 t fun a1 t => xN1 t (callW (pX12_fault N a1) w)
set_option maxRecDepth 100000 in
set_option maxHeartbeats 4000000 in
theorem kX12_fault : TK cX12_fault RX12 2 tX12_fault := ⟨by decide +kernel, wok_of [1592, 1594, 1595] (by decide +kernel) (by decide +kernel)⟩
set_option maxRecDepth 100000 in
set_option maxHeartbeats 4000000 in
theorem crX12_fault {N : Nat} {X : XT} (G : GX X cX12_fault RX12) (hR : xR X = rmL 1) : CRs X tX12_fault (oF []) (oF []) (oF []) := by
  have hl : tX12_fault.filter isInv = [] := rfl
  intro e he
  rw [hl] at he
  cases he
set_option maxRecDepth 100000 in
set_option maxHeartbeats 4000000 in
theorem MX12_fault (N : Nat) : SndI yX12_fault cX12_fault 2 (some .int) 1 2 true (mX12_fault N) := by
  refine SndI.of tX12_fault (by decide +kernel) rfl rfl ?_ ?_
  · intro as w x h
    obtain ⟨t1, rfl, h_1⟩ := xS1_some h
    obtain ⟨a1, t2, rfl, h_2⟩ := xI1_some h_1
    obtain ⟨rfl, h_3⟩ := xN1_some h_2
    clear h h_1 h_2
    have h := h_3
    rw [callW_eq] at h
    exact ⟨fun _ => ⟨_, _, _, rfl, rfl, _, rfl, rfl⟩, rfl, Nat.le_of_ble_eq_true rfl⟩
  · intro X G hn hR as w r h hr
    have hC := crX12_fault (N := N) G hR
    obtain ⟨t1, rfl, h_1⟩ := xS1_some h
    obtain ⟨a1, t2, rfl, h_2⟩ := xI1_some h_1
    obtain ⟨rfl, h_3⟩ := xN1_some h_2
    clear h h_1 h_2
    have h := h_3
    rw [callW_eq] at h
    refine run_sound (r := r) (X := X) (cc := cX12_fault) (own := RX12) (tab := tX12_fault) G (by rw [hn]; exact kX12_fault) (oI := (oF [])) (oL := (oF [])) (oV := (oF [])) (rI := (fun x w => some (x, w))) (rL := (fun _ _ => none)) (rV := (fun _ => none))
      (K := (fun j ls st w => none)) (fun x w pc ls hx hd => hr x w pc ls (Option.some.inj hx) hd) (fun _ _ _ _ hx => by cases hx) (fun _ _ _ hx => by cases hx) hC (fun ls => lsb [some (.inr (.inr (16, 0))), some (.inl a1)] 0 ls) (keepsP_of rfl) ?_ 18 0 [some (.inr (.inr (16, 0))), some (.inl a1)] [] w ?_ h
    · intro j ls st w hfx h
      obtain ⟨e0, e1, -⟩ : _ = _ ∧ _ = _ ∧ True := hfx
      try dsimp only at h
      cases h
    · exact (show _ = _ ∧ _ = _ ∧ True from ⟨rfl, rfl, trivial⟩)
-- MoorGuidesModel.named(II)I
def tX12_named : List EN := [
  (0, .aload_n 0, 0, 0, 0, 0, 0, []), (1, .iconst 0, 0, 0, 0, 0, 0, []), (2, .putfield 196, 0, 12, 2, 0, 0, []), (5, .iload_n 1, 0, 0, 0, 0, 0, []),
  (6, .ifCond .ne 19, 0, 13, 0, 0, 0, []), (9, .aload_n 0, 0, 0, 0, 0, 0, []), (10, .getfield 20, 0, 12, 31, 0, 0, []), (13, .iconst 0, 0, 0, 0, 0, 0, []),
  (14, .aload_n 0, 0, 0, 0, 0, 0, []), (15, .getfield 295, 0, 12, 12, 0, 0, []), (18, .iload_n 2, 0, 0, 0, 0, 0, []), (19, .invokestatic 326, 0, 0, 4, 0, 0, []),
  (22, .goto 25, 0, 25, 0, 0, 0, []), (25, .iload_n 1, 0, 0, 0, 0, 0, []), (26, .iconst 1, 0, 0, 0, 1, 0, []), (27, .if_icmp .ne 19, 0, 24, 0, 0, 0, []),
  (30, .aload_n 0, 0, 0, 0, 0, 0, []), (31, .getfield 29, 0, 12, 34, 0, 0, []), (34, .iconst 0, 0, 0, 0, 0, 0, []), (35, .aload_n 0, 0, 0, 0, 0, 0, []),
  (36, .getfield 298, 0, 12, 13, 0, 0, []), (39, .iload_n 2, 0, 0, 0, 0, 0, []), (40, .invokestatic 326, 0, 0, 4, 0, 0, []), (43, .goto 4, 0, 25, 0, 0, 0, []),
  (46, .iconst (-1), 0, 0, 0, (-1), 0, []), (47, .ireturn, 0, 0, 0, 0, 0, [])]
noncomputable def pX12_named (N : Nat) (a1 : Int32) (a2 : Int32) (w : Wd) : Option (Int32 × Wd) :=
  if a1 = 0 then
    (callW (pX12_find N 75 0 (0 : Int32) (gI (setI w 16 0 2 (0 : Int32)) 16 0 12) a2) (setI w 16 0 2 (0 : Int32))).bind fun r1 =>
    some (r1.1, r1.2)
  else
  if a1 = (1 : Int32) then
    (callW (pX12_find N 78 0 (0 : Int32) (gI (setI w 16 0 2 (0 : Int32)) 16 0 13) a2) (setI w 16 0 2 (0 : Int32))).bind fun r2 =>
    some (r2.1, r2.2)
  else
  some ((-1 : Int32), (setI w 16 0 2 (0 : Int32)))
noncomputable def mX12_named (N : Nat) (as : List AV) (w : Wd) : Option (Int32 × Wd) := xS1 16 as fun t => xI1 t fun a1 t => xI1 t fun a2 t => xN1 t (callW (pX12_named N a1 a2) w)
set_option maxRecDepth 100000 in
set_option maxHeartbeats 4000000 in
theorem kX12_named : TK cX12_named RX12 3 tX12_named := ⟨by decide +kernel, wok_of [1592, 1621, 1602, 1624, 1603] (by decide +kernel) (by decide +kernel)⟩
set_option maxRecDepth 100000 in
set_option maxHeartbeats 4000000 in
theorem crX12_named {N : Nat} {X : XT} (G : GX X cX12_named RX12) (hR : xR X = rmL 2) : CRs X tX12_named (oF [(mX12_find N)]) (oF []) (oF []) := by
  have hl : tX12_named.filter isInv = [(19, .invokestatic 326, 0, 0, 4, 0, 0, []), (40, .invokestatic 326, 0, 0, 4, 0, 0, [])] := rfl
  intro e he
  rw [hl] at he
  simp only [List.mem_cons, List.not_mem_nil, or_false] at he
  rcases he with rfl | rfl
  · exact crI_S (idx := 326) G (by decide +kernel) (MX12_find N) (cw_of (ps := [1969, 1970, 162, 1971]) (by decide +kernel) (by decide +kernel)) ⟨by decide +kernel, by decide +kernel, by decide +kernel⟩ (by unfold rmOk; rw [hR]; exact ⟨by decide, by decide⟩)
  · exact crI_S (idx := 326) G (by decide +kernel) (MX12_find N) (cw_of (ps := [1969, 1970, 162, 1971]) (by decide +kernel) (by decide +kernel)) ⟨by decide +kernel, by decide +kernel, by decide +kernel⟩ (by unfold rmOk; rw [hR]; exact ⟨by decide, by decide⟩)
set_option maxRecDepth 100000 in
set_option maxHeartbeats 4000000 in
theorem MX12_named (N : Nat) : SndI yX12_named cX12_named 3 (some .int) 2 3 true (mX12_named N) := by
  refine SndI.of tX12_named (by decide +kernel) rfl rfl ?_ ?_
  · intro as w x h
    obtain ⟨t1, rfl, h_1⟩ := xS1_some h
    obtain ⟨a1, t2, rfl, h_2⟩ := xI1_some h_1
    obtain ⟨a2, t3, rfl, h_3⟩ := xI1_some h_2
    obtain ⟨rfl, h_4⟩ := xN1_some h_3
    clear h h_1 h_2 h_3
    have h := h_4
    rw [callW_eq] at h
    exact ⟨fun _ => ⟨_, _, _, rfl, rfl, _, rfl, rfl⟩, rfl, Nat.le_of_ble_eq_true rfl⟩
  · intro X G hn hR as w r h hr
    have hC := crX12_named (N := N) G hR
    obtain ⟨t1, rfl, h_1⟩ := xS1_some h
    obtain ⟨a1, t2, rfl, h_2⟩ := xI1_some h_1
    obtain ⟨a2, t3, rfl, h_3⟩ := xI1_some h_2
    obtain ⟨rfl, h_4⟩ := xN1_some h_3
    clear h h_1 h_2 h_3
    have h := h_4
    rw [callW_eq] at h
    refine run_sound (r := r) (X := X) (cc := cX12_named) (own := RX12) (tab := tX12_named) G (by rw [hn]; exact kX12_named) (oI := (oF [(mX12_find N)])) (oL := (oF [])) (oV := (oF [])) (rI := (fun x w => some (x, w))) (rL := (fun _ _ => none)) (rV := (fun _ => none))
      (K := (fun j ls st w => none)) (fun x w pc ls hx hd => hr x w pc ls (Option.some.inj hx) hd) (fun _ _ _ _ hx => by cases hx) (fun _ _ _ hx => by cases hx) hC (fun ls => lsb [some (.inr (.inr (16, 0))), some (.inl a1), some (.inl a2)] 0 ls) (keepsP_of rfl) ?_ 28 0 [some (.inr (.inr (16, 0))), some (.inl a1), some (.inl a2)] [] w ?_ h
    · intro j ls st w hfx h
      obtain ⟨e0, e1, e2, -⟩ : _ = _ ∧ _ = _ ∧ _ = _ ∧ True := hfx
      try dsimp only at h
      cases h
    · exact (show _ = _ ∧ _ = _ ∧ _ = _ ∧ True from ⟨rfl, rfl, rfl, trivial⟩)
-- MoorGuidesModel.bounded(J)J
def tX12_bounded : List EN := [
  (0, .aload_n 0, 0, 0, 0, 0, 0, []), (1, .aload_n 0, 0, 0, 0, 0, 0, []), (2, .getfield 420, 0, 12, 63, 0, 0, []), (5, .ifCond .ne 19, 0, 12, 0, 0, 0, []),
  (8, .lload_n 1, 0, 0, 0, 0, 0, []), (9, .ldc2_w 423, 0, 0, 0, 0, 1000000000000, []), (12, .lcmp, 0, 0, 0, 0, 0, []), (13, .ifCond .gt 11, 0, 12, 0, 0, 0, []),
  (16, .lload_n 1, 0, 0, 0, 0, 0, []), (17, .ldc2_w 425, 0, 0, 0, 0, (-1000000000000), []), (20, .lcmp, 0, 0, 0, 0, 0, []), (21, .ifCond .ge 7, 0, 14, 0, 0, 0, []),
  (24, .iconst 1, 13, 0, 0, 1, 0, []), (25, .goto 4, 0, 15, 0, 0, 0, []), (28, .iconst 0, 0, 0, 0, 0, 0, []), (29, .putfield 420, 16, 12, 63, 0, 0, [(0, 0)]),
  (32, .aload_n 0, 0, 0, 0, 0, 0, []), (33, .getfield 420, 0, 12, 63, 0, 0, []), (36, .ifCond .eq 7, 0, 21, 0, 0, 0, []), (39, .lconst 0, 0, 0, 0, 0, 0, []),
  (40, .goto 4, 0, 22, 0, 0, 0, []), (43, .lload_n 1, 0, 0, 0, 0, 0, []), (44, .lreturn, 0, 0, 0, 0, 0, [])]
noncomputable def fX12_bounded_15 (N : Nat) (a1 : Int64) (s0 : Int32) (w : Wd) : Option (Int64 × Wd) :=
  (fput w 16 0 63 1 (0, 0, 0) (.inl s0)).bind fun w1 =>
  if (gI w1 16 0 63) = 0 then some (a1, w1) else
  some ((0 : Int64), w1)
noncomputable def fX12_bounded_12 (N : Nat) (a1 : Int64) (w : Wd) : Option (Int64 × Wd) :=
  callW (fX12_bounded_15 N a1 (1 : Int32)) w
noncomputable def pX12_bounded (N : Nat) (a1 : Int64) (w : Wd) : Option (Int64 × Wd) :=
  if (gI w 16 0 63) = 0 then
    if 0 < (lg_cmp a1 (1000000000000 : Int64)) then callW (fX12_bounded_12 N a1) w else
    if (lg_cmp a1 (-1000000000000 : Int64)) < 0 then callW (fX12_bounded_12 N a1) w else
    callW (fX12_bounded_15 N a1 (0 : Int32)) w
  else
  callW (fX12_bounded_12 N a1) w
noncomputable def mX12_bounded (N : Nat) (as : List AV) (w : Wd) : Option (Int64 × Wd) := xS1 16 as fun t => xL1 t fun a1 t => xN1 t (callW (pX12_bounded N a1) w)
set_option maxRecDepth 100000 in
set_option maxHeartbeats 4000000 in
theorem kX12_bounded : TK cX12_bounded RX12 3 tX12_bounded := ⟨by decide +kernel, wok_of [1653, 2136, 2137, 1653, 1653] (by decide +kernel) (by decide +kernel)⟩
set_option maxRecDepth 100000 in
set_option maxHeartbeats 4000000 in
theorem sX12_bounded_15 {N : Nat} {X : XT} (G : GX X cX12_bounded RX12) (hn : xnL X = 3) (hC : CRs X tX12_bounded (oF []) (oF []) (oF [])) {r : Int64 × Wd} (hr : RTL X cX12_bounded r) (a1 : Int64) : ∀ (s0 : Int32) (w : Wd), fX12_bounded_15 N a1 s0 w = some r → WW X (pcAt tX12_bounded 15) [some (.inr (.inr (16, 0))), some (.inr (.inl a1)), none] [.inl s0, .inr (.inr (16, 0))] w := by
  intro s0 w h
  refine run_sound (r := r) (X := X) (cc := cX12_bounded) (own := RX12) (tab := tX12_bounded) G (by rw [hn]; exact kX12_bounded) (oI := (oF [])) (oL := (oF [])) (oV := (oF [])) (rI := (fun _ _ => none)) (rL := (fun x w => some (x, w))) (rV := (fun _ => none))
    (K := (fun j ls st w => none)) (fun _ _ _ _ hx => by cases hx) (fun x w pc ls hx hd => hr x w pc ls (Option.some.inj hx) hd) (fun _ _ _ hx => by cases hx) hC (fun ls => lsb [some (.inr (.inr (16, 0))), some (.inr (.inl a1)), none] 0 ls) (keepsP_of rfl) ?_ 25 15 [some (.inr (.inr (16, 0))), some (.inr (.inl a1)), none] [.inl s0, .inr (.inr (16, 0))] w ?_ h
  · intro j ls st w hfx h
    obtain ⟨e0, e1, -⟩ : _ = _ ∧ _ = _ ∧ True := hfx
    try dsimp only at h
    cases h
  · exact (show _ = _ ∧ _ = _ ∧ True from ⟨rfl, rfl, trivial⟩)
set_option maxRecDepth 100000 in
set_option maxHeartbeats 4000000 in
theorem sX12_bounded_12 {N : Nat} {X : XT} (G : GX X cX12_bounded RX12) (hn : xnL X = 3) (hC : CRs X tX12_bounded (oF []) (oF []) (oF [])) {r : Int64 × Wd} (hr : RTL X cX12_bounded r) (a1 : Int64) : ∀ (w : Wd), fX12_bounded_12 N a1 w = some r → WW X (pcAt tX12_bounded 12) [some (.inr (.inr (16, 0))), some (.inr (.inl a1)), none] [.inr (.inr (16, 0))] w := by
  intro w h
  refine run_sound (r := r) (X := X) (cc := cX12_bounded) (own := RX12) (tab := tX12_bounded) G (by rw [hn]; exact kX12_bounded) (oI := (oF [])) (oL := (oF [])) (oV := (oF [])) (rI := (fun _ _ => none)) (rL := (fun x w => some (x, w))) (rV := (fun _ => none))
    (K := (fun j ls st w => if j = 15 then (po1 st fun s0 st => pr1 st fun kk qq st => if kk = 16 ∧ qq = 0 then st0 st (callW (fX12_bounded_15 N a1 s0) w) else none) else none)) (fun _ _ _ _ hx => by cases hx) (fun x w pc ls hx hd => hr x w pc ls (Option.some.inj hx) hd) (fun _ _ _ hx => by cases hx) hC (fun ls => lsb [some (.inr (.inr (16, 0))), some (.inr (.inl a1)), none] 0 ls) (keepsP_of rfl) ?_ 25 12 [some (.inr (.inr (16, 0))), some (.inr (.inl a1)), none] [.inr (.inr (16, 0))] w ?_ h
  · intro j ls st w hfx h
    obtain ⟨e0, e1, -⟩ : _ = _ ∧ _ = _ ∧ True := hfx
    try dsimp only at h
    by_cases hj : j = 15
    · subst hj
      rw [if_pos rfl] at h
      obtain ⟨s0, st0, rfl, h_1⟩ := po1_some h
      obtain ⟨kkk1, s1, st1, rfl, h_2⟩ := pr1_some h_1
      obtain ⟨⟨rfl, rfl⟩, h_3⟩ := if_some _ h_2
      obtain ⟨rfl, h_4⟩ := st0_some h_3
      clear h h_1 h_2 h_3
      have h := h_4
      try rw [callW_eq] at h
      exact WW.le (a := [some (.inr (.inr (16, 0))), some (.inr (.inl a1)), none]) (by rw [hn]; rfl) (show _ = _ ∧ _ = _ ∧ True from ⟨e0, e1, trivial⟩) (sX12_bounded_15 G hn hC hr a1 s0 w h)
    rw [if_neg hj] at h
    cases h
  · exact (show _ = _ ∧ _ = _ ∧ True from ⟨rfl, rfl, trivial⟩)
set_option maxRecDepth 100000 in
set_option maxHeartbeats 4000000 in
theorem crX12_bounded {N : Nat} {X : XT} (G : GX X cX12_bounded RX12) (hR : xR X = rmL 1) : CRs X tX12_bounded (oF []) (oF []) (oF []) := by
  have hl : tX12_bounded.filter isInv = [] := rfl
  intro e he
  rw [hl] at he
  cases he
set_option maxRecDepth 100000 in
set_option maxHeartbeats 4000000 in
theorem MX12_bounded (N : Nat) : SndL yX12_bounded cX12_bounded 3 (some .long) 1 2 true (mX12_bounded N) := by
  refine SndL.of tX12_bounded (by decide +kernel) rfl rfl ?_ ?_
  · intro as w x h
    obtain ⟨t1, rfl, h_1⟩ := xS1_some h
    obtain ⟨a1, t2, rfl, h_2⟩ := xL1_some h_1
    obtain ⟨rfl, h_3⟩ := xN1_some h_2
    clear h h_1 h_2
    have h := h_3
    rw [callW_eq] at h
    exact ⟨fun _ => ⟨_, _, _, rfl, rfl, _, rfl, rfl⟩, rfl, Nat.le_of_ble_eq_true rfl⟩
  · intro X G hn hR as w r h hr
    have hC := crX12_bounded (N := N) G hR
    obtain ⟨t1, rfl, h_1⟩ := xS1_some h
    obtain ⟨a1, t2, rfl, h_2⟩ := xL1_some h_1
    obtain ⟨rfl, h_3⟩ := xN1_some h_2
    clear h h_1 h_2
    have h := h_3
    rw [callW_eq] at h
    refine run_sound (r := r) (X := X) (cc := cX12_bounded) (own := RX12) (tab := tX12_bounded) G (by rw [hn]; exact kX12_bounded) (oI := (oF [])) (oL := (oF [])) (oV := (oF [])) (rI := (fun _ _ => none)) (rL := (fun x w => some (x, w))) (rV := (fun _ => none))
      (K := (fun j ls st w => if j = 12 then (pr1 st fun kk qq st => if kk = 16 ∧ qq = 0 then st0 st (callW (fX12_bounded_12 N a1) w) else none) else if j = 15 then (po1 st fun s0 st => pr1 st fun kk qq st => if kk = 16 ∧ qq = 0 then st0 st (callW (fX12_bounded_15 N a1 s0) w) else none) else none)) (fun _ _ _ _ hx => by cases hx) (fun x w pc ls hx hd => hr x w pc ls (Option.some.inj hx) hd) (fun _ _ _ hx => by cases hx) hC (fun ls => lsb [some (.inr (.inr (16, 0))), some (.inr (.inl a1)), none] 0 ls) (keepsP_of rfl) ?_ 25 0 [some (.inr (.inr (16, 0))), some (.inr (.inl a1)), none] [] w ?_ h
    · intro j ls st w hfx h
      obtain ⟨e0, e1, -⟩ : _ = _ ∧ _ = _ ∧ True := hfx
      try dsimp only at h
      by_cases hj : j = 12
      · subst hj
        rw [if_pos rfl] at h
        obtain ⟨kkk0, s0, st0, rfl, h_1⟩ := pr1_some h
        obtain ⟨⟨rfl, rfl⟩, h_2⟩ := if_some _ h_1
        obtain ⟨rfl, h_3⟩ := st0_some h_2
        clear h h_1 h_2
        have h := h_3
        try rw [callW_eq] at h
        exact WW.le (a := [some (.inr (.inr (16, 0))), some (.inr (.inl a1)), none]) (by rw [hn]; rfl) (show _ = _ ∧ _ = _ ∧ True from ⟨e0, e1, trivial⟩) (sX12_bounded_12 G hn hC hr a1 w h)
      rw [if_neg hj] at h
      by_cases hj : j = 15
      · subst hj
        rw [if_pos rfl] at h
        obtain ⟨s0, st0, rfl, h_1⟩ := po1_some h
        obtain ⟨kkk1, s1, st1, rfl, h_2⟩ := pr1_some h_1
        obtain ⟨⟨rfl, rfl⟩, h_3⟩ := if_some _ h_2
        obtain ⟨rfl, h_4⟩ := st0_some h_3
        clear h h_1 h_2 h_3
        have h := h_4
        try rw [callW_eq] at h
        exact WW.le (a := [some (.inr (.inr (16, 0))), some (.inr (.inl a1)), none]) (by rw [hn]; rfl) (show _ = _ ∧ _ = _ ∧ True from ⟨e0, e1, trivial⟩) (sX12_bounded_15 G hn hC hr a1 s0 w h)
      rw [if_neg hj] at h
      cases h
    · exact (show _ = _ ∧ _ = _ ∧ True from ⟨rfl, rfl, trivial⟩)
-- MoorGuidesModel.compares(IJJ)Z
def tX12_compares : List EN := [
  (0, .iload_n 0, 0, 0, 0, 0, 0, []), (1, .tableswitch 95 5 9 #[35, 47, 59, 71, 83], 0, 42, 35, 0, 0, [(5, 2), (6, 10), (7, 18), (8, 26), (9, 34)]), (36, .lload_n 1, 0, 0, 0, 0, 0, []), (37, .lload_n 3, 0, 0, 0, 0, 0, []),
  (38, .lcmp, 0, 0, 0, 0, 0, []), (39, .ifCond .ge 7, 0, 8, 0, 0, 0, []), (42, .iconst 1, 0, 0, 0, 1, 0, []), (43, .goto 4, 0, 9, 0, 0, 0, []),
  (46, .iconst 0, 0, 0, 0, 0, 0, []), (47, .ireturn, 0, 0, 0, 0, 0, []), (48, .lload_n 1, 0, 0, 0, 0, 0, []), (49, .lload_n 3, 0, 0, 0, 0, 0, []),
  (50, .lcmp, 0, 0, 0, 0, 0, []), (51, .ifCond .gt 7, 0, 16, 0, 0, 0, []), (54, .iconst 1, 0, 0, 0, 1, 0, []), (55, .goto 4, 0, 17, 0, 0, 0, []),
  (58, .iconst 0, 0, 0, 0, 0, 0, []), (59, .ireturn, 0, 0, 0, 0, 0, []), (60, .lload_n 1, 0, 0, 0, 0, 0, []), (61, .lload_n 3, 0, 0, 0, 0, 0, []),
  (62, .lcmp, 0, 0, 0, 0, 0, []), (63, .ifCond .ne 7, 0, 24, 0, 0, 0, []), (66, .iconst 1, 0, 0, 0, 1, 0, []), (67, .goto 4, 0, 25, 0, 0, 0, []),
  (70, .iconst 0, 0, 0, 0, 0, 0, []), (71, .ireturn, 0, 0, 0, 0, 0, []), (72, .lload_n 1, 0, 0, 0, 0, 0, []), (73, .lload_n 3, 0, 0, 0, 0, 0, []),
  (74, .lcmp, 0, 0, 0, 0, 0, []), (75, .ifCond .eq 7, 0, 32, 0, 0, 0, []), (78, .iconst 1, 0, 0, 0, 1, 0, []), (79, .goto 4, 0, 33, 0, 0, 0, []),
  (82, .iconst 0, 0, 0, 0, 0, 0, []), (83, .ireturn, 0, 0, 0, 0, 0, []), (84, .lload_n 1, 0, 0, 0, 0, 0, []), (85, .lload_n 3, 0, 0, 0, 0, 0, []),
  (86, .lcmp, 0, 0, 0, 0, 0, []), (87, .ifCond .lt 7, 0, 40, 0, 0, 0, []), (90, .iconst 1, 0, 0, 0, 1, 0, []), (91, .goto 4, 0, 41, 0, 0, 0, []),
  (94, .iconst 0, 0, 0, 0, 0, 0, []), (95, .ireturn, 0, 0, 0, 0, 0, []), (96, .lload_n 1, 0, 0, 0, 0, 0, []), (97, .lload_n 3, 0, 0, 0, 0, 0, []),
  (98, .lcmp, 0, 0, 0, 0, 0, []), (99, .ifCond .le 7, 0, 48, 0, 0, 0, []), (102, .iconst 1, 0, 0, 0, 1, 0, []), (103, .goto 4, 0, 49, 0, 0, 0, []),
  (106, .iconst 0, 0, 0, 0, 0, 0, []), (107, .ireturn, 0, 0, 0, 0, 0, [])]
noncomputable def pX12_compares (N : Nat) (a0 : Int32) (a1 : Int64) (a3 : Int64) (w : Wd) : Option (Int32 × Wd) :=
  if a0 = (5 : Int32) then
    if (lg_cmp a1 a3) < 0 then some ((1 : Int32), w) else
    some ((0 : Int32), w)
  else
  if a0 = (6 : Int32) then
    if 0 < (lg_cmp a1 a3) then some ((0 : Int32), w) else
    some ((1 : Int32), w)
  else
  if a0 = (7 : Int32) then
    if (lg_cmp a1 a3) = 0 then some ((1 : Int32), w) else
    some ((0 : Int32), w)
  else
  if a0 = (8 : Int32) then
    if (lg_cmp a1 a3) = 0 then some ((0 : Int32), w) else
    some ((1 : Int32), w)
  else
  if a0 = (9 : Int32) then
    if (lg_cmp a1 a3) < 0 then some ((0 : Int32), w) else
    some ((1 : Int32), w)
  else
  if 0 < (lg_cmp a1 a3) then some ((1 : Int32), w) else
  some ((0 : Int32), w)
noncomputable def mX12_compares (N : Nat) (as : List AV) (w : Wd) : Option (Int32 × Wd) := xI1 as fun a0 t => xL1 t fun a1 t => xL1 t fun a3 t => xN1 t (callW (pX12_compares N a0 a1 a3) w)
set_option maxRecDepth 100000 in
set_option maxHeartbeats 4000000 in
theorem kX12_compares : TK cX12_compares RX12 5 tX12_compares := ⟨by decide +kernel, wok_of [] (by decide +kernel) (by decide +kernel)⟩
set_option maxRecDepth 100000 in
set_option maxHeartbeats 4000000 in
theorem crX12_compares {N : Nat} {X : XT} (G : GX X cX12_compares RX12) (hR : xR X = rmL 1) : CRs X tX12_compares (oF []) (oF []) (oF []) := by
  have hl : tX12_compares.filter isInv = [] := rfl
  intro e he
  rw [hl] at he
  cases he
set_option maxRecDepth 100000 in
set_option maxHeartbeats 4000000 in
theorem MX12_compares (N : Nat) : SndI yX12_compares cX12_compares 5 (some .boolean) 1 3 false (mX12_compares N) := by
  refine SndI.ofZ tX12_compares (by decide +kernel) rfl rfl ?_ ?_
  · intro as w x h
    obtain ⟨a0, t1, rfl, h_1⟩ := xI1_some h
    obtain ⟨a1, t2, rfl, h_2⟩ := xL1_some h_1
    obtain ⟨a3, t3, rfl, h_3⟩ := xL1_some h_2
    obtain ⟨rfl, h_4⟩ := xN1_some h_3
    clear h h_1 h_2 h_3
    have h := h_4
    rw [callW_eq] at h
    exact ⟨(fun z => by cases z), rfl, Nat.le_of_ble_eq_true rfl⟩
  · intro X G hn hR as w r h hr
    have hC := crX12_compares (N := N) G hR
    obtain ⟨a0, t1, rfl, h_1⟩ := xI1_some h
    obtain ⟨a1, t2, rfl, h_2⟩ := xL1_some h_1
    obtain ⟨a3, t3, rfl, h_3⟩ := xL1_some h_2
    obtain ⟨rfl, h_4⟩ := xN1_some h_3
    clear h h_1 h_2 h_3
    have h := h_4
    rw [callW_eq] at h
    refine run_sound (r := r) (X := X) (cc := cX12_compares) (own := RX12) (tab := tX12_compares) G (by rw [hn]; exact kX12_compares) (oI := (oF [])) (oL := (oF [])) (oV := (oF [])) (rI := retZ) (rL := (fun _ _ => none)) (rV := (fun _ => none))
      (K := (fun j ls st w => none)) hr (fun _ _ _ _ hx => by cases hx) (fun _ _ _ hx => by cases hx) hC (fun ls => lsb [some (.inl a0), some (.inr (.inl a1)), none, some (.inr (.inl a3)), none] 0 ls) (keepsP_of rfl) ?_ 52 0 [some (.inl a0), some (.inr (.inl a1)), none, some (.inr (.inl a3)), none] [] w ?_ h
    · intro j ls st w hfx h
      obtain ⟨e0, e1, e3, -⟩ : _ = _ ∧ _ = _ ∧ _ = _ ∧ True := hfx
      try dsimp only at h
      cases h
    · exact (show _ = _ ∧ _ = _ ∧ _ = _ ∧ True from ⟨rfl, rfl, rfl, trivial⟩)
-- MoorGuidesModel.times(JJ)J
def tX12_times : List EN := [
  (0, .lload_n 1, 0, 0, 0, 0, 0, []), (1, .lconst 0, 0, 0, 0, 0, 0, []), (2, .lcmp, 0, 0, 0, 0, 0, []), (3, .ifCond .eq 45, 0, 30, 0, 0, 0, []),
  (6, .lload_n 3, 0, 0, 0, 0, 0, []), (7, .lconst 0, 0, 0, 0, 0, 0, []), (8, .lcmp, 0, 0, 0, 0, 0, []), (9, .ifCond .eq 39, 0, 30, 0, 0, 0, []),
  (12, .lload_n 3, 0, 0, 0, 0, 0, []), (13, .lconst 0, 0, 0, 0, 0, 0, []), (14, .lcmp, 0, 0, 0, 0, 0, []), (15, .ifCond .ge 8, 0, 15, 0, 0, 0, []),
  (18, .lload_n 3, 0, 0, 0, 0, 0, []), (19, .lneg, 0, 0, 0, 0, 0, []), (20, .goto 4, 0, 16, 0, 0, 0, []), (23, .lload_n 3, 0, 0, 0, 0, 0, []),
  (24, .ldc2_w 423, 17, 0, 0, 0, 1000000000000, []), (27, .lload_n 1, 0, 0, 0, 0, 0, []), (28, .lconst 0, 0, 0, 0, 0, 0, []), (29, .lcmp, 0, 0, 0, 0, 0, []),
  (30, .ifCond .ge 8, 0, 24, 0, 0, 0, []), (33, .lload_n 1, 0, 0, 0, 0, 0, []), (34, .lneg, 0, 0, 0, 0, 0, []), (35, .goto 4, 0, 25, 0, 0, 0, []),
  (38, .lload_n 1, 0, 0, 0, 0, 0, []), (39, .ldiv, 26, 0, 0, 0, 0, []), (40, .lcmp, 0, 0, 0, 0, 0, []), (41, .ifCond .le 7, 0, 30, 0, 0, 0, []),
  (44, .iconst 1, 0, 0, 0, 1, 0, []), (45, .goto 4, 0, 31, 0, 0, 0, []), (48, .iconst 0, 31, 0, 0, 0, 0, []), (49, .istore 5, 32, 0, 0, 0, 0, []),
  (51, .aload_n 0, 0, 0, 0, 0, 0, []), (52, .aload_n 0, 0, 0, 0, 0, 0, []), (53, .getfield 420, 0, 12, 63, 0, 0, []), (56, .ifCond .ne 8, 0, 38, 0, 0, 0, []),
  (59, .iload 5, 0, 0, 0, 0, 0, []), (61, .ifCond .eq 7, 0, 40, 0, 0, 0, []), (64, .iconst 1, 39, 0, 0, 1, 0, []), (65, .goto 4, 0, 41, 0, 0, 0, []),
  (68, .iconst 0, 0, 0, 0, 0, 0, []), (69, .putfield 420, 42, 12, 63, 0, 0, [(0, 0)]), (72, .aload_n 0, 0, 0, 0, 0, 0, []), (73, .getfield 420, 0, 12, 63, 0, 0, []),
  (76, .ifCond .eq 7, 0, 47, 0, 0, 0, []), (79, .lconst 0, 0, 0, 0, 0, 0, []), (80, .goto 6, 0, 50, 0, 0, 0, []), (83, .lload_n 1, 0, 0, 0, 0, 0, []),
  (84, .lload_n 3, 0, 0, 0, 0, 0, []), (85, .lmul, 0, 0, 0, 0, 0, []), (86, .lreturn, 0, 0, 0, 0, 0, [])]
noncomputable def fX12_times_41 (N : Nat) (a1 : Int64) (a3 : Int64) (s0 : Int32) (w : Wd) : Option (Int64 × Wd) :=
  (fput w 16 0 63 1 (0, 0, 0) (.inl s0)).bind fun w1 =>
  if (gI w1 16 0 63) = 0 then some ((a1 * a3), w1) else
  some ((0 : Int64), w1)
noncomputable def fX12_times_38 (N : Nat) (a1 : Int64) (a3 : Int64) (w : Wd) : Option (Int64 × Wd) :=
  callW (fX12_times_41 N a1 a3 (1 : Int32)) w
noncomputable def fX12_times_31 (N : Nat) (a1 : Int64) (a3 : Int64) (s0 : Int32) (w : Wd) : Option (Int64 × Wd) :=
  if (gI w 16 0 63) = 0 then
    if s0 = 0 then callW (fX12_times_41 N a1 a3 (0 : Int32)) w else
    callW (fX12_times_38 N a1 a3) w
  else
  callW (fX12_times_38 N a1 a3) w
noncomputable def fX12_times_30 (N : Nat) (a1 : Int64) (a3 : Int64) (w : Wd) : Option (Int64 × Wd) :=
  callW (fX12_times_31 N a1 a3 (0 : Int32)) w
noncomputable def fX12_times_25 (N : Nat) (a1 : Int64) (a3 : Int64) (s0 : Int64) (s1 : Int64) (s2 : Int64) (w : Wd) : Option (Int64 × Wd) :=
  if s0 = 0 then none else
  if 0 < (lg_cmp s2 (s1 / s0)) then callW (fX12_times_31 N a1 a3 (1 : Int32)) w else
  callW (fX12_times_30 N a1 a3) w
noncomputable def fX12_times_16 (N : Nat) (a1 : Int64) (a3 : Int64) (s0 : Int64) (w : Wd) : Option (Int64 × Wd) :=
  if (lg_cmp a1 (0 : Int64)) < 0 then callW (fX12_times_25 N a1 a3 (-a1) (1000000000000 : Int64) s0) w else
  callW (fX12_times_25 N a1 a3 a1 (1000000000000 : Int64) s0) w
noncomputable def pX12_times (N : Nat) (a1 : Int64) (a3 : Int64) (w : Wd) : Option (Int64 × Wd) :=
  if (lg_cmp a1 (0 : Int64)) = 0 then callW (fX12_times_30 N a1 a3) w else
  if (lg_cmp a3 (0 : Int64)) = 0 then callW (fX12_times_30 N a1 a3) w else
  if (lg_cmp a3 (0 : Int64)) < 0 then callW (fX12_times_16 N a1 a3 (-a3)) w else
  callW (fX12_times_16 N a1 a3 a3) w
noncomputable def mX12_times (N : Nat) (as : List AV) (w : Wd) : Option (Int64 × Wd) := xS1 16 as fun t => xL1 t fun a1 t => xL1 t fun a3 t => xN1 t (callW (pX12_times N a1 a3) w)
set_option maxRecDepth 100000 in
set_option maxHeartbeats 4000000 in
theorem kX12_times : TK cX12_times RX12 6 tX12_times := ⟨by decide +kernel, wok_of [2136, 1653, 1653, 1653] (by decide +kernel) (by decide +kernel)⟩
set_option maxRecDepth 100000 in
set_option maxHeartbeats 4000000 in
theorem sX12_times_41 {N : Nat} {X : XT} (G : GX X cX12_times RX12) (hn : xnL X = 6) (hC : CRs X tX12_times (oF []) (oF []) (oF [])) {r : Int64 × Wd} (hr : RTL X cX12_times r) (a1 : Int64) (a3 : Int64) : ∀ (s0 : Int32) (w : Wd), fX12_times_41 N a1 a3 s0 w = some r → WW X (pcAt tX12_times 41) [some (.inr (.inr (16, 0))), some (.inr (.inl a1)), none, some (.inr (.inl a3)), none, none] [.inl s0, .inr (.inr (16, 0))] w := by
  intro s0 w h
  refine run_sound (r := r) (X := X) (cc := cX12_times) (own := RX12) (tab := tX12_times) G (by rw [hn]; exact kX12_times) (oI := (oF [])) (oL := (oF [])) (oV := (oF [])) (rI := (fun _ _ => none)) (rL := (fun x w => some (x, w))) (rV := (fun _ => none))
    (K := (fun j ls st w => none)) (fun _ _ _ _ hx => by cases hx) (fun x w pc ls hx hd => hr x w pc ls (Option.some.inj hx) hd) (fun _ _ _ hx => by cases hx) hC (fun ls => lsb [some (.inr (.inr (16, 0))), some (.inr (.inl a1)), none, some (.inr (.inl a3)), none, none] 0 ls) (keepsP_of rfl) ?_ 53 41 [some (.inr (.inr (16, 0))), some (.inr (.inl a1)), none, some (.inr (.inl a3)), none, none] [.inl s0, .inr (.inr (16, 0))] w ?_ h
  · intro j ls st w hfx h
    obtain ⟨e0, e1, e3, -⟩ : _ = _ ∧ _ = _ ∧ _ = _ ∧ True := hfx
    try dsimp only at h
    cases h
  · exact (show _ = _ ∧ _ = _ ∧ _ = _ ∧ True from ⟨rfl, rfl, rfl, trivial⟩)
set_option maxRecDepth 100000 in
set_option maxHeartbeats 4000000 in
theorem sX12_times_38 {N : Nat} {X : XT} (G : GX X cX12_times RX12) (hn : xnL X = 6) (hC : CRs X tX12_times (oF []) (oF []) (oF [])) {r : Int64 × Wd} (hr : RTL X cX12_times r) (a1 : Int64) (a3 : Int64) : ∀ (w : Wd), fX12_times_38 N a1 a3 w = some r → WW X (pcAt tX12_times 38) [some (.inr (.inr (16, 0))), some (.inr (.inl a1)), none, some (.inr (.inl a3)), none, none] [.inr (.inr (16, 0))] w := by
  intro w h
  refine run_sound (r := r) (X := X) (cc := cX12_times) (own := RX12) (tab := tX12_times) G (by rw [hn]; exact kX12_times) (oI := (oF [])) (oL := (oF [])) (oV := (oF [])) (rI := (fun _ _ => none)) (rL := (fun x w => some (x, w))) (rV := (fun _ => none))
    (K := (fun j ls st w => if j = 41 then (po1 st fun s0 st => pr1 st fun kk qq st => if kk = 16 ∧ qq = 0 then st0 st (callW (fX12_times_41 N a1 a3 s0) w) else none) else none)) (fun _ _ _ _ hx => by cases hx) (fun x w pc ls hx hd => hr x w pc ls (Option.some.inj hx) hd) (fun _ _ _ hx => by cases hx) hC (fun ls => lsb [some (.inr (.inr (16, 0))), some (.inr (.inl a1)), none, some (.inr (.inl a3)), none, none] 0 ls) (keepsP_of rfl) ?_ 53 38 [some (.inr (.inr (16, 0))), some (.inr (.inl a1)), none, some (.inr (.inl a3)), none, none] [.inr (.inr (16, 0))] w ?_ h
  · intro j ls st w hfx h
    obtain ⟨e0, e1, e3, -⟩ : _ = _ ∧ _ = _ ∧ _ = _ ∧ True := hfx
    try dsimp only at h
    by_cases hj : j = 41
    · subst hj
      rw [if_pos rfl] at h
      obtain ⟨s0, st0, rfl, h_1⟩ := po1_some h
      obtain ⟨kkk1, s1, st1, rfl, h_2⟩ := pr1_some h_1
      obtain ⟨⟨rfl, rfl⟩, h_3⟩ := if_some _ h_2
      obtain ⟨rfl, h_4⟩ := st0_some h_3
      clear h h_1 h_2 h_3
      have h := h_4
      try rw [callW_eq] at h
      exact WW.le (a := [some (.inr (.inr (16, 0))), some (.inr (.inl a1)), none, some (.inr (.inl a3)), none, none]) (by rw [hn]; rfl) (show _ = _ ∧ _ = _ ∧ _ = _ ∧ True from ⟨e0, e1, e3, trivial⟩) (sX12_times_41 G hn hC hr a1 a3 s0 w h)
    rw [if_neg hj] at h
    cases h
  · exact (show _ = _ ∧ _ = _ ∧ _ = _ ∧ True from ⟨rfl, rfl, rfl, trivial⟩)
set_option maxRecDepth 100000 in
set_option maxHeartbeats 4000000 in
theorem sX12_times_31 {N : Nat} {X : XT} (G : GX X cX12_times RX12) (hn : xnL X = 6) (hC : CRs X tX12_times (oF []) (oF []) (oF [])) {r : Int64 × Wd} (hr : RTL X cX12_times r) (a1 : Int64) (a3 : Int64) : ∀ (s0 : Int32) (w : Wd), fX12_times_31 N a1 a3 s0 w = some r → WW X (pcAt tX12_times 31) [some (.inr (.inr (16, 0))), some (.inr (.inl a1)), none, some (.inr (.inl a3)), none, none] [.inl s0] w := by
  intro s0 w h
  refine run_sound (r := r) (X := X) (cc := cX12_times) (own := RX12) (tab := tX12_times) G (by rw [hn]; exact kX12_times) (oI := (oF [])) (oL := (oF [])) (oV := (oF [])) (rI := (fun _ _ => none)) (rL := (fun x w => some (x, w))) (rV := (fun _ => none))
    (K := (fun j ls st w => if j = 38 then (pr1 st fun kk qq st => if kk = 16 ∧ qq = 0 then st0 st (callW (fX12_times_38 N a1 a3) w) else none) else if j = 41 then (po1 st fun s0 st => pr1 st fun kk qq st => if kk = 16 ∧ qq = 0 then st0 st (callW (fX12_times_41 N a1 a3 s0) w) else none) else none)) (fun _ _ _ _ hx => by cases hx) (fun x w pc ls hx hd => hr x w pc ls (Option.some.inj hx) hd) (fun _ _ _ hx => by cases hx) hC (fun ls => lsb [some (.inr (.inr (16, 0))), some (.inr (.inl a1)), none, some (.inr (.inl a3)), none, none] 0 ls) (keepsP_of rfl) ?_ 53 31 [some (.inr (.inr (16, 0))), some (.inr (.inl a1)), none, some (.inr (.inl a3)), none, none] [.inl s0] w ?_ h
  · intro j ls st w hfx h
    obtain ⟨e0, e1, e3, -⟩ : _ = _ ∧ _ = _ ∧ _ = _ ∧ True := hfx
    try dsimp only at h
    by_cases hj : j = 38
    · subst hj
      rw [if_pos rfl] at h
      obtain ⟨kkk0, s0, st0, rfl, h_1⟩ := pr1_some h
      obtain ⟨⟨rfl, rfl⟩, h_2⟩ := if_some _ h_1
      obtain ⟨rfl, h_3⟩ := st0_some h_2
      clear h h_1 h_2
      have h := h_3
      try rw [callW_eq] at h
      exact WW.le (a := [some (.inr (.inr (16, 0))), some (.inr (.inl a1)), none, some (.inr (.inl a3)), none, none]) (by rw [hn]; rfl) (show _ = _ ∧ _ = _ ∧ _ = _ ∧ True from ⟨e0, e1, e3, trivial⟩) (sX12_times_38 G hn hC hr a1 a3 w h)
    rw [if_neg hj] at h
    by_cases hj : j = 41
    · subst hj
      rw [if_pos rfl] at h
      obtain ⟨s0, st0, rfl, h_1⟩ := po1_some h
      obtain ⟨kkk1, s1, st1, rfl, h_2⟩ := pr1_some h_1
      obtain ⟨⟨rfl, rfl⟩, h_3⟩ := if_some _ h_2
      obtain ⟨rfl, h_4⟩ := st0_some h_3
      clear h h_1 h_2 h_3
      have h := h_4
      try rw [callW_eq] at h
      exact WW.le (a := [some (.inr (.inr (16, 0))), some (.inr (.inl a1)), none, some (.inr (.inl a3)), none, none]) (by rw [hn]; rfl) (show _ = _ ∧ _ = _ ∧ _ = _ ∧ True from ⟨e0, e1, e3, trivial⟩) (sX12_times_41 G hn hC hr a1 a3 s0 w h)
    rw [if_neg hj] at h
    cases h
  · exact (show _ = _ ∧ _ = _ ∧ _ = _ ∧ True from ⟨rfl, rfl, rfl, trivial⟩)
set_option maxRecDepth 100000 in
set_option maxHeartbeats 4000000 in
theorem sX12_times_30 {N : Nat} {X : XT} (G : GX X cX12_times RX12) (hn : xnL X = 6) (hC : CRs X tX12_times (oF []) (oF []) (oF [])) {r : Int64 × Wd} (hr : RTL X cX12_times r) (a1 : Int64) (a3 : Int64) : ∀ (w : Wd), fX12_times_30 N a1 a3 w = some r → WW X (pcAt tX12_times 30) [some (.inr (.inr (16, 0))), some (.inr (.inl a1)), none, some (.inr (.inl a3)), none, none] [] w := by
  intro w h
  refine run_sound (r := r) (X := X) (cc := cX12_times) (own := RX12) (tab := tX12_times) G (by rw [hn]; exact kX12_times) (oI := (oF [])) (oL := (oF [])) (oV := (oF [])) (rI := (fun _ _ => none)) (rL := (fun x w => some (x, w))) (rV := (fun _ => none))
    (K := (fun j ls st w => if j = 31 then (po1 st fun s0 st => st0 st (callW (fX12_times_31 N a1 a3 s0) w)) else none)) (fun _ _ _ _ hx => by cases hx) (fun x w pc ls hx hd => hr x w pc ls (Option.some.inj hx) hd) (fun _ _ _ hx => by cases hx) hC (fun ls => lsb [some (.inr (.inr (16, 0))), some (.inr (.inl a1)), none, some (.inr (.inl a3)), none, none] 0 ls) (keepsP_of rfl) ?_ 53 30 [some (.inr (.inr (16, 0))), some (.inr (.inl a1)), none, some (.inr (.inl a3)), none, none] [] w ?_ h
  · intro j ls st w hfx h
    obtain ⟨e0, e1, e3, -⟩ : _ = _ ∧ _ = _ ∧ _ = _ ∧ True := hfx
    try dsimp only at h
    by_cases hj : j = 31
    · subst hj
      rw [if_pos rfl] at h
      obtain ⟨s0, st0, rfl, h_1⟩ := po1_some h
      obtain ⟨rfl, h_2⟩ := st0_some h_1
      clear h h_1
      have h := h_2
      try rw [callW_eq] at h
      exact WW.le (a := [some (.inr (.inr (16, 0))), some (.inr (.inl a1)), none, some (.inr (.inl a3)), none, none]) (by rw [hn]; rfl) (show _ = _ ∧ _ = _ ∧ _ = _ ∧ True from ⟨e0, e1, e3, trivial⟩) (sX12_times_31 G hn hC hr a1 a3 s0 w h)
    rw [if_neg hj] at h
    cases h
  · exact (show _ = _ ∧ _ = _ ∧ _ = _ ∧ True from ⟨rfl, rfl, rfl, trivial⟩)
set_option maxRecDepth 100000 in
set_option maxHeartbeats 4000000 in
theorem sX12_times_25 {N : Nat} {X : XT} (G : GX X cX12_times RX12) (hn : xnL X = 6) (hC : CRs X tX12_times (oF []) (oF []) (oF [])) {r : Int64 × Wd} (hr : RTL X cX12_times r) (a1 : Int64) (a3 : Int64) : ∀ (s0 : Int64) (s1 : Int64) (s2 : Int64) (w : Wd), fX12_times_25 N a1 a3 s0 s1 s2 w = some r → WW X (pcAt tX12_times 25) [some (.inr (.inr (16, 0))), some (.inr (.inl a1)), none, some (.inr (.inl a3)), none, none] [.inr (.inl s0), .inr (.inl s1), .inr (.inl s2)] w := by
  intro s0 s1 s2 w h
  refine run_sound (r := r) (X := X) (cc := cX12_times) (own := RX12) (tab := tX12_times) G (by rw [hn]; exact kX12_times) (oI := (oF [])) (oL := (oF [])) (oV := (oF [])) (rI := (fun _ _ => none)) (rL := (fun x w => some (x, w))) (rV := (fun _ => none))
    (K := (fun j ls st w => if j = 30 then (st0 st (callW (fX12_times_30 N a1 a3) w)) else if j = 31 then (po1 st fun s0 st => st0 st (callW (fX12_times_31 N a1 a3 s0) w)) else none)) (fun _ _ _ _ hx => by cases hx) (fun x w pc ls hx hd => hr x w pc ls (Option.some.inj hx) hd) (fun _ _ _ hx => by cases hx) hC (fun ls => lsb [some (.inr (.inr (16, 0))), some (.inr (.inl a1)), none, some (.inr (.inl a3)), none, none] 0 ls) (keepsP_of rfl) ?_ 53 25 [some (.inr (.inr (16, 0))), some (.inr (.inl a1)), none, some (.inr (.inl a3)), none, none] [.inr (.inl s0), .inr (.inl s1), .inr (.inl s2)] w ?_ h
  · intro j ls st w hfx h
    obtain ⟨e0, e1, e3, -⟩ : _ = _ ∧ _ = _ ∧ _ = _ ∧ True := hfx
    try dsimp only at h
    by_cases hj : j = 30
    · subst hj
      rw [if_pos rfl] at h
      obtain ⟨rfl, h_1⟩ := st0_some h
      clear h
      have h := h_1
      try rw [callW_eq] at h
      exact WW.le (a := [some (.inr (.inr (16, 0))), some (.inr (.inl a1)), none, some (.inr (.inl a3)), none, none]) (by rw [hn]; rfl) (show _ = _ ∧ _ = _ ∧ _ = _ ∧ True from ⟨e0, e1, e3, trivial⟩) (sX12_times_30 G hn hC hr a1 a3 w h)
    rw [if_neg hj] at h
    by_cases hj : j = 31
    · subst hj
      rw [if_pos rfl] at h
      obtain ⟨s0, st0, rfl, h_1⟩ := po1_some h
      obtain ⟨rfl, h_2⟩ := st0_some h_1
      clear h h_1
      have h := h_2
      try rw [callW_eq] at h
      exact WW.le (a := [some (.inr (.inr (16, 0))), some (.inr (.inl a1)), none, some (.inr (.inl a3)), none, none]) (by rw [hn]; rfl) (show _ = _ ∧ _ = _ ∧ _ = _ ∧ True from ⟨e0, e1, e3, trivial⟩) (sX12_times_31 G hn hC hr a1 a3 s0 w h)
    rw [if_neg hj] at h
    cases h
  · exact (show _ = _ ∧ _ = _ ∧ _ = _ ∧ True from ⟨rfl, rfl, rfl, trivial⟩)
set_option maxRecDepth 100000 in
set_option maxHeartbeats 4000000 in
theorem sX12_times_16 {N : Nat} {X : XT} (G : GX X cX12_times RX12) (hn : xnL X = 6) (hC : CRs X tX12_times (oF []) (oF []) (oF [])) {r : Int64 × Wd} (hr : RTL X cX12_times r) (a1 : Int64) (a3 : Int64) : ∀ (s0 : Int64) (w : Wd), fX12_times_16 N a1 a3 s0 w = some r → WW X (pcAt tX12_times 16) [some (.inr (.inr (16, 0))), some (.inr (.inl a1)), none, some (.inr (.inl a3)), none, none] [.inr (.inl s0)] w := by
  intro s0 w h
  refine run_sound (r := r) (X := X) (cc := cX12_times) (own := RX12) (tab := tX12_times) G (by rw [hn]; exact kX12_times) (oI := (oF [])) (oL := (oF [])) (oV := (oF [])) (rI := (fun _ _ => none)) (rL := (fun x w => some (x, w))) (rV := (fun _ => none))
    (K := (fun j ls st w => if j = 25 then (pl1 st fun s0 st => pl1 st fun s1 st => pl1 st fun s2 st => st0 st (callW (fX12_times_25 N a1 a3 s0 s1 s2) w)) else none)) (fun _ _ _ _ hx => by cases hx) (fun x w pc ls hx hd => hr x w pc ls (Option.some.inj hx) hd) (fun _ _ _ hx => by cases hx) hC (fun ls => lsb [some (.inr (.inr (16, 0))), some (.inr (.inl a1)), none, some (.inr (.inl a3)), none, none] 0 ls) (keepsP_of rfl) ?_ 53 16 [some (.inr (.inr (16, 0))), some (.inr (.inl a1)), none, some (.inr (.inl a3)), none, none] [.inr (.inl s0)] w ?_ h
  · intro j ls st w hfx h
    obtain ⟨e0, e1, e3, -⟩ : _ = _ ∧ _ = _ ∧ _ = _ ∧ True := hfx
    try dsimp only at h
    by_cases hj : j = 25
    · subst hj
      rw [if_pos rfl] at h
      obtain ⟨s0, st0, rfl, h_1⟩ := pl1_some h
      obtain ⟨s1, st1, rfl, h_2⟩ := pl1_some h_1
      obtain ⟨s2, st2, rfl, h_3⟩ := pl1_some h_2
      obtain ⟨rfl, h_4⟩ := st0_some h_3
      clear h h_1 h_2 h_3
      have h := h_4
      try rw [callW_eq] at h
      exact WW.le (a := [some (.inr (.inr (16, 0))), some (.inr (.inl a1)), none, some (.inr (.inl a3)), none, none]) (by rw [hn]; rfl) (show _ = _ ∧ _ = _ ∧ _ = _ ∧ True from ⟨e0, e1, e3, trivial⟩) (sX12_times_25 G hn hC hr a1 a3 s0 s1 s2 w h)
    rw [if_neg hj] at h
    cases h
  · exact (show _ = _ ∧ _ = _ ∧ _ = _ ∧ True from ⟨rfl, rfl, rfl, trivial⟩)
set_option maxRecDepth 100000 in
set_option maxHeartbeats 4000000 in
theorem crX12_times {N : Nat} {X : XT} (G : GX X cX12_times RX12) (hR : xR X = rmL 1) : CRs X tX12_times (oF []) (oF []) (oF []) := by
  have hl : tX12_times.filter isInv = [] := rfl
  intro e he
  rw [hl] at he
  cases he
set_option maxRecDepth 100000 in
set_option maxHeartbeats 4000000 in
theorem MX12_times (N : Nat) : SndL yX12_times cX12_times 6 (some .long) 1 3 true (mX12_times N) := by
  refine SndL.of tX12_times (by decide +kernel) rfl rfl ?_ ?_
  · intro as w x h
    obtain ⟨t1, rfl, h_1⟩ := xS1_some h
    obtain ⟨a1, t2, rfl, h_2⟩ := xL1_some h_1
    obtain ⟨a3, t3, rfl, h_3⟩ := xL1_some h_2
    obtain ⟨rfl, h_4⟩ := xN1_some h_3
    clear h h_1 h_2 h_3
    have h := h_4
    rw [callW_eq] at h
    exact ⟨fun _ => ⟨_, _, _, rfl, rfl, _, rfl, rfl⟩, rfl, Nat.le_of_ble_eq_true rfl⟩
  · intro X G hn hR as w r h hr
    have hC := crX12_times (N := N) G hR
    obtain ⟨t1, rfl, h_1⟩ := xS1_some h
    obtain ⟨a1, t2, rfl, h_2⟩ := xL1_some h_1
    obtain ⟨a3, t3, rfl, h_3⟩ := xL1_some h_2
    obtain ⟨rfl, h_4⟩ := xN1_some h_3
    clear h h_1 h_2 h_3
    have h := h_4
    rw [callW_eq] at h
    refine run_sound (r := r) (X := X) (cc := cX12_times) (own := RX12) (tab := tX12_times) G (by rw [hn]; exact kX12_times) (oI := (oF [])) (oL := (oF [])) (oV := (oF [])) (rI := (fun _ _ => none)) (rL := (fun x w => some (x, w))) (rV := (fun _ => none))
      (K := (fun j ls st w => if j = 16 then (pl1 st fun s0 st => st0 st (callW (fX12_times_16 N a1 a3 s0) w)) else if j = 30 then (st0 st (callW (fX12_times_30 N a1 a3) w)) else none)) (fun _ _ _ _ hx => by cases hx) (fun x w pc ls hx hd => hr x w pc ls (Option.some.inj hx) hd) (fun _ _ _ hx => by cases hx) hC (fun ls => lsb [some (.inr (.inr (16, 0))), some (.inr (.inl a1)), none, some (.inr (.inl a3)), none, none] 0 ls) (keepsP_of rfl) ?_ 53 0 [some (.inr (.inr (16, 0))), some (.inr (.inl a1)), none, some (.inr (.inl a3)), none, none] [] w ?_ h
    · intro j ls st w hfx h
      obtain ⟨e0, e1, e3, -⟩ : _ = _ ∧ _ = _ ∧ _ = _ ∧ True := hfx
      try dsimp only at h
      by_cases hj : j = 16
      · subst hj
        rw [if_pos rfl] at h
        obtain ⟨s0, st0, rfl, h_1⟩ := pl1_some h
        obtain ⟨rfl, h_2⟩ := st0_some h_1
        clear h h_1
        have h := h_2
        try rw [callW_eq] at h
        exact WW.le (a := [some (.inr (.inr (16, 0))), some (.inr (.inl a1)), none, some (.inr (.inl a3)), none, none]) (by rw [hn]; rfl) (show _ = _ ∧ _ = _ ∧ _ = _ ∧ True from ⟨e0, e1, e3, trivial⟩) (sX12_times_16 G hn hC hr a1 a3 s0 w h)
      rw [if_neg hj] at h
      by_cases hj : j = 30
      · subst hj
        rw [if_pos rfl] at h
        obtain ⟨rfl, h_1⟩ := st0_some h
        clear h
        have h := h_1
        try rw [callW_eq] at h
        exact WW.le (a := [some (.inr (.inr (16, 0))), some (.inr (.inl a1)), none, some (.inr (.inl a3)), none, none]) (by rw [hn]; rfl) (show _ = _ ∧ _ = _ ∧ _ = _ ∧ True from ⟨e0, e1, e3, trivial⟩) (sX12_times_30 G hn hC hr a1 a3 w h)
      rw [if_neg hj] at h
      cases h
    · exact (show _ = _ ∧ _ = _ ∧ _ = _ ∧ True from ⟨rfl, rfl, rfl, trivial⟩)
-- MoorGuidesModel.valueOf(I)J
def tX12_valueOf : List EN := [
  (0, .aload_n 0, 0, 0, 0, 0, 0, []), (1, .getfield 78, 0, 12, 50, 0, 0, []), (4, .iload_n 1, 0, 0, 0, 0, 0, []), (5, .iaload, 0, 0, 0, 0, 0, []),
  (6, .ifCond .ne 11, 0, 11, 0, 0, 0, []), (9, .aload_n 0, 0, 0, 0, 0, 0, []), (10, .getfield 81, 0, 12, 51, 0, 0, []), (13, .iload_n 1, 0, 0, 0, 0, 0, []),
  (14, .iaload, 0, 0, 0, 0, 0, []), (15, .i2l, 0, 0, 0, 0, 0, []), (16, .lreturn, 0, 0, 0, 0, 0, []), (17, .aload_n 0, 0, 0, 0, 0, 0, []),
  (18, .getfield 78, 0, 12, 50, 0, 0, []), (21, .iload_n 1, 0, 0, 0, 0, 0, []), (22, .iaload, 0, 0, 0, 0, 0, []), (23, .iconst 1, 0, 0, 0, 1, 0, []),
  (24, .if_icmp .ne 15, 0, 25, 0, 0, 0, []), (27, .aload_n 0, 0, 0, 0, 0, 0, []), (28, .getfield 93, 0, 12, 61, 0, 0, []), (31, .aload_n 0, 0, 0, 0, 0, 0, []),
  (32, .getfield 81, 0, 12, 51, 0, 0, []), (35, .iload_n 1, 0, 0, 0, 0, 0, []), (36, .iaload, 0, 0, 0, 0, 0, []), (37, .laload, 0, 0, 0, 0, 0, []),
  (38, .lreturn, 0, 0, 0, 0, 0, []), (39, .aload_n 0, 0, 0, 0, 0, 0, []), (40, .getfield 97, 0, 12, 62, 0, 0, []), (43, .aload_n 0, 0, 0, 0, 0, 0, []),
  (44, .getfield 81, 0, 12, 51, 0, 0, []), (47, .iload_n 1, 0, 0, 0, 0, 0, []), (48, .iaload, 0, 0, 0, 0, 0, []), (49, .laload, 0, 0, 0, 0, 0, []),
  (50, .lstore_n 2, 0, 0, 0, 0, 0, []), (51, .aload_n 0, 0, 0, 0, 0, 0, []), (52, .getfield 78, 0, 12, 50, 0, 0, []), (55, .iload_n 1, 0, 0, 0, 0, 0, []),
  (56, .iaload, 0, 0, 0, 0, 0, []), (57, .iconst 2, 0, 0, 0, 2, 0, []), (58, .if_icmp .ne 15, 0, 47, 0, 0, 0, []), (61, .lload_n 2, 0, 0, 0, 0, 0, []),
  (62, .lconst 0, 0, 0, 0, 0, 0, []), (63, .lcmp, 0, 0, 0, 0, 0, []), (64, .ifCond .ne 7, 0, 45, 0, 0, 0, []), (67, .lconst 1, 0, 0, 0, 0, 1, []),
  (68, .goto 4, 0, 46, 0, 0, 0, []), (71, .lconst 0, 0, 0, 0, 0, 0, []), (72, .lreturn, 0, 0, 0, 0, 0, []), (73, .aload_n 0, 0, 0, 0, 0, 0, []),
  (74, .getfield 97, 0, 12, 62, 0, 0, []), (77, .aload_n 0, 0, 0, 0, 0, 0, []), (78, .getfield 84, 0, 12, 52, 0, 0, []), (81, .iload_n 1, 0, 0, 0, 0, 0, []),
  (82, .iaload, 0, 0, 0, 0, 0, []), (83, .laload, 0, 0, 0, 0, 0, []), (84, .lstore 4, 0, 0, 0, 0, 0, []), (86, .aload_n 0, 0, 0, 0, 0, 0, []),
  (87, .getfield 78, 0, 12, 50, 0, 0, []), (90, .iload_n 1, 0, 0, 0, 0, 0, []), (91, .iaload, 0, 0, 0, 0, 0, []), (92, .tableswitch 167 3 14 #[64, 83, 167, 167, 167, 167, 167, 167, 102, 111, 120, 128], 0, 122, 64, 0, 0, [(3, 60), (4, 72), (5, 122), (6, 122), (7, 122), (8, 122), (9, 122), (10, 122), (11, 84), (12, 90), (13, 96), (14, 101)]),
  (156, .lload_n 2, 0, 0, 0, 0, 0, []), (157, .lconst 0, 0, 0, 0, 0, 0, []), (158, .lcmp, 0, 0, 0, 0, 0, []), (159, .ifCond .eq 14, 0, 70, 0, 0, 0, []),
  (162, .lload 4, 0, 0, 0, 0, 0, []), (164, .lconst 0, 0, 0, 0, 0, 0, []), (165, .lcmp, 0, 0, 0, 0, 0, []), (166, .ifCond .eq 7, 0, 70, 0, 0, 0, []),
  (169, .lconst 1, 0, 0, 0, 0, 1, []), (170, .goto 4, 0, 71, 0, 0, 0, []), (173, .lconst 0, 0, 0, 0, 0, 0, []), (174, .lreturn, 0, 0, 0, 0, 0, []),
  (175, .lload_n 2, 0, 0, 0, 0, 0, []), (176, .lconst 0, 0, 0, 0, 0, 0, []), (177, .lcmp, 0, 0, 0, 0, 0, []), (178, .ifCond .ne 10, 0, 80, 0, 0, 0, []),
  (181, .lload 4, 0, 0, 0, 0, 0, []), (183, .lconst 0, 0, 0, 0, 0, 0, []), (184, .lcmp, 0, 0, 0, 0, 0, []), (185, .ifCond .eq 7, 0, 82, 0, 0, 0, []),
  (188, .lconst 1, 0, 0, 0, 0, 1, []), (189, .goto 4, 0, 83, 0, 0, 0, []), (192, .lconst 0, 0, 0, 0, 0, 0, []), (193, .lreturn, 0, 0, 0, 0, 0, []),
  (194, .aload_n 0, 0, 0, 0, 0, 0, []), (195, .lload_n 2, 0, 0, 0, 0, 0, []), (196, .lload 4, 0, 0, 0, 0, 0, []), (198, .ladd, 0, 0, 0, 0, 0, []),
  (199, .invokevirtual 427, 0, 0, 2, 0, 0, [(0, 0)]), (202, .lreturn, 0, 0, 0, 0, 0, []), (203, .aload_n 0, 0, 0, 0, 0, 0, []), (204, .lload_n 2, 0, 0, 0, 0, 0, []),
  (205, .lload 4, 0, 0, 0, 0, 0, []), (207, .lsub, 0, 0, 0, 0, 0, []), (208, .invokevirtual 427, 0, 0, 2, 0, 0, [(0, 0)]), (211, .lreturn, 0, 0, 0, 0, 0, []),
  (212, .aload_n 0, 0, 0, 0, 0, 0, []), (213, .lload_n 2, 0, 0, 0, 0, 0, []), (214, .lload 4, 0, 0, 0, 0, 0, []), (216, .invokevirtual 431, 0, 1, 3, 0, 0, [(0, 0)]),
  (219, .lreturn, 0, 0, 0, 0, 0, []), (220, .aload_n 0, 0, 0, 0, 0, 0, []), (221, .aload_n 0, 0, 0, 0, 0, 0, []), (222, .getfield 420, 0, 12, 63, 0, 0, []),
  (225, .ifCond .ne 10, 0, 109, 0, 0, 0, []), (228, .lload 4, 0, 0, 0, 0, 0, []), (230, .lconst 0, 0, 0, 0, 0, 0, []), (231, .lcmp, 0, 0, 0, 0, 0, []),
  (232, .ifCond .ne 7, 0, 111, 0, 0, 0, []), (235, .iconst 1, 110, 0, 0, 1, 0, []), (236, .goto 4, 0, 112, 0, 0, 0, []), (239, .iconst 0, 0, 0, 0, 0, 0, []),
  (240, .putfield 420, 113, 12, 63, 0, 0, [(0, 0)]), (243, .aload_n 0, 0, 0, 0, 0, 0, []), (244, .getfield 420, 0, 12, 63, 0, 0, []), (247, .ifCond .eq 7, 0, 118, 0, 0, 0, []),
  (250, .lconst 0, 0, 0, 0, 0, 0, []), (251, .goto 7, 0, 121, 0, 0, 0, []), (254, .lload_n 2, 0, 0, 0, 0, 0, []), (255, .lload 4, 0, 0, 0, 0, 0, []),
  (257, .ldiv, 0, 0, 0, 0, 0, []), (258, .lreturn, 0, 0, 0, 0, 0, []), (259, .aload_n 0, 0, 0, 0, 0, 0, []), (260, .getfield 78, 0, 12, 50, 0, 0, []),
  (263, .iload_n 1, 0, 0, 0, 0, 0, []), (264, .iaload, 0, 0, 0, 0, 0, []), (265, .lload_n 2, 0, 0, 0, 0, 0, []), (266, .lload 4, 0, 0, 0, 0, 0, []),
  (268, .invokestatic 434, 0, 0, 3, 0, 0, []), (271, .ifCond .eq 7, 0, 132, 0, 0, 0, []), (274, .lconst 1, 0, 0, 0, 0, 1, []), (275, .goto 4, 0, 133, 0, 0, 0, []),
  (278, .lconst 0, 0, 0, 0, 0, 0, []), (279, .lreturn, 0, 0, 0, 0, 0, [])]
noncomputable def fX12_valueOf_112 (N : Nat) (v2 : Int64) (v4 : Int64) (s0 : Int32) (w : Wd) : Option (Int64 × Wd) :=
  (fput w 16 0 63 1 (0, 0, 0) (.inl s0)).bind fun w1 =>
  if (gI w1 16 0 63) = 0 then
    if v4 = 0 then none else
    some ((v2 / v4), w1)
  else
  some ((0 : Int64), w1)
noncomputable def fX12_valueOf_109 (N : Nat) (v2 : Int64) (v4 : Int64) (w : Wd) : Option (Int64 × Wd) :=
  callW (fX12_valueOf_112 N v2 v4 (1 : Int32)) w
noncomputable def pX12_valueOf (N : Nat) (a1 : Int32) (w : Wd) : Option (Int64 × Wd) :=
  (ldI w 94 0 a1 128).bind fun x1 =>
  if x1 = 0 then
    (ldI w 95 0 a1 128).bind fun x2 =>
    some (x2.toInt64, w)
  else
  (ldI w 94 0 a1 128).bind fun x3 =>
  if x3 = (1 : Int32) then
    (ldI w 95 0 a1 128).bind fun x4 =>
    (ldL w 99 0 x4 7).bind fun x5 =>
    some (x5, w)
  else
  (ldI w 95 0 a1 128).bind fun x6 =>
  (ldL w 100 0 x6 64).bind fun x7 =>
  (ldI w 94 0 a1 128).bind fun x8 =>
  if x8 = (2 : Int32) then
    if (lg_cmp x7 (0 : Int64)) = 0 then some ((1 : Int64), w) else
    some ((0 : Int64), w)
  else
  (ldI w 96 0 a1 128).bind fun x9 =>
  (ldL w 100 0 x9 64).bind fun x10 =>
  (ldI w 94 0 a1 128).bind fun x11 =>
  if x11 = (3 : Int32) then
    if (lg_cmp x7 (0 : Int64)) = 0 then some ((0 : Int64), w) else
    if (lg_cmp x10 (0 : Int64)) = 0 then some ((0 : Int64), w) else
    some ((1 : Int64), w)
  else
  if x11 = (4 : Int32) then
    if (lg_cmp x7 (0 : Int64)) = 0 then
      if (lg_cmp x10 (0 : Int64)) = 0 then some ((0 : Int64), w) else
      some ((1 : Int64), w)
    else
    some ((1 : Int64), w)
  else
  if x11 = (5 : Int32) then
    (ldI w 94 0 a1 128).bind fun x12 =>
    (callW (pX12_compares N x12 x7 x10) w).bind fun r13 =>
    if r13.1 = 0 then some ((0 : Int64), r13.2) else
    some ((1 : Int64), r13.2)
  else
  if x11 = (6 : Int32) then
    (ldI w 94 0 a1 128).bind fun x14 =>
    (callW (pX12_compares N x14 x7 x10) w).bind fun r15 =>
    if r15.1 = 0 then some ((0 : Int64), r15.2) else
    some ((1 : Int64), r15.2)
  else
  if x11 = (7 : Int32) then
    (ldI w 94 0 a1 128).bind fun x16 =>
    (callW (pX12_compares N x16 x7 x10) w).bind fun r17 =>
    if r17.1 = 0 then some ((0 : Int64), r17.2) else
    some ((1 : Int64), r17.2)
  else
  if x11 = (8 : Int32) then
    (ldI w 94 0 a1 128).bind fun x18 =>
    (callW (pX12_compares N x18 x7 x10) w).bind fun r19 =>
    if r19.1 = 0 then some ((0 : Int64), r19.2) else
    some ((1 : Int64), r19.2)
  else
  if x11 = (9 : Int32) then
    (ldI w 94 0 a1 128).bind fun x20 =>
    (callW (pX12_compares N x20 x7 x10) w).bind fun r21 =>
    if r21.1 = 0 then some ((0 : Int64), r21.2) else
    some ((1 : Int64), r21.2)
  else
  if x11 = (10 : Int32) then
    (ldI w 94 0 a1 128).bind fun x22 =>
    (callW (pX12_compares N x22 x7 x10) w).bind fun r23 =>
    if r23.1 = 0 then some ((0 : Int64), r23.2) else
    some ((1 : Int64), r23.2)
  else
  if x11 = (11 : Int32) then
    (callW (pX12_bounded N (x7 + x10)) w).bind fun r24 =>
    some (r24.1, r24.2)
  else
  if x11 = (12 : Int32) then
    (callW (pX12_bounded N (x7 - x10)) w).bind fun r25 =>
    some (r25.1, r25.2)
  else
  if x11 = (13 : Int32) then
    (callW (pX12_times N x7 x10) w).bind fun r26 =>
    some (r26.1, r26.2)
  else
  if x11 = (14 : Int32) then
    if (gI w 16 0 63) = 0 then
      if (lg_cmp x10 (0 : Int64)) = 0 then callW (fX12_valueOf_109 N x7 x10) w else
      callW (fX12_valueOf_112 N x7 x10 (0 : Int32)) w
    else
    callW (fX12_valueOf_109 N x7 x10) w
  else
  (ldI w 94 0 a1 128).bind fun x27 =>
  (callW (pX12_compares N x27 x7 x10) w).bind fun r28 =>
  if r28.1 = 0 then some ((0 : Int64), r28.2) else
  some ((1 : Int64), r28.2)
noncomputable def mX12_valueOf (N : Nat) (as : List AV) (w : Wd) : Option (Int64 × Wd) := xS1 16 as fun t => xI1 t fun a1 t => xN1 t (callW (pX12_valueOf N a1) w)
set_option maxRecDepth 100000 in
set_option maxHeartbeats 4000000 in
theorem kX12_valueOf : TK cX12_valueOf RX12 6 tX12_valueOf := ⟨by decide +kernel, wok_of [1640, 1641, 1640, 1651, 1641, 1652, 1641, 1640, 1652, 1642, 1640, 1653, 1653, 1653, 1640] (by decide +kernel) (by decide +kernel)⟩
set_option maxRecDepth 100000 in
set_option maxHeartbeats 4000000 in
theorem sX12_valueOf_112 {N : Nat} {X : XT} (G : GX X cX12_valueOf RX12) (hn : xnL X = 6) (hC : CRs X tX12_valueOf (oF [(mX12_compares N)]) (oF [(mX12_bounded N), (mX12_times N)]) (oF [])) {r : Int64 × Wd} (hr : RTL X cX12_valueOf r) (a1 : Int32) : ∀ (v2 : Int64) (v4 : Int64) (s0 : Int32) (w : Wd), fX12_valueOf_112 N v2 v4 s0 w = some r → WW X (pcAt tX12_valueOf 112) [some (.inr (.inr (16, 0))), some (.inl a1), some (.inr (.inl v2)), none, some (.inr (.inl v4)), none] [.inl s0, .inr (.inr (16, 0))] w := by
  intro v2 v4 s0 w h
  refine run_sound (r := r) (X := X) (cc := cX12_valueOf) (own := RX12) (tab := tX12_valueOf) G (by rw [hn]; exact kX12_valueOf) (oI := (oF [(mX12_compares N)])) (oL := (oF [(mX12_bounded N), (mX12_times N)])) (oV := (oF [])) (rI := (fun _ _ => none)) (rL := (fun x w => some (x, w))) (rV := (fun _ => none))
    (K := (fun j ls st w => none)) (fun _ _ _ _ hx => by cases hx) (fun x w pc ls hx hd => hr x w pc ls (Option.some.inj hx) hd) (fun _ _ _ hx => by cases hx) hC (fun ls => lsb [some (.inr (.inr (16, 0))), some (.inl a1), none, none, none, none] 0 ls) (keepsP_of rfl) ?_ 136 112 [some (.inr (.inr (16, 0))), some (.inl a1), some (.inr (.inl v2)), none, some (.inr (.inl v4)), none] [.inl s0, .inr (.inr (16, 0))] w ?_ h
  · intro j ls st w hfx h
    obtain ⟨e0, e1, -⟩ : _ = _ ∧ _ = _ ∧ True := hfx
    try dsimp only at h
    cases h
  · exact (show _ = _ ∧ _ = _ ∧ True from ⟨rfl, rfl, trivial⟩)
set_option maxRecDepth 100000 in
set_option maxHeartbeats 4000000 in
theorem sX12_valueOf_109 {N : Nat} {X : XT} (G : GX X cX12_valueOf RX12) (hn : xnL X = 6) (hC : CRs X tX12_valueOf (oF [(mX12_compares N)]) (oF [(mX12_bounded N), (mX12_times N)]) (oF [])) {r : Int64 × Wd} (hr : RTL X cX12_valueOf r) (a1 : Int32) : ∀ (v2 : Int64) (v4 : Int64) (w : Wd), fX12_valueOf_109 N v2 v4 w = some r → WW X (pcAt tX12_valueOf 109) [some (.inr (.inr (16, 0))), some (.inl a1), some (.inr (.inl v2)), none, some (.inr (.inl v4)), none] [.inr (.inr (16, 0))] w := by
  intro v2 v4 w h
  refine run_sound (r := r) (X := X) (cc := cX12_valueOf) (own := RX12) (tab := tX12_valueOf) G (by rw [hn]; exact kX12_valueOf) (oI := (oF [(mX12_compares N)])) (oL := (oF [(mX12_bounded N), (mX12_times N)])) (oV := (oF [])) (rI := (fun _ _ => none)) (rL := (fun x w => some (x, w))) (rV := (fun _ => none))
    (K := (fun j ls st w => if j = 112 then (lgL ls 2 fun v2 => lgL ls 4 fun v4 => po1 st fun s0 st => pr1 st fun kk qq st => if kk = 16 ∧ qq = 0 then st0 st (callW (fX12_valueOf_112 N v2 v4 s0) w) else none) else none)) (fun _ _ _ _ hx => by cases hx) (fun x w pc ls hx hd => hr x w pc ls (Option.some.inj hx) hd) (fun _ _ _ hx => by cases hx) hC (fun ls => lsb [some (.inr (.inr (16, 0))), some (.inl a1), none, none, none, none] 0 ls) (keepsP_of rfl) ?_ 136 109 [some (.inr (.inr (16, 0))), some (.inl a1), some (.inr (.inl v2)), none, some (.inr (.inl v4)), none] [.inr (.inr (16, 0))] w ?_ h
  · intro j ls st w hfx h
    obtain ⟨e0, e1, -⟩ : _ = _ ∧ _ = _ ∧ True := hfx
    try dsimp only at h
    by_cases hj : j = 112
    · subst hj
      rw [if_pos rfl] at h
      obtain ⟨v2, e2, h_1⟩ := lgL_some h
      obtain ⟨v4, e4, h_2⟩ := lgL_some h_1
      obtain ⟨s0, st0, rfl, h_3⟩ := po1_some h_2
      obtain ⟨kkk1, s1, st1, rfl, h_4⟩ := pr1_some h_3
      obtain ⟨⟨rfl, rfl⟩, h_5⟩ := if_some _ h_4
      obtain ⟨rfl, h_6⟩ := st0_some h_5
      clear h h_1 h_2 h_3 h_4 h_5
      have h := h_6
      try rw [callW_eq] at h
      exact WW.le (a := [some (.inr (.inr (16, 0))), some (.inl a1), some (.inr (.inl v2)), none, some (.inr (.inl v4)), none]) (by rw [hn]; rfl) (show _ = _ ∧ _ = _ ∧ _ = _ ∧ _ = _ ∧ True from ⟨e0, e1, e2, e4, trivial⟩) (sX12_valueOf_112 G hn hC hr a1 v2 v4 s0 w h)
    rw [if_neg hj] at h
    cases h
  · exact (show _ = _ ∧ _ = _ ∧ True from ⟨rfl, rfl, trivial⟩)
set_option maxRecDepth 100000 in
set_option maxHeartbeats 4000000 in
theorem crX12_valueOf {N : Nat} {X : XT} (G : GX X cX12_valueOf RX12) (hR : xR X = rmL 2) : CRs X tX12_valueOf (oF [(mX12_compares N)]) (oF [(mX12_bounded N), (mX12_times N)]) (oF []) := by
  have hl : tX12_valueOf.filter isInv = [(199, .invokevirtual 427, 0, 0, 2, 0, 0, [(0, 0)]), (208, .invokevirtual 427, 0, 0, 2, 0, 0, [(0, 0)]), (216, .invokevirtual 431, 0, 1, 3, 0, 0, [(0, 0)]), (268, .invokestatic 434, 0, 0, 3, 0, 0, [])] := rfl
  intro e he
  rw [hl] at he
  simp only [List.mem_cons, List.not_mem_nil, or_false] at he
  rcases he with rfl | rfl | rfl | rfl
  · exact crL_V (idx := 427) G (by decide +kernel) (MX12_bounded N) (cw_of (ps := [2132, 2134, 114, 162, 2135]) (by decide +kernel) (by decide +kernel)) ⟨by decide +kernel, by decide +kernel, by decide +kernel⟩ (by unfold rmOk; rw [hR]; exact ⟨by decide, by decide⟩)
  · exact crL_V (idx := 427) G (by decide +kernel) (MX12_bounded N) (cw_of (ps := [2132, 2134, 114, 162, 2135]) (by decide +kernel) (by decide +kernel)) ⟨by decide +kernel, by decide +kernel, by decide +kernel⟩ (by unfold rmOk; rw [hR]; exact ⟨by decide, by decide⟩)
  · exact crL_V (idx := 431) G (by decide +kernel) (MX12_times N) (cw_of (ps := [2138, 2140, 115, 162, 2141]) (by decide +kernel) (by decide +kernel)) ⟨by decide +kernel, by decide +kernel, by decide +kernel⟩ (by unfold rmOk; rw [hR]; exact ⟨by decide, by decide⟩)
  · exact crI_S (idx := 434) G (by decide +kernel) (MX12_compares N) (cw_of (ps := [2142, 2143, 162, 2144]) (by decide +kernel) (by decide +kernel)) ⟨by decide +kernel, by decide +kernel, by decide +kernel⟩ (by unfold rmOk; rw [hR]; exact ⟨by decide, by decide⟩)
set_option maxRecDepth 100000 in
set_option maxHeartbeats 4000000 in
theorem MX12_valueOf (N : Nat) : SndL yX12_valueOf cX12_valueOf 6 (some .long) 2 2 true (mX12_valueOf N) := by
  refine SndL.of tX12_valueOf (by decide +kernel) rfl rfl ?_ ?_
  · intro as w x h
    obtain ⟨t1, rfl, h_1⟩ := xS1_some h
    obtain ⟨a1, t2, rfl, h_2⟩ := xI1_some h_1
    obtain ⟨rfl, h_3⟩ := xN1_some h_2
    clear h h_1 h_2
    have h := h_3
    rw [callW_eq] at h
    exact ⟨fun _ => ⟨_, _, _, rfl, rfl, _, rfl, rfl⟩, rfl, Nat.le_of_ble_eq_true rfl⟩
  · intro X G hn hR as w r h hr
    have hC := crX12_valueOf (N := N) G hR
    obtain ⟨t1, rfl, h_1⟩ := xS1_some h
    obtain ⟨a1, t2, rfl, h_2⟩ := xI1_some h_1
    obtain ⟨rfl, h_3⟩ := xN1_some h_2
    clear h h_1 h_2
    have h := h_3
    rw [callW_eq] at h
    refine run_sound (r := r) (X := X) (cc := cX12_valueOf) (own := RX12) (tab := tX12_valueOf) G (by rw [hn]; exact kX12_valueOf) (oI := (oF [(mX12_compares N)])) (oL := (oF [(mX12_bounded N), (mX12_times N)])) (oV := (oF [])) (rI := (fun _ _ => none)) (rL := (fun x w => some (x, w))) (rV := (fun _ => none))
      (K := (fun j ls st w => if j = 109 then (lgL ls 2 fun v2 => lgL ls 4 fun v4 => pr1 st fun kk qq st => if kk = 16 ∧ qq = 0 then st0 st (callW (fX12_valueOf_109 N v2 v4) w) else none) else if j = 112 then (lgL ls 2 fun v2 => lgL ls 4 fun v4 => po1 st fun s0 st => pr1 st fun kk qq st => if kk = 16 ∧ qq = 0 then st0 st (callW (fX12_valueOf_112 N v2 v4 s0) w) else none) else none)) (fun _ _ _ _ hx => by cases hx) (fun x w pc ls hx hd => hr x w pc ls (Option.some.inj hx) hd) (fun _ _ _ hx => by cases hx) hC (fun ls => lsb [some (.inr (.inr (16, 0))), some (.inl a1), none, none, none, none] 0 ls) (keepsP_of rfl) ?_ 136 0 [some (.inr (.inr (16, 0))), some (.inl a1), none, none, none, none] [] w ?_ h
    · intro j ls st w hfx h
      obtain ⟨e0, e1, -⟩ : _ = _ ∧ _ = _ ∧ True := hfx
      try dsimp only at h
      by_cases hj : j = 109
      · subst hj
        rw [if_pos rfl] at h
        obtain ⟨v2, e2, h_1⟩ := lgL_some h
        obtain ⟨v4, e4, h_2⟩ := lgL_some h_1
        obtain ⟨kkk0, s0, st0, rfl, h_3⟩ := pr1_some h_2
        obtain ⟨⟨rfl, rfl⟩, h_4⟩ := if_some _ h_3
        obtain ⟨rfl, h_5⟩ := st0_some h_4
        clear h h_1 h_2 h_3 h_4
        have h := h_5
        try rw [callW_eq] at h
        exact WW.le (a := [some (.inr (.inr (16, 0))), some (.inl a1), some (.inr (.inl v2)), none, some (.inr (.inl v4)), none]) (by rw [hn]; rfl) (show _ = _ ∧ _ = _ ∧ _ = _ ∧ _ = _ ∧ True from ⟨e0, e1, e2, e4, trivial⟩) (sX12_valueOf_109 G hn hC hr a1 v2 v4 w h)
      rw [if_neg hj] at h
      by_cases hj : j = 112
      · subst hj
        rw [if_pos rfl] at h
        obtain ⟨v2, e2, h_1⟩ := lgL_some h
        obtain ⟨v4, e4, h_2⟩ := lgL_some h_1
        obtain ⟨s0, st0, rfl, h_3⟩ := po1_some h_2
        obtain ⟨kkk1, s1, st1, rfl, h_4⟩ := pr1_some h_3
        obtain ⟨⟨rfl, rfl⟩, h_5⟩ := if_some _ h_4
        obtain ⟨rfl, h_6⟩ := st0_some h_5
        clear h h_1 h_2 h_3 h_4 h_5
        have h := h_6
        try rw [callW_eq] at h
        exact WW.le (a := [some (.inr (.inr (16, 0))), some (.inl a1), some (.inr (.inl v2)), none, some (.inr (.inl v4)), none]) (by rw [hn]; rfl) (show _ = _ ∧ _ = _ ∧ _ = _ ∧ _ = _ ∧ True from ⟨e0, e1, e2, e4, trivial⟩) (sX12_valueOf_112 G hn hC hr a1 v2 v4 s0 w h)
      rw [if_neg hj] at h
      cases h
    · exact (show _ = _ ∧ _ = _ ∧ True from ⟨rfl, rfl, trivial⟩)

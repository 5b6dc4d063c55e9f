-- MoorGuidesModel.layWays([II)V
def tX12_layWays : List EN := [
  (0, .iconst 0, 0, 0, 0, 0, 0, []), (1, .istore_n 3, 0, 0, 0, 0, 0, []), (2, .iload_n 3, 3, 0, 0, 0, 0, []), (3, .bipush 8, 0, 0, 0, 8, 0, []),
  (5, .if_icmp .ge 88, 0, 48, 0, 0, 0, []), (8, .iconst 0, 0, 0, 0, 0, 0, []), (9, .istore 4, 0, 0, 0, 0, 0, []), (11, .iload 4, 8, 0, 0, 0, 0, []),
  (13, .bipush 8, 0, 0, 0, 8, 0, []), (15, .if_icmp .ge 72, 0, 46, 0, 0, 0, []), (18, .aload_n 1, 0, 0, 0, 0, 0, []), (19, .bipush 8, 0, 0, 0, 8, 0, []),
  (21, .iload_n 3, 0, 0, 0, 0, 0, []), (22, .imul, 0, 0, 0, 0, 0, []), (23, .iload 4, 0, 0, 0, 0, 0, []), (25, .iadd, 0, 0, 0, 0, 0, []),
  (26, .iload_n 3, 0, 0, 0, 0, 0, []), (27, .iload_n 2, 0, 0, 0, 0, 0, []), (28, .if_icmp .eq 9, 0, 22, 0, 0, 0, []), (31, .iload 4, 0, 0, 0, 0, 0, []),
  (33, .iload_n 2, 0, 0, 0, 0, 0, []), (34, .if_icmp .ne 8, 0, 24, 0, 0, 0, []), (37, .bipush 99, 0, 0, 0, 99, 0, []), (39, .goto 41, 0, 43, 0, 0, 0, []),
  (42, .iload_n 3, 0, 0, 0, 0, 0, []), (43, .iload 4, 0, 0, 0, 0, 0, []), (45, .if_icmp .ne 7, 0, 29, 0, 0, 0, []), (48, .iconst 0, 0, 0, 0, 0, 0, []),
  (49, .goto 31, 0, 43, 0, 0, 0, []), (52, .iload_n 3, 0, 0, 0, 0, 0, []), (53, .aload_n 0, 0, 0, 0, 0, 0, []), (54, .getfield 295, 0, 12, 12, 0, 0, []),
  (57, .if_icmp .ge 21, 0, 42, 0, 0, 0, []), (60, .aload_n 0, 0, 0, 0, 0, 0, []), (61, .getfield 26, 0, 12, 33, 0, 0, []), (64, .iload_n 3, 0, 0, 0, 0, 0, []),
  (65, .iaload, 0, 0, 0, 0, 0, []), (66, .iload 4, 0, 0, 0, 0, 0, []), (68, .invokestatic 341, 0, 0, 2, 0, 0, []), (71, .ifCond .eq 7, 0, 42, 0, 0, 0, []),
  (74, .iconst 1, 0, 0, 0, 1, 0, []), (75, .goto 5, 0, 43, 0, 0, 0, []), (78, .bipush 99, 0, 0, 0, 99, 0, []), (80, .iastore, 0, 0, 0, 0, 0, []),
  (81, .iinc 4 1, 0, 0, 0, 1, 0, []), (84, .goto (-73), 0, 7, 0, 0, 0, []), (87, .iinc 3 1, 47, 0, 0, 1, 0, []), (90, .goto (-88), 0, 2, 0, 0, 0, []),
  (93, .iconst 0, 49, 0, 0, 0, 0, []), (94, .istore_n 3, 0, 0, 0, 0, 0, []), (95, .iload_n 3, 51, 0, 0, 0, 0, []), (96, .bipush 8, 0, 0, 0, 8, 0, []),
  (98, .if_icmp .ge 102, 0, 110, 0, 0, 0, []), (101, .iconst 0, 0, 0, 0, 0, 0, []), (102, .istore 4, 0, 0, 0, 0, 0, []), (104, .iload 4, 56, 0, 0, 0, 0, []),
  (106, .bipush 8, 0, 0, 0, 8, 0, []), (108, .if_icmp .ge 86, 0, 108, 0, 0, 0, []), (111, .iconst 0, 0, 0, 0, 0, 0, []), (112, .istore 5, 0, 0, 0, 0, 0, []),
  (114, .iload 5, 61, 0, 0, 0, 0, []), (116, .bipush 8, 0, 0, 0, 8, 0, []), (118, .if_icmp .ge 70, 0, 106, 0, 0, 0, []), (121, .aload_n 1, 0, 0, 0, 0, 0, []),
  (122, .bipush 8, 0, 0, 0, 8, 0, []), (124, .iload 4, 0, 0, 0, 0, 0, []), (126, .imul, 0, 0, 0, 0, 0, []), (127, .iload_n 3, 0, 0, 0, 0, 0, []),
  (128, .iadd, 0, 0, 0, 0, 0, []), (129, .iaload, 0, 0, 0, 0, 0, []), (130, .aload_n 1, 0, 0, 0, 0, 0, []), (131, .bipush 8, 0, 0, 0, 8, 0, []),
  (133, .iload_n 3, 0, 0, 0, 0, 0, []), (134, .imul, 0, 0, 0, 0, 0, []), (135, .iload 5, 0, 0, 0, 0, 0, []), (137, .iadd, 0, 0, 0, 0, 0, []),
  (138, .iaload, 0, 0, 0, 0, 0, []), (139, .iadd, 0, 0, 0, 0, 0, []), (140, .istore 6, 0, 0, 0, 0, 0, []), (142, .aload_n 1, 0, 0, 0, 0, 0, []),
  (143, .bipush 8, 0, 0, 0, 8, 0, []), (145, .iload 4, 0, 0, 0, 0, 0, []), (147, .imul, 0, 0, 0, 0, 0, []), (148, .iload 5, 0, 0, 0, 0, 0, []),
  (150, .iadd, 0, 0, 0, 0, 0, []), (151, .iload 6, 0, 0, 0, 0, 0, []), (153, .aload_n 1, 0, 0, 0, 0, 0, []), (154, .bipush 8, 0, 0, 0, 8, 0, []),
  (156, .iload 4, 0, 0, 0, 0, 0, []), (158, .imul, 0, 0, 0, 0, 0, []), (159, .iload 5, 0, 0, 0, 0, 0, []), (161, .iadd, 0, 0, 0, 0, 0, []),
  (162, .iaload, 0, 0, 0, 0, 0, []), (163, .if_icmp .ge 8, 0, 96, 0, 0, 0, []), (166, .iload 6, 0, 0, 0, 0, 0, []), (168, .goto 13, 0, 103, 0, 0, 0, []),
  (171, .aload_n 1, 0, 0, 0, 0, 0, []), (172, .bipush 8, 0, 0, 0, 8, 0, []), (174, .iload 4, 0, 0, 0, 0, 0, []), (176, .imul, 0, 0, 0, 0, 0, []),
  (177, .iload 5, 0, 0, 0, 0, 0, []), (179, .iadd, 0, 0, 0, 0, 0, []), (180, .iaload, 0, 0, 0, 0, 0, []), (181, .iastore, 0, 0, 0, 0, 0, []),
  (182, .iinc 5 1, 0, 0, 0, 1, 0, []), (185, .goto (-71), 0, 60, 0, 0, 0, []), (188, .iinc 4 1, 107, 0, 0, 1, 0, []), (191, .goto (-87), 0, 55, 0, 0, 0, []),
  (194, .iinc 3 1, 109, 0, 0, 1, 0, []), (197, .goto (-102), 0, 50, 0, 0, 0, []), (200, .return_, 0, 0, 0, 0, 0, [])]
noncomputable def fX12_layWays_108 (N : Nat) (k1 : Nat) (i1 : Nat) (k50 : Int32 → Wd → Option (Wd)) (v3 : Int32) (w : Wd) : Option (Wd) :=
  k50 (v3 + (1 : Int32)) w
noncomputable def fX12_layWays_106 (N : Nat) (k1 : Nat) (i1 : Nat) (k55 : Int32 → Int32 → Wd → Option (Wd)) (v3 : Int32) (v4 : Int32) (w : Wd) : Option (Wd) :=
  k55 v3 (v4 + (1 : Int32)) w
noncomputable def fX12_layWays_60 (N : Nat) (k1 : Nat) (i1 : Nat) : Nat → (Int32 → Int32 → Wd → Option (Wd)) → Int32 → Int32 → Int32 → Wd → Option (Wd)
  | 0, _, _, _, _, _ => none
  | n + 1, k106, v3, v4, v5, w =>
    if v5 < (8 : Int32) then
      (ldI w k1 i1 (((8 : Int32) * v4) + v3) (ln k1 i1)).bind fun x1 =>
      (ldI w k1 i1 (((8 : Int32) * v3) + v5) (ln k1 i1)).bind fun x2 =>
      (ldI w k1 i1 (((8 : Int32) * v4) + v5) (ln k1 i1)).bind fun x3 =>
      if (x1 + x2) < x3 then
        (stI w k1 i1 (((8 : Int32) * v4) + v5) (ln k1 i1) (x1 + x2)).bind fun w4 =>
        callW (fX12_layWays_60 N k1 i1 n k106 v3 v4 (v5 + (1 : Int32))) w4
      else
      (ldI w k1 i1 (((8 : Int32) * v4) + v5) (ln k1 i1)).bind fun x5 =>
      (stI w k1 i1 (((8 : Int32) * v4) + v5) (ln k1 i1) x5).bind fun w6 =>
      callW (fX12_layWays_60 N k1 i1 n k106 v3 v4 (v5 + (1 : Int32))) w6
    else
    k106 v3 v4 w
noncomputable def fX12_layWays_55 (N : Nat) (k1 : Nat) (i1 : Nat) : Nat → (Int32 → Wd → Option (Wd)) → Int32 → Int32 → Wd → Option (Wd)
  | 0, _, _, _, _ => none
  | n + 1, k108, v3, v4, w =>
    if v4 < (8 : Int32) then
      callW (fX12_layWays_60 N k1 i1 N (fX12_layWays_106 N k1 i1 (fX12_layWays_55 N k1 i1 n k108)) v3 v4 (0 : Int32)) w
    else
    k108 v3 w
noncomputable def fX12_layWays_50 (N : Nat) (k1 : Nat) (i1 : Nat) : Nat → Int32 → Wd → Option (Wd)
  | 0, _, _ => none
  | n + 1, v3, w =>
    if v3 < (8 : Int32) then
      callW (fX12_layWays_55 N k1 i1 N (fX12_layWays_108 N k1 i1 (fX12_layWays_50 N k1 i1 n)) v3 (0 : Int32)) w
    else
    some w
noncomputable def fX12_layWays_48 (N : Nat) (k1 : Nat) (i1 : Nat) (w : Wd) : Option (Wd) :=
  callW (fX12_layWays_50 N k1 i1 N (0 : Int32)) w
noncomputable def fX12_layWays_46 (N : Nat) (k1 : Nat) (i1 : Nat) (a2 : Int32) (k2 : Int32 → Wd → Option (Wd)) (v3 : Int32) (w : Wd) : Option (Wd) :=
  k2 (v3 + (1 : Int32)) w
noncomputable def fX12_layWays_7 (N : Nat) (k1 : Nat) (i1 : Nat) (a2 : Int32) : Nat → (Int32 → Wd → Option (Wd)) → Int32 → Int32 → Wd → Option (Wd)
  | 0, _, _, _, _ => none
  | n + 1, k46, v3, v4, w =>
    if v4 < (8 : Int32) then
      if v3 = a2 then
        (stI w k1 i1 (((8 : Int32) * v3) + v4) (ln k1 i1) (99 : Int32)).bind fun w1 =>
        callW (fX12_layWays_7 N k1 i1 a2 n k46 v3 (v4 + (1 : Int32))) w1
      else
      if v4 = a2 then
        (stI w k1 i1 (((8 : Int32) * v3) + v4) (ln k1 i1) (99 : Int32)).bind fun w2 =>
        callW (fX12_layWays_7 N k1 i1 a2 n k46 v3 (v4 + (1 : Int32))) w2
      else
      if v3 = v4 then
        (stI w k1 i1 (((8 : Int32) * v3) + v4) (ln k1 i1) (0 : Int32)).bind fun w3 =>
        callW (fX12_layWays_7 N k1 i1 a2 n k46 v3 (v4 + (1 : Int32))) w3
      else
      if v3 < (gI w 16 0 12) then
        (ldI w 77 0 v3 16).bind fun x4 =>
        (callW (pX12_isOf N x4 v4) w).bind fun r5 =>
        if r5.1 = 0 then
          (stI r5.2 k1 i1 (((8 : Int32) * v3) + v4) (ln k1 i1) (99 : Int32)).bind fun w6 =>
          callW (fX12_layWays_7 N k1 i1 a2 n k46 v3 (v4 + (1 : Int32))) w6
        else
        (stI r5.2 k1 i1 (((8 : Int32) * v3) + v4) (ln k1 i1) (1 : Int32)).bind fun w7 =>
        callW (fX12_layWays_7 N k1 i1 a2 n k46 v3 (v4 + (1 : Int32))) w7
      else
      (stI w k1 i1 (((8 : Int32) * v3) + v4) (ln k1 i1) (99 : Int32)).bind fun w8 =>
      callW (fX12_layWays_7 N k1 i1 a2 n k46 v3 (v4 + (1 : Int32))) w8
    else
    k46 v3 w
noncomputable def fX12_layWays_2 (N : Nat) (k1 : Nat) (i1 : Nat) (a2 : Int32) : Nat → (Wd → Option (Wd)) → Int32 → Wd → Option (Wd)
  | 0, _, _, _ => none
  | n + 1, k48, v3, w =>
    if v3 < (8 : Int32) then
      callW (fX12_layWays_7 N k1 i1 a2 N (fX12_layWays_46 N k1 i1 a2 (fX12_layWays_2 N k1 i1 a2 n k48)) v3 (0 : Int32)) w
    else
    k48 w
noncomputable def pX12_layWays (N : Nat) (k1 : Nat) (i1 : Nat) (a2 : Int32) (w : Wd) : Option (Wd) :=
  callW (fX12_layWays_2 N k1 i1 a2 N (fX12_layWays_48 N k1 i1) (0 : Int32)) w
noncomputable def mX12_layWays (N : Nat) (as : List AV) (w : Wd) : Option (Wd) := xS1 16 as fun t => xA1 [107, 108] t fun k1 i1 t => xI1 t fun a2 t => xN1 t (callW (pX12_layWays N k1 i1 a2) w)
set_option maxRecDepth 100000 in
set_option maxHeartbeats 4000000 in
theorem kX12_layWays : TK cX12_layWays RX12 7 tX12_layWays := ⟨by decide +kernel, wok_of [1602, 1623] (by decide +kernel) (by decide +kernel)⟩
set_option maxRecDepth 100000 in
set_option maxHeartbeats 4000000 in
theorem sX12_layWays_108_k107 {N : Nat} {X : XT} (G : GX X cX12_layWays RX12) (hn : xnL X = 7) (hC : CRs X tX12_layWays (oF [(mX12_isOf N)]) (oF []) (oF [])) {r : Wd} (hr : RTV X cX12_layWays r) (i1 : Nat) (a2 : Int32) : ∀ (k50 : Int32 → Wd → Option (Wd)) (v3 : Int32) (w : Wd), fX12_layWays_108 N 107 i1 k50 v3 w = some r → (∀ (v3 : Int32) (w : Wd), k50 v3 w = some r → WW X (pcAt tX12_layWays 50) [some (.inr (.inr (16, 0))), some (.inr (.inr (107, i1))), some (.inl a2), some (.inl v3), none, none, none] [] w) → WW X (pcAt tX12_layWays 108) [some (.inr (.inr (16, 0))), some (.inr (.inr (107, i1))), some (.inl a2), some (.inl v3), none, none, none] [] w := by
  intro k50 v3 w h h50
  refine run_sound (r := r) (X := X) (cc := cX12_layWays) (own := RX12) (tab := tX12_layWays) G (by rw [hn]; exact kX12_layWays) (oI := (oF [(mX12_isOf N)])) (oL := (oF [])) (oV := (oF [])) (rI := (fun _ _ => none)) (rL := (fun _ _ => none)) (rV := (fun w => some w))
    (K := (fun j ls st w => if j = 50 then (lgI ls 3 fun v3 => st0 st (k50 v3 w)) else none)) (fun _ _ _ _ hx => by cases hx) (fun _ _ _ _ hx => by cases hx) (fun w pc ls hx hd => hr w pc ls (Option.some.inj hx) hd) hC (fun ls => lsb [some (.inr (.inr (16, 0))), some (.inr (.inr (107, i1))), some (.inl a2), none, none, none, none] 0 ls) (keepsP_of rfl) ?_ 113 108 [some (.inr (.inr (16, 0))), some (.inr (.inr (107, i1))), some (.inl a2), some (.inl v3), none, none, none] [] w ?_ h
  · intro j ls st w hfx h
    obtain ⟨e0, e1, e2, -⟩ : _ = _ ∧ _ = _ ∧ _ = _ ∧ True := hfx
    try dsimp only at h
    by_cases hj : j = 50
    · subst hj
      rw [if_pos rfl] at h
      obtain ⟨v3, e3, h_1⟩ := lgI_some h
      obtain ⟨rfl, h_2⟩ := st0_some h_1
      clear h h_1
      have h := h_2
      try rw [callW_eq] at h
      exact WW.le (a := [some (.inr (.inr (16, 0))), some (.inr (.inr (107, i1))), some (.inl a2), some (.inl v3), none, none, none]) (by rw [hn]; rfl) (show _ = _ ∧ _ = _ ∧ _ = _ ∧ _ = _ ∧ True from ⟨e0, e1, e2, e3, trivial⟩) (h50 v3 w h)
    rw [if_neg hj] at h
    cases h
  · exact (show _ = _ ∧ _ = _ ∧ _ = _ ∧ True from ⟨rfl, rfl, rfl, trivial⟩)
set_option maxRecDepth 100000 in
set_option maxHeartbeats 4000000 in
theorem sX12_layWays_106_k107 {N : Nat} {X : XT} (G : GX X cX12_layWays RX12) (hn : xnL X = 7) (hC : CRs X tX12_layWays (oF [(mX12_isOf N)]) (oF []) (oF [])) {r : Wd} (hr : RTV X cX12_layWays r) (i1 : Nat) (a2 : Int32) : ∀ (k55 : Int32 → Int32 → Wd → Option (Wd)) (v3 : Int32) (v4 : Int32) (w : Wd), fX12_layWays_106 N 107 i1 k55 v3 v4 w = some r → (∀ (v3 : Int32) (v4 : Int32) (w : Wd), k55 v3 v4 w = some r → WW X (pcAt tX12_layWays 55) [some (.inr (.inr (16, 0))), some (.inr (.inr (107, i1))), some (.inl a2), some (.inl v3), some (.inl v4), none, none] [] w) → WW X (pcAt tX12_layWays 106) [some (.inr (.inr (16, 0))), some (.inr (.inr (107, i1))), some (.inl a2), some (.inl v3), some (.inl v4), none, none] [] w := by
  intro k55 v3 v4 w h h55
  refine run_sound (r := r) (X := X) (cc := cX12_layWays) (own := RX12) (tab := tX12_layWays) G (by rw [hn]; exact kX12_layWays) (oI := (oF [(mX12_isOf N)])) (oL := (oF [])) (oV := (oF [])) (rI := (fun _ _ => none)) (rL := (fun _ _ => none)) (rV := (fun w => some w))
    (K := (fun j ls st w => if j = 55 then (lgI ls 3 fun v3 => lgI ls 4 fun v4 => st0 st (k55 v3 v4 w)) else none)) (fun _ _ _ _ hx => by cases hx) (fun _ _ _ _ hx => by cases hx) (fun w pc ls hx hd => hr w pc ls (Option.some.inj hx) hd) hC (fun ls => lsb [some (.inr (.inr (16, 0))), some (.inr (.inr (107, i1))), some (.inl a2), none, none, none, none] 0 ls) (keepsP_of rfl) ?_ 113 106 [some (.inr (.inr (16, 0))), some (.inr (.inr (107, i1))), some (.inl a2), some (.inl v3), some (.inl v4), none, none] [] w ?_ h
  · intro j ls st w hfx h
    obtain ⟨e0, e1, e2, -⟩ : _ = _ ∧ _ = _ ∧ _ = _ ∧ True := hfx
    try dsimp only at h
    by_cases hj : j = 55
    · subst hj
      rw [if_pos rfl] at h
      obtain ⟨v3, e3, h_1⟩ := lgI_some h
      obtain ⟨v4, e4, h_2⟩ := lgI_some h_1
      obtain ⟨rfl, h_3⟩ := st0_some h_2
      clear h h_1 h_2
      have h := h_3
      try rw [callW_eq] at h
      exact WW.le (a := [some (.inr (.inr (16, 0))), some (.inr (.inr (107, i1))), some (.inl a2), some (.inl v3), some (.inl v4), none, none]) (by rw [hn]; rfl) (show _ = _ ∧ _ = _ ∧ _ = _ ∧ _ = _ ∧ _ = _ ∧ True from ⟨e0, e1, e2, e3, e4, trivial⟩) (h55 v3 v4 w h)
    rw [if_neg hj] at h
    cases h
  · exact (show _ = _ ∧ _ = _ ∧ _ = _ ∧ True from ⟨rfl, rfl, rfl, trivial⟩)
set_option maxRecDepth 100000 in
set_option maxHeartbeats 4000000 in
theorem sX12_layWays_60_k107 {N : Nat} {X : XT} (G : GX X cX12_layWays RX12) (hn : xnL X = 7) (hC : CRs X tX12_layWays (oF [(mX12_isOf N)]) (oF []) (oF [])) {r : Wd} (hr : RTV X cX12_layWays r) (i1 : Nat) (a2 : Int32) : ∀ (n : Nat) (k106 : Int32 → Int32 → Wd → Option (Wd)) (v3 : Int32) (v4 : Int32) (v5 : Int32) (w : Wd), fX12_layWays_60 N 107 i1 n k106 v3 v4 v5 w = some r → (∀ (v3 : Int32) (v4 : Int32) (w : Wd), k106 v3 v4 w = some r → WW X (pcAt tX12_layWays 106) [some (.inr (.inr (16, 0))), some (.inr (.inr (107, i1))), some (.inl a2), some (.inl v3), some (.inl v4), none, none] [] w) → WW X (pcAt tX12_layWays 60) [some (.inr (.inr (16, 0))), some (.inr (.inr (107, i1))), some (.inl a2), some (.inl v3), some (.inl v4), some (.inl v5), none] [] w := by
  intro n
  induction n with
  | zero => intro k106 v3 v4 v5 w h h106; cases h
  | succ n ih =>
    intro k106 v3 v4 v5 w h h106
    refine run_sound (r := r) (X := X) (cc := cX12_layWays) (own := RX12) (tab := tX12_layWays) G (by rw [hn]; exact kX12_layWays) (oI := (oF [(mX12_isOf N)])) (oL := (oF [])) (oV := (oF [])) (rI := (fun _ _ => none)) (rL := (fun _ _ => none)) (rV := (fun w => some w))
      (K := (fun j ls st w => if j = 60 then (lgI ls 3 fun v3 => lgI ls 4 fun v4 => lgI ls 5 fun v5 => st0 st (callW (fX12_layWays_60 N 107 i1 n k106 v3 v4 v5) w)) else if j = 106 then (lgI ls 3 fun v3 => lgI ls 4 fun v4 => st0 st (k106 v3 v4 w)) else none)) (fun _ _ _ _ hx => by cases hx) (fun _ _ _ _ hx => by cases hx) (fun w pc ls hx hd => hr w pc ls (Option.some.inj hx) hd) hC (fun ls => lsb [some (.inr (.inr (16, 0))), some (.inr (.inr (107, i1))), some (.inl a2), none, none, none, none] 0 ls) (keepsP_of rfl) ?_ 113 60 [some (.inr (.inr (16, 0))), some (.inr (.inr (107, i1))), some (.inl a2), some (.inl v3), some (.inl v4), some (.inl v5), none] [] w ?_ h
    · intro j ls st w hfx h
      obtain ⟨e0, e1, e2, -⟩ : _ = _ ∧ _ = _ ∧ _ = _ ∧ True := hfx
      try dsimp only at h
      by_cases hj : j = 60
      · subst hj
        rw [if_pos rfl] at h
        obtain ⟨v3, e3, h_1⟩ := lgI_some h
        obtain ⟨v4, e4, h_2⟩ := lgI_some h_1
        obtain ⟨v5, e5, h_3⟩ := lgI_some h_2
        obtain ⟨rfl, h_4⟩ := st0_some h_3
        clear h h_1 h_2 h_3
        have h := h_4
        try rw [callW_eq] at h
        exact WW.le (a := [some (.inr (.inr (16, 0))), some (.inr (.inr (107, i1))), some (.inl a2), some (.inl v3), some (.inl v4), some (.inl v5), none]) (by rw [hn]; rfl) (show _ = _ ∧ _ = _ ∧ _ = _ ∧ _ = _ ∧ _ = _ ∧ _ = _ ∧ True from ⟨e0, e1, e2, e3, e4, e5, trivial⟩) (ih k106 v3 v4 v5 w h h106)
      rw [if_neg hj] at h
      by_cases hj : j = 106
      · subst hj
        rw [if_pos rfl] at h
        obtain ⟨v3, e3, h_1⟩ := lgI_some h
        obtain ⟨v4, e4, h_2⟩ := lgI_some h_1
        obtain ⟨rfl, h_3⟩ := st0_some h_2
        clear h h_1 h_2
        have h := h_3
        try rw [callW_eq] at h
        exact WW.le (a := [some (.inr (.inr (16, 0))), some (.inr (.inr (107, i1))), some (.inl a2), some (.inl v3), some (.inl v4), none, none]) (by rw [hn]; rfl) (show _ = _ ∧ _ = _ ∧ _ = _ ∧ _ = _ ∧ _ = _ ∧ True from ⟨e0, e1, e2, e3, e4, trivial⟩) (h106 v3 v4 w h)
      rw [if_neg hj] at h
      cases h
    · exact (show _ = _ ∧ _ = _ ∧ _ = _ ∧ True from ⟨rfl, rfl, rfl, trivial⟩)
set_option maxRecDepth 100000 in
set_option maxHeartbeats 4000000 in
theorem sX12_layWays_55_k107 {N : Nat} {X : XT} (G : GX X cX12_layWays RX12) (hn : xnL X = 7) (hC : CRs X tX12_layWays (oF [(mX12_isOf N)]) (oF []) (oF [])) {r : Wd} (hr : RTV X cX12_layWays r) (i1 : Nat) (a2 : Int32) : ∀ (n : Nat) (k108 : Int32 → Wd → Option (Wd)) (v3 : Int32) (v4 : Int32) (w : Wd), fX12_layWays_55 N 107 i1 n k108 v3 v4 w = some r → (∀ (v3 : Int32) (w : Wd), k108 v3 w = some r → WW X (pcAt tX12_layWays 108) [some (.inr (.inr (16, 0))), some (.inr (.inr (107, i1))), some (.inl a2), some (.inl v3), none, none, none] [] w) → WW X (pcAt tX12_layWays 55) [some (.inr (.inr (16, 0))), some (.inr (.inr (107, i1))), some (.inl a2), some (.inl v3), some (.inl v4), none, none] [] w := by
  intro n
  induction n with
  | zero => intro k108 v3 v4 w h h108; cases h
  | succ n ih =>
    intro k108 v3 v4 w h h108
    refine run_sound (r := r) (X := X) (cc := cX12_layWays) (own := RX12) (tab := tX12_layWays) G (by rw [hn]; exact kX12_layWays) (oI := (oF [(mX12_isOf N)])) (oL := (oF [])) (oV := (oF [])) (rI := (fun _ _ => none)) (rL := (fun _ _ => none)) (rV := (fun w => some w))
      (K := (fun j ls st w => if j = 60 then (lgI ls 3 fun v3 => lgI ls 4 fun v4 => lgI ls 5 fun v5 => st0 st (callW (fX12_layWays_60 N 107 i1 N (fX12_layWays_106 N 107 i1 (fX12_layWays_55 N 107 i1 n k108)) v3 v4 v5) w)) else if j = 108 then (lgI ls 3 fun v3 => st0 st (k108 v3 w)) else none)) (fun _ _ _ _ hx => by cases hx) (fun _ _ _ _ hx => by cases hx) (fun w pc ls hx hd => hr w pc ls (Option.some.inj hx) hd) hC (fun ls => lsb [some (.inr (.inr (16, 0))), some (.inr (.inr (107, i1))), some (.inl a2), none, none, none, none] 0 ls) (keepsP_of rfl) ?_ 113 55 [some (.inr (.inr (16, 0))), some (.inr (.inr (107, i1))), some (.inl a2), some (.inl v3), some (.inl v4), none, none] [] w ?_ h
    · intro j ls st w hfx h
      obtain ⟨e0, e1, e2, -⟩ : _ = _ ∧ _ = _ ∧ _ = _ ∧ True := hfx
      try dsimp only at h
      by_cases hj : j = 60
      · subst hj
        rw [if_pos rfl] at h
        obtain ⟨v3, e3, h_1⟩ := lgI_some h
        obtain ⟨v4, e4, h_2⟩ := lgI_some h_1
        obtain ⟨v5, e5, h_3⟩ := lgI_some h_2
        obtain ⟨rfl, h_4⟩ := st0_some h_3
        clear h h_1 h_2 h_3
        have h := h_4
        try rw [callW_eq] at h
        exact WW.le (a := [some (.inr (.inr (16, 0))), some (.inr (.inr (107, i1))), some (.inl a2), some (.inl v3), some (.inl v4), some (.inl v5), none]) (by rw [hn]; rfl) (show _ = _ ∧ _ = _ ∧ _ = _ ∧ _ = _ ∧ _ = _ ∧ _ = _ ∧ True from ⟨e0, e1, e2, e3, e4, e5, trivial⟩) (sX12_layWays_60_k107 G hn hC hr i1 a2 N (fX12_layWays_106 N 107 i1 (fX12_layWays_55 N 107 i1 n k108)) v3 v4 v5 w h (fun v3 v4 w h => (sX12_layWays_106_k107 G hn hC hr i1 a2 (fX12_layWays_55 N 107 i1 n k108) v3 v4 w h (fun v3 v4 w h => (ih k108 v3 v4 w h h108)))))
      rw [if_neg hj] at h
      by_cases hj : j = 108
      · subst hj
        rw [if_pos rfl] at h
        obtain ⟨v3, e3, h_1⟩ := lgI_some h
        obtain ⟨rfl, h_2⟩ := st0_some h_1
        clear h h_1
        have h := h_2
        try rw [callW_eq] at h
        exact WW.le (a := [some (.inr (.inr (16, 0))), some (.inr (.inr (107, i1))), some (.inl a2), some (.inl v3), none, none, none]) (by rw [hn]; rfl) (show _ = _ ∧ _ = _ ∧ _ = _ ∧ _ = _ ∧ True from ⟨e0, e1, e2, e3, trivial⟩) (h108 v3 w h)
      rw [if_neg hj] at h
      cases h
    · exact (show _ = _ ∧ _ = _ ∧ _ = _ ∧ True from ⟨rfl, rfl, rfl, trivial⟩)
set_option maxRecDepth 100000 in
set_option maxHeartbeats 4000000 in
theorem sX12_layWays_50_k107 {N : Nat} {X : XT} (G : GX X cX12_layWays RX12) (hn : xnL X = 7) (hC : CRs X tX12_layWays (oF [(mX12_isOf N)]) (oF []) (oF [])) {r : Wd} (hr : RTV X cX12_layWays r) (i1 : Nat) (a2 : Int32) : ∀ (n : Nat) (v3 : Int32) (w : Wd), fX12_layWays_50 N 107 i1 n v3 w = some r → WW X (pcAt tX12_layWays 50) [some (.inr (.inr (16, 0))), some (.inr (.inr (107, i1))), some (.inl a2), some (.inl v3), none, none, none] [] w := by
  intro n
  induction n with
  | zero => intro v3 w h; cases h
  | succ n ih =>
    intro v3 w h
    refine run_sound (r := r) (X := X) (cc := cX12_layWays) (own := RX12) (tab := tX12_layWays) G (by rw [hn]; exact kX12_layWays) (oI := (oF [(mX12_isOf N)])) (oL := (oF [])) (oV := (oF [])) (rI := (fun _ _ => none)) (rL := (fun _ _ => none)) (rV := (fun w => some w))
      (K := (fun j ls st w => if j = 55 then (lgI ls 3 fun v3 => lgI ls 4 fun v4 => st0 st (callW (fX12_layWays_55 N 107 i1 N (fX12_layWays_108 N 107 i1 (fX12_layWays_50 N 107 i1 n)) v3 v4) w)) else none)) (fun _ _ _ _ hx => by cases hx) (fun _ _ _ _ hx => by cases hx) (fun w pc ls hx hd => hr w pc ls (Option.some.inj hx) hd) hC (fun ls => lsb [some (.inr (.inr (16, 0))), some (.inr (.inr (107, i1))), some (.inl a2), none, none, none, none] 0 ls) (keepsP_of rfl) ?_ 113 50 [some (.inr (.inr (16, 0))), some (.inr (.inr (107, i1))), some (.inl a2), some (.inl v3), none, none, none] [] w ?_ h
    · intro j ls st w hfx h
      obtain ⟨e0, e1, e2, -⟩ : _ = _ ∧ _ = _ ∧ _ = _ ∧ True := hfx
      try dsimp only at h
      by_cases hj : j = 55
      · subst hj
        rw [if_pos rfl] at h
        obtain ⟨v3, e3, h_1⟩ := lgI_some h
        obtain ⟨v4, e4, h_2⟩ := lgI_some h_1
        obtain ⟨rfl, h_3⟩ := st0_some h_2
        clear h h_1 h_2
        have h := h_3
        try rw [callW_eq] at h
        exact WW.le (a := [some (.inr (.inr (16, 0))), some (.inr (.inr (107, i1))), some (.inl a2), some (.inl v3), some (.inl v4), none, none]) (by rw [hn]; rfl) (show _ = _ ∧ _ = _ ∧ _ = _ ∧ _ = _ ∧ _ = _ ∧ True from ⟨e0, e1, e2, e3, e4, trivial⟩) (sX12_layWays_55_k107 G hn hC hr i1 a2 N (fX12_layWays_108 N 107 i1 (fX12_layWays_50 N 107 i1 n)) v3 v4 w h (fun v3 w h => (sX12_layWays_108_k107 G hn hC hr i1 a2 (fX12_layWays_50 N 107 i1 n) v3 w h (fun v3 w h => (ih v3 w h)))))
      rw [if_neg hj] at h
      cases h
    · exact (show _ = _ ∧ _ = _ ∧ _ = _ ∧ True from ⟨rfl, rfl, rfl, trivial⟩)
set_option maxRecDepth 100000 in
set_option maxHeartbeats 4000000 in
theorem sX12_layWays_48_k107 {N : Nat} {X : XT} (G : GX X cX12_layWays RX12) (hn : xnL X = 7) (hC : CRs X tX12_layWays (oF [(mX12_isOf N)]) (oF []) (oF [])) {r : Wd} (hr : RTV X cX12_layWays r) (i1 : Nat) (a2 : Int32) : ∀ (w : Wd), fX12_layWays_48 N 107 i1 w = some r → WW X (pcAt tX12_layWays 48) [some (.inr (.inr (16, 0))), some (.inr (.inr (107, i1))), some (.inl a2), none, none, none, none] [] w := by
  intro w h
  refine run_sound (r := r) (X := X) (cc := cX12_layWays) (own := RX12) (tab := tX12_layWays) G (by rw [hn]; exact kX12_layWays) (oI := (oF [(mX12_isOf N)])) (oL := (oF [])) (oV := (oF [])) (rI := (fun _ _ => none)) (rL := (fun _ _ => none)) (rV := (fun w => some w))
    (K := (fun j ls st w => if j = 50 then (lgI ls 3 fun v3 => st0 st (callW (fX12_layWays_50 N 107 i1 N v3) w)) else none)) (fun _ _ _ _ hx => by cases hx) (fun _ _ _ _ hx => by cases hx) (fun w pc ls hx hd => hr w pc ls (Option.some.inj hx) hd) hC (fun ls => lsb [some (.inr (.inr (16, 0))), some (.inr (.inr (107, i1))), some (.inl a2), none, none, none, none] 0 ls) (keepsP_of rfl) ?_ 113 48 [some (.inr (.inr (16, 0))), some (.inr (.inr (107, i1))), some (.inl a2), none, none, none, none] [] w ?_ h
  · intro j ls st w hfx h
    obtain ⟨e0, e1, e2, -⟩ : _ = _ ∧ _ = _ ∧ _ = _ ∧ True := hfx
    try dsimp only at h
    by_cases hj : j = 50
    · subst hj
      rw [if_pos rfl] at h
      obtain ⟨v3, e3, h_1⟩ := lgI_some h
      obtain ⟨rfl, h_2⟩ := st0_some h_1
      clear h h_1
      have h := h_2
      try rw [callW_eq] at h
      exact WW.le (a := [some (.inr (.inr (16, 0))), some (.inr (.inr (107, i1))), some (.inl a2), some (.inl v3), none, none, none]) (by rw [hn]; rfl) (show _ = _ ∧ _ = _ ∧ _ = _ ∧ _ = _ ∧ True from ⟨e0, e1, e2, e3, trivial⟩) (sX12_layWays_50_k107 G hn hC hr i1 a2 N v3 w h)
    rw [if_neg hj] at h
    cases h
  · exact (show _ = _ ∧ _ = _ ∧ _ = _ ∧ True from ⟨rfl, rfl, rfl, trivial⟩)
set_option maxRecDepth 100000 in
set_option maxHeartbeats 4000000 in
theorem sX12_layWays_46_k107 {N : Nat} {X : XT} (G : GX X cX12_layWays RX12) (hn : xnL X = 7) (hC : CRs X tX12_layWays (oF [(mX12_isOf N)]) (oF []) (oF [])) {r : Wd} (hr : RTV X cX12_layWays r) (i1 : Nat) (a2 : Int32) : ∀ (k2 : Int32 → Wd → Option (Wd)) (v3 : Int32) (w : Wd), fX12_layWays_46 N 107 i1 a2 k2 v3 w = some r → (∀ (v3 : Int32) (w : Wd), k2 v3 w = some r → WW X (pcAt tX12_layWays 2) [some (.inr (.inr (16, 0))), some (.inr (.inr (107, i1))), some (.inl a2), some (.inl v3), none, none, none] [] w) → WW X (pcAt tX12_layWays 46) [some (.inr (.inr (16, 0))), some (.inr (.inr (107, i1))), some (.inl a2), some (.inl v3), none, none, none] [] w := by
  intro k2 v3 w h h2
  refine run_sound (r := r) (X := X) (cc := cX12_layWays) (own := RX12) (tab := tX12_layWays) G (by rw [hn]; exact kX12_layWays) (oI := (oF [(mX12_isOf N)])) (oL := (oF [])) (oV := (oF [])) (rI := (fun _ _ => none)) (rL := (fun _ _ => none)) (rV := (fun w => some w))
    (K := (fun j ls st w => if j = 2 then (lgI ls 3 fun v3 => st0 st (k2 v3 w)) else none)) (fun _ _ _ _ hx => by cases hx) (fun _ _ _ _ hx => by cases hx) (fun w pc ls hx hd => hr w pc ls (Option.some.inj hx) hd) hC (fun ls => lsb [some (.inr (.inr (16, 0))), some (.inr (.inr (107, i1))), some (.inl a2), none, none, none, none] 0 ls) (keepsP_of rfl) ?_ 113 46 [some (.inr (.inr (16, 0))), some (.inr (.inr (107, i1))), some (.inl a2), some (.inl v3), none, none, none] [] w ?_ h
  · intro j ls st w hfx h
    obtain ⟨e0, e1, e2, -⟩ : _ = _ ∧ _ = _ ∧ _ = _ ∧ True := hfx
    try dsimp only at h
    by_cases hj : j = 2
    · subst hj
      rw [if_pos rfl] at h
      obtain ⟨v3, e3, h_1⟩ := lgI_some h
      obtain ⟨rfl, h_2⟩ := st0_some h_1
      clear h h_1
      have h := h_2
      try rw [callW_eq] at h
      exact WW.le (a := [some (.inr (.inr (16, 0))), some (.inr (.inr (107, i1))), some (.inl a2), some (.inl v3), none, none, none]) (by rw [hn]; rfl) (show _ = _ ∧ _ = _ ∧ _ = _ ∧ _ = _ ∧ True from ⟨e0, e1, e2, e3, trivial⟩) (h2 v3 w h)
    rw [if_neg hj] at h
    cases h
  · exact (show _ = _ ∧ _ = _ ∧ _ = _ ∧ True from ⟨rfl, rfl, rfl, trivial⟩)
set_option maxRecDepth 100000 in
set_option maxHeartbeats 4000000 in
theorem sX12_layWays_7_k107 {N : Nat} {X : XT} (G : GX X cX12_layWays RX12) (hn : xnL X = 7) (hC : CRs X tX12_layWays (oF [(mX12_isOf N)]) (oF []) (oF [])) {r : Wd} (hr : RTV X cX12_layWays r) (i1 : Nat) (a2 : Int32) : ∀ (n : Nat) (k46 : Int32 → Wd → Option (Wd)) (v3 : Int32) (v4 : Int32) (w : Wd), fX12_layWays_7 N 107 i1 a2 n k46 v3 v4 w = some r → (∀ (v3 : Int32) (w : Wd), k46 v3 w = some r → WW X (pcAt tX12_layWays 46) [some (.inr (.inr (16, 0))), some (.inr (.inr (107, i1))), some (.inl a2), some (.inl v3), none, none, none] [] w) → WW X (pcAt tX12_layWays 7) [some (.inr (.inr (16, 0))), some (.inr (.inr (107, i1))), some (.inl a2), some (.inl v3), some (.inl v4), none, none] [] w := by
  intro n
  induction n with
  | zero => intro k46 v3 v4 w h h46; cases h
  | succ n ih =>
    intro k46 v3 v4 w h h46
    refine run_sound (r := r) (X := X) (cc := cX12_layWays) (own := RX12) (tab := tX12_layWays) G (by rw [hn]; exact kX12_layWays) (oI := (oF [(mX12_isOf N)])) (oL := (oF [])) (oV := (oF [])) (rI := (fun _ _ => none)) (rL := (fun _ _ => none)) (rV := (fun w => some w))
      (K := (fun j ls st w => if j = 7 then (lgI ls 3 fun v3 => lgI ls 4 fun v4 => st0 st (callW (fX12_layWays_7 N 107 i1 a2 n k46 v3 v4) w)) else if j = 46 then (lgI ls 3 fun v3 => st0 st (k46 v3 w)) else none)) (fun _ _ _ _ hx => by cases hx) (fun _ _ _ _ hx => by cases hx) (fun w pc ls hx hd => hr w pc ls (Option.some.inj hx) hd) hC (fun ls => lsb [some (.inr (.inr (16, 0))), some (.inr (.inr (107, i1))), some (.inl a2), none, none, none, none] 0 ls) (keepsP_of rfl) ?_ 113 7 [some (.inr (.inr (16, 0))), some (.inr (.inr (107, i1))), some (.inl a2), some (.inl v3), some (.inl v4), none, none] [] w ?_ h
    · intro j ls st w hfx h
      obtain ⟨e0, e1, e2, -⟩ : _ = _ ∧ _ = _ ∧ _ = _ ∧ True := hfx
      try dsimp only at h
      by_cases hj : j = 7
      · subst hj
        rw [if_pos rfl] at h
        obtain ⟨v3, e3, h_1⟩ := lgI_some h
        obtain ⟨v4, e4, h_2⟩ := lgI_some h_1
        obtain ⟨rfl, h_3⟩ := st0_some h_2
        clear h h_1 h_2
        have h := h_3
        try rw [callW_eq] at h
        exact WW.le (a := [some (.inr (.inr (16, 0))), some (.inr (.inr (107, i1))), some (.inl a2), some (.inl v3), some (.inl v4), none, none]) (by rw [hn]; rfl) (show _ = _ ∧ _ = _ ∧ _ = _ ∧ _ = _ ∧ _ = _ ∧ True from ⟨e0, e1, e2, e3, e4, trivial⟩) (ih k46 v3 v4 w h h46)
      rw [if_neg hj] at h
      by_cases hj : j = 46
      · subst hj
        rw [if_pos rfl] at h
        obtain ⟨v3, e3, h_1⟩ := lgI_some h
        obtain ⟨rfl, h_2⟩ := st0_some h_1
        clear h h_1
        have h := h_2
        try rw [callW_eq] at h
        exact WW.le (a := [some (.inr (.inr (16, 0))), some (.inr (.inr (107, i1))), some (.inl a2), some (.inl v3), none, none, none]) (by rw [hn]; rfl) (show _ = _ ∧ _ = _ ∧ _ = _ ∧ _ = _ ∧ True from ⟨e0, e1, e2, e3, trivial⟩) (h46 v3 w h)
      rw [if_neg hj] at h
      cases h
    · exact (show _ = _ ∧ _ = _ ∧ _ = _ ∧ True from ⟨rfl, rfl, rfl, trivial⟩)
set_option maxRecDepth 100000 in
set_option maxHeartbeats 4000000 in
theorem sX12_layWays_2_k107 {N : Nat} {X : XT} (G : GX X cX12_layWays RX12) (hn : xnL X = 7) (hC : CRs X tX12_layWays (oF [(mX12_isOf N)]) (oF []) (oF [])) {r : Wd} (hr : RTV X cX12_layWays r) (i1 : Nat) (a2 : Int32) : ∀ (n : Nat) (k48 : Wd → Option (Wd)) (v3 : Int32) (w : Wd), fX12_layWays_2 N 107 i1 a2 n k48 v3 w = some r → (∀ (w : Wd), k48 w = some r → WW X (pcAt tX12_layWays 48) [some (.inr (.inr (16, 0))), some (.inr (.inr (107, i1))), some (.inl a2), none, none, none, none] [] w) → WW X (pcAt tX12_layWays 2) [some (.inr (.inr (16, 0))), some (.inr (.inr (107, i1))), some (.inl a2), some (.inl v3), none, none, none] [] w := by
  intro n
  induction n with
  | zero => intro k48 v3 w h h48; cases h
  | succ n ih =>
    intro k48 v3 w h h48
    refine run_sound (r := r) (X := X) (cc := cX12_layWays) (own := RX12) (tab := tX12_layWays) G (by rw [hn]; exact kX12_layWays) (oI := (oF [(mX12_isOf N)])) (oL := (oF [])) (oV := (oF [])) (rI := (fun _ _ => none)) (rL := (fun _ _ => none)) (rV := (fun w => some w))
      (K := (fun j ls st w => if j = 7 then (lgI ls 3 fun v3 => lgI ls 4 fun v4 => st0 st (callW (fX12_layWays_7 N 107 i1 a2 N (fX12_layWays_46 N 107 i1 a2 (fX12_layWays_2 N 107 i1 a2 n k48)) v3 v4) w)) else if j = 48 then (st0 st (k48 w)) else none)) (fun _ _ _ _ hx => by cases hx) (fun _ _ _ _ hx => by cases hx) (fun w pc ls hx hd => hr w pc ls (Option.some.inj hx) hd) hC (fun ls => lsb [some (.inr (.inr (16, 0))), some (.inr (.inr (107, i1))), some (.inl a2), none, none, none, none] 0 ls) (keepsP_of rfl) ?_ 113 2 [some (.inr (.inr (16, 0))), some (.inr (.inr (107, i1))), some (.inl a2), some (.inl v3), none, none, none] [] w ?_ h
    · intro j ls st w hfx h
      obtain ⟨e0, e1, e2, -⟩ : _ = _ ∧ _ = _ ∧ _ = _ ∧ True := hfx
      try dsimp only at h
      by_cases hj : j = 7
      · subst hj
        rw [if_pos rfl] at h
        obtain ⟨v3, e3, h_1⟩ := lgI_some h
        obtain ⟨v4, e4, h_2⟩ := lgI_some h_1
        obtain ⟨rfl, h_3⟩ := st0_some h_2
        clear h h_1 h_2
        have h := h_3
        try rw [callW_eq] at h
        exact WW.le (a := [some (.inr (.inr (16, 0))), some (.inr (.inr (107, i1))), some (.inl a2), some (.inl v3), some (.inl v4), none, none]) (by rw [hn]; rfl) (show _ = _ ∧ _ = _ ∧ _ = _ ∧ _ = _ ∧ _ = _ ∧ True from ⟨e0, e1, e2, e3, e4, trivial⟩) (sX12_layWays_7_k107 G hn hC hr i1 a2 N (fX12_layWays_46 N 107 i1 a2 (fX12_layWays_2 N 107 i1 a2 n k48)) v3 v4 w h (fun v3 w h => (sX12_layWays_46_k107 G hn hC hr i1 a2 (fX12_layWays_2 N 107 i1 a2 n k48) v3 w h (fun v3 w h => (ih k48 v3 w h h48)))))
      rw [if_neg hj] at h
      by_cases hj : j = 48
      · subst hj
        rw [if_pos rfl] at h
        obtain ⟨rfl, h_1⟩ := st0_some h
        clear h
        have h := h_1
        try rw [callW_eq] at h
        exact WW.le (a := [some (.inr (.inr (16, 0))), some (.inr (.inr (107, i1))), some (.inl a2), none, none, none, none]) (by rw [hn]; rfl) (show _ = _ ∧ _ = _ ∧ _ = _ ∧ True from ⟨e0, e1, e2, trivial⟩) (h48 w h)
      rw [if_neg hj] at h
      cases h
    · exact (show _ = _ ∧ _ = _ ∧ _ = _ ∧ True from ⟨rfl, rfl, rfl, trivial⟩)
set_option maxRecDepth 100000 in
set_option maxHeartbeats 4000000 in
theorem sX12_layWays_108_k108 {N : Nat} {X : XT} (G : GX X cX12_layWays RX12) (hn : xnL X = 7) (hC : CRs X tX12_layWays (oF [(mX12_isOf N)]) (oF []) (oF [])) {r : Wd} (hr : RTV X cX12_layWays r) (i1 : Nat) (a2 : Int32) : ∀ (k50 : Int32 → Wd → Option (Wd)) (v3 : Int32) (w : Wd), fX12_layWays_108 N 108 i1 k50 v3 w = some r → (∀ (v3 : Int32) (w : Wd), k50 v3 w = some r → WW X (pcAt tX12_layWays 50) [some (.inr (.inr (16, 0))), some (.inr (.inr (108, i1))), some (.inl a2), some (.inl v3), none, none, none] [] w) → WW X (pcAt tX12_layWays 108) [some (.inr (.inr (16, 0))), some (.inr (.inr (108, i1))), some (.inl a2), some (.inl v3), none, none, none] [] w := by
  intro k50 v3 w h h50
  refine run_sound (r := r) (X := X) (cc := cX12_layWays) (own := RX12) (tab := tX12_layWays) G (by rw [hn]; exact kX12_layWays) (oI := (oF [(mX12_isOf N)])) (oL := (oF [])) (oV := (oF [])) (rI := (fun _ _ => none)) (rL := (fun _ _ => none)) (rV := (fun w => some w))
    (K := (fun j ls st w => if j = 50 then (lgI ls 3 fun v3 => st0 st (k50 v3 w)) else none)) (fun _ _ _ _ hx => by cases hx) (fun _ _ _ _ hx => by cases hx) (fun w pc ls hx hd => hr w pc ls (Option.some.inj hx) hd) hC (fun ls => lsb [some (.inr (.inr (16, 0))), some (.inr (.inr (108, i1))), some (.inl a2), none, none, none, none] 0 ls) (keepsP_of rfl) ?_ 113 108 [some (.inr (.inr (16, 0))), some (.inr (.inr (108, i1))), some (.inl a2), some (.inl v3), none, none, none] [] w ?_ h
  · intro j ls st w hfx h
    obtain ⟨e0, e1, e2, -⟩ : _ = _ ∧ _ = _ ∧ _ = _ ∧ True := hfx
    try dsimp only at h
    by_cases hj : j = 50
    · subst hj
      rw [if_pos rfl] at h
      obtain ⟨v3, e3, h_1⟩ := lgI_some h
      obtain ⟨rfl, h_2⟩ := st0_some h_1
      clear h h_1
      have h := h_2
      try rw [callW_eq] at h
      exact WW.le (a := [some (.inr (.inr (16, 0))), some (.inr (.inr (108, i1))), some (.inl a2), some (.inl v3), none, none, none]) (by rw [hn]; rfl) (show _ = _ ∧ _ = _ ∧ _ = _ ∧ _ = _ ∧ True from ⟨e0, e1, e2, e3, trivial⟩) (h50 v3 w h)
    rw [if_neg hj] at h
    cases h
  · exact (show _ = _ ∧ _ = _ ∧ _ = _ ∧ True from ⟨rfl, rfl, rfl, trivial⟩)
set_option maxRecDepth 100000 in
set_option maxHeartbeats 4000000 in
theorem sX12_layWays_106_k108 {N : Nat} {X : XT} (G : GX X cX12_layWays RX12) (hn : xnL X = 7) (hC : CRs X tX12_layWays (oF [(mX12_isOf N)]) (oF []) (oF [])) {r : Wd} (hr : RTV X cX12_layWays r) (i1 : Nat) (a2 : Int32) : ∀ (k55 : Int32 → Int32 → Wd → Option (Wd)) (v3 : Int32) (v4 : Int32) (w : Wd), fX12_layWays_106 N 108 i1 k55 v3 v4 w = some r → (∀ (v3 : Int32) (v4 : Int32) (w : Wd), k55 v3 v4 w = some r → WW X (pcAt tX12_layWays 55) [some (.inr (.inr (16, 0))), some (.inr (.inr (108, i1))), some (.inl a2), some (.inl v3), some (.inl v4), none, none] [] w) → WW X (pcAt tX12_layWays 106) [some (.inr (.inr (16, 0))), some (.inr (.inr (108, i1))), some (.inl a2), some (.inl v3), some (.inl v4), none, none] [] w := by
  intro k55 v3 v4 w h h55
  refine run_sound (r := r) (X := X) (cc := cX12_layWays) (own := RX12) (tab := tX12_layWays) G (by rw [hn]; exact kX12_layWays) (oI := (oF [(mX12_isOf N)])) (oL := (oF [])) (oV := (oF [])) (rI := (fun _ _ => none)) (rL := (fun _ _ => none)) (rV := (fun w => some w))
    (K := (fun j ls st w => if j = 55 then (lgI ls 3 fun v3 => lgI ls 4 fun v4 => st0 st (k55 v3 v4 w)) else none)) (fun _ _ _ _ hx => by cases hx) (fun _ _ _ _ hx => by cases hx) (fun w pc ls hx hd => hr w pc ls (Option.some.inj hx) hd) hC (fun ls => lsb [some (.inr (.inr (16, 0))), some (.inr (.inr (108, i1))), some (.inl a2), none, none, none, none] 0 ls) (keepsP_of rfl) ?_ 113 106 [some (.inr (.inr (16, 0))), some (.inr (.inr (108, i1))), some (.inl a2), some (.inl v3), some (.inl v4), none, none] [] w ?_ h
  · intro j ls st w hfx h
    obtain ⟨e0, e1, e2, -⟩ : _ = _ ∧ _ = _ ∧ _ = _ ∧ True := hfx
    try dsimp only at h
    by_cases hj : j = 55
    · subst hj
      rw [if_pos rfl] at h
      obtain ⟨v3, e3, h_1⟩ := lgI_some h
      obtain ⟨v4, e4, h_2⟩ := lgI_some h_1
      obtain ⟨rfl, h_3⟩ := st0_some h_2
      clear h h_1 h_2
      have h := h_3
      try rw [callW_eq] at h
      exact WW.le (a := [some (.inr (.inr (16, 0))), some (.inr (.inr (108, i1))), some (.inl a2), some (.inl v3), some (.inl v4), none, none]) (by rw [hn]; rfl) (show _ = _ ∧ _ = _ ∧ _ = _ ∧ _ = _ ∧ _ = _ ∧ True from ⟨e0, e1, e2, e3, e4, trivial⟩) (h55 v3 v4 w h)
    rw [if_neg hj] at h
    cases h
  · exact (show _ = _ ∧ _ = _ ∧ _ = _ ∧ True from ⟨rfl, rfl, rfl, trivial⟩)
set_option maxRecDepth 100000 in
set_option maxHeartbeats 4000000 in
theorem sX12_layWays_60_k108 {N : Nat} {X : XT} (G : GX X cX12_layWays RX12) (hn : xnL X = 7) (hC : CRs X tX12_layWays (oF [(mX12_isOf N)]) (oF []) (oF [])) {r : Wd} (hr : RTV X cX12_layWays r) (i1 : Nat) (a2 : Int32) : ∀ (n : Nat) (k106 : Int32 → Int32 → Wd → Option (Wd)) (v3 : Int32) (v4 : Int32) (v5 : Int32) (w : Wd), fX12_layWays_60 N 108 i1 n k106 v3 v4 v5 w = some r → (∀ (v3 : Int32) (v4 : Int32) (w : Wd), k106 v3 v4 w = some r → WW X (pcAt tX12_layWays 106) [some (.inr (.inr (16, 0))), some (.inr (.inr (108, i1))), some (.inl a2), some (.inl v3), some (.inl v4), none, none] [] w) → WW X (pcAt tX12_layWays 60) [some (.inr (.inr (16, 0))), some (.inr (.inr (108, i1))), some (.inl a2), some (.inl v3), some (.inl v4), some (.inl v5), none] [] w := by
  intro n
  induction n with
  | zero => intro k106 v3 v4 v5 w h h106; cases h
  | succ n ih =>
    intro k106 v3 v4 v5 w h h106
    refine run_sound (r := r) (X := X) (cc := cX12_layWays) (own := RX12) (tab := tX12_layWays) G (by rw [hn]; exact kX12_layWays) (oI := (oF [(mX12_isOf N)])) (oL := (oF [])) (oV := (oF [])) (rI := (fun _ _ => none)) (rL := (fun _ _ => none)) (rV := (fun w => some w))
      (K := (fun j ls st w => if j = 60 then (lgI ls 3 fun v3 => lgI ls 4 fun v4 => lgI ls 5 fun v5 => st0 st (callW (fX12_layWays_60 N 108 i1 n k106 v3 v4 v5) w)) else if j = 106 then (lgI ls 3 fun v3 => lgI ls 4 fun v4 => st0 st (k106 v3 v4 w)) else none)) (fun _ _ _ _ hx => by cases hx) (fun _ _ _ _ hx => by cases hx) (fun w pc ls hx hd => hr w pc ls (Option.some.inj hx) hd) hC (fun ls => lsb [some (.inr (.inr (16, 0))), some (.inr (.inr (108, i1))), some (.inl a2), none, none, none, none] 0 ls) (keepsP_of rfl) ?_ 113 60 [some (.inr (.inr (16, 0))), some (.inr (.inr (108, i1))), some (.inl a2), some (.inl v3), some (.inl v4), some (.inl v5), none] [] w ?_ h
    · intro j ls st w hfx h
      obtain ⟨e0, e1, e2, -⟩ : _ = _ ∧ _ = _ ∧ _ = _ ∧ True := hfx
      try dsimp only at h
      by_cases hj : j = 60
      · subst hj
        rw [if_pos rfl] at h
        obtain ⟨v3, e3, h_1⟩ := lgI_some h
        obtain ⟨v4, e4, h_2⟩ := lgI_some h_1
        obtain ⟨v5, e5, h_3⟩ := lgI_some h_2
        obtain ⟨rfl, h_4⟩ := st0_some h_3
        clear h h_1 h_2 h_3
        have h := h_4
        try rw [callW_eq] at h
        exact WW.le (a := [some (.inr (.inr (16, 0))), some (.inr (.inr (108, i1))), some (.inl a2), some (.inl v3), some (.inl v4), some (.inl v5), none]) (by rw [hn]; rfl) (show _ = _ ∧ _ = _ ∧ _ = _ ∧ _ = _ ∧ _ = _ ∧ _ = _ ∧ True from ⟨e0, e1, e2, e3, e4, e5, trivial⟩) (ih k106 v3 v4 v5 w h h106)
      rw [if_neg hj] at h
      by_cases hj : j = 106
      · subst hj
        rw [if_pos rfl] at h
        obtain ⟨v3, e3, h_1⟩ := lgI_some h
        obtain ⟨v4, e4, h_2⟩ := lgI_some h_1
        obtain ⟨rfl, h_3⟩ := st0_some h_2
        clear h h_1 h_2
        have h := h_3
        try rw [callW_eq] at h
        exact WW.le (a := [some (.inr (.inr (16, 0))), some (.inr (.inr (108, i1))), some (.inl a2), some (.inl v3), some (.inl v4), none, none]) (by rw [hn]; rfl) (show _ = _ ∧ _ = _ ∧ _ = _ ∧ _ = _ ∧ _ = _ ∧ True from ⟨e0, e1, e2, e3, e4, trivial⟩) (h106 v3 v4 w h)
      rw [if_neg hj] at h
      cases h
    · exact (show _ = _ ∧ _ = _ ∧ _ = _ ∧ True from ⟨rfl, rfl, rfl, trivial⟩)
set_option maxRecDepth 100000 in
set_option maxHeartbeats 4000000 in
theorem sX12_layWays_55_k108 {N : Nat} {X : XT} (G : GX X cX12_layWays RX12) (hn : xnL X = 7) (hC : CRs X tX12_layWays (oF [(mX12_isOf N)]) (oF []) (oF [])) {r : Wd} (hr : RTV X cX12_layWays r) (i1 : Nat) (a2 : Int32) : ∀ (n : Nat) (k108 : Int32 → Wd → Option (Wd)) (v3 : Int32) (v4 : Int32) (w : Wd), fX12_layWays_55 N 108 i1 n k108 v3 v4 w = some r → (∀ (v3 : Int32) (w : Wd), k108 v3 w = some r → WW X (pcAt tX12_layWays 108) [some (.inr (.inr (16, 0))), some (.inr (.inr (108, i1))), some (.inl a2), some (.inl v3), none, none, none] [] w) → WW X (pcAt tX12_layWays 55) [some (.inr (.inr (16, 0))), some (.inr (.inr (108, i1))), some (.inl a2), some (.inl v3), some (.inl v4), none, none] [] w := by
  intro n
  induction n with
  | zero => intro k108 v3 v4 w h h108; cases h
  | succ n ih =>
    intro k108 v3 v4 w h h108
    refine run_sound (r := r) (X := X) (cc := cX12_layWays) (own := RX12) (tab := tX12_layWays) G (by rw [hn]; exact kX12_layWays) (oI := (oF [(mX12_isOf N)])) (oL := (oF [])) (oV := (oF [])) (rI := (fun _ _ => none)) (rL := (fun _ _ => none)) (rV := (fun w => some w))
      (K := (fun j ls st w => if j = 60 then (lgI ls 3 fun v3 => lgI ls 4 fun v4 => lgI ls 5 fun v5 => st0 st (callW (fX12_layWays_60 N 108 i1 N (fX12_layWays_106 N 108 i1 (fX12_layWays_55 N 108 i1 n k108)) v3 v4 v5) w)) else if j = 108 then (lgI ls 3 fun v3 => st0 st (k108 v3 w)) else none)) (fun _ _ _ _ hx => by cases hx) (fun _ _ _ _ hx => by cases hx) (fun w pc ls hx hd => hr w pc ls (Option.some.inj hx) hd) hC (fun ls => lsb [some (.inr (.inr (16, 0))), some (.inr (.inr (108, i1))), some (.inl a2), none, none, none, none] 0 ls) (keepsP_of rfl) ?_ 113 55 [some (.inr (.inr (16, 0))), some (.inr (.inr (108, i1))), some (.inl a2), some (.inl v3), some (.inl v4), none, none] [] w ?_ h
    · intro j ls st w hfx h
      obtain ⟨e0, e1, e2, -⟩ : _ = _ ∧ _ = _ ∧ _ = _ ∧ True := hfx
      try dsimp only at h
      by_cases hj : j = 60
      · subst hj
        rw [if_pos rfl] at h
        obtain ⟨v3, e3, h_1⟩ := lgI_some h
        obtain ⟨v4, e4, h_2⟩ := lgI_some h_1
        obtain ⟨v5, e5, h_3⟩ := lgI_some h_2
        obtain ⟨rfl, h_4⟩ := st0_some h_3
        clear h h_1 h_2 h_3
        have h := h_4
        try rw [callW_eq] at h
        exact WW.le (a := [some (.inr (.inr (16, 0))), some (.inr (.inr (108, i1))), some (.inl a2), some (.inl v3), some (.inl v4), some (.inl v5), none]) (by rw [hn]; rfl) (show _ = _ ∧ _ = _ ∧ _ = _ ∧ _ = _ ∧ _ = _ ∧ _ = _ ∧ True from ⟨e0, e1, e2, e3, e4, e5, trivial⟩) (sX12_layWays_60_k108 G hn hC hr i1 a2 N (fX12_layWays_106 N 108 i1 (fX12_layWays_55 N 108 i1 n k108)) v3 v4 v5 w h (fun v3 v4 w h => (sX12_layWays_106_k108 G hn hC hr i1 a2 (fX12_layWays_55 N 108 i1 n k108) v3 v4 w h (fun v3 v4 w h => (ih k108 v3 v4 w h h108)))))
      rw [if_neg hj] at h
      by_cases hj : j = 108
      · subst hj
        rw [if_pos rfl] at h
        obtain ⟨v3, e3, h_1⟩ := lgI_some h
        obtain ⟨rfl, h_2⟩ := st0_some h_1
        clear h h_1
        have h := h_2
        try rw [callW_eq] at h
        exact WW.le (a := [some (.inr (.inr (16, 0))), some (.inr (.inr (108, i1))), some (.inl a2), some (.inl v3), none, none, none]) (by rw [hn]; rfl) (show _ = _ ∧ _ = _ ∧ _ = _ ∧ _ = _ ∧ True from ⟨e0, e1, e2, e3, trivial⟩) (h108 v3 w h)
      rw [if_neg hj] at h
      cases h
    · exact (show _ = _ ∧ _ = _ ∧ _ = _ ∧ True from ⟨rfl, rfl, rfl, trivial⟩)
set_option maxRecDepth 100000 in
set_option maxHeartbeats 4000000 in
theorem sX12_layWays_50_k108 {N : Nat} {X : XT} (G : GX X cX12_layWays RX12) (hn : xnL X = 7) (hC : CRs X tX12_layWays (oF [(mX12_isOf N)]) (oF []) (oF [])) {r : Wd} (hr : RTV X cX12_layWays r) (i1 : Nat) (a2 : Int32) : ∀ (n : Nat) (v3 : Int32) (w : Wd), fX12_layWays_50 N 108 i1 n v3 w = some r → WW X (pcAt tX12_layWays 50) [some (.inr (.inr (16, 0))), some (.inr (.inr (108, i1))), some (.inl a2), some (.inl v3), none, none, none] [] w := by
  intro n
  induction n with
  | zero => intro v3 w h; cases h
  | succ n ih =>
    intro v3 w h
    refine run_sound (r := r) (X := X) (cc := cX12_layWays) (own := RX12) (tab := tX12_layWays) G (by rw [hn]; exact kX12_layWays) (oI := (oF [(mX12_isOf N)])) (oL := (oF [])) (oV := (oF [])) (rI := (fun _ _ => none)) (rL := (fun _ _ => none)) (rV := (fun w => some w))
      (K := (fun j ls st w => if j = 55 then (lgI ls 3 fun v3 => lgI ls 4 fun v4 => st0 st (callW (fX12_layWays_55 N 108 i1 N (fX12_layWays_108 N 108 i1 (fX12_layWays_50 N 108 i1 n)) v3 v4) w)) else none)) (fun _ _ _ _ hx => by cases hx) (fun _ _ _ _ hx => by cases hx) (fun w pc ls hx hd => hr w pc ls (Option.some.inj hx) hd) hC (fun ls => lsb [some (.inr (.inr (16, 0))), some (.inr (.inr (108, i1))), some (.inl a2), none, none, none, none] 0 ls) (keepsP_of rfl) ?_ 113 50 [some (.inr (.inr (16, 0))), some (.inr (.inr (108, i1))), some (.inl a2), some (.inl v3), none, none, none] [] w ?_ h
    · intro j ls st w hfx h
      obtain ⟨e0, e1, e2, -⟩ : _ = _ ∧ _ = _ ∧ _ = _ ∧ True := hfx
      try dsimp only at h
      by_cases hj : j = 55
      · subst hj
        rw [if_pos rfl] at h
        obtain ⟨v3, e3, h_1⟩ := lgI_some h
        obtain ⟨v4, e4, h_2⟩ := lgI_some h_1
        obtain ⟨rfl, h_3⟩ := st0_some h_2
        clear h h_1 h_2
        have h := h_3
        try rw [callW_eq] at h
        exact WW.le (a := [some (.inr (.inr (16, 0))), some (.inr (.inr (108, i1))), some (.inl a2), some (.inl v3), some (.inl v4), none, none]) (by rw [hn]; rfl) (show _ = _ ∧ _ = _ ∧ _ = _ ∧ _ = _ ∧ _ = _ ∧ True from ⟨e0, e1, e2, e3, e4, trivial⟩) (sX12_layWays_55_k108 G hn hC hr i1 a2 N (fX12_layWays_108 N 108 i1 (fX12_layWays_50 N 108 i1 n)) v3 v4 w h (fun v3 w h => (sX12_layWays_108_k108 G hn hC hr i1 a2 (fX12_layWays_50 N 108 i1 n) v3 w h (fun v3 w h => (ih v3 w h)))))
      rw [if_neg hj] at h
      cases h
    · exact (show _ = _ ∧ _ = _ ∧ _ = _ ∧ True from ⟨rfl, rfl, rfl, trivial⟩)
set_option maxRecDepth 100000 in
set_option maxHeartbeats 4000000 in
theorem sX12_layWays_48_k108 {N : Nat} {X : XT} (G : GX X cX12_layWays RX12) (hn : xnL X = 7) (hC : CRs X tX12_layWays (oF [(mX12_isOf N)]) (oF []) (oF [])) {r : Wd} (hr : RTV X cX12_layWays r) (i1 : Nat) (a2 : Int32) : ∀ (w : Wd), fX12_layWays_48 N 108 i1 w = some r → WW X (pcAt tX12_layWays 48) [some (.inr (.inr (16, 0))), some (.inr (.inr (108, i1))), some (.inl a2), none, none, none, none] [] w := by
  intro w h
  refine run_sound (r := r) (X := X) (cc := cX12_layWays) (own := RX12) (tab := tX12_layWays) G (by rw [hn]; exact kX12_layWays) (oI := (oF [(mX12_isOf N)])) (oL := (oF [])) (oV := (oF [])) (rI := (fun _ _ => none)) (rL := (fun _ _ => none)) (rV := (fun w => some w))
    (K := (fun j ls st w => if j = 50 then (lgI ls 3 fun v3 => st0 st (callW (fX12_layWays_50 N 108 i1 N v3) w)) else none)) (fun _ _ _ _ hx => by cases hx) (fun _ _ _ _ hx => by cases hx) (fun w pc ls hx hd => hr w pc ls (Option.some.inj hx) hd) hC (fun ls => lsb [some (.inr (.inr (16, 0))), some (.inr (.inr (108, i1))), some (.inl a2), none, none, none, none] 0 ls) (keepsP_of rfl) ?_ 113 48 [some (.inr (.inr (16, 0))), some (.inr (.inr (108, i1))), some (.inl a2), none, none, none, none] [] w ?_ h
  · intro j ls st w hfx h
    obtain ⟨e0, e1, e2, -⟩ : _ = _ ∧ _ = _ ∧ _ = _ ∧ True := hfx
    try dsimp only at h
    by_cases hj : j = 50
    · subst hj
      rw [if_pos rfl] at h
      obtain ⟨v3, e3, h_1⟩ := lgI_some h
      obtain ⟨rfl, h_2⟩ := st0_some h_1
      clear h h_1
      have h := h_2
      try rw [callW_eq] at h
      exact WW.le (a := [some (.inr (.inr (16, 0))), some (.inr (.inr (108, i1))), some (.inl a2), some (.inl v3), none, none, none]) (by rw [hn]; rfl) (show _ = _ ∧ _ = _ ∧ _ = _ ∧ _ = _ ∧ True from ⟨e0, e1, e2, e3, trivial⟩) (sX12_layWays_50_k108 G hn hC hr i1 a2 N v3 w h)
    rw [if_neg hj] at h
    cases h
  · exact (show _ = _ ∧ _ = _ ∧ _ = _ ∧ True from ⟨rfl, rfl, rfl, trivial⟩)
set_option maxRecDepth 100000 in
set_option maxHeartbeats 4000000 in
theorem sX12_layWays_46_k108 {N : Nat} {X : XT} (G : GX X cX12_layWays RX12) (hn : xnL X = 7) (hC : CRs X tX12_layWays (oF [(mX12_isOf N)]) (oF []) (oF [])) {r : Wd} (hr : RTV X cX12_layWays r) (i1 : Nat) (a2 : Int32) : ∀ (k2 : Int32 → Wd → Option (Wd)) (v3 : Int32) (w : Wd), fX12_layWays_46 N 108 i1 a2 k2 v3 w = some r → (∀ (v3 : Int32) (w : Wd), k2 v3 w = some r → WW X (pcAt tX12_layWays 2) [some (.inr (.inr (16, 0))), some (.inr (.inr (108, i1))), some (.inl a2), some (.inl v3), none, none, none] [] w) → WW X (pcAt tX12_layWays 46) [some (.inr (.inr (16, 0))), some (.inr (.inr (108, i1))), some (.inl a2), some (.inl v3), none, none, none] [] w := by
  intro k2 v3 w h h2
  refine run_sound (r := r) (X := X) (cc := cX12_layWays) (own := RX12) (tab := tX12_layWays) G (by rw [hn]; exact kX12_layWays) (oI := (oF [(mX12_isOf N)])) (oL := (oF [])) (oV := (oF [])) (rI := (fun _ _ => none)) (rL := (fun _ _ => none)) (rV := (fun w => some w))
    (K := (fun j ls st w => if j = 2 then (lgI ls 3 fun v3 => st0 st (k2 v3 w)) else none)) (fun _ _ _ _ hx => by cases hx) (fun _ _ _ _ hx => by cases hx) (fun w pc ls hx hd => hr w pc ls (Option.some.inj hx) hd) hC (fun ls => lsb [some (.inr (.inr (16, 0))), some (.inr (.inr (108, i1))), some (.inl a2), none, none, none, none] 0 ls) (keepsP_of rfl) ?_ 113 46 [some (.inr (.inr (16, 0))), some (.inr (.inr (108, i1))), some (.inl a2), some (.inl v3), none, none, none] [] w ?_ h
  · intro j ls st w hfx h
    obtain ⟨e0, e1, e2, -⟩ : _ = _ ∧ _ = _ ∧ _ = _ ∧ True := hfx
    try dsimp only at h
    by_cases hj : j = 2
    · subst hj
      rw [if_pos rfl] at h
      obtain ⟨v3, e3, h_1⟩ := lgI_some h
      obtain ⟨rfl, h_2⟩ := st0_some h_1
      clear h h_1
      have h := h_2
      try rw [callW_eq] at h
      exact WW.le (a := [some (.inr (.inr (16, 0))), some (.inr (.inr (108, i1))), some (.inl a2), some (.inl v3), none, none, none]) (by rw [hn]; rfl) (show _ = _ ∧ _ = _ ∧ _ = _ ∧ _ = _ ∧ True from ⟨e0, e1, e2, e3, trivial⟩) (h2 v3 w h)
    rw [if_neg hj] at h
    cases h
  · exact (show _ = _ ∧ _ = _ ∧ _ = _ ∧ True from ⟨rfl, rfl, rfl, trivial⟩)
set_option maxRecDepth 100000 in
set_option maxHeartbeats 4000000 in
theorem sX12_layWays_7_k108 {N : Nat} {X : XT} (G : GX X cX12_layWays RX12) (hn : xnL X = 7) (hC : CRs X tX12_layWays (oF [(mX12_isOf N)]) (oF []) (oF [])) {r : Wd} (hr : RTV X cX12_layWays r) (i1 : Nat) (a2 : Int32) : ∀ (n : Nat) (k46 : Int32 → Wd → Option (Wd)) (v3 : Int32) (v4 : Int32) (w : Wd), fX12_layWays_7 N 108 i1 a2 n k46 v3 v4 w = some r → (∀ (v3 : Int32) (w : Wd), k46 v3 w = some r → WW X (pcAt tX12_layWays 46) [some (.inr (.inr (16, 0))), some (.inr (.inr (108, i1))), some (.inl a2), some (.inl v3), none, none, none] [] w) → WW X (pcAt tX12_layWays 7) [some (.inr (.inr (16, 0))), some (.inr (.inr (108, i1))), some (.inl a2), some (.inl v3), some (.inl v4), none, none] [] w := by
  intro n
  induction n with
  | zero => intro k46 v3 v4 w h h46; cases h
  | succ n ih =>
    intro k46 v3 v4 w h h46
    refine run_sound (r := r) (X := X) (cc := cX12_layWays) (own := RX12) (tab := tX12_layWays) G (by rw [hn]; exact kX12_layWays) (oI := (oF [(mX12_isOf N)])) (oL := (oF [])) (oV := (oF [])) (rI := (fun _ _ => none)) (rL := (fun _ _ => none)) (rV := (fun w => some w))
      (K := (fun j ls st w => if j = 7 then (lgI ls 3 fun v3 => lgI ls 4 fun v4 => st0 st (callW (fX12_layWays_7 N 108 i1 a2 n k46 v3 v4) w)) else if j = 46 then (lgI ls 3 fun v3 => st0 st (k46 v3 w)) else none)) (fun _ _ _ _ hx => by cases hx) (fun _ _ _ _ hx => by cases hx) (fun w pc ls hx hd => hr w pc ls (Option.some.inj hx) hd) hC (fun ls => lsb [some (.inr (.inr (16, 0))), some (.inr (.inr (108, i1))), some (.inl a2), none, none, none, none] 0 ls) (keepsP_of rfl) ?_ 113 7 [some (.inr (.inr (16, 0))), some (.inr (.inr (108, i1))), some (.inl a2), some (.inl v3), some (.inl v4), none, none] [] w ?_ h
    · intro j ls st w hfx h
      obtain ⟨e0, e1, e2, -⟩ : _ = _ ∧ _ = _ ∧ _ = _ ∧ True := hfx
      try dsimp only at h
      by_cases hj : j = 7
      · subst hj
        rw [if_pos rfl] at h
        obtain ⟨v3, e3, h_1⟩ := lgI_some h
        obtain ⟨v4, e4, h_2⟩ := lgI_some h_1
        obtain ⟨rfl, h_3⟩ := st0_some h_2
        clear h h_1 h_2
        have h := h_3
        try rw [callW_eq] at h
        exact WW.le (a := [some (.inr (.inr (16, 0))), some (.inr (.inr (108, i1))), some (.inl a2), some (.inl v3), some (.inl v4), none, none]) (by rw [hn]; rfl) (show _ = _ ∧ _ = _ ∧ _ = _ ∧ _ = _ ∧ _ = _ ∧ True from ⟨e0, e1, e2, e3, e4, trivial⟩) (ih k46 v3 v4 w h h46)
      rw [if_neg hj] at h
      by_cases hj : j = 46
      · subst hj
        rw [if_pos rfl] at h
        obtain ⟨v3, e3, h_1⟩ := lgI_some h
        obtain ⟨rfl, h_2⟩ := st0_some h_1
        clear h h_1
        have h := h_2
        try rw [callW_eq] at h
        exact WW.le (a := [some (.inr (.inr (16, 0))), some (.inr (.inr (108, i1))), some (.inl a2), some (.inl v3), none, none, none]) (by rw [hn]; rfl) (show _ = _ ∧ _ = _ ∧ _ = _ ∧ _ = _ ∧ True from ⟨e0, e1, e2, e3, trivial⟩) (h46 v3 w h)
      rw [if_neg hj] at h
      cases h
    · exact (show _ = _ ∧ _ = _ ∧ _ = _ ∧ True from ⟨rfl, rfl, rfl, trivial⟩)
set_option maxRecDepth 100000 in
set_option maxHeartbeats 4000000 in
theorem sX12_layWays_2_k108 {N : Nat} {X : XT} (G : GX X cX12_layWays RX12) (hn : xnL X = 7) (hC : CRs X tX12_layWays (oF [(mX12_isOf N)]) (oF []) (oF [])) {r : Wd} (hr : RTV X cX12_layWays r) (i1 : Nat) (a2 : Int32) : ∀ (n : Nat) (k48 : Wd → Option (Wd)) (v3 : Int32) (w : Wd), fX12_layWays_2 N 108 i1 a2 n k48 v3 w = some r → (∀ (w : Wd), k48 w = some r → WW X (pcAt tX12_layWays 48) [some (.inr (.inr (16, 0))), some (.inr (.inr (108, i1))), some (.inl a2), none, none, none, none] [] w) → WW X (pcAt tX12_layWays 2) [some (.inr (.inr (16, 0))), some (.inr (.inr (108, i1))), some (.inl a2), some (.inl v3), none, none, none] [] w := by
  intro n
  induction n with
  | zero => intro k48 v3 w h h48; cases h
  | succ n ih =>
    intro k48 v3 w h h48
    refine run_sound (r := r) (X := X) (cc := cX12_layWays) (own := RX12) (tab := tX12_layWays) G (by rw [hn]; exact kX12_layWays) (oI := (oF [(mX12_isOf N)])) (oL := (oF [])) (oV := (oF [])) (rI := (fun _ _ => none)) (rL := (fun _ _ => none)) (rV := (fun w => some w))
      (K := (fun j ls st w => if j = 7 then (lgI ls 3 fun v3 => lgI ls 4 fun v4 => st0 st (callW (fX12_layWays_7 N 108 i1 a2 N (fX12_layWays_46 N 108 i1 a2 (fX12_layWays_2 N 108 i1 a2 n k48)) v3 v4) w)) else if j = 48 then (st0 st (k48 w)) else none)) (fun _ _ _ _ hx => by cases hx) (fun _ _ _ _ hx => by cases hx) (fun w pc ls hx hd => hr w pc ls (Option.some.inj hx) hd) hC (fun ls => lsb [some (.inr (.inr (16, 0))), some (.inr (.inr (108, i1))), some (.inl a2), none, none, none, none] 0 ls) (keepsP_of rfl) ?_ 113 2 [some (.inr (.inr (16, 0))), some (.inr (.inr (108, i1))), some (.inl a2), some (.inl v3), none, none, none] [] w ?_ h
    · intro j ls st w hfx h
      obtain ⟨e0, e1, e2, -⟩ : _ = _ ∧ _ = _ ∧ _ = _ ∧ True := hfx
      try dsimp only at h
      by_cases hj : j = 7
      · subst hj
        rw [if_pos rfl] at h
        obtain ⟨v3, e3, h_1⟩ := lgI_some h
        obtain ⟨v4, e4, h_2⟩ := lgI_some h_1
        obtain ⟨rfl, h_3⟩ := st0_some h_2
        clear h h_1 h_2
        have h := h_3
        try rw [callW_eq] at h
        exact WW.le (a := [some (.inr (.inr (16, 0))), some (.inr (.inr (108, i1))), some (.inl a2), some (.inl v3), some (.inl v4), none, none]) (by rw [hn]; rfl) (show _ = _ ∧ _ = _ ∧ _ = _ ∧ _ = _ ∧ _ = _ ∧ True from ⟨e0, e1, e2, e3, e4, trivial⟩) (sX12_layWays_7_k108 G hn hC hr i1 a2 N (fX12_layWays_46 N 108 i1 a2 (fX12_layWays_2 N 108 i1 a2 n k48)) v3 v4 w h (fun v3 w h => (sX12_layWays_46_k108 G hn hC hr i1 a2 (fX12_layWays_2 N 108 i1 a2 n k48) v3 w h (fun v3 w h => (ih k48 v3 w h h48)))))
      rw [if_neg hj] at h
      by_cases hj : j = 48
      · subst hj
        rw [if_pos rfl] at h
        obtain ⟨rfl, h_1⟩ := st0_some h
        clear h
        have h := h_1
        try rw [callW_eq] at h
        exact WW.le (a := [some (.inr (.inr (16, 0))), some (.inr (.inr (108, i1))), some (.inl a2), none, none, none, none]) (by rw [hn]; rfl) (show _ = _ ∧ _ = _ ∧ _ = _ ∧ True from ⟨e0, e1, e2, trivial⟩) (h48 w h)
      rw [if_neg hj] at h
      cases h
    · exact (show _ = _ ∧ _ = _ ∧ _ = _ ∧ True from ⟨rfl, rfl, rfl, trivial⟩)
set_option maxRecDepth 100000 in
set_option maxHeartbeats 4000000 in
theorem crX12_layWays {N : Nat} {X : XT} (G : GX X cX12_layWays RX12) (hR : xR X = rmL 2) : CRs X tX12_layWays (oF [(mX12_isOf N)]) (oF []) (oF []) := by
  have hl : tX12_layWays.filter isInv = [(68, .invokestatic 341, 0, 0, 2, 0, 0, [])] := rfl
  intro e he
  rw [hl] at he
  simp only [List.mem_cons, List.not_mem_nil, or_false] at he
  rcases he with rfl
  · exact crI_S (idx := 341) G (by decide +kernel) (MX12_isOf N) (cw_of (ps := [1579, 1580, 162, 1581]) (by decide +kernel) (by decide +kernel)) ⟨by decide +kernel, by decide +kernel, by decide +kernel⟩ (by unfold rmOk; rw [hR]; exact ⟨by decide, by decide⟩)
set_option maxRecDepth 100000 in
set_option maxHeartbeats 4000000 in
theorem MX12_layWays (N : Nat) : SndV yX12_layWays cX12_layWays 7 none 2 3 true (mX12_layWays N) := by
  refine SndV.of tX12_layWays (by decide +kernel) rfl rfl ?_ ?_
  · intro as w x h
    obtain ⟨t1, rfl, h_1⟩ := xS1_some h
    obtain ⟨k1, i1, t2, rfl, hk, h_2⟩ := xA1_some h_1
    obtain ⟨a2, t3, rfl, h_3⟩ := xI1_some h_2
    obtain ⟨rfl, h_4⟩ := xN1_some h_3
    clear h h_1 h_2 h_3
    have h := h_4
    rw [callW_eq] at h
    exact ⟨fun _ => ⟨_, _, _, rfl, rfl, _, rfl, rfl⟩, rfl, Nat.le_of_ble_eq_true rfl⟩
  · intro X G hn hR as w r h hr
    have hC := crX12_layWays (N := N) G hR
    obtain ⟨t1, rfl, h_1⟩ := xS1_some h
    obtain ⟨k1, i1, t2, rfl, hk, h_2⟩ := xA1_some h_1
    obtain ⟨a2, t3, rfl, h_3⟩ := xI1_some h_2
    obtain ⟨rfl, h_4⟩ := xN1_some h_3
    clear h h_1 h_2 h_3
    have h := h_4
    rw [callW_eq] at h
    have hk : k1 = 107 ∨ k1 = 108 := by simpa using hk
    rcases hk with rfl | rfl
    · refine run_sound (r := r) (X := X) (cc := cX12_layWays) (own := RX12) (tab := tX12_layWays) G (by rw [hn]; exact kX12_layWays) (oI := (oF [(mX12_isOf N)])) (oL := (oF [])) (oV := (oF [])) (rI := (fun _ _ => none)) (rL := (fun _ _ => none)) (rV := (fun w => some w))
        (K := (fun j ls st w => if j = 2 then (lgI ls 3 fun v3 => st0 st (callW (fX12_layWays_2 N 107 i1 a2 N (fX12_layWays_48 N 107 i1) v3) w)) else none)) (fun _ _ _ _ hx => by cases hx) (fun _ _ _ _ hx => by cases hx) (fun w pc ls hx hd => hr w pc ls (Option.some.inj hx) hd) hC (fun ls => lsb [some (.inr (.inr (16, 0))), some (.inr (.inr (107, i1))), some (.inl a2), none, none, none, none] 0 ls) (keepsP_of rfl) ?_ 113 0 [some (.inr (.inr (16, 0))), some (.inr (.inr (107, i1))), some (.inl a2), none, none, none, none] [] w ?_ h
      · intro j ls st w hfx h
        obtain ⟨e0, e1, e2, -⟩ : _ = _ ∧ _ = _ ∧ _ = _ ∧ True := hfx
        try dsimp only at h
        by_cases hj : j = 2
        · subst hj
          rw [if_pos rfl] at h
          obtain ⟨v3, e3, h_1⟩ := lgI_some h
          obtain ⟨rfl, h_2⟩ := st0_some h_1
          clear h h_1
          have h := h_2
          try rw [callW_eq] at h
          exact WW.le (a := [some (.inr (.inr (16, 0))), some (.inr (.inr (107, i1))), some (.inl a2), some (.inl v3), none, none, none]) (by rw [hn]; rfl) (show _ = _ ∧ _ = _ ∧ _ = _ ∧ _ = _ ∧ True from ⟨e0, e1, e2, e3, trivial⟩) (sX12_layWays_2_k107 G hn hC hr i1 a2 N (fX12_layWays_48 N 107 i1) v3 w h (fun w h => (sX12_layWays_48_k107 G hn hC hr i1 a2 w h)))
        rw [if_neg hj] at h
        cases h
      · exact (show _ = _ ∧ _ = _ ∧ _ = _ ∧ True from ⟨rfl, rfl, rfl, trivial⟩)
    · refine run_sound (r := r) (X := X) (cc := cX12_layWays) (own := RX12) (tab := tX12_layWays) G (by rw [hn]; exact kX12_layWays) (oI := (oF [(mX12_isOf N)])) (oL := (oF [])) (oV := (oF [])) (rI := (fun _ _ => none)) (rL := (fun _ _ => none)) (rV := (fun w => some w))
        (K := (fun j ls st w => if j = 2 then (lgI ls 3 fun v3 => st0 st (callW (fX12_layWays_2 N 108 i1 a2 N (fX12_layWays_48 N 108 i1) v3) w)) else none)) (fun _ _ _ _ hx => by cases hx) (fun _ _ _ _ hx => by cases hx) (fun w pc ls hx hd => hr w pc ls (Option.some.inj hx) hd) hC (fun ls => lsb [some (.inr (.inr (16, 0))), some (.inr (.inr (108, i1))), some (.inl a2), none, none, none, none] 0 ls) (keepsP_of rfl) ?_ 113 0 [some (.inr (.inr (16, 0))), some (.inr (.inr (108, i1))), some (.inl a2), none, none, none, none] [] w ?_ h
      · intro j ls st w hfx h
        obtain ⟨e0, e1, e2, -⟩ : _ = _ ∧ _ = _ ∧ _ = _ ∧ True := hfx
        try dsimp only at h
        by_cases hj : j = 2
        · subst hj
          rw [if_pos rfl] at h
          obtain ⟨v3, e3, h_1⟩ := lgI_some h
          obtain ⟨rfl, h_2⟩ := st0_some h_1
          clear h h_1
          have h := h_2
          try rw [callW_eq] at h
          exact WW.le (a := [some (.inr (.inr (16, 0))), some (.inr (.inr (108, i1))), some (.inl a2), some (.inl v3), none, none, none]) (by rw [hn]; rfl) (show _ = _ ∧ _ = _ ∧ _ = _ ∧ _ = _ ∧ True from ⟨e0, e1, e2, e3, trivial⟩) (sX12_layWays_2_k108 G hn hC hr i1 a2 N (fX12_layWays_48 N 108 i1) v3 w h (fun w h => (sX12_layWays_48_k108 G hn hC hr i1 a2 w h)))
        rw [if_neg hj] at h
        cases h
      · exact (show _ = _ ∧ _ = _ ∧ _ = _ ∧ True from ⟨rfl, rfl, rfl, trivial⟩)
-- MoorGuidesModel.laySteps()V
def tX12_laySteps : List EN := [
  (0, .aload_n 0, 0, 0, 0, 0, 0, []), (1, .aload_n 0, 0, 0, 0, 0, 0, []), (2, .getfield 118, 0, 12, 72, 0, 0, []), (5, .iconst (-1), 0, 0, 0, (-1), 0, []),
  (6, .invokevirtual 482, 0, 0, 3, 0, 0, [(0, 0), (0, 0)]), (9, .return_, 0, 0, 0, 0, 0, [])]
noncomputable def pX12_laySteps (N : Nat) (w : Wd) : Option (Wd) :=
  (callW (pX12_layWays N 107 0 (-1 : Int32)) w).bind fun w1 =>
  some w1
noncomputable def mX12_laySteps (N : Nat) (as : List AV) (w : Wd) : Option (Wd) := xS1 16 as fun t => xN1 t (callW (pX12_laySteps N) w)
set_option maxRecDepth 100000 in
set_option maxHeartbeats 4000000 in
theorem kX12_laySteps : TK cX12_laySteps RX12 1 tX12_laySteps := ⟨by decide +kernel, wok_of [1662] (by decide +kernel) (by decide +kernel)⟩
set_option maxRecDepth 100000 in
set_option maxHeartbeats 4000000 in
theorem crX12_laySteps {N : Nat} {X : XT} (G : GX X cX12_laySteps RX12) (hR : xR X = rmL 3) : CRs X tX12_laySteps (oF []) (oF []) (oF [(mX12_layWays N)]) := by
  have hl : tX12_laySteps.filter isInv = [(6, .invokevirtual 482, 0, 0, 3, 0, 0, [(0, 0), (0, 0)])] := rfl
  intro e he
  rw [hl] at he
  simp only [List.mem_cons, List.not_mem_nil, or_false] at he
  rcases he with rfl
  · exact crV_V (idx := 482) G (by decide +kernel) (MX12_layWays N) (cw_of (ps := [1586, 1588, 73, 162, 1589]) (by decide +kernel) (by decide +kernel)) ⟨by decide +kernel, by decide +kernel, by decide +kernel⟩ (by unfold rmOk; rw [hR]; exact ⟨by decide, by decide⟩)
set_option maxRecDepth 100000 in
set_option maxHeartbeats 4000000 in
theorem MX12_laySteps (N : Nat) : SndV yX12_laySteps cX12_laySteps 1 none 3 1 true (mX12_laySteps N) := by
  refine SndV.of tX12_laySteps (by decide +kernel) rfl rfl ?_ ?_
  · intro as w x h
    obtain ⟨t1, rfl, h_1⟩ := xS1_some h
    obtain ⟨rfl, h_2⟩ := xN1_some h_1
    clear h h_1
    have h := h_2
    rw [callW_eq] at h
    exact ⟨fun _ => ⟨_, _, _, rfl, rfl, _, rfl, rfl⟩, rfl, Nat.le_of_ble_eq_true rfl⟩
  · intro X G hn hR as w r h hr
    have hC := crX12_laySteps (N := N) G hR
    obtain ⟨t1, rfl, h_1⟩ := xS1_some h
    obtain ⟨rfl, h_2⟩ := xN1_some h_1
    clear h h_1
    have h := h_2
    rw [callW_eq] at h
    refine run_sound (r := r) (X := X) (cc := cX12_laySteps) (own := RX12) (tab := tX12_laySteps) G (by rw [hn]; exact kX12_laySteps) (oI := (oF [])) (oL := (oF [])) (oV := (oF [(mX12_layWays N)])) (rI := (fun _ _ => none)) (rL := (fun _ _ => none)) (rV := (fun w => some w))
      (K := (fun j ls st w => none)) (fun _ _ _ _ hx => by cases hx) (fun _ _ _ _ hx => by cases hx) (fun w pc ls hx hd => hr w pc ls (Option.some.inj hx) hd) hC (fun ls => lsb [some (.inr (.inr (16, 0)))] 0 ls) (keepsP_of rfl) ?_ 8 0 [some (.inr (.inr (16, 0)))] [] w ?_ h
    · intro j ls st w hfx h
      obtain ⟨e0, -⟩ : _ = _ ∧ True := hfx
      try dsimp only at h
      cases h
    · exact (show _ = _ ∧ True from ⟨rfl, trivial⟩)
-- MoorGuidesModel.begin()V
def tX12_begin : List EN := [
  (0, .iconst 0, 0, 0, 0, 0, 0, []), (1, .istore_n 1, 0, 0, 0, 0, 0, []), (2, .iload_n 1, 3, 0, 0, 0, 0, []), (3, .aload_n 0, 0, 0, 0, 0, 0, []),
  (4, .getfield 298, 0, 12, 13, 0, 0, []), (7, .if_icmp .ge 87, 0, 59, 0, 0, 0, []), (10, .aload_n 0, 0, 0, 0, 0, 0, []), (11, .getfield 106, 0, 12, 68, 0, 0, []),
  (14, .iload_n 1, 0, 0, 0, 0, 0, []), (15, .iconst 0, 0, 0, 0, 0, 0, []), (16, .bastore, 0, 0, 0, 0, 0, []), (17, .aload_n 0, 0, 0, 0, 0, 0, []),
  (18, .getfield 109, 0, 12, 69, 0, 0, []), (21, .iload_n 1, 0, 0, 0, 0, 0, []), (22, .iconst 0, 0, 0, 0, 0, 0, []), (23, .iastore, 0, 0, 0, 0, 0, []),
  (24, .aload_n 0, 0, 0, 0, 0, 0, []), (25, .getfield 112, 0, 12, 70, 0, 0, []), (28, .iload_n 1, 0, 0, 0, 0, 0, []), (29, .iconst (-1), 0, 0, 0, (-1), 0, []),
  (30, .iastore, 0, 0, 0, 0, 0, []), (31, .iconst 0, 0, 0, 0, 0, 0, []), (32, .istore_n 2, 0, 0, 0, 0, 0, []), (33, .iload_n 2, 24, 0, 0, 0, 0, []),
  (34, .bipush 8, 0, 0, 0, 8, 0, []), (36, .if_icmp .ge 52, 0, 57, 0, 0, 0, []), (39, .aload_n 0, 0, 0, 0, 0, 0, []), (40, .getfield 32, 0, 12, 35, 0, 0, []),
  (43, .iload_n 1, 0, 0, 0, 0, 0, []), (44, .iaload, 0, 0, 0, 0, 0, []), (45, .iload_n 2, 0, 0, 0, 0, 0, []), (46, .invokestatic 341, 0, 0, 2, 0, 0, []),
  (49, .istore_n 3, 0, 0, 0, 0, 0, []), (50, .aload_n 0, 0, 0, 0, 0, 0, []), (51, .getfield 100, 0, 12, 66, 0, 0, []), (54, .bipush 8, 0, 0, 0, 8, 0, []),
  (56, .iload_n 1, 0, 0, 0, 0, 0, []), (57, .imul, 0, 0, 0, 0, 0, []), (58, .iload_n 2, 0, 0, 0, 0, 0, []), (59, .iadd, 0, 0, 0, 0, 0, []),
  (60, .iload_n 3, 0, 0, 0, 0, 0, []), (61, .ifCond .eq 7, 0, 44, 0, 0, 0, []), (64, .iconst 0, 0, 0, 0, 0, 0, []), (65, .goto 4, 0, 45, 0, 0, 0, []),
  (68, .iconst (-1), 0, 0, 0, (-1), 0, []), (69, .iastore, 46, 0, 0, 0, 0, []), (70, .aload_n 0, 0, 0, 0, 0, 0, []), (71, .getfield 103, 0, 12, 67, 0, 0, []),
  (74, .bipush 8, 0, 0, 0, 8, 0, []), (76, .iload_n 1, 0, 0, 0, 0, 0, []), (77, .imul, 0, 0, 0, 0, 0, []), (78, .iload_n 2, 0, 0, 0, 0, 0, []),
  (79, .iadd, 0, 0, 0, 0, 0, []), (80, .iload_n 3, 0, 0, 0, 0, 0, []), (81, .bastore, 0, 0, 0, 0, 0, []), (82, .iinc 2 1, 0, 0, 0, 1, 0, []),
  (85, .goto (-52), 0, 23, 0, 0, 0, []), (88, .iinc 1 1, 58, 0, 0, 1, 0, []), (91, .goto (-89), 0, 2, 0, 0, 0, []), (94, .aload_n 0, 60, 0, 0, 0, 0, []),
  (95, .iconst 0, 0, 0, 0, 0, 0, []), (96, .putfield 438, 0, 12, 64, 0, 0, []), (99, .aload_n 0, 0, 0, 0, 0, 0, []), (100, .aload_n 0, 0, 0, 0, 0, 0, []),
  (101, .getfield 307, 0, 12, 16, 0, 0, []), (104, .putfield 441, 0, 12, 65, 0, 0, []), (107, .aload_n 0, 0, 0, 0, 0, 0, []), (108, .getfield 115, 0, 12, 71, 0, 0, []),
  (111, .iconst 0, 0, 0, 0, 0, 0, []), (112, .aload_n 0, 0, 0, 0, 0, 0, []), (113, .getfield 313, 0, 12, 18, 0, 0, []), (116, .i2l, 0, 0, 0, 0, 0, []),
  (117, .lastore, 0, 0, 0, 0, 0, []), (118, .aload_n 0, 0, 0, 0, 0, 0, []), (119, .iconst 0, 0, 0, 0, 0, 0, []), (120, .putfield 444, 0, 12, 93, 0, 0, []),
  (123, .aload_n 0, 0, 0, 0, 0, 0, []), (124, .iconst 0, 0, 0, 0, 0, 0, []), (125, .putfield 447, 0, 12, 74, 0, 0, []), (128, .aload_n 0, 0, 0, 0, 0, 0, []),
  (129, .iconst 0, 0, 0, 0, 0, 0, []), (130, .putfield 450, 0, 12, 97, 0, 0, [(0, 0)]), (133, .aload_n 0, 0, 0, 0, 0, 0, []), (134, .invokevirtual 453, 0, 0, 1, 0, 0, [(0, 0), (0, 0)]),
  (137, .return_, 0, 0, 0, 0, 0, [])]
noncomputable def fX12_begin_59 (N : Nat) (w : Wd) : Option (Wd) :=
  (stL (setI (setI w 16 0 64 (0 : Int32)) 16 0 65 (gI (setI w 16 0 64 (0 : Int32)) 16 0 16)) 106 0 (0 : Int32) 2 (gI (setI (setI w 16 0 64 (0 : Int32)) 16 0 65 (gI (setI w 16 0 64 (0 : Int32)) 16 0 16)) 16 0 18).toInt64).bind fun w1 =>
  (callW (pX12_laySteps N) (setI (setI (setI w1 16 0 93 (0 : Int32)) 16 0 74 (0 : Int32)) 16 0 97 (0 : Int32))).bind fun w2 =>
  some w2
noncomputable def fX12_begin_57 (N : Nat) (k2 : Int32 → Wd → Option (Wd)) (v1 : Int32) (w : Wd) : Option (Wd) :=
  k2 (v1 + (1 : Int32)) w
noncomputable def fX12_begin_45 (N : Nat) (k23 : Int32 → Int32 → Wd → Option (Wd)) (v1 : Int32) (v2 : Int32) (v3 : Int32) (s0 : Int32) (s1 : Int32) (s2 : Nat) (w : Wd) : Option (Wd) :=
  (stI w 101 s2 s1 96 s0).bind fun w1 =>
  (stI w1 102 0 (((8 : Int32) * v1) + v2) 96 (v3 &&& 1)).bind fun w2 =>
  k23 v1 (v2 + (1 : Int32)) w2
noncomputable def fX12_begin_23 (N : Nat) : Nat → (Int32 → Wd → Option (Wd)) → Int32 → Int32 → Wd → Option (Wd)
  | 0, _, _, _, _ => none
  | n + 1, k57, v1, v2, w =>
    if v2 < (8 : Int32) then
      (ldI w 79 0 v1 12).bind fun x1 =>
      (callW (pX12_isOf N x1 v2) w).bind fun r2 =>
      if r2.1 = 0 then
        callW (fX12_begin_45 N (fX12_begin_23 N n k57) v1 v2 r2.1 (-1 : Int32) (((8 : Int32) * v1) + v2) 0) r2.2
      else
      callW (fX12_begin_45 N (fX12_begin_23 N n k57) v1 v2 r2.1 (0 : Int32) (((8 : Int32) * v1) + v2) 0) r2.2
    else
    k57 v1 w
noncomputable def fX12_begin_2 (N : Nat) : Nat → (Wd → Option (Wd)) → Int32 → Wd → Option (Wd)
  | 0, _, _, _ => none
  | n + 1, k59, v1, w =>
    if v1 < (gI w 16 0 13) then
      (stI w 103 0 v1 12 ((0 : Int32) &&& 1)).bind fun w1 =>
      (stI w1 104 0 v1 12 (0 : Int32)).bind fun w2 =>
      (stI w2 105 0 v1 12 (-1 : Int32)).bind fun w3 =>
      callW (fX12_begin_23 N N (fX12_begin_57 N (fX12_begin_2 N n k59)) v1 (0 : Int32)) w3
    else
    k59 w
noncomputable def pX12_begin (N : Nat) (w : Wd) : Option (Wd) :=
  callW (fX12_begin_2 N N (fX12_begin_59 N) (0 : Int32)) w
noncomputable def mX12_begin (N : Nat) (as : List AV) (w : Wd) : Option (Wd) := xS1 16 as fun t => xN1 t (callW (pX12_begin N) w)
set_option maxRecDepth 100000 in
set_option maxHeartbeats 4000000 in
theorem kX12_begin : TK cX12_begin RX12 4 tX12_begin := ⟨by decide +kernel, wok_of [1603, 1658, 1659, 1660, 1625, 1656, 1657, 1654, 1606, 1655, 1661, 1608, 1683, 1664, 1687] (by decide +kernel) (by decide +kernel)⟩
set_option maxRecDepth 100000 in
set_option maxHeartbeats 4000000 in
theorem sX12_begin_59 {N : Nat} {X : XT} (G : GX X cX12_begin RX12) (hn : xnL X = 4) (hC : CRs X tX12_begin (oF [(mX12_isOf N)]) (oF []) (oF [(mX12_laySteps N)])) {r : Wd} (hr : RTV X cX12_begin r)  : ∀ (w : Wd), fX12_begin_59 N w = some r → WW X (pcAt tX12_begin 59) [some (.inr (.inr (16, 0))), none, none, none] [] w := by
  intro w h
  refine run_sound (r := r) (X := X) (cc := cX12_begin) (own := RX12) (tab := tX12_begin) G (by rw [hn]; exact kX12_begin) (oI := (oF [(mX12_isOf N)])) (oL := (oF [])) (oV := (oF [(mX12_laySteps N)])) (rI := (fun _ _ => none)) (rL := (fun _ _ => none)) (rV := (fun w => some w))
    (K := (fun j ls st w => none)) (fun _ _ _ _ hx => by cases hx) (fun _ _ _ _ hx => by cases hx) (fun w pc ls hx hd => hr w pc ls (Option.some.inj hx) hd) hC (fun ls => lsb [some (.inr (.inr (16, 0))), none, none, none] 0 ls) (keepsP_of rfl) ?_ 87 59 [some (.inr (.inr (16, 0))), none, none, none] [] w ?_ h
  · intro j ls st w hfx h
    obtain ⟨e0, -⟩ : _ = _ ∧ True := hfx
    try dsimp only at h
    cases h
  · exact (show _ = _ ∧ True from ⟨rfl, trivial⟩)
set_option maxRecDepth 100000 in
set_option maxHeartbeats 4000000 in
theorem sX12_begin_57 {N : Nat} {X : XT} (G : GX X cX12_begin RX12) (hn : xnL X = 4) (hC : CRs X tX12_begin (oF [(mX12_isOf N)]) (oF []) (oF [(mX12_laySteps N)])) {r : Wd} (hr : RTV X cX12_begin r)  : ∀ (k2 : Int32 → Wd → Option (Wd)) (v1 : Int32) (w : Wd), fX12_begin_57 N k2 v1 w = some r → (∀ (v1 : Int32) (w : Wd), k2 v1 w = some r → WW X (pcAt tX12_begin 2) [some (.inr (.inr (16, 0))), some (.inl v1), none, none] [] w) → WW X (pcAt tX12_begin 57) [some (.inr (.inr (16, 0))), some (.inl v1), none, none] [] w := by
  intro k2 v1 w h h2
  refine run_sound (r := r) (X := X) (cc := cX12_begin) (own := RX12) (tab := tX12_begin) G (by rw [hn]; exact kX12_begin) (oI := (oF [(mX12_isOf N)])) (oL := (oF [])) (oV := (oF [(mX12_laySteps N)])) (rI := (fun _ _ => none)) (rL := (fun _ _ => none)) (rV := (fun w => some w))
    (K := (fun j ls st w => if j = 2 then (lgI ls 1 fun v1 => st0 st (k2 v1 w)) else none)) (fun _ _ _ _ hx => by cases hx) (fun _ _ _ _ hx => by cases hx) (fun w pc ls hx hd => hr w pc ls (Option.some.inj hx) hd) hC (fun ls => lsb [some (.inr (.inr (16, 0))), none, none, none] 0 ls) (keepsP_of rfl) ?_ 87 57 [some (.inr (.inr (16, 0))), some (.inl v1), none, none] [] w ?_ h
  · intro j ls st w hfx h
    obtain ⟨e0, -⟩ : _ = _ ∧ True := hfx
    try dsimp only at h
    by_cases hj : j = 2
    · subst hj
      rw [if_pos rfl] at h
      obtain ⟨v1, e1, h_1⟩ := lgI_some h
      obtain ⟨rfl, h_2⟩ := st0_some h_1
      clear h h_1
      have h := h_2
      try rw [callW_eq] at h
      exact WW.le (a := [some (.inr (.inr (16, 0))), some (.inl v1), none, none]) (by rw [hn]; rfl) (show _ = _ ∧ _ = _ ∧ True from ⟨e0, e1, trivial⟩) (h2 v1 w h)
    rw [if_neg hj] at h
    cases h
  · exact (show _ = _ ∧ True from ⟨rfl, trivial⟩)
set_option maxRecDepth 100000 in
set_option maxHeartbeats 4000000 in
theorem sX12_begin_45 {N : Nat} {X : XT} (G : GX X cX12_begin RX12) (hn : xnL X = 4) (hC : CRs X tX12_begin (oF [(mX12_isOf N)]) (oF []) (oF [(mX12_laySteps N)])) {r : Wd} (hr : RTV X cX12_begin r)  : ∀ (k23 : Int32 → Int32 → Wd → Option (Wd)) (v1 : Int32) (v2 : Int32) (v3 : Int32) (s0 : Int32) (s1 : Int32) (s2 : Nat) (w : Wd), fX12_begin_45 N k23 v1 v2 v3 s0 s1 s2 w = some r → (∀ (v1 : Int32) (v2 : Int32) (w : Wd), k23 v1 v2 w = some r → WW X (pcAt tX12_begin 23) [some (.inr (.inr (16, 0))), some (.inl v1), some (.inl v2), none] [] w) → WW X (pcAt tX12_begin 45) [some (.inr (.inr (16, 0))), some (.inl v1), some (.inl v2), some (.inl v3)] [.inl s0, .inl s1, .inr (.inr (101, s2))] w := by
  intro k23 v1 v2 v3 s0 s1 s2 w h h23
  refine run_sound (r := r) (X := X) (cc := cX12_begin) (own := RX12) (tab := tX12_begin) G (by rw [hn]; exact kX12_begin) (oI := (oF [(mX12_isOf N)])) (oL := (oF [])) (oV := (oF [(mX12_laySteps N)])) (rI := (fun _ _ => none)) (rL := (fun _ _ => none)) (rV := (fun w => some w))
    (K := (fun j ls st w => if j = 23 then (lgI ls 1 fun v1 => lgI ls 2 fun v2 => st0 st (k23 v1 v2 w)) else none)) (fun _ _ _ _ hx => by cases hx) (fun _ _ _ _ hx => by cases hx) (fun w pc ls hx hd => hr w pc ls (Option.some.inj hx) hd) hC (fun ls => lsb [some (.inr (.inr (16, 0))), none, none, none] 0 ls) (keepsP_of rfl) ?_ 87 45 [some (.inr (.inr (16, 0))), some (.inl v1), some (.inl v2), some (.inl v3)] [.inl s0, .inl s1, .inr (.inr (101, s2))] w ?_ h
  · intro j ls st w hfx h
    obtain ⟨e0, -⟩ : _ = _ ∧ True := hfx
    try dsimp only at h
    by_cases hj : j = 23
    · subst hj
      rw [if_pos rfl] at h
      obtain ⟨v1, e1, h_1⟩ := lgI_some h
      obtain ⟨v2, e2, h_2⟩ := lgI_some h_1
      obtain ⟨rfl, h_3⟩ := st0_some h_2
      clear h h_1 h_2
      have h := h_3
      try rw [callW_eq] at h
      exact WW.le (a := [some (.inr (.inr (16, 0))), some (.inl v1), some (.inl v2), none]) (by rw [hn]; rfl) (show _ = _ ∧ _ = _ ∧ _ = _ ∧ True from ⟨e0, e1, e2, trivial⟩) (h23 v1 v2 w h)
    rw [if_neg hj] at h
    cases h
  · exact (show _ = _ ∧ True from ⟨rfl, trivial⟩)
set_option maxRecDepth 100000 in
set_option maxHeartbeats 4000000 in
theorem sX12_begin_23 {N : Nat} {X : XT} (G : GX X cX12_begin RX12) (hn : xnL X = 4) (hC : CRs X tX12_begin (oF [(mX12_isOf N)]) (oF []) (oF [(mX12_laySteps N)])) {r : Wd} (hr : RTV X cX12_begin r)  : ∀ (n : Nat) (k57 : Int32 → Wd → Option (Wd)) (v1 : Int32) (v2 : Int32) (w : Wd), fX12_begin_23 N n k57 v1 v2 w = some r → (∀ (v1 : Int32) (w : Wd), k57 v1 w = some r → WW X (pcAt tX12_begin 57) [some (.inr (.inr (16, 0))), some (.inl v1), none, none] [] w) → WW X (pcAt tX12_begin 23) [some (.inr (.inr (16, 0))), some (.inl v1), some (.inl v2), none] [] w := by
  intro n
  induction n with
  | zero => intro k57 v1 v2 w h h57; cases h
  | succ n ih =>
    intro k57 v1 v2 w h h57
    refine run_sound (r := r) (X := X) (cc := cX12_begin) (own := RX12) (tab := tX12_begin) G (by rw [hn]; exact kX12_begin) (oI := (oF [(mX12_isOf N)])) (oL := (oF [])) (oV := (oF [(mX12_laySteps N)])) (rI := (fun _ _ => none)) (rL := (fun _ _ => none)) (rV := (fun w => some w))
      (K := (fun j ls st w => if j = 45 then (lgI ls 1 fun v1 => lgI ls 2 fun v2 => lgI ls 3 fun v3 => po1 st fun s0 st => po1 st fun s1 st => pr1 st fun kk s2 st => if kk = 101 then st0 st (callW (fX12_begin_45 N (fX12_begin_23 N n k57) v1 v2 v3 s0 s1 s2) w) else none) else if j = 57 then (lgI ls 1 fun v1 => st0 st (k57 v1 w)) else none)) (fun _ _ _ _ hx => by cases hx) (fun _ _ _ _ hx => by cases hx) (fun w pc ls hx hd => hr w pc ls (Option.some.inj hx) hd) hC (fun ls => lsb [some (.inr (.inr (16, 0))), none, none, none] 0 ls) (keepsP_of rfl) ?_ 87 23 [some (.inr (.inr (16, 0))), some (.inl v1), some (.inl v2), none] [] w ?_ h
    · intro j ls st w hfx h
      obtain ⟨e0, -⟩ : _ = _ ∧ True := hfx
      try dsimp only at h
      by_cases hj : j = 45
      · subst hj
        rw [if_pos rfl] at h
        obtain ⟨v1, e1, h_1⟩ := lgI_some h
        obtain ⟨v2, e2, h_2⟩ := lgI_some h_1
        obtain ⟨v3, e3, h_3⟩ := lgI_some h_2
        obtain ⟨s0, st0, rfl, h_4⟩ := po1_some h_3
        obtain ⟨s1, st1, rfl, h_5⟩ := po1_some h_4
        obtain ⟨kkk2, s2, st2, rfl, h_6⟩ := pr1_some h_5
        obtain ⟨rfl, h_7⟩ := if_some _ h_6
        obtain ⟨rfl, h_8⟩ := st0_some h_7
        clear h h_1 h_2 h_3 h_4 h_5 h_6 h_7
        have h := h_8
        try rw [callW_eq] at h
        exact WW.le (a := [some (.inr (.inr (16, 0))), some (.inl v1), some (.inl v2), some (.inl v3)]) (by rw [hn]; rfl) (show _ = _ ∧ _ = _ ∧ _ = _ ∧ _ = _ ∧ True from ⟨e0, e1, e2, e3, trivial⟩) (sX12_begin_45 G hn hC hr (fX12_begin_23 N n k57) v1 v2 v3 s0 s1 s2 w h (fun v1 v2 w h => (ih k57 v1 v2 w h h57)))
      rw [if_neg hj] at h
      by_cases hj : j = 57
      · subst hj
        rw [if_pos rfl] at h
        obtain ⟨v1, e1, h_1⟩ := lgI_some h
        obtain ⟨rfl, h_2⟩ := st0_some h_1
        clear h h_1
        have h := h_2
        try rw [callW_eq] at h
        exact WW.le (a := [some (.inr (.inr (16, 0))), some (.inl v1), none, none]) (by rw [hn]; rfl) (show _ = _ ∧ _ = _ ∧ True from ⟨e0, e1, trivial⟩) (h57 v1 w h)
      rw [if_neg hj] at h
      cases h
    · exact (show _ = _ ∧ True from ⟨rfl, trivial⟩)
set_option maxRecDepth 100000 in
set_option maxHeartbeats 4000000 in
theorem sX12_begin_2 {N : Nat} {X : XT} (G : GX X cX12_begin RX12) (hn : xnL X = 4) (hC : CRs X tX12_begin (oF [(mX12_isOf N)]) (oF []) (oF [(mX12_laySteps N)])) {r : Wd} (hr : RTV X cX12_begin r)  : ∀ (n : Nat) (k59 : Wd → Option (Wd)) (v1 : Int32) (w : Wd), fX12_begin_2 N n k59 v1 w = some r → (∀ (w : Wd), k59 w = some r → WW X (pcAt tX12_begin 59) [some (.inr (.inr (16, 0))), none, none, none] [] w) → WW X (pcAt tX12_begin 2) [some (.inr (.inr (16, 0))), some (.inl v1), none, none] [] w := by
  intro n
  induction n with
  | zero => intro k59 v1 w h h59; cases h
  | succ n ih =>
    intro k59 v1 w h h59
    refine run_sound (r := r) (X := X) (cc := cX12_begin) (own := RX12) (tab := tX12_begin) G (by rw [hn]; exact kX12_begin) (oI := (oF [(mX12_isOf N)])) (oL := (oF [])) (oV := (oF [(mX12_laySteps N)])) (rI := (fun _ _ => none)) (rL := (fun _ _ => none)) (rV := (fun w => some w))
      (K := (fun j ls st w => if j = 23 then (lgI ls 1 fun v1 => lgI ls 2 fun v2 => st0 st (callW (fX12_begin_23 N N (fX12_begin_57 N (fX12_begin_2 N n k59)) v1 v2) w)) else if j = 59 then (st0 st (k59 w)) else none)) (fun _ _ _ _ hx => by cases hx) (fun _ _ _ _ hx => by cases hx) (fun w pc ls hx hd => hr w pc ls (Option.some.inj hx) hd) hC (fun ls => lsb [some (.inr (.inr (16, 0))), none, none, none] 0 ls) (keepsP_of rfl) ?_ 87 2 [some (.inr (.inr (16, 0))), some (.inl v1), none, none] [] w ?_ h
    · intro j ls st w hfx h
      obtain ⟨e0, -⟩ : _ = _ ∧ True := hfx
      try dsimp only at h
      by_cases hj : j = 23
      · subst hj
        rw [if_pos rfl] at h
        obtain ⟨v1, e1, h_1⟩ := lgI_some h
        obtain ⟨v2, e2, h_2⟩ := lgI_some h_1
        obtain ⟨rfl, h_3⟩ := st0_some h_2
        clear h h_1 h_2
        have h := h_3
        try rw [callW_eq] at h
        exact WW.le (a := [some (.inr (.inr (16, 0))), some (.inl v1), some (.inl v2), none]) (by rw [hn]; rfl) (show _ = _ ∧ _ = _ ∧ _ = _ ∧ True from ⟨e0, e1, e2, trivial⟩) (sX12_begin_23 G hn hC hr N (fX12_begin_57 N (fX12_begin_2 N n k59)) v1 v2 w h (fun v1 w h => (sX12_begin_57 G hn hC hr (fX12_begin_2 N n k59) v1 w h (fun v1 w h => (ih k59 v1 w h h59)))))
      rw [if_neg hj] at h
      by_cases hj : j = 59
      · subst hj
        rw [if_pos rfl] at h
        obtain ⟨rfl, h_1⟩ := st0_some h
        clear h
        have h := h_1
        try rw [callW_eq] at h
        exact WW.le (a := [some (.inr (.inr (16, 0))), none, none, none]) (by rw [hn]; rfl) (show _ = _ ∧ True from ⟨e0, trivial⟩) (h59 w h)
      rw [if_neg hj] at h
      cases h
    · exact (show _ = _ ∧ True from ⟨rfl, trivial⟩)
set_option maxRecDepth 100000 in
set_option maxHeartbeats 4000000 in
theorem crX12_begin {N : Nat} {X : XT} (G : GX X cX12_begin RX12) (hR : xR X = rmL 4) : CRs X tX12_begin (oF [(mX12_isOf N)]) (oF []) (oF [(mX12_laySteps N)]) := by
  have hl : tX12_begin.filter isInv = [(46, .invokestatic 341, 0, 0, 2, 0, 0, []), (134, .invokevirtual 453, 0, 0, 1, 0, 0, [(0, 0), (0, 0)])] := rfl
  intro e he
  rw [hl] at he
  simp only [List.mem_cons, List.not_mem_nil, or_false] at he
  rcases he with rfl | rfl
  · exact crI_S (idx := 341) G (by decide +kernel) (MX12_isOf N) (cw_of (ps := [1579, 1580, 162, 1581]) (by decide +kernel) (by decide +kernel)) ⟨by decide +kernel, by decide +kernel, by decide +kernel⟩ (by unfold rmOk; rw [hR]; exact ⟨by decide, by decide⟩)
  · exact crV_V (idx := 453) G (by decide +kernel) (MX12_laySteps N) (cw_of (ps := [1582, 1584, 72, 162, 1585]) (by decide +kernel) (by decide +kernel)) ⟨by decide +kernel, by decide +kernel, by decide +kernel⟩ (by unfold rmOk; rw [hR]; exact ⟨by decide, by decide⟩)
set_option maxRecDepth 100000 in
set_option maxHeartbeats 4000000 in
theorem MX12_begin (N : Nat) : SndV yX12_begin cX12_begin 4 none 4 1 true (mX12_begin N) := by
  refine SndV.of tX12_begin (by decide +kernel) rfl rfl ?_ ?_
  · intro as w x h
    obtain ⟨t1, rfl, h_1⟩ := xS1_some h
    obtain ⟨rfl, h_2⟩ := xN1_some h_1
    clear h h_1
    have h := h_2
    rw [callW_eq] at h
    exact ⟨fun _ => ⟨_, _, _, rfl, rfl, _, rfl, rfl⟩, rfl, Nat.le_of_ble_eq_true rfl⟩
  · intro X G hn hR as w r h hr
    have hC := crX12_begin (N := N) G hR
    obtain ⟨t1, rfl, h_1⟩ := xS1_some h
    obtain ⟨rfl, h_2⟩ := xN1_some h_1
    clear h h_1
    have h := h_2
    rw [callW_eq] at h
    refine run_sound (r := r) (X := X) (cc := cX12_begin) (own := RX12) (tab := tX12_begin) G (by rw [hn]; exact kX12_begin) (oI := (oF [(mX12_isOf N)])) (oL := (oF [])) (oV := (oF [(mX12_laySteps N)])) (rI := (fun _ _ => none)) (rL := (fun _ _ => none)) (rV := (fun w => some w))
      (K := (fun j ls st w => if j = 2 then (lgI ls 1 fun v1 => st0 st (callW (fX12_begin_2 N N (fX12_begin_59 N) v1) w)) else none)) (fun _ _ _ _ hx => by cases hx) (fun _ _ _ _ hx => by cases hx) (fun w pc ls hx hd => hr w pc ls (Option.some.inj hx) hd) hC (fun ls => lsb [some (.inr (.inr (16, 0))), none, none, none] 0 ls) (keepsP_of rfl) ?_ 87 0 [some (.inr (.inr (16, 0))), none, none, none] [] w ?_ h
    · intro j ls st w hfx h
      obtain ⟨e0, -⟩ : _ = _ ∧ True := hfx
      try dsimp only at h
      by_cases hj : j = 2
      · subst hj
        rw [if_pos rfl] at h
        obtain ⟨v1, e1, h_1⟩ := lgI_some h
        obtain ⟨rfl, h_2⟩ := st0_some h_1
        clear h h_1
        have h := h_2
        try rw [callW_eq] at h
        exact WW.le (a := [some (.inr (.inr (16, 0))), some (.inl v1), none, none]) (by rw [hn]; rfl) (show _ = _ ∧ _ = _ ∧ True from ⟨e0, e1, trivial⟩) (sX12_begin_2 G hn hC hr N (fX12_begin_59 N) v1 w h (fun w h => (sX12_begin_59 G hn hC hr w h)))
      rw [if_neg hj] at h
      cases h
    · exact (show _ = _ ∧ True from ⟨rfl, trivial⟩)
-- MoorGuidesModel.keepText()V
def tX12_keepText : List EN := [
  (0, .aload_n 0, 0, 0, 0, 0, 0, []), (1, .aload_n 0, 0, 0, 0, 0, 0, []), (2, .getfield 258, 0, 12, 20, 0, 0, []), (5, .putfield 295, 0, 12, 12, 0, 0, []),
  (8, .aload_n 0, 0, 0, 0, 0, 0, []), (9, .aload_n 0, 0, 0, 0, 0, 0, []), (10, .getfield 261, 0, 12, 21, 0, 0, []), (13, .putfield 298, 0, 12, 13, 0, 0, []),
  (16, .aload_n 0, 0, 0, 0, 0, 0, []), (17, .aload_n 0, 0, 0, 0, 0, 0, []), (18, .getfield 264, 0, 12, 22, 0, 0, []), (21, .putfield 301, 0, 12, 14, 0, 0, []),
  (24, .aload_n 0, 0, 0, 0, 0, 0, []), (25, .aload_n 0, 0, 0, 0, 0, 0, []), (26, .getfield 267, 0, 12, 23, 0, 0, []), (29, .putfield 304, 0, 12, 15, 0, 0, []),
  (32, .aload_n 0, 0, 0, 0, 0, 0, []), (33, .aload_n 0, 0, 0, 0, 0, 0, []), (34, .getfield 270, 0, 12, 24, 0, 0, []), (37, .putfield 307, 0, 12, 16, 0, 0, []),
  (40, .aload_n 0, 0, 0, 0, 0, 0, []), (41, .aload_n 0, 0, 0, 0, 0, 0, []), (42, .getfield 273, 0, 12, 25, 0, 0, []), (45, .putfield 310, 0, 12, 17, 0, 0, []),
  (48, .aload_n 0, 0, 0, 0, 0, 0, []), (49, .aload_n 0, 0, 0, 0, 0, 0, []), (50, .getfield 276, 0, 12, 26, 0, 0, []), (53, .putfield 313, 0, 12, 18, 0, 0, []),
  (56, .aload_n 0, 0, 0, 0, 0, 0, []), (57, .aload_n 0, 0, 0, 0, 0, 0, []), (58, .getfield 279, 0, 12, 27, 0, 0, []), (61, .putfield 316, 0, 12, 19, 0, 0, []),
  (64, .aload_n 0, 0, 0, 0, 0, 0, []), (65, .getfield 20, 0, 12, 31, 0, 0, []), (68, .bipush 8, 0, 0, 0, 8, 0, []), (70, .invokestatic 319, 0, 0, 2, 0, 0, [(0, 0), (0, 0)]),
  (73, .aload_n 0, 0, 0, 0, 0, 0, []), (74, .getfield 23, 0, 12, 32, 0, 0, []), (77, .bipush 8, 0, 0, 0, 8, 0, []), (79, .invokestatic 319, 0, 0, 2, 0, 0, [(0, 0), (0, 0)]),
  (82, .aload_n 0, 0, 0, 0, 0, 0, []), (83, .getfield 26, 0, 12, 33, 0, 0, []), (86, .bipush 8, 0, 0, 0, 8, 0, []), (88, .invokestatic 319, 0, 0, 2, 0, 0, [(0, 0), (0, 0)]),
  (91, .aload_n 0, 0, 0, 0, 0, 0, []), (92, .getfield 29, 0, 12, 34, 0, 0, []), (95, .bipush 6, 0, 0, 0, 6, 0, []), (97, .invokestatic 319, 0, 0, 2, 0, 0, [(0, 0), (0, 0)]),
  (100, .aload_n 0, 0, 0, 0, 0, 0, []), (101, .getfield 32, 0, 12, 35, 0, 0, []), (104, .bipush 6, 0, 0, 0, 6, 0, []), (106, .invokestatic 319, 0, 0, 2, 0, 0, [(0, 0), (0, 0)]),
  (109, .aload_n 0, 0, 0, 0, 0, 0, []), (110, .getfield 35, 0, 12, 36, 0, 0, []), (113, .bipush 6, 0, 0, 0, 6, 0, []), (115, .invokestatic 319, 0, 0, 2, 0, 0, [(0, 0), (0, 0)]),
  (118, .aload_n 0, 0, 0, 0, 0, 0, []), (119, .getfield 38, 0, 12, 37, 0, 0, []), (122, .bipush 6, 0, 0, 0, 6, 0, []), (124, .invokestatic 319, 0, 0, 2, 0, 0, [(0, 0), (0, 0)]),
  (127, .aload_n 0, 0, 0, 0, 0, 0, []), (128, .getfield 41, 0, 12, 38, 0, 0, []), (131, .bipush 6, 0, 0, 0, 6, 0, []), (133, .invokestatic 319, 0, 0, 2, 0, 0, [(0, 0), (0, 0)]),
  (136, .aload_n 0, 0, 0, 0, 0, 0, []), (137, .getfield 44, 0, 12, 39, 0, 0, []), (140, .bipush 6, 0, 0, 0, 6, 0, []), (142, .invokestatic 319, 0, 0, 2, 0, 0, [(0, 0), (0, 0)]),
  (145, .aload_n 0, 0, 0, 0, 0, 0, []), (146, .getfield 47, 0, 12, 40, 0, 0, []), (149, .bipush 8, 0, 0, 0, 8, 0, []), (151, .invokestatic 319, 0, 0, 2, 0, 0, [(0, 0), (0, 0)]),
  (154, .aload_n 0, 0, 0, 0, 0, 0, []), (155, .getfield 50, 0, 12, 41, 0, 0, []), (158, .bipush 8, 0, 0, 0, 8, 0, []), (160, .invokestatic 319, 0, 0, 2, 0, 0, [(0, 0), (0, 0)]),
  (163, .aload_n 0, 0, 0, 0, 0, 0, []), (164, .getfield 53, 0, 12, 42, 0, 0, []), (167, .bipush 8, 0, 0, 0, 8, 0, []), (169, .invokestatic 319, 0, 0, 2, 0, 0, [(0, 0), (0, 0)]),
  (172, .aload_n 0, 0, 0, 0, 0, 0, []), (173, .getfield 56, 0, 12, 43, 0, 0, []), (176, .bipush 8, 0, 0, 0, 8, 0, []), (178, .invokestatic 319, 0, 0, 2, 0, 0, [(0, 0), (0, 0)]),
  (181, .aload_n 0, 0, 0, 0, 0, 0, []), (182, .getfield 59, 0, 12, 44, 0, 0, []), (185, .bipush 14, 0, 0, 0, 14, 0, []), (187, .invokestatic 319, 0, 0, 2, 0, 0, [(0, 0), (0, 0)]),
  (190, .aload_n 0, 0, 0, 0, 0, 0, []), (191, .getfield 62, 0, 12, 45, 0, 0, []), (194, .bipush 12, 0, 0, 0, 12, 0, []), (196, .invokestatic 319, 0, 0, 2, 0, 0, [(0, 0), (0, 0)]),
  (199, .aload_n 0, 0, 0, 0, 0, 0, []), (200, .getfield 65, 0, 12, 46, 0, 0, []), (203, .bipush 12, 0, 0, 0, 12, 0, []), (205, .invokestatic 319, 0, 0, 2, 0, 0, [(0, 0), (0, 0)]),
  (208, .iconst 0, 0, 0, 0, 0, 0, []), (209, .istore_n 1, 0, 0, 0, 0, 0, []), (210, .iload_n 1, 99, 0, 0, 0, 0, []), (211, .iconst 2, 0, 0, 0, 2, 0, []),
  (212, .if_icmp .ge 23, 0, 113, 0, 0, 0, []), (215, .aload_n 0, 0, 0, 0, 0, 0, []), (216, .getfield 68, 0, 12, 47, 0, 0, []), (219, .iload_n 1, 0, 0, 0, 0, 0, []),
  (220, .aload_n 0, 0, 0, 0, 0, 0, []), (221, .getfield 68, 0, 12, 47, 0, 0, []), (224, .iconst 2, 0, 0, 0, 2, 0, []), (225, .iload_n 1, 0, 0, 0, 0, 0, []),
  (226, .iadd, 0, 0, 0, 0, 0, []), (227, .baload, 0, 0, 0, 0, 0, []), (228, .bastore, 0, 0, 0, 0, 0, []), (229, .iinc 1 1, 0, 0, 0, 1, 0, []),
  (232, .goto (-22), 0, 98, 0, 0, 0, []), (235, .aload_n 0, 114, 0, 0, 0, 0, []), (236, .getfield 72, 0, 12, 48, 0, 0, []), (239, .iconst 2, 0, 0, 0, 2, 0, []),
  (240, .invokestatic 319, 0, 0, 2, 0, 0, [(0, 0), (0, 0)]), (243, .aload_n 0, 0, 0, 0, 0, 0, []), (244, .getfield 75, 0, 12, 49, 0, 0, []), (247, .iconst 2, 0, 0, 0, 2, 0, []),
  (248, .invokestatic 319, 0, 0, 2, 0, 0, [(0, 0), (0, 0)]), (251, .aload_n 0, 0, 0, 0, 0, 0, []), (252, .getfield 78, 0, 12, 50, 0, 0, []), (255, .bipush 64, 0, 0, 0, 64, 0, []),
  (257, .invokestatic 319, 0, 0, 2, 0, 0, [(0, 0), (0, 0)]), (260, .aload_n 0, 0, 0, 0, 0, 0, []), (261, .getfield 81, 0, 12, 51, 0, 0, []), (264, .bipush 64, 0, 0, 0, 64, 0, []),
  (266, .invokestatic 319, 0, 0, 2, 0, 0, [(0, 0), (0, 0)]), (269, .aload_n 0, 0, 0, 0, 0, 0, []), (270, .getfield 84, 0, 12, 52, 0, 0, []), (273, .bipush 64, 0, 0, 0, 64, 0, []),
  (275, .invokestatic 319, 0, 0, 2, 0, 0, [(0, 0), (0, 0)]), (278, .aload_n 0, 0, 0, 0, 0, 0, []), (279, .invokevirtual 323, 0, 1, 1, 0, 0, [(0, 0), (0, 0)]), (282, .return_, 0, 0, 0, 0, 0, [])]
noncomputable def fX12_keepText_113 (N : Nat) (w : Wd) : Option (Wd) :=
  (callW (pX12_copies N 92 0 (2 : Int32)) w).bind fun w1 =>
  (callW (pX12_copies N 93 0 (2 : Int32)) w1).bind fun w2 =>
  (callW (pX12_copies N 94 0 (64 : Int32)) w2).bind fun w3 =>
  (callW (pX12_copies N 95 0 (64 : Int32)) w3).bind fun w4 =>
  (callW (pX12_copies N 96 0 (64 : Int32)) w4).bind fun w5 =>
  (callW (pX12_begin N) w5).bind fun w6 =>
  some w6
noncomputable def fX12_keepText_98 (N : Nat) : Nat → (Wd → Option (Wd)) → Int32 → Wd → Option (Wd)
  | 0, _, _, _ => none
  | n + 1, k113, v1, w =>
    if v1 < (2 : Int32) then
      (ldI w 91 0 ((2 : Int32) + v1) 4).bind fun x1 =>
      (stI w 91 0 v1 4 (x1 &&& 1)).bind fun w2 =>
      callW (fX12_keepText_98 N n k113 (v1 + (1 : Int32))) w2
    else
    k113 w
noncomputable def pX12_keepText (N : Nat) (w : Wd) : Option (Wd) :=
  let w1 : Wd := (setI (setI (setI w 16 0 12 (gI w 16 0 20)) 16 0 13 (gI (setI w 16 0 12 (gI w 16 0 20)) 16 0 21)) 16 0 14 (gI (setI (setI w 16 0 12 (gI w 16 0 20)) 16 0 13 (gI (setI w 16 0 12 (gI w 16 0 20)) 16 0 21)) 16 0 22))
  let w2 : Wd := (setI (setI (setI w1 16 0 15 (gI w1 16 0 23)) 16 0 16 (gI (setI w1 16 0 15 (gI w1 16 0 23)) 16 0 24)) 16 0 17 (gI (setI (setI w1 16 0 15 (gI w1 16 0 23)) 16 0 16 (gI (setI w1 16 0 15 (gI w1 16 0 23)) 16 0 24)) 16 0 25))
  (callW (pX12_copies N 75 0 (8 : Int32)) (setI (setI w2 16 0 18 (gI w2 16 0 26)) 16 0 19 (gI (setI w2 16 0 18 (gI w2 16 0 26)) 16 0 27))).bind fun w3 =>
  (callW (pX12_copies N 76 0 (8 : Int32)) w3).bind fun w4 =>
  (callW (pX12_copies N 77 0 (8 : Int32)) w4).bind fun w5 =>
  (callW (pX12_copies N 78 0 (6 : Int32)) w5).bind fun w6 =>
  (callW (pX12_copies N 79 0 (6 : Int32)) w6).bind fun w7 =>
  (callW (pX12_copies N 80 0 (6 : Int32)) w7).bind fun w8 =>
  (callW (pX12_copies N 81 0 (6 : Int32)) w8).bind fun w9 =>
  (callW (pX12_copies N 82 0 (6 : Int32)) w9).bind fun w10 =>
  (callW (pX12_copies N 83 0 (6 : Int32)) w10).bind fun w11 =>
  (callW (pX12_copies N 84 0 (8 : Int32)) w11).bind fun w12 =>
  (callW (pX12_copies N 85 0 (8 : Int32)) w12).bind fun w13 =>
  (callW (pX12_copies N 86 0 (8 : Int32)) w13).bind fun w14 =>
  (callW (pX12_copies N 87 0 (8 : Int32)) w14).bind fun w15 =>
  (callW (pX12_copies N 88 0 (14 : Int32)) w15).bind fun w16 =>
  (callW (pX12_copies N 89 0 (12 : Int32)) w16).bind fun w17 =>
  (callW (pX12_copies N 90 0 (12 : Int32)) w17).bind fun w18 =>
  callW (fX12_keepText_98 N N (fX12_keepText_113 N) (0 : Int32)) w18
noncomputable def mX12_keepText (N : Nat) (as : List AV) (w : Wd) : Option (Wd) := xS1 16 as fun t => xN1 t (callW (pX12_keepText N) w)
set_option maxRecDepth 100000 in
set_option maxHeartbeats 4000000 in
theorem kX12_keepText : TK cX12_keepText RX12 2 tX12_keepText := ⟨by decide +kernel, wok_of [1610, 1602, 1611, 1603, 1612, 1604, 1613, 1605, 1614, 1606, 1615, 1607, 1616, 1608, 1617, 1609, 1621, 1622, 1623, 1624, 1625, 1626, 1627, 1628, 1629, 1630, 1631, 1632, 1633, 1634, 1635, 1636, 1637, 1637, 1638, 1639, 1640, 1641, 1642] (by decide +kernel) (by decide +kernel)⟩
set_option maxRecDepth 100000 in
set_option maxHeartbeats 4000000 in
theorem sX12_keepText_113 {N : Nat} {X : XT} (G : GX X cX12_keepText RX12) (hn : xnL X = 2) (hC : CRs X tX12_keepText (oF []) (oF []) (oF [(mX12_copies N), (mX12_begin N)])) {r : Wd} (hr : RTV X cX12_keepText r)  : ∀ (w : Wd), fX12_keepText_113 N w = some r → WW X (pcAt tX12_keepText 113) [some (.inr (.inr (16, 0))), none] [] w := by
  intro w h
  refine run_sound (r := r) (X := X) (cc := cX12_keepText) (own := RX12) (tab := tX12_keepText) G (by rw [hn]; exact kX12_keepText) (oI := (oF [])) (oL := (oF [])) (oV := (oF [(mX12_copies N), (mX12_begin N)])) (rI := (fun _ _ => none)) (rL := (fun _ _ => none)) (rV := (fun w => some w))
    (K := (fun j ls st w => none)) (fun _ _ _ _ hx => by cases hx) (fun _ _ _ _ hx => by cases hx) (fun w pc ls hx hd => hr w pc ls (Option.some.inj hx) hd) hC (fun ls => lsb [some (.inr (.inr (16, 0))), none] 0 ls) (keepsP_of rfl) ?_ 138 113 [some (.inr (.inr (16, 0))), none] [] w ?_ h
  · intro j ls st w hfx h
    obtain ⟨e0, -⟩ : _ = _ ∧ True := hfx
    try dsimp only at h
    cases h
  · exact (show _ = _ ∧ True from ⟨rfl, trivial⟩)
set_option maxRecDepth 100000 in
set_option maxHeartbeats 4000000 in
theorem sX12_keepText_98 {N : Nat} {X : XT} (G : GX X cX12_keepText RX12) (hn : xnL X = 2) (hC : CRs X tX12_keepText (oF []) (oF []) (oF [(mX12_copies N), (mX12_begin N)])) {r : Wd} (hr : RTV X cX12_keepText r)  : ∀ (n : Nat) (k113 : Wd → Option (Wd)) (v1 : Int32) (w : Wd), fX12_keepText_98 N n k113 v1 w = some r → (∀ (w : Wd), k113 w = some r → WW X (pcAt tX12_keepText 113) [some (.inr (.inr (16, 0))), none] [] w) → WW X (pcAt tX12_keepText 98) [some (.inr (.inr (16, 0))), some (.inl v1)] [] w := by
  intro n
  induction n with
  | zero => intro k113 v1 w h h113; cases h
  | succ n ih =>
    intro k113 v1 w h h113
    refine run_sound (r := r) (X := X) (cc := cX12_keepText) (own := RX12) (tab := tX12_keepText) G (by rw [hn]; exact kX12_keepText) (oI := (oF [])) (oL := (oF [])) (oV := (oF [(mX12_copies N), (mX12_begin N)])) (rI := (fun _ _ => none)) (rL := (fun _ _ => none)) (rV := (fun w => some w))
      (K := (fun j ls st w => if j = 98 then (lgI ls 1 fun v1 => st0 st (callW (fX12_keepText_98 N n k113 v1) w)) else if j = 113 then (st0 st (k113 w)) else none)) (fun _ _ _ _ hx => by cases hx) (fun _ _ _ _ hx => by cases hx) (fun w pc ls hx hd => hr w pc ls (Option.some.inj hx) hd) hC (fun ls => lsb [some (.inr (.inr (16, 0))), none] 0 ls) (keepsP_of rfl) ?_ 138 98 [some (.inr (.inr (16, 0))), some (.inl v1)] [] w ?_ h
    · intro j ls st w hfx h
      obtain ⟨e0, -⟩ : _ = _ ∧ True := hfx
      try dsimp only at h
      by_cases hj : j = 98
      · subst hj
        rw [if_pos rfl] at h
        obtain ⟨v1, e1, h_1⟩ := lgI_some h
        obtain ⟨rfl, h_2⟩ := st0_some h_1
        clear h h_1
        have h := h_2
        try rw [callW_eq] at h
        exact WW.le (a := [some (.inr (.inr (16, 0))), some (.inl v1)]) (by rw [hn]; rfl) (show _ = _ ∧ _ = _ ∧ True from ⟨e0, e1, trivial⟩) (ih k113 v1 w h h113)
      rw [if_neg hj] at h
      by_cases hj : j = 113
      · subst hj
        rw [if_pos rfl] at h
        obtain ⟨rfl, h_1⟩ := st0_some h
        clear h
        have h := h_1
        try rw [callW_eq] at h
        exact WW.le (a := [some (.inr (.inr (16, 0))), none]) (by rw [hn]; rfl) (show _ = _ ∧ True from ⟨e0, trivial⟩) (h113 w h)
      rw [if_neg hj] at h
      cases h
    · exact (show _ = _ ∧ True from ⟨rfl, trivial⟩)
set_option maxRecDepth 100000 in
set_option maxHeartbeats 4000000 in
theorem crX12_keepText {N : Nat} {X : XT} (G : GX X cX12_keepText RX12) (hR : xR X = rmL 5) : CRs X tX12_keepText (oF []) (oF []) (oF [(mX12_copies N), (mX12_begin N)]) := by
  have hl : tX12_keepText.filter isInv = [(70, .invokestatic 319, 0, 0, 2, 0, 0, [(0, 0), (0, 0)]), (79, .invokestatic 319, 0, 0, 2, 0, 0, [(0, 0), (0, 0)]), (88, .invokestatic 319, 0, 0, 2, 0, 0, [(0, 0), (0, 0)]), (97, .invokestatic 319, 0, 0, 2, 0, 0, [(0, 0), (0, 0)]), (106, .invokestatic 319, 0, 0, 2, 0, 0, [(0, 0), (0, 0)]), (115, .invokestatic 319, 0, 0, 2, 0, 0, [(0, 0), (0, 0)]), (124, .invokestatic 319, 0, 0, 2, 0, 0, [(0, 0), (0, 0)]), (133, .invokestatic 319, 0, 0, 2, 0, 0, [(0, 0), (0, 0)]), (142, .invokestatic 319, 0, 0, 2, 0, 0, [(0, 0), (0, 0)]), (151, .invokestatic 319, 0, 0, 2, 0, 0, [(0, 0), (0, 0)]), (160, .invokestatic 319, 0, 0, 2, 0, 0, [(0, 0), (0, 0)]), (169, .invokestatic 319, 0, 0, 2, 0, 0, [(0, 0), (0, 0)]), (178, .invokestatic 319, 0, 0, 2, 0, 0, [(0, 0), (0, 0)]), (187, .invokestatic 319, 0, 0, 2, 0, 0, [(0, 0), (0, 0)]), (196, .invokestatic 319, 0, 0, 2, 0, 0, [(0, 0), (0, 0)]), (205, .invokestatic 319, 0, 0, 2, 0, 0, [(0, 0), (0, 0)]), (240, .invokestatic 319, 0, 0, 2, 0, 0, [(0, 0), (0, 0)]), (248, .invokestatic 319, 0, 0, 2, 0, 0, [(0, 0), (0, 0)]), (257, .invokestatic 319, 0, 0, 2, 0, 0, [(0, 0), (0, 0)]), (266, .invokestatic 319, 0, 0, 2, 0, 0, [(0, 0), (0, 0)]), (275, .invokestatic 319, 0, 0, 2, 0, 0, [(0, 0), (0, 0)]), (279, .invokevirtual 323, 0, 1, 1, 0, 0, [(0, 0), (0, 0)])] := rfl
  intro e he
  rw [hl] at he
  simp only [List.mem_cons, List.not_mem_nil, or_false] at he
  rcases he with rfl | rfl | rfl | rfl | rfl | rfl | rfl | rfl | rfl | rfl | rfl | rfl | rfl | rfl | rfl | rfl | rfl | rfl | rfl | rfl | rfl | rfl
  · exact crV_S (idx := 319) G (by decide +kernel) (MX12_copies N) (cw_of (ps := [1572, 1573, 162, 1574]) (by decide +kernel) (by decide +kernel)) ⟨by decide +kernel, by decide +kernel, by decide +kernel⟩ (by unfold rmOk; rw [hR]; exact ⟨by decide, by decide⟩)
  · exact crV_S (idx := 319) G (by decide +kernel) (MX12_copies N) (cw_of (ps := [1572, 1573, 162, 1574]) (by decide +kernel) (by decide +kernel)) ⟨by decide +kernel, by decide +kernel, by decide +kernel⟩ (by unfold rmOk; rw [hR]; exact ⟨by decide, by decide⟩)
  · exact crV_S (idx := 319) G (by decide +kernel) (MX12_copies N) (cw_of (ps := [1572, 1573, 162, 1574]) (by decide +kernel) (by decide +kernel)) ⟨by decide +kernel, by decide +kernel, by decide +kernel⟩ (by unfold rmOk; rw [hR]; exact ⟨by decide, by decide⟩)
  · exact crV_S (idx := 319) G (by decide +kernel) (MX12_copies N) (cw_of (ps := [1572, 1573, 162, 1574]) (by decide +kernel) (by decide +kernel)) ⟨by decide +kernel, by decide +kernel, by decide +kernel⟩ (by unfold rmOk; rw [hR]; exact ⟨by decide, by decide⟩)
  · exact crV_S (idx := 319) G (by decide +kernel) (MX12_copies N) (cw_of (ps := [1572, 1573, 162, 1574]) (by decide +kernel) (by decide +kernel)) ⟨by decide +kernel, by decide +kernel, by decide +kernel⟩ (by unfold rmOk; rw [hR]; exact ⟨by decide, by decide⟩)
  · exact crV_S (idx := 319) G (by decide +kernel) (MX12_copies N) (cw_of (ps := [1572, 1573, 162, 1574]) (by decide +kernel) (by decide +kernel)) ⟨by decide +kernel, by decide +kernel, by decide +kernel⟩ (by unfold rmOk; rw [hR]; exact ⟨by decide, by decide⟩)
  · exact crV_S (idx := 319) G (by decide +kernel) (MX12_copies N) (cw_of (ps := [1572, 1573, 162, 1574]) (by decide +kernel) (by decide +kernel)) ⟨by decide +kernel, by decide +kernel, by decide +kernel⟩ (by unfold rmOk; rw [hR]; exact ⟨by decide, by decide⟩)
  · exact crV_S (idx := 319) G (by decide +kernel) (MX12_copies N) (cw_of (ps := [1572, 1573, 162, 1574]) (by decide +kernel) (by decide +kernel)) ⟨by decide +kernel, by decide +kernel, by decide +kernel⟩ (by unfold rmOk; rw [hR]; exact ⟨by decide, by decide⟩)
  · exact crV_S (idx := 319) G (by decide +kernel) (MX12_copies N) (cw_of (ps := [1572, 1573, 162, 1574]) (by decide +kernel) (by decide +kernel)) ⟨by decide +kernel, by decide +kernel, by decide +kernel⟩ (by unfold rmOk; rw [hR]; exact ⟨by decide, by decide⟩)
  · exact crV_S (idx := 319) G (by decide +kernel) (MX12_copies N) (cw_of (ps := [1572, 1573, 162, 1574]) (by decide +kernel) (by decide +kernel)) ⟨by decide +kernel, by decide +kernel, by decide +kernel⟩ (by unfold rmOk; rw [hR]; exact ⟨by decide, by decide⟩)
  · exact crV_S (idx := 319) G (by decide +kernel) (MX12_copies N) (cw_of (ps := [1572, 1573, 162, 1574]) (by decide +kernel) (by decide +kernel)) ⟨by decide +kernel, by decide +kernel, by decide +kernel⟩ (by unfold rmOk; rw [hR]; exact ⟨by decide, by decide⟩)
  · exact crV_S (idx := 319) G (by decide +kernel) (MX12_copies N) (cw_of (ps := [1572, 1573, 162, 1574]) (by decide +kernel) (by decide +kernel)) ⟨by decide +kernel, by decide +kernel, by decide +kernel⟩ (by unfold rmOk; rw [hR]; exact ⟨by decide, by decide⟩)
  · exact crV_S (idx := 319) G (by decide +kernel) (MX12_copies N) (cw_of (ps := [1572, 1573, 162, 1574]) (by decide +kernel) (by decide +kernel)) ⟨by decide +kernel, by decide +kernel, by decide +kernel⟩ (by unfold rmOk; rw [hR]; exact ⟨by decide, by decide⟩)
  · exact crV_S (idx := 319) G (by decide +kernel) (MX12_copies N) (cw_of (ps := [1572, 1573, 162, 1574]) (by decide +kernel) (by decide +kernel)) ⟨by decide +kernel, by decide +kernel, by decide +kernel⟩ (by unfold rmOk; rw [hR]; exact ⟨by decide, by decide⟩)
  · exact crV_S (idx := 319) G (by decide +kernel) (MX12_copies N) (cw_of (ps := [1572, 1573, 162, 1574]) (by decide +kernel) (by decide +kernel)) ⟨by decide +kernel, by decide +kernel, by decide +kernel⟩ (by unfold rmOk; rw [hR]; exact ⟨by decide, by decide⟩)
  · exact crV_S (idx := 319) G (by decide +kernel) (MX12_copies N) (cw_of (ps := [1572, 1573, 162, 1574]) (by decide +kernel) (by decide +kernel)) ⟨by decide +kernel, by decide +kernel, by decide +kernel⟩ (by unfold rmOk; rw [hR]; exact ⟨by decide, by decide⟩)
  · exact crV_S (idx := 319) G (by decide +kernel) (MX12_copies N) (cw_of (ps := [1572, 1573, 162, 1574]) (by decide +kernel) (by decide +kernel)) ⟨by decide +kernel, by decide +kernel, by decide +kernel⟩ (by unfold rmOk; rw [hR]; exact ⟨by decide, by decide⟩)
  · exact crV_S (idx := 319) G (by decide +kernel) (MX12_copies N) (cw_of (ps := [1572, 1573, 162, 1574]) (by decide +kernel) (by decide +kernel)) ⟨by decide +kernel, by decide +kernel, by decide +kernel⟩ (by unfold rmOk; rw [hR]; exact ⟨by decide, by decide⟩)
  · exact crV_S (idx := 319) G (by decide +kernel) (MX12_copies N) (cw_of (ps := [1572, 1573, 162, 1574]) (by decide +kernel) (by decide +kernel)) ⟨by decide +kernel, by decide +kernel, by decide +kernel⟩ (by unfold rmOk; rw [hR]; exact ⟨by decide, by decide⟩)
  · exact crV_S (idx := 319) G (by decide +kernel) (MX12_copies N) (cw_of (ps := [1572, 1573, 162, 1574]) (by decide +kernel) (by decide +kernel)) ⟨by decide +kernel, by decide +kernel, by decide +kernel⟩ (by unfold rmOk; rw [hR]; exact ⟨by decide, by decide⟩)
  · exact crV_S (idx := 319) G (by decide +kernel) (MX12_copies N) (cw_of (ps := [1572, 1573, 162, 1574]) (by decide +kernel) (by decide +kernel)) ⟨by decide +kernel, by decide +kernel, by decide +kernel⟩ (by unfold rmOk; rw [hR]; exact ⟨by decide, by decide⟩)
  · exact crV_V (idx := 323) G (by decide +kernel) (MX12_begin N) (cw_of (ps := [1575, 1577, 71, 162, 1578]) (by decide +kernel) (by decide +kernel)) ⟨by decide +kernel, by decide +kernel, by decide +kernel⟩ (by unfold rmOk; rw [hR]; exact ⟨by decide, by decide⟩)
set_option maxRecDepth 100000 in
set_option maxHeartbeats 4000000 in
theorem MX12_keepText (N : Nat) : SndV yX12_keepText cX12_keepText 2 none 5 1 true (mX12_keepText N) := by
  refine SndV.of tX12_keepText (by decide +kernel) rfl rfl ?_ ?_
  · intro as w x h
    obtain ⟨t1, rfl, h_1⟩ := xS1_some h
    obtain ⟨rfl, h_2⟩ := xN1_some h_1
    clear h h_1
    have h := h_2
    rw [callW_eq] at h
    exact ⟨fun _ => ⟨_, _, _, rfl, rfl, _, rfl, rfl⟩, rfl, Nat.le_of_ble_eq_true rfl⟩
  · intro X G hn hR as w r h hr
    have hC := crX12_keepText (N := N) G hR
    obtain ⟨t1, rfl, h_1⟩ := xS1_some h
    obtain ⟨rfl, h_2⟩ := xN1_some h_1
    clear h h_1
    have h := h_2
    rw [callW_eq] at h
    refine run_sound (r := r) (X := X) (cc := cX12_keepText) (own := RX12) (tab := tX12_keepText) G (by rw [hn]; exact kX12_keepText) (oI := (oF [])) (oL := (oF [])) (oV := (oF [(mX12_copies N), (mX12_begin N)])) (rI := (fun _ _ => none)) (rL := (fun _ _ => none)) (rV := (fun w => some w))
      (K := (fun j ls st w => if j = 98 then (lgI ls 1 fun v1 => st0 st (callW (fX12_keepText_98 N N (fX12_keepText_113 N) v1) w)) else none)) (fun _ _ _ _ hx => by cases hx) (fun _ _ _ _ hx => by cases hx) (fun w pc ls hx hd => hr w pc ls (Option.some.inj hx) hd) hC (fun ls => lsb [some (.inr (.inr (16, 0))), none] 0 ls) (keepsP_of rfl) ?_ 138 0 [some (.inr (.inr (16, 0))), none] [] w ?_ h
    · intro j ls st w hfx h
      obtain ⟨e0, -⟩ : _ = _ ∧ True := hfx
      try dsimp only at h
      by_cases hj : j = 98
      · subst hj
        rw [if_pos rfl] at h
        obtain ⟨v1, e1, h_1⟩ := lgI_some h
        obtain ⟨rfl, h_2⟩ := st0_some h_1
        clear h h_1
        have h := h_2
        try rw [callW_eq] at h
        exact WW.le (a := [some (.inr (.inr (16, 0))), some (.inl v1)]) (by rw [hn]; rfl) (show _ = _ ∧ _ = _ ∧ True from ⟨e0, e1, trivial⟩) (sX12_keepText_98 G hn hC hr N (fX12_keepText_113 N) v1 w h (fun w h => (sX12_keepText_113 G hn hC hr w h)))
      rw [if_neg hj] at h
      cases h
    · exact (show _ = _ ∧ True from ⟨rfl, trivial⟩)
-- MoorGuidesModel.find([IIII)I
def tX12_find : List EN := [
  (0, .iconst 0, 0, 0, 0, 0, 0, []), (1, .istore 4, 0, 0, 0, 0, 0, []), (3, .iload 4, 3, 0, 0, 0, 0, []), (5, .iload_n 2, 0, 0, 0, 0, 0, []),
  (6, .if_icmp .ge 22, 0, 16, 0, 0, 0, []), (9, .aload_n 0, 0, 0, 0, 0, 0, []), (10, .iload_n 1, 0, 0, 0, 0, 0, []), (11, .iload 4, 0, 0, 0, 0, 0, []),
  (13, .iadd, 0, 0, 0, 0, 0, []), (14, .iaload, 0, 0, 0, 0, 0, []), (15, .iload_n 3, 0, 0, 0, 0, 0, []), (16, .if_icmp .ne 6, 0, 14, 0, 0, 0, []),
  (19, .iload 4, 0, 0, 0, 0, 0, []), (21, .ireturn, 0, 0, 0, 0, 0, []), (22, .iinc 4 1, 0, 0, 0, 1, 0, []), (25, .goto (-22), 0, 2, 0, 0, 0, []),
  (28, .iconst (-1), 0, 0, 0, (-1), 0, []), (29, .ireturn, 0, 0, 0, 0, 0, [])]
noncomputable def fX12_find_2 (N : Nat) (k0 : Nat) (i0 : Nat) (a1 : Int32) (a2 : Int32) (a3 : Int32) : Nat → Int32 → Wd → Option (Int32 × Wd)
  | 0, _, _ => none
  | n + 1, v4, w =>
    if v4 < a2 then
      (ldI w k0 i0 (a1 + v4) (ln k0 i0)).bind fun x1 =>
      if x1 = a3 then some (v4, w) else
      callW (fX12_find_2 N k0 i0 a1 a2 a3 n (v4 + (1 : Int32))) w
    else
    some ((-1 : Int32), w)
noncomputable def pX12_find (N : Nat) (k0 : Nat) (i0 : Nat) (a1 : Int32) (a2 : Int32) (a3 : Int32) (w : Wd) : Option (Int32 × Wd) :=
  callW (fX12_find_2 N k0 i0 a1 a2 a3 N (0 : Int32)) w
noncomputable def mX12_find (N : Nat) (as : List AV) (w : Wd) : Option (Int32 × Wd) := xA1 [75, 78] as fun k0 i0 t => xI1 t fun a1 t => xI1 t fun a2 t => xI1 t fun a3 t => xN1 t (callW (pX12_find N k0 i0 a1 a2 a3) w)
set_option maxRecDepth 100000 in
set_option maxHeartbeats 4000000 in
theorem kX12_find : TK cX12_find RX12 5 tX12_find := ⟨by decide +kernel, wok_of [] (by decide +kernel) (by decide +kernel)⟩
set_option maxRecDepth 100000 in
set_option maxHeartbeats 4000000 in
theorem sX12_find_2_k75 {N : Nat} {X : XT} (G : GX X cX12_find RX12) (hn : xnL X = 5) (hC : CRs X tX12_find (oF []) (oF []) (oF [])) {r : Int32 × Wd} (hr : RTI X cX12_find r) (i0 : Nat) (a1 : Int32) (a2 : Int32) (a3 : Int32) : ∀ (n : Nat) (v4 : Int32) (w : Wd), fX12_find_2 N 75 i0 a1 a2 a3 n v4 w = some r → WW X (pcAt tX12_find 2) [some (.inr (.inr (75, i0))), some (.inl a1), some (.inl a2), some (.inl a3), some (.inl v4)] [] w := by
  intro n
  induction n with
  | zero => intro v4 w h; cases h
  | succ n ih =>
    intro v4 w h
    refine run_sound (r := r) (X := X) (cc := cX12_find) (own := RX12) (tab := tX12_find) G (by rw [hn]; exact kX12_find) (oI := (oF [])) (oL := (oF [])) (oV := (oF [])) (rI := (fun x w => some (x, w))) (rL := (fun _ _ => none)) (rV := (fun _ => none))
      (K := (fun j ls st w => if j = 2 then (lgI ls 4 fun v4 => st0 st (callW (fX12_find_2 N 75 i0 a1 a2 a3 n v4) w)) else none)) (fun x w pc ls hx hd => hr x w pc ls (Option.some.inj hx) hd) (fun _ _ _ _ hx => by cases hx) (fun _ _ _ hx => by cases hx) hC (fun ls => lsb [some (.inr (.inr (75, i0))), some (.inl a1), some (.inl a2), some (.inl a3), none] 0 ls) (keepsP_of rfl) ?_ 20 2 [some (.inr (.inr (75, i0))), some (.inl a1), some (.inl a2), some (.inl a3), some (.inl v4)] [] w ?_ h
    · intro j ls st w hfx h
      obtain ⟨e0, e1, e2, e3, -⟩ : _ = _ ∧ _ = _ ∧ _ = _ ∧ _ = _ ∧ True := hfx
      try dsimp only at h
      by_cases hj : j = 2
      · subst hj
        rw [if_pos rfl] at h
        obtain ⟨v4, e4, h_1⟩ := lgI_some h
        obtain ⟨rfl, h_2⟩ := st0_some h_1
        clear h h_1
        have h := h_2
        try rw [callW_eq] at h
        exact WW.le (a := [some (.inr (.inr (75, i0))), some (.inl a1), some (.inl a2), some (.inl a3), some (.inl v4)]) (by rw [hn]; rfl) (show _ = _ ∧ _ = _ ∧ _ = _ ∧ _ = _ ∧ _ = _ ∧ True from ⟨e0, e1, e2, e3, e4, trivial⟩) (ih v4 w h)
      rw [if_neg hj] at h
      cases h
    · exact (show _ = _ ∧ _ = _ ∧ _ = _ ∧ _ = _ ∧ True from ⟨rfl, rfl, rfl, rfl, trivial⟩)
set_option maxRecDepth 100000 in
set_option maxHeartbeats 4000000 in
theorem sX12_find_2_k78 {N : Nat} {X : XT} (G : GX X cX12_find RX12) (hn : xnL X = 5) (hC : CRs X tX12_find (oF []) (oF []) (oF [])) {r : Int32 × Wd} (hr : RTI X cX12_find r) (i0 : Nat) (a1 : Int32) (a2 : Int32) (a3 : Int32) : ∀ (n : Nat) (v4 : Int32) (w : Wd), fX12_find_2 N 78 i0 a1 a2 a3 n v4 w = some r → WW X (pcAt tX12_find 2) [some (.inr (.inr (78, i0))), some (.inl a1), some (.inl a2), some (.inl a3), some (.inl v4)] [] w := by
  intro n
  induction n with
  | zero => intro v4 w h; cases h
  | succ n ih =>
    intro v4 w h
    refine run_sound (r := r) (X := X) (cc := cX12_find) (own := RX12) (tab := tX12_find) G (by rw [hn]; exact kX12_find) (oI := (oF [])) (oL := (oF [])) (oV := (oF [])) (rI := (fun x w => some (x, w))) (rL := (fun _ _ => none)) (rV := (fun _ => none))
      (K := (fun j ls st w => if j = 2 then (lgI ls 4 fun v4 => st0 st (callW (fX12_find_2 N 78 i0 a1 a2 a3 n v4) w)) else none)) (fun x w pc ls hx hd => hr x w pc ls (Option.some.inj hx) hd) (fun _ _ _ _ hx => by cases hx) (fun _ _ _ hx => by cases hx) hC (fun ls => lsb [some (.inr (.inr (78, i0))), some (.inl a1), some (.inl a2), some (.inl a3), none] 0 ls) (keepsP_of rfl) ?_ 20 2 [some (.inr (.inr (78, i0))), some (.inl a1), some (.inl a2), some (.inl a3), some (.inl v4)] [] w ?_ h
    · intro j ls st w hfx h
      obtain ⟨e0, e1, e2, e3, -⟩ : _ = _ ∧ _ = _ ∧ _ = _ ∧ _ = _ ∧ True := hfx
      try dsimp only at h
      by_cases hj : j = 2
      · subst hj
        rw [if_pos rfl] at h
        obtain ⟨v4, e4, h_1⟩ := lgI_some h
        obtain ⟨rfl, h_2⟩ := st0_some h_1
        clear h h_1
        have h := h_2
        try rw [callW_eq] at h
        exact WW.le (a := [some (.inr (.inr (78, i0))), some (.inl a1), some (.inl a2), some (.inl a3), some (.inl v4)]) (by rw [hn]; rfl) (show _ = _ ∧ _ = _ ∧ _ = _ ∧ _ = _ ∧ _ = _ ∧ True from ⟨e0, e1, e2, e3, e4, trivial⟩) (ih v4 w h)
      rw [if_neg hj] at h
      cases h
    · exact (show _ = _ ∧ _ = _ ∧ _ = _ ∧ _ = _ ∧ True from ⟨rfl, rfl, rfl, rfl, trivial⟩)
set_option maxRecDepth 100000 in
set_option maxHeartbeats 4000000 in
theorem crX12_find {N : Nat} {X : XT} (G : GX X cX12_find RX12) (hR : xR X = rmL 1) : CRs X tX12_find (oF []) (oF []) (oF []) := by
  have hl : tX12_find.filter isInv = [] := rfl
  intro e he
  rw [hl] at he
  cases he
set_option maxRecDepth 100000 in
set_option maxHeartbeats 4000000 in
theorem MX12_find (N : Nat) : SndI yX12_find cX12_find 5 (some .int) 1 4 false (mX12_find N) := by
  refine SndI.of tX12_find (by decide +kernel) rfl rfl ?_ ?_
  · intro as w x h
    obtain ⟨k0, i0, t1, rfl, hk, h_1⟩ := xA1_some h
    obtain ⟨a1, t2, rfl, h_2⟩ := xI1_some h_1
    obtain ⟨a2, t3, rfl, h_3⟩ := xI1_some h_2
    obtain ⟨a3, t4, rfl, h_4⟩ := xI1_some h_3
    obtain ⟨rfl, h_5⟩ := xN1_some h_4
    clear h h_1 h_2 h_3 h_4
    have h := h_5
    rw [callW_eq] at h
    exact ⟨(fun z => by cases z), rfl, Nat.le_of_ble_eq_true rfl⟩
  · intro X G hn hR as w r h hr
    have hC := crX12_find (N := N) G hR
    obtain ⟨k0, i0, t1, rfl, hk, h_1⟩ := xA1_some h
    obtain ⟨a1, t2, rfl, h_2⟩ := xI1_some h_1
    obtain ⟨a2, t3, rfl, h_3⟩ := xI1_some h_2
    obtain ⟨a3, t4, rfl, h_4⟩ := xI1_some h_3
    obtain ⟨rfl, h_5⟩ := xN1_some h_4
    clear h h_1 h_2 h_3 h_4
    have h := h_5
    rw [callW_eq] at h
    have hk : k0 = 75 ∨ k0 = 78 := by simpa using hk
    rcases hk with rfl | rfl
    · refine run_sound (r := r) (X := X) (cc := cX12_find) (own := RX12) (tab := tX12_find) G (by rw [hn]; exact kX12_find) (oI := (oF [])) (oL := (oF [])) (oV := (oF [])) (rI := (fun x w => some (x, w))) (rL := (fun _ _ => none)) (rV := (fun _ => none))
        (K := (fun j ls st w => if j = 2 then (lgI ls 4 fun v4 => st0 st (callW (fX12_find_2 N 75 i0 a1 a2 a3 N v4) w)) else none)) (fun x w pc ls hx hd => hr x w pc ls (Option.some.inj hx) hd) (fun _ _ _ _ hx => by cases hx) (fun _ _ _ hx => by cases hx) hC (fun ls => lsb [some (.inr (.inr (75, i0))), some (.inl a1), some (.inl a2), some (.inl a3), none] 0 ls) (keepsP_of rfl) ?_ 20 0 [some (.inr (.inr (75, i0))), some (.inl a1), some (.inl a2), some (.inl a3), none] [] w ?_ h
      · intro j ls st w hfx h
        obtain ⟨e0, e1, e2, e3, -⟩ : _ = _ ∧ _ = _ ∧ _ = _ ∧ _ = _ ∧ True := hfx
        try dsimp only at h
        by_cases hj : j = 2
        · subst hj
          rw [if_pos rfl] at h
          obtain ⟨v4, e4, h_1⟩ := lgI_some h
          obtain ⟨rfl, h_2⟩ := st0_some h_1
          clear h h_1
          have h := h_2
          try rw [callW_eq] at h
          exact WW.le (a := [some (.inr (.inr (75, i0))), some (.inl a1), some (.inl a2), some (.inl a3), some (.inl v4)]) (by rw [hn]; rfl) (show _ = _ ∧ _ = _ ∧ _ = _ ∧ _ = _ ∧ _ = _ ∧ True from ⟨e0, e1, e2, e3, e4, trivial⟩) (sX12_find_2_k75 G hn hC hr i0 a1 a2 a3 N v4 w h)
        rw [if_neg hj] at h
        cases h
      · exact (show _ = _ ∧ _ = _ ∧ _ = _ ∧ _ = _ ∧ True from ⟨rfl, rfl, rfl, rfl, trivial⟩)
    · refine run_sound (r := r) (X := X) (cc := cX12_find) (own := RX12) (tab := tX12_find) G (by rw [hn]; exact kX12_find) (oI := (oF [])) (oL := (oF [])) (oV := (oF [])) (rI := (fun x w => some (x, w))) (rL := (fun _ _ => none)) (rV := (fun _ => none))
        (K := (fun j ls st w => if j = 2 then (lgI ls 4 fun v4 => st0 st (callW (fX12_find_2 N 78 i0 a1 a2 a3 N v4) w)) else none)) (fun x w pc ls hx hd => hr x w pc ls (Option.some.inj hx) hd) (fun _ _ _ _ hx => by cases hx) (fun _ _ _ hx => by cases hx) hC (fun ls => lsb [some (.inr (.inr (78, i0))), some (.inl a1), some (.inl a2), some (.inl a3), none] 0 ls) (keepsP_of rfl) ?_ 20 0 [some (.inr (.inr (78, i0))), some (.inl a1), some (.inl a2), some (.inl a3), none] [] w ?_ h
      · intro j ls st w hfx h
        obtain ⟨e0, e1, e2, e3, -⟩ : _ = _ ∧ _ = _ ∧ _ = _ ∧ _ = _ ∧ True := hfx
        try dsimp only at h
        by_cases hj : j = 2
        · subst hj
          rw [if_pos rfl] at h
          obtain ⟨v4, e4, h_1⟩ := lgI_some h
          obtain ⟨rfl, h_2⟩ := st0_some h_1
          clear h h_1
          have h := h_2
          try rw [callW_eq] at h
          exact WW.le (a := [some (.inr (.inr (78, i0))), some (.inl a1), some (.inl a2), some (.inl a3), some (.inl v4)]) (by rw [hn]; rfl) (show _ = _ ∧ _ = _ ∧ _ = _ ∧ _ = _ ∧ _ = _ ∧ True from ⟨e0, e1, e2, e3, e4, trivial⟩) (sX12_find_2_k78 G hn hC hr i0 a1 a2 a3 N v4 w h)
        rw [if_neg hj] at h
        cases h
      · exact (show _ = _ ∧ _ = _ ∧ _ = _ ∧ _ = _ ∧ True from ⟨rfl, rfl, rfl, rfl, trivial⟩)
-- MoorGuidesModel.newName([III)Z
def tX12_newName : List EN := [
  (0, .aload_n 0, 0, 0, 0, 0, 0, []), (1, .getfield 214, 0, 12, 8, 0, 0, []), (4, .iconst 2, 0, 0, 0, 2, 0, []), (5, .if_icmp .eq 9, 0, 8, 0, 0, 0, []),
  (8, .aload_n 0, 0, 0, 0, 0, 0, []), (9, .iconst 1, 0, 0, 0, 1, 0, []), (10, .invokevirtual 238, 0, 0, 2, 0, 0, []), (13, .ireturn, 0, 0, 0, 0, 0, []),
  (14, .aload_n 1, 0, 0, 0, 0, 0, []), (15, .iload_n 2, 0, 0, 0, 0, 0, []), (16, .iload_n 3, 0, 0, 0, 0, 0, []), (17, .aload_n 0, 0, 0, 0, 0, 0, []),
  (18, .getfield 225, 0, 12, 9, 0, 0, []), (21, .invokestatic 326, 0, 1, 4, 0, 0, []), (24, .ifCond .lt 9, 0, 19, 0, 0, 0, []), (27, .aload_n 0, 0, 0, 0, 0, 0, []),
  (28, .iconst 3, 0, 0, 0, 3, 0, []), (29, .invokevirtual 238, 0, 0, 2, 0, 0, []), (32, .ireturn, 0, 0, 0, 0, 0, []), (33, .aload_n 1, 0, 0, 0, 0, 0, []),
  (34, .iload_n 2, 0, 0, 0, 0, 0, []), (35, .iload_n 3, 0, 0, 0, 0, 0, []), (36, .iadd, 0, 0, 0, 0, 0, []), (37, .aload_n 0, 0, 0, 0, 0, 0, []),
  (38, .getfield 225, 0, 12, 9, 0, 0, []), (41, .iastore, 0, 0, 0, 0, 0, []), (42, .aload_n 0, 0, 0, 0, 0, 0, []), (43, .invokevirtual 248, 0, 0, 1, 0, 0, [(0, 0), (0, 0)]),
  (46, .iconst 1, 0, 0, 0, 1, 0, []), (47, .ireturn, 0, 0, 0, 0, 0, [])]
noncomputable def pX12_newName (N : Nat) (k1 : Nat) (i1 : Nat) (a2 : Int32) (a3 : Int32) (w : Wd) : Option (Int32 × Wd) :=
  if (gI w 16 0 8) = (2 : Int32) then
    (callW (pX12_find N k1 i1 a2 a3 (gI w 16 0 9)) w).bind fun r1 =>
    if r1.1 < 0 then
      (stI r1.2 k1 i1 (a2 + a3) (ln k1 i1) (gI r1.2 16 0 9)).bind fun w2 =>
      (callW (pX12_token N) w2).bind fun w3 =>
      some ((1 : Int32), w3)
    else
    (callW (pX12_wrong N (3 : Int32)) r1.2).bind fun r4 =>
    retZ r4.1 r4.2
  else
  (callW (pX12_wrong N (1 : Int32)) w).bind fun r5 =>
  retZ r5.1 r5.2
noncomputable def mX12_newName (N : Nat) (as : List AV) (w : Wd) : Option (Int32 × Wd) := xS1 16 as fun t => xA1 [75, 78] t fun k1 i1 t => xI1 t fun a2 t => xI1 t fun a3 t => xN1 t (callW (pX12_newName N k1 i1 a2 a3) w)
set_option maxRecDepth 100000 in
set_option maxHeartbeats 4000000 in
theorem kX12_newName : TK cX12_newName RX12 4 tX12_newName := ⟨by decide +kernel, wok_of [1598, 1599, 1599] (by decide +kernel) (by decide +kernel)⟩
set_option maxRecDepth 100000 in
set_option maxHeartbeats 4000000 in
theorem crX12_newName {N : Nat} {X : XT} (G : GX X cX12_newName RX12) (hR : xR X = rmL 3) : CRs X tX12_newName (oF [(mX12_wrong N), (mX12_find N)]) (oF []) (oF [(mX12_token N)]) := by
  have hl : tX12_newName.filter isInv = [(10, .invokevirtual 238, 0, 0, 2, 0, 0, []), (21, .invokestatic 326, 0, 1, 4, 0, 0, []), (29, .invokevirtual 238, 0, 0, 2, 0, 0, []), (43, .invokevirtual 248, 0, 0, 1, 0, 0, [(0, 0), (0, 0)])] := rfl
  intro e he
  rw [hl] at he
  simp only [List.mem_cons, List.not_mem_nil, or_false] at he
  rcases he with rfl | rfl | rfl | rfl
  · exact crI_V (idx := 238) G (by decide +kernel) (MX12_wrong N) (cw_of (ps := [1957, 1959, 81, 162, 1960]) (by decide +kernel) (by decide +kernel)) ⟨by decide +kernel, by decide +kernel, by decide +kernel⟩ (by unfold rmOk; rw [hR]; exact ⟨by decide, by decide⟩)
  · exact crI_S (idx := 326) G (by decide +kernel) (MX12_find N) (cw_of (ps := [1969, 1970, 162, 1971]) (by decide +kernel) (by decide +kernel)) ⟨by decide +kernel, by decide +kernel, by decide +kernel⟩ (by unfold rmOk; rw [hR]; exact ⟨by decide, by decide⟩)
  · exact crI_V (idx := 238) G (by decide +kernel) (MX12_wrong N) (cw_of (ps := [1957, 1959, 81, 162, 1960]) (by decide +kernel) (by decide +kernel)) ⟨by decide +kernel, by decide +kernel, by decide +kernel⟩ (by unfold rmOk; rw [hR]; exact ⟨by decide, by decide⟩)
  · exact crV_V (idx := 248) G (by decide +kernel) (MX12_token N) (cw_of (ps := [1928, 1930, 74, 162, 1931]) (by decide +kernel) (by decide +kernel)) ⟨by decide +kernel, by decide +kernel, by decide +kernel⟩ (by unfold rmOk; rw [hR]; exact ⟨by decide, by decide⟩)
set_option maxRecDepth 100000 in
set_option maxHeartbeats 4000000 in
theorem MX12_newName (N : Nat) : SndI yX12_newName cX12_newName 4 (some .boolean) 3 4 true (mX12_newName N) := by
  refine SndI.ofZ tX12_newName (by decide +kernel) rfl rfl ?_ ?_
  · intro as w x h
    obtain ⟨t1, rfl, h_1⟩ := xS1_some h
    obtain ⟨k1, i1, t2, rfl, hk, h_2⟩ := xA1_some h_1
    obtain ⟨a2, t3, rfl, h_3⟩ := xI1_some h_2
    obtain ⟨a3, t4, rfl, h_4⟩ := xI1_some h_3
    obtain ⟨rfl, h_5⟩ := xN1_some h_4
    clear h h_1 h_2 h_3 h_4
    have h := h_5
    rw [callW_eq] at h
    exact ⟨fun _ => ⟨_, _, _, rfl, rfl, _, rfl, rfl⟩, rfl, Nat.le_of_ble_eq_true rfl⟩
  · intro X G hn hR as w r h hr
    have hC := crX12_newName (N := N) G hR
    obtain ⟨t1, rfl, h_1⟩ := xS1_some h
    obtain ⟨k1, i1, t2, rfl, hk, h_2⟩ := xA1_some h_1
    obtain ⟨a2, t3, rfl, h_3⟩ := xI1_some h_2
    obtain ⟨a3, t4, rfl, h_4⟩ := xI1_some h_3
    obtain ⟨rfl, h_5⟩ := xN1_some h_4
    clear h h_1 h_2 h_3 h_4
    have h := h_5
    rw [callW_eq] at h
    have hk : k1 = 75 ∨ k1 = 78 := by simpa using hk
    rcases hk with rfl | rfl
    · refine run_sound (r := r) (X := X) (cc := cX12_newName) (own := RX12) (tab := tX12_newName) G (by rw [hn]; exact kX12_newName) (oI := (oF [(mX12_wrong N), (mX12_find N)])) (oL := (oF [])) (oV := (oF [(mX12_token N)])) (rI := retZ) (rL := (fun _ _ => none)) (rV := (fun _ => none))
        (K := (fun j ls st w => none)) hr (fun _ _ _ _ hx => by cases hx) (fun _ _ _ hx => by cases hx) hC (fun ls => lsb [some (.inr (.inr (16, 0))), some (.inr (.inr (75, i1))), some (.inl a2), some (.inl a3)] 0 ls) (keepsP_of rfl) ?_ 32 0 [some (.inr (.inr (16, 0))), some (.inr (.inr (75, i1))), some (.inl a2), some (.inl a3)] [] w ?_ h
      · intro j ls st w hfx h
        obtain ⟨e0, e1, e2, e3, -⟩ : _ = _ ∧ _ = _ ∧ _ = _ ∧ _ = _ ∧ True := hfx
        try dsimp only at h
        cases h
      · exact (show _ = _ ∧ _ = _ ∧ _ = _ ∧ _ = _ ∧ True from ⟨rfl, rfl, rfl, rfl, trivial⟩)
    · refine run_sound (r := r) (X := X) (cc := cX12_newName) (own := RX12) (tab := tX12_newName) G (by rw [hn]; exact kX12_newName) (oI := (oF [(mX12_wrong N), (mX12_find N)])) (oL := (oF [])) (oV := (oF [(mX12_token N)])) (rI := retZ) (rL := (fun _ _ => none)) (rV := (fun _ => none))
        (K := (fun j ls st w => none)) hr (fun _ _ _ _ hx => by cases hx) (fun _ _ _ hx => by cases hx) hC (fun ls => lsb [some (.inr (.inr (16, 0))), some (.inr (.inr (78, i1))), some (.inl a2), some (.inl a3)] 0 ls) (keepsP_of rfl) ?_ 32 0 [some (.inr (.inr (16, 0))), some (.inr (.inr (78, i1))), some (.inl a2), some (.inl a3)] [] w ?_ h
      · intro j ls st w hfx h
        obtain ⟨e0, e1, e2, e3, -⟩ : _ = _ ∧ _ = _ ∧ _ = _ ∧ _ = _ ∧ True := hfx
        try dsimp only at h
        cases h
      · exact (show _ = _ ∧ _ = _ ∧ _ = _ ∧ _ = _ ∧ True from ⟨rfl, rfl, rfl, rfl, trivial⟩)
-- MoorGuidesModel.partMet()Z
def tX12_partMet : List EN := [
  (0, .aload_n 0, 0, 0, 0, 0, 0, []), (1, .getfield 214, 0, 12, 8, 0, 0, []), (4, .iconst 2, 0, 0, 0, 2, 0, []), (5, .if_icmp .eq 9, 0, 8, 0, 0, 0, []),
  (8, .aload_n 0, 0, 0, 0, 0, 0, []), (9, .iconst 1, 0, 0, 0, 1, 0, []), (10, .invokevirtual 238, 0, 0, 2, 0, 0, []), (13, .ireturn, 0, 0, 0, 0, 0, []),
  (14, .aload_n 0, 0, 0, 0, 0, 0, []), (15, .aload_n 0, 0, 0, 0, 0, 0, []), (16, .getfield 20, 0, 12, 31, 0, 0, []), (19, .bipush 8, 0, 0, 0, 8, 0, []),
  (21, .aload_n 0, 0, 0, 0, 0, 0, []), (22, .getfield 258, 0, 12, 20, 0, 0, []), (25, .aload_n 0, 0, 0, 0, 0, 0, []), (26, .getfield 225, 0, 12, 9, 0, 0, []),
  (29, .invokestatic 326, 0, 1, 4, 0, 0, []), (32, .putfield 245, 0, 12, 11, 0, 0, []), (35, .aload_n 0, 0, 0, 0, 0, 0, []), (36, .getfield 245, 0, 12, 11, 0, 0, []),
  (39, .ifCond .ge 11, 0, 25, 0, 0, 0, []), (42, .aload_n 0, 0, 0, 0, 0, 0, []), (43, .iconst 4, 0, 0, 0, 4, 0, []), (44, .invokevirtual 238, 0, 0, 2, 0, 0, []),
  (47, .ifCond .eq 7, 0, 27, 0, 0, 0, []), (50, .iconst 1, 0, 0, 0, 1, 0, []), (51, .goto 4, 0, 28, 0, 0, 0, []), (54, .iconst 0, 0, 0, 0, 0, 0, []),
  (55, .ireturn, 0, 0, 0, 0, 0, [])]
noncomputable def pX12_partMet (N : Nat) (w : Wd) : Option (Int32 × Wd) :=
  if (gI w 16 0 8) = (2 : Int32) then
    (callW (pX12_find N 75 0 (8 : Int32) (gI w 16 0 20) (gI w 16 0 9)) w).bind fun r1 =>
    if (gI (setI r1.2 16 0 11 r1.1) 16 0 11) < 0 then
      (callW (pX12_wrong N (4 : Int32)) (setI r1.2 16 0 11 r1.1)).bind fun r2 =>
      if r2.1 = 0 then some ((0 : Int32), r2.2) else
      some ((1 : Int32), r2.2)
    else
    some ((1 : Int32), (setI r1.2 16 0 11 r1.1))
  else
  (callW (pX12_wrong N (1 : Int32)) w).bind fun r3 =>
  retZ r3.1 r3.2
noncomputable def mX12_partMet (N : Nat) (as : List AV) (w : Wd) : Option (Int32 × Wd) := xS1 16 as fun t => xN1 t (callW (pX12_partMet N) w)
set_option maxRecDepth 100000 in
set_option maxHeartbeats 4000000 in
theorem kX12_partMet : TK cX12_partMet RX12 1 tX12_partMet := ⟨by decide +kernel, wok_of [1598, 1621, 1610, 1599, 1601, 1601] (by decide +kernel) (by decide +kernel)⟩
set_option maxRecDepth 100000 in
set_option maxHeartbeats 4000000 in
theorem crX12_partMet {N : Nat} {X : XT} (G : GX X cX12_partMet RX12) (hR : xR X = rmL 2) : CRs X tX12_partMet (oF [(mX12_wrong N), (mX12_find N)]) (oF []) (oF []) := by
  have hl : tX12_partMet.filter isInv = [(10, .invokevirtual 238, 0, 0, 2, 0, 0, []), (29, .invokestatic 326, 0, 1, 4, 0, 0, []), (44, .invokevirtual 238, 0, 0, 2, 0, 0, [])] := rfl
  intro e he
  rw [hl] at he
  simp only [List.mem_cons, List.not_mem_nil, or_false] at he
  rcases he with rfl | rfl | rfl
  · exact crI_V (idx := 238) G (by decide +kernel) (MX12_wrong N) (cw_of (ps := [1957, 1959, 81, 162, 1960]) (by decide +kernel) (by decide +kernel)) ⟨by decide +kernel, by decide +kernel, by decide +kernel⟩ (by unfold rmOk; rw [hR]; exact ⟨by decide, by decide⟩)
  · exact crI_S (idx := 326) G (by decide +kernel) (MX12_find N) (cw_of (ps := [1969, 1970, 162, 1971]) (by decide +kernel) (by decide +kernel)) ⟨by decide +kernel, by decide +kernel, by decide +kernel⟩ (by unfold rmOk; rw [hR]; exact ⟨by decide, by decide⟩)
  · exact crI_V (idx := 238) G (by decide +kernel) (MX12_wrong N) (cw_of (ps := [1957, 1959, 81, 162, 1960]) (by decide +kernel) (by decide +kernel)) ⟨by decide +kernel, by decide +kernel, by decide +kernel⟩ (by unfold rmOk; rw [hR]; exact ⟨by decide, by decide⟩)
set_option maxRecDepth 100000 in
set_option maxHeartbeats 4000000 in
theorem MX12_partMet (N : Nat) : SndI yX12_partMet cX12_partMet 1 (some .boolean) 2 1 true (mX12_partMet N) := by
  refine SndI.ofZ tX12_partMet (by decide +kernel) rfl rfl ?_ ?_
  · intro as w x h
    obtain ⟨t1, rfl, h_1⟩ := xS1_some h
    obtain ⟨rfl, h_2⟩ := xN1_some h_1
    clear h h_1
    have h := h_2
    rw [callW_eq] at h
    exact ⟨fun _ => ⟨_, _, _, rfl, rfl, _, rfl, rfl⟩, rfl, Nat.le_of_ble_eq_true rfl⟩
  · intro X G hn hR as w r h hr
    have hC := crX12_partMet (N := N) G hR
    obtain ⟨t1, rfl, h_1⟩ := xS1_some h
    obtain ⟨rfl, h_2⟩ := xN1_some h_1
    clear h h_1
    have h := h_2
    rw [callW_eq] at h
    refine run_sound (r := r) (X := X) (cc := cX12_partMet) (own := RX12) (tab := tX12_partMet) G (by rw [hn]; exact kX12_partMet) (oI := (oF [(mX12_wrong N), (mX12_find N)])) (oL := (oF [])) (oV := (oF [])) (rI := retZ) (rL := (fun _ _ => none)) (rV := (fun _ => none))
      (K := (fun j ls st w => none)) hr (fun _ _ _ _ hx => by cases hx) (fun _ _ _ hx => by cases hx) hC (fun ls => lsb [some (.inr (.inr (16, 0)))] 0 ls) (keepsP_of rfl) ?_ 31 0 [some (.inr (.inr (16, 0)))] [] w ?_ h
    · intro j ls st w hfx h
      obtain ⟨e0, -⟩ : _ = _ ∧ True := hfx
      try dsimp only at h
      cases h
    · exact (show _ = _ ∧ True from ⟨rfl, trivial⟩)
-- MoorGuidesModel.partRead1()Z
def tX12_partRead1 : List EN := [
  (0, .aload_n 0, 0, 0, 0, 0, 0, []), (1, .invokevirtual 330, 0, 0, 1, 0, 0, []), (4, .ifCond .ne 5, 0, 5, 0, 0, 0, []), (7, .iconst 0, 0, 0, 0, 0, 0, []),
  (8, .ireturn, 0, 0, 0, 0, 0, []), (9, .aload_n 0, 0, 0, 0, 0, 0, []), (10, .invokevirtual 248, 0, 0, 1, 0, 0, [(0, 0), (0, 0)]), (13, .iconst 1, 0, 0, 0, 1, 0, []),
  (14, .ireturn, 0, 0, 0, 0, 0, [])]
noncomputable def pX12_partRead1 (N : Nat) (w : Wd) : Option (Int32 × Wd) :=
  (callW (pX12_partMet N) w).bind fun r1 =>
  if r1.1 = 0 then some ((0 : Int32), r1.2) else
  (callW (pX12_token N) r1.2).bind fun w2 =>
  some ((1 : Int32), w2)
noncomputable def mX12_partRead1 (N : Nat) (as : List AV) (w : Wd) : Option (Int32 × Wd) := xS1 16 as fun t => xN1 t (callW (pX12_partRead1 N) w)
set_option maxRecDepth 100000 in
set_option maxHeartbeats 4000000 in
theorem kX12_partRead1 : TK cX12_partRead1 RX12 1 tX12_partRead1 := ⟨by decide +kernel, wok_of [] (by decide +kernel) (by decide +kernel)⟩
set_option maxRecDepth 100000 in
set_option maxHeartbeats 4000000 in
theorem crX12_partRead1 {N : Nat} {X : XT} (G : GX X cX12_partRead1 RX12) (hR : xR X = rmL 3) : CRs X tX12_partRead1 (oF [(mX12_partMet N)]) (oF []) (oF [(mX12_token N)]) := by
  have hl : tX12_partRead1.filter isInv = [(1, .invokevirtual 330, 0, 0, 1, 0, 0, []), (10, .invokevirtual 248, 0, 0, 1, 0, 0, [(0, 0), (0, 0)])] := rfl
  intro e he
  rw [hl] at he
  simp only [List.mem_cons, List.not_mem_nil, or_false] at he
  rcases he with rfl | rfl
  · exact crI_V (idx := 330) G (by decide +kernel) (MX12_partMet N) (cw_of (ps := [1983, 1985, 86, 162, 1986]) (by decide +kernel) (by decide +kernel)) ⟨by decide +kernel, by decide +kernel, by decide +kernel⟩ (by unfold rmOk; rw [hR]; exact ⟨by decide, by decide⟩)
  · exact crV_V (idx := 248) G (by decide +kernel) (MX12_token N) (cw_of (ps := [1928, 1930, 74, 162, 1931]) (by decide +kernel) (by decide +kernel)) ⟨by decide +kernel, by decide +kernel, by decide +kernel⟩ (by unfold rmOk; rw [hR]; exact ⟨by decide, by decide⟩)
set_option maxRecDepth 100000 in
set_option maxHeartbeats 4000000 in
theorem MX12_partRead1 (N : Nat) : SndI yX12_partRead1 cX12_partRead1 1 (some .boolean) 3 1 true (mX12_partRead1 N) := by
  refine SndI.ofZ tX12_partRead1 (by decide +kernel) rfl rfl ?_ ?_
  · intro as w x h
    obtain ⟨t1, rfl, h_1⟩ := xS1_some h
    obtain ⟨rfl, h_2⟩ := xN1_some h_1
    clear h h_1
    have h := h_2
    rw [callW_eq] at h
    exact ⟨fun _ => ⟨_, _, _, rfl, rfl, _, rfl, rfl⟩, rfl, Nat.le_of_ble_eq_true rfl⟩
  · intro X G hn hR as w r h hr
    have hC := crX12_partRead1 (N := N) G hR
    obtain ⟨t1, rfl, h_1⟩ := xS1_some h
    obtain ⟨rfl, h_2⟩ := xN1_some h_1
    clear h h_1
    have h := h_2
    rw [callW_eq] at h
    refine run_sound (r := r) (X := X) (cc := cX12_partRead1) (own := RX12) (tab := tX12_partRead1) G (by rw [hn]; exact kX12_partRead1) (oI := (oF [(mX12_partMet N)])) (oL := (oF [])) (oV := (oF [(mX12_token N)])) (rI := retZ) (rL := (fun _ _ => none)) (rV := (fun _ => none))
      (K := (fun j ls st w => none)) hr (fun _ _ _ _ hx => by cases hx) (fun _ _ _ hx => by cases hx) hC (fun ls => lsb [some (.inr (.inr (16, 0)))] 0 ls) (keepsP_of rfl) ?_ 11 0 [some (.inr (.inr (16, 0)))] [] w ?_ h
    · intro j ls st w hfx h
      obtain ⟨e0, -⟩ : _ = _ ∧ True := hfx
      try dsimp only at h
      cases h
    · exact (show _ = _ ∧ True from ⟨rfl, trivial⟩)
-- MoorGuidesModel.partLine()Z
def tX12_partLine : List EN := [
  (0, .aload_n 0, 0, 0, 0, 0, 0, []), (1, .getfield 258, 0, 12, 20, 0, 0, []), (4, .bipush 8, 0, 0, 0, 8, 0, []), (6, .if_icmp .ne 9, 0, 8, 0, 0, 0, []),
  (9, .aload_n 0, 0, 0, 0, 0, 0, []), (10, .iconst 2, 0, 0, 0, 2, 0, []), (11, .invokevirtual 238, 0, 0, 2, 0, 0, []), (14, .ireturn, 0, 0, 0, 0, 0, []),
  (15, .aload_n 0, 0, 0, 0, 0, 0, []), (16, .invokevirtual 248, 0, 0, 1, 0, 0, [(0, 0), (0, 0)]), (19, .bipush 8, 0, 0, 0, 8, 0, []), (21, .aload_n 0, 0, 0, 0, 0, 0, []),
  (22, .getfield 258, 0, 12, 20, 0, 0, []), (25, .iadd, 0, 0, 0, 0, 0, []), (26, .istore_n 1, 0, 0, 0, 0, 0, []), (27, .aload_n 0, 0, 0, 0, 0, 0, []),
  (28, .aload_n 0, 0, 0, 0, 0, 0, []), (29, .getfield 20, 0, 12, 31, 0, 0, []), (32, .bipush 8, 0, 0, 0, 8, 0, []), (34, .aload_n 0, 0, 0, 0, 0, 0, []),
  (35, .getfield 258, 0, 12, 20, 0, 0, []), (38, .invokevirtual 334, 0, 1, 4, 0, 0, []), (41, .ifCond .eq 13, 0, 28, 0, 0, 0, []), (44, .aload_n 0, 0, 0, 0, 0, 0, []),
  (45, .iconst 0, 0, 0, 0, 0, 0, []), (46, .bipush 100, 0, 0, 0, 100, 0, []), (48, .invokevirtual 254, 0, 2, 3, 0, 0, []), (51, .ifCond .ne 5, 0, 30, 0, 0, 0, []),
  (54, .iconst 0, 0, 0, 0, 0, 0, []), (55, .ireturn, 0, 0, 0, 0, 0, []), (56, .aload_n 0, 0, 0, 0, 0, 0, []), (57, .getfield 23, 0, 12, 32, 0, 0, []),
  (60, .iload_n 1, 0, 0, 0, 0, 0, []), (61, .aload_n 0, 0, 0, 0, 0, 0, []), (62, .getfield 245, 0, 12, 11, 0, 0, []), (65, .iastore, 0, 0, 0, 0, 0, []),
  (66, .aload_n 0, 0, 0, 0, 0, 0, []), (67, .getfield 26, 0, 12, 33, 0, 0, []), (70, .iload_n 1, 0, 0, 0, 0, 0, []), (71, .iconst 0, 0, 0, 0, 0, 0, []),
  (72, .iastore, 0, 0, 0, 0, 0, []), (73, .aload_n 0, 42, 0, 0, 0, 0, []), (74, .bipush 8, 0, 0, 0, 8, 0, []), (76, .invokevirtual 338, 0, 3, 2, 0, 0, []),
  (79, .ifCond .eq 81, 0, 92, 0, 0, 0, []), (82, .aload_n 0, 0, 0, 0, 0, 0, []), (83, .invokevirtual 248, 0, 0, 1, 0, 0, [(0, 0), (0, 0)]), (86, .aload_n 0, 0, 0, 0, 0, 0, []),
  (87, .invokevirtual 330, 0, 4, 1, 0, 0, []), (90, .ifCond .ne 5, 0, 52, 0, 0, 0, []), (93, .iconst 0, 0, 0, 0, 0, 0, []), (94, .ireturn, 0, 0, 0, 0, 0, []),
  (95, .aload_n 0, 0, 0, 0, 0, 0, []), (96, .getfield 26, 0, 12, 33, 0, 0, []), (99, .iload_n 1, 0, 0, 0, 0, 0, []), (100, .iaload, 0, 0, 0, 0, 0, []),
  (101, .aload_n 0, 0, 0, 0, 0, 0, []), (102, .getfield 245, 0, 12, 11, 0, 0, []), (105, .invokestatic 341, 0, 5, 2, 0, 0, []), (108, .ifCond .eq 9, 0, 64, 0, 0, 0, []),
  (111, .aload_n 0, 0, 0, 0, 0, 0, []), (112, .iconst 3, 0, 0, 0, 3, 0, []), (113, .invokevirtual 238, 0, 0, 2, 0, 0, []), (116, .ireturn, 0, 0, 0, 0, 0, []),
  (117, .aload_n 0, 0, 0, 0, 0, 0, []), (118, .getfield 26, 0, 12, 33, 0, 0, []), (121, .iload_n 1, 0, 0, 0, 0, 0, []), (122, .dup2, 0, 0, 0, 0, 0, []),
  (123, .iaload, 0, 0, 0, 0, 0, []), (124, .iconst 1, 0, 0, 0, 1, 0, []), (125, .aload_n 0, 0, 0, 0, 0, 0, []), (126, .getfield 245, 0, 12, 11, 0, 0, []),
  (129, .ishl, 0, 0, 0, 0, 0, []), (130, .ior, 0, 0, 0, 0, 0, []), (131, .iastore, 0, 0, 0, 0, 0, []), (132, .aload_n 0, 0, 0, 0, 0, 0, []),
  (133, .getfield 26, 0, 12, 33, 0, 0, []), (136, .bipush 8, 0, 0, 0, 8, 0, []), (138, .aload_n 0, 0, 0, 0, 0, 0, []), (139, .getfield 245, 0, 12, 11, 0, 0, []),
  (142, .iadd, 0, 0, 0, 0, 0, []), (143, .dup2, 0, 0, 0, 0, 0, []), (144, .iaload, 0, 0, 0, 0, 0, []), (145, .iconst 1, 0, 0, 0, 1, 0, []),
  (146, .aload_n 0, 0, 0, 0, 0, 0, []), (147, .getfield 258, 0, 12, 20, 0, 0, []), (150, .ishl, 0, 0, 0, 0, 0, []), (151, .ior, 0, 0, 0, 0, 0, []),
  (152, .iastore, 0, 0, 0, 0, 0, []), (153, .aload_n 0, 0, 0, 0, 0, 0, []), (154, .invokevirtual 248, 0, 0, 1, 0, 0, [(0, 0), (0, 0)]), (157, .goto (-84), 0, 41, 0, 0, 0, []),
  (160, .aload_n 0, 93, 0, 0, 0, 0, []), (161, .dup, 0, 0, 0, 0, 0, []), (162, .getfield 258, 0, 12, 20, 0, 0, []), (165, .iconst 1, 0, 0, 0, 1, 0, []),
  (166, .iadd, 0, 0, 0, 0, 0, []), (167, .putfield 258, 0, 12, 20, 0, 0, []), (170, .iconst 1, 0, 0, 0, 1, 0, []), (171, .ireturn, 0, 0, 0, 0, 0, [])]
noncomputable def fX12_partLine_92 (N : Nat) (w : Wd) : Option (Int32 × Wd) :=
  some ((1 : Int32), (setI w 16 0 20 ((gI w 16 0 20) + (1 : Int32))))
noncomputable def fX12_partLine_41 (N : Nat) : Nat → (Wd → Option (Int32 × Wd)) → Int32 → Wd → Option (Int32 × Wd)
  | 0, _, _, _ => none
  | n + 1, k92, v1, w =>
    (callW (pX12_isKey N (8 : Int32)) w).bind fun r1 =>
    if r1.1 = 0 then k92 r1.2 else
    (callW (pX12_token N) r1.2).bind fun w2 =>
    (callW (pX12_partMet N) w2).bind fun r3 =>
    if r3.1 = 0 then some ((0 : Int32), r3.2) else
    (ldI r3.2 77 0 v1 16).bind fun x4 =>
    (callW (pX12_isOf N x4 (gI r3.2 16 0 11)) r3.2).bind fun r5 =>
    if r5.1 = 0 then
      (ldI r5.2 77 0 v1 16).bind fun x6 =>
      (stI r5.2 77 0 v1 16 (x6 ||| ((1 : Int32) <<< ((gI r5.2 16 0 11) &&& (31 : Int32))))).bind fun w7 =>
      (ldI w7 77 0 ((8 : Int32) + (gI w7 16 0 11)) 16).bind fun x8 =>
      (stI w7 77 0 ((8 : Int32) + (gI w7 16 0 11)) 16 (x8 ||| ((1 : Int32) <<< ((gI w7 16 0 20) &&& (31 : Int32))))).bind fun w9 =>
      (callW (pX12_token N) w9).bind fun w10 =>
      callW (fX12_partLine_41 N n k92 v1) w10
    else
    (callW (pX12_wrong N (3 : Int32)) r5.2).bind fun r11 =>
    retZ r11.1 r11.2
noncomputable def pX12_partLine (N : Nat) (w : Wd) : Option (Int32 × Wd) :=
  if (gI w 16 0 20) = (8 : Int32) then
    (callW (pX12_wrong N (2 : Int32)) w).bind fun r1 =>
    retZ r1.1 r1.2
  else
  (callW (pX12_token N) w).bind fun w2 =>
  (callW (pX12_newName N 75 0 (8 : Int32) (gI w2 16 0 20)) w2).bind fun r3 =>
  if r3.1 = 0 then some ((0 : Int32), r3.2) else
  (callW (pX12_number N (0 : Int32) (100 : Int32)) r3.2).bind fun r4 =>
  if r4.1 = 0 then some ((0 : Int32), r4.2) else
  (stI r4.2 76 0 ((8 : Int32) + (gI w2 16 0 20)) 16 (gI r4.2 16 0 11)).bind fun w5 =>
  (stI w5 77 0 ((8 : Int32) + (gI w2 16 0 20)) 16 (0 : Int32)).bind fun w6 =>
  callW (fX12_partLine_41 N N (fX12_partLine_92 N) ((8 : Int32) + (gI w2 16 0 20))) w6
noncomputable def mX12_partLine (N : Nat) (as : List AV) (w : Wd) : Option (Int32 × Wd) := xS1 16 as fun t => xN1 t (callW (pX12_partLine N) w)
set_option maxRecDepth 100000 in
set_option maxHeartbeats 4000000 in
theorem kX12_partLine : TK cX12_partLine RX12 2 tX12_partLine := ⟨by decide +kernel, wok_of [1610, 1610, 1621, 1610, 1622, 1601, 1623, 1623, 1601, 1623, 1601, 1623, 1601, 1610, 1610, 1610] (by decide +kernel) (by decide +kernel)⟩
set_option maxRecDepth 100000 in
set_option maxHeartbeats 4000000 in
theorem sX12_partLine_92 {N : Nat} {X : XT} (G : GX X cX12_partLine RX12) (hn : xnL X = 2) (hC : CRs X tX12_partLine (oF [(mX12_wrong N), (mX12_newName N), (mX12_number N), (mX12_isKey N), (mX12_partMet N), (mX12_isOf N)]) (oF []) (oF [(mX12_token N)])) {r : Int32 × Wd} (hr : RTZ X cX12_partLine r)  : ∀ (w : Wd), fX12_partLine_92 N w = some r → WW X (pcAt tX12_partLine 92) [some (.inr (.inr (16, 0))), none] [] w := by
  intro w h
  refine run_sound (r := r) (X := X) (cc := cX12_partLine) (own := RX12) (tab := tX12_partLine) G (by rw [hn]; exact kX12_partLine) (oI := (oF [(mX12_wrong N), (mX12_newName N), (mX12_number N), (mX12_isKey N), (mX12_partMet N), (mX12_isOf N)])) (oL := (oF [])) (oV := (oF [(mX12_token N)])) (rI := retZ) (rL := (fun _ _ => none)) (rV := (fun _ => none))
    (K := (fun j ls st w => none)) hr (fun _ _ _ _ hx => by cases hx) (fun _ _ _ hx => by cases hx) hC (fun ls => lsb [some (.inr (.inr (16, 0))), none] 0 ls) (keepsP_of rfl) ?_ 102 92 [some (.inr (.inr (16, 0))), none] [] w ?_ h
  · intro j ls st w hfx h
    obtain ⟨e0, -⟩ : _ = _ ∧ True := hfx
    try dsimp only at h
    cases h
  · exact (show _ = _ ∧ True from ⟨rfl, trivial⟩)
set_option maxRecDepth 100000 in
set_option maxHeartbeats 4000000 in
theorem sX12_partLine_41 {N : Nat} {X : XT} (G : GX X cX12_partLine RX12) (hn : xnL X = 2) (hC : CRs X tX12_partLine (oF [(mX12_wrong N), (mX12_newName N), (mX12_number N), (mX12_isKey N), (mX12_partMet N), (mX12_isOf N)]) (oF []) (oF [(mX12_token N)])) {r : Int32 × Wd} (hr : RTZ X cX12_partLine r)  : ∀ (n : Nat) (k92 : Wd → Option (Int32 × Wd)) (v1 : Int32) (w : Wd), fX12_partLine_41 N n k92 v1 w = some r → (∀ (w : Wd), k92 w = some r → WW X (pcAt tX12_partLine 92) [some (.inr (.inr (16, 0))), none] [] w) → WW X (pcAt tX12_partLine 41) [some (.inr (.inr (16, 0))), some (.inl v1)] [] w := by
  intro n
  induction n with
  | zero => intro k92 v1 w h h92; cases h
  | succ n ih =>
    intro k92 v1 w h h92
    refine run_sound (r := r) (X := X) (cc := cX12_partLine) (own := RX12) (tab := tX12_partLine) G (by rw [hn]; exact kX12_partLine) (oI := (oF [(mX12_wrong N), (mX12_newName N), (mX12_number N), (mX12_isKey N), (mX12_partMet N), (mX12_isOf N)])) (oL := (oF [])) (oV := (oF [(mX12_token N)])) (rI := retZ) (rL := (fun _ _ => none)) (rV := (fun _ => none))
      (K := (fun j ls st w => if j = 41 then (lgI ls 1 fun v1 => st0 st (callW (fX12_partLine_41 N n k92 v1) w)) else if j = 92 then (st0 st (k92 w)) else none)) hr (fun _ _ _ _ hx => by cases hx) (fun _ _ _ hx => by cases hx) hC (fun ls => lsb [some (.inr (.inr (16, 0))), none] 0 ls) (keepsP_of rfl) ?_ 102 41 [some (.inr (.inr (16, 0))), some (.inl v1)] [] w ?_ h
    · intro j ls st w hfx h
      obtain ⟨e0, -⟩ : _ = _ ∧ True := hfx
      try dsimp only at h
      by_cases hj : j = 41
      · subst hj
        rw [if_pos rfl] at h
        obtain ⟨v1, e1, h_1⟩ := lgI_some h
        obtain ⟨rfl, h_2⟩ := st0_some h_1
        clear h h_1
        have h := h_2
        try rw [callW_eq] at h
        exact WW.le (a := [some (.inr (.inr (16, 0))), some (.inl v1)]) (by rw [hn]; rfl) (show _ = _ ∧ _ = _ ∧ True from ⟨e0, e1, trivial⟩) (ih k92 v1 w h h92)
      rw [if_neg hj] at h
      by_cases hj : j = 92
      · subst hj
        rw [if_pos rfl] at h
        obtain ⟨rfl, h_1⟩ := st0_some h
        clear h
        have h := h_1
        try rw [callW_eq] at h
        exact WW.le (a := [some (.inr (.inr (16, 0))), none]) (by rw [hn]; rfl) (show _ = _ ∧ True from ⟨e0, trivial⟩) (h92 w h)
      rw [if_neg hj] at h
      cases h
    · exact (show _ = _ ∧ True from ⟨rfl, trivial⟩)
set_option maxRecDepth 100000 in
set_option maxHeartbeats 4000000 in
theorem crX12_partLine {N : Nat} {X : XT} (G : GX X cX12_partLine RX12) (hR : xR X = rmL 4) : CRs X tX12_partLine (oF [(mX12_wrong N), (mX12_newName N), (mX12_number N), (mX12_isKey N), (mX12_partMet N), (mX12_isOf N)]) (oF []) (oF [(mX12_token N)]) := by
  have hl : tX12_partLine.filter isInv = [(11, .invokevirtual 238, 0, 0, 2, 0, 0, []), (16, .invokevirtual 248, 0, 0, 1, 0, 0, [(0, 0), (0, 0)]), (38, .invokevirtual 334, 0, 1, 4, 0, 0, []), (48, .invokevirtual 254, 0, 2, 3, 0, 0, []), (76, .invokevirtual 338, 0, 3, 2, 0, 0, []), (83, .invokevirtual 248, 0, 0, 1, 0, 0, [(0, 0), (0, 0)]), (87, .invokevirtual 330, 0, 4, 1, 0, 0, []), (105, .invokestatic 341, 0, 5, 2, 0, 0, []), (113, .invokevirtual 238, 0, 0, 2, 0, 0, []), (154, .invokevirtual 248, 0, 0, 1, 0, 0, [(0, 0), (0, 0)])] := rfl
  intro e he
  rw [hl] at he
  simp only [List.mem_cons, List.not_mem_nil, or_false] at he
  rcases he with rfl | rfl | rfl | rfl | rfl | rfl | rfl | rfl | rfl | rfl
  · exact crI_V (idx := 238) G (by decide +kernel) (MX12_wrong N) (cw_of (ps := [1957, 1959, 81, 162, 1960]) (by decide +kernel) (by decide +kernel)) ⟨by decide +kernel, by decide +kernel, by decide +kernel⟩ (by unfold rmOk; rw [hR]; exact ⟨by decide, by decide⟩)
  · exact crV_V (idx := 248) G (by decide +kernel) (MX12_token N) (cw_of (ps := [1928, 1930, 74, 162, 1931]) (by decide +kernel) (by decide +kernel)) ⟨by decide +kernel, by decide +kernel, by decide +kernel⟩ (by unfold rmOk; rw [hR]; exact ⟨by decide, by decide⟩)
  · exact crI_V (idx := 334) G (by decide +kernel) (MX12_newName N) (cw_of (ps := [1965, 1967, 83, 162, 1968]) (by decide +kernel) (by decide +kernel)) ⟨by decide +kernel, by decide +kernel, by decide +kernel⟩ (by unfold rmOk; rw [hR]; exact ⟨by decide, by decide⟩)
  · exact crI_V (idx := 254) G (by decide +kernel) (MX12_number N) (cw_of (ps := [1972, 1974, 84, 162, 1975]) (by decide +kernel) (by decide +kernel)) ⟨by decide +kernel, by decide +kernel, by decide +kernel⟩ (by unfold rmOk; rw [hR]; exact ⟨by decide, by decide⟩)
  · exact crI_V (idx := 338) G (by decide +kernel) (MX12_isKey N) (cw_of (ps := [1979, 1981, 85, 162, 1982]) (by decide +kernel) (by decide +kernel)) ⟨by decide +kernel, by decide +kernel, by decide +kernel⟩ (by unfold rmOk; rw [hR]; exact ⟨by decide, by decide⟩)
  · exact crV_V (idx := 248) G (by decide +kernel) (MX12_token N) (cw_of (ps := [1928, 1930, 74, 162, 1931]) (by decide +kernel) (by decide +kernel)) ⟨by decide +kernel, by decide +kernel, by decide +kernel⟩ (by unfold rmOk; rw [hR]; exact ⟨by decide, by decide⟩)
  · exact crI_V (idx := 330) G (by decide +kernel) (MX12_partMet N) (cw_of (ps := [1983, 1985, 86, 162, 1986]) (by decide +kernel) (by decide +kernel)) ⟨by decide +kernel, by decide +kernel, by decide +kernel⟩ (by unfold rmOk; rw [hR]; exact ⟨by decide, by decide⟩)
  · exact crI_S (idx := 341) G (by decide +kernel) (MX12_isOf N) (cw_of (ps := [1579, 1580, 162, 1581]) (by decide +kernel) (by decide +kernel)) ⟨by decide +kernel, by decide +kernel, by decide +kernel⟩ (by unfold rmOk; rw [hR]; exact ⟨by decide, by decide⟩)
  · exact crI_V (idx := 238) G (by decide +kernel) (MX12_wrong N) (cw_of (ps := [1957, 1959, 81, 162, 1960]) (by decide +kernel) (by decide +kernel)) ⟨by decide +kernel, by decide +kernel, by decide +kernel⟩ (by unfold rmOk; rw [hR]; exact ⟨by decide, by decide⟩)
  · exact crV_V (idx := 248) G (by decide +kernel) (MX12_token N) (cw_of (ps := [1928, 1930, 74, 162, 1931]) (by decide +kernel) (by decide +kernel)) ⟨by decide +kernel, by decide +kernel, by decide +kernel⟩ (by unfold rmOk; rw [hR]; exact ⟨by decide, by decide⟩)
set_option maxRecDepth 100000 in
set_option maxHeartbeats 4000000 in
theorem MX12_partLine (N : Nat) : SndI yX12_partLine cX12_partLine 2 (some .boolean) 4 1 true (mX12_partLine N) := by
  refine SndI.ofZ tX12_partLine (by decide +kernel) rfl rfl ?_ ?_
  · intro as w x h
    obtain ⟨t1, rfl, h_1⟩ := xS1_some h
    obtain ⟨rfl, h_2⟩ := xN1_some h_1
    clear h h_1
    have h := h_2
    rw [callW_eq] at h
    exact ⟨fun _ => ⟨_, _, _, rfl, rfl, _, rfl, rfl⟩, rfl, Nat.le_of_ble_eq_true rfl⟩
  · intro X G hn hR as w r h hr
    have hC := crX12_partLine (N := N) G hR
    obtain ⟨t1, rfl, h_1⟩ := xS1_some h
    obtain ⟨rfl, h_2⟩ := xN1_some h_1
    clear h h_1
    have h := h_2
    rw [callW_eq] at h
    refine run_sound (r := r) (X := X) (cc := cX12_partLine) (own := RX12) (tab := tX12_partLine) G (by rw [hn]; exact kX12_partLine) (oI := (oF [(mX12_wrong N), (mX12_newName N), (mX12_number N), (mX12_isKey N), (mX12_partMet N), (mX12_isOf N)])) (oL := (oF [])) (oV := (oF [(mX12_token N)])) (rI := retZ) (rL := (fun _ _ => none)) (rV := (fun _ => none))
      (K := (fun j ls st w => if j = 41 then (lgI ls 1 fun v1 => st0 st (callW (fX12_partLine_41 N N (fX12_partLine_92 N) v1) w)) else none)) hr (fun _ _ _ _ hx => by cases hx) (fun _ _ _ hx => by cases hx) hC (fun ls => lsb [some (.inr (.inr (16, 0))), none] 0 ls) (keepsP_of rfl) ?_ 102 0 [some (.inr (.inr (16, 0))), none] [] w ?_ h
    · intro j ls st w hfx h
      obtain ⟨e0, -⟩ : _ = _ ∧ True := hfx
      try dsimp only at h
      by_cases hj : j = 41
      · subst hj
        rw [if_pos rfl] at h
        obtain ⟨v1, e1, h_1⟩ := lgI_some h
        obtain ⟨rfl, h_2⟩ := st0_some h_1
        clear h h_1
        have h := h_2
        try rw [callW_eq] at h
        exact WW.le (a := [some (.inr (.inr (16, 0))), some (.inl v1)]) (by rw [hn]; rfl) (show _ = _ ∧ _ = _ ∧ True from ⟨e0, e1, trivial⟩) (sX12_partLine_41 G hn hC hr N (fX12_partLine_92 N) v1 w h (fun w h => (sX12_partLine_92 G hn hC hr w h)))
      rw [if_neg hj] at h
      cases h
    · exact (show _ = _ ∧ True from ⟨rfl, trivial⟩)
-- MoorGuidesModel.knowsRead(I)Z
def tX12_knowsRead : List EN := [
  (0, .aload_n 0, 0, 0, 0, 0, 0, []), (1, .invokevirtual 248, 0, 0, 1, 0, 0, [(0, 0), (0, 0)]), (4, .aload_n 0, 0, 0, 0, 0, 0, []), (5, .invokevirtual 330, 0, 0, 1, 0, 0, []),
  (8, .ifCond .ne 5, 0, 7, 0, 0, 0, []), (11, .iconst 0, 0, 0, 0, 0, 0, []), (12, .ireturn, 0, 0, 0, 0, 0, []), (13, .aload_n 0, 0, 0, 0, 0, 0, []),
  (14, .getfield 32, 0, 12, 35, 0, 0, []), (17, .iload_n 1, 0, 0, 0, 0, 0, []), (18, .iaload, 0, 0, 0, 0, 0, []), (19, .aload_n 0, 0, 0, 0, 0, 0, []),
  (20, .getfield 245, 0, 12, 11, 0, 0, []), (23, .invokestatic 341, 0, 1, 2, 0, 0, []), (26, .ifCond .eq 9, 0, 19, 0, 0, 0, []), (29, .aload_n 0, 0, 0, 0, 0, 0, []),
  (30, .iconst 3, 0, 0, 0, 3, 0, []), (31, .invokevirtual 238, 0, 2, 2, 0, 0, []), (34, .ireturn, 0, 0, 0, 0, 0, []), (35, .aload_n 0, 0, 0, 0, 0, 0, []),
  (36, .getfield 32, 0, 12, 35, 0, 0, []), (39, .iload_n 1, 0, 0, 0, 0, 0, []), (40, .dup2, 0, 0, 0, 0, 0, []), (41, .iaload, 0, 0, 0, 0, 0, []),
  (42, .iconst 1, 0, 0, 0, 1, 0, []), (43, .aload_n 0, 0, 0, 0, 0, 0, []), (44, .getfield 245, 0, 12, 11, 0, 0, []), (47, .ishl, 0, 0, 0, 0, 0, []),
  (48, .ior, 0, 0, 0, 0, 0, []), (49, .iastore, 0, 0, 0, 0, 0, []), (50, .aload_n 0, 0, 0, 0, 0, 0, []), (51, .invokevirtual 248, 0, 0, 1, 0, 0, [(0, 0), (0, 0)]),
  (54, .iconst 1, 0, 0, 0, 1, 0, []), (55, .ireturn, 0, 0, 0, 0, 0, [])]
noncomputable def pX12_knowsRead (N : Nat) (a1 : Int32) (w : Wd) : Option (Int32 × Wd) :=
  (callW (pX12_token N) w).bind fun w1 =>
  (callW (pX12_partMet N) w1).bind fun r2 =>
  if r2.1 = 0 then some ((0 : Int32), r2.2) else
  (ldI r2.2 79 0 a1 12).bind fun x3 =>
  (callW (pX12_isOf N x3 (gI r2.2 16 0 11)) r2.2).bind fun r4 =>
  if r4.1 = 0 then
    (ldI r4.2 79 0 a1 12).bind fun x5 =>
    (stI r4.2 79 0 a1 12 (x5 ||| ((1 : Int32) <<< ((gI r4.2 16 0 11) &&& (31 : Int32))))).bind fun w6 =>
    (callW (pX12_token N) w6).bind fun w7 =>
    some ((1 : Int32), w7)
  else
  (callW (pX12_wrong N (3 : Int32)) r4.2).bind fun r8 =>
  retZ r8.1 r8.2
noncomputable def mX12_knowsRead (N : Nat) (as : List AV) (w : Wd) : Option (Int32 × Wd) := xS1 16 as fun t => xI1 t fun a1 t => xN1 t (callW (pX12_knowsRead N a1) w)
set_option maxRecDepth 100000 in
set_option maxHeartbeats 4000000 in
theorem kX12_knowsRead : TK cX12_knowsRead RX12 2 tX12_knowsRead := ⟨by decide +kernel, wok_of [1625, 1601, 1625, 1601] (by decide +kernel) (by decide +kernel)⟩
set_option maxRecDepth 100000 in
set_option maxHeartbeats 4000000 in
theorem crX12_knowsRead {N : Nat} {X : XT} (G : GX X cX12_knowsRead RX12) (hR : xR X = rmL 3) : CRs X tX12_knowsRead (oF [(mX12_partMet N), (mX12_isOf N), (mX12_wrong N)]) (oF []) (oF [(mX12_token N)]) := by
  have hl : tX12_knowsRead.filter isInv = [(1, .invokevirtual 248, 0, 0, 1, 0, 0, [(0, 0), (0, 0)]), (5, .invokevirtual 330, 0, 0, 1, 0, 0, []), (23, .invokestatic 341, 0, 1, 2, 0, 0, []), (31, .invokevirtual 238, 0, 2, 2, 0, 0, []), (51, .invokevirtual 248, 0, 0, 1, 0, 0, [(0, 0), (0, 0)])] := rfl
  intro e he
  rw [hl] at he
  simp only [List.mem_cons, List.not_mem_nil, or_false] at he
  rcases he with rfl | rfl | rfl | rfl | rfl
  · exact crV_V (idx := 248) G (by decide +kernel) (MX12_token N) (cw_of (ps := [1928, 1930, 74, 162, 1931]) (by decide +kernel) (by decide +kernel)) ⟨by decide +kernel, by decide +kernel, by decide +kernel⟩ (by unfold rmOk; rw [hR]; exact ⟨by decide, by decide⟩)
  · exact crI_V (idx := 330) G (by decide +kernel) (MX12_partMet N) (cw_of (ps := [1983, 1985, 86, 162, 1986]) (by decide +kernel) (by decide +kernel)) ⟨by decide +kernel, by decide +kernel, by decide +kernel⟩ (by unfold rmOk; rw [hR]; exact ⟨by decide, by decide⟩)
  · exact crI_S (idx := 341) G (by decide +kernel) (MX12_isOf N) (cw_of (ps := [1579, 1580, 162, 1581]) (by decide +kernel) (by decide +kernel)) ⟨by decide +kernel, by decide +kernel, by decide +kernel⟩ (by unfold rmOk; rw [hR]; exact ⟨by decide, by decide⟩)
  · exact crI_V (idx := 238) G (by decide +kernel) (MX12_wrong N) (cw_of (ps := [1957, 1959, 81, 162, 1960]) (by decide +kernel) (by decide +kernel)) ⟨by decide +kernel, by decide +kernel, by decide +kernel⟩ (by unfold rmOk; rw [hR]; exact ⟨by decide, by decide⟩)
  · exact crV_V (idx := 248) G (by decide +kernel) (MX12_token N) (cw_of (ps := [1928, 1930, 74, 162, 1931]) (by decide +kernel) (by decide +kernel)) ⟨by decide +kernel, by decide +kernel, by decide +kernel⟩ (by unfold rmOk; rw [hR]; exact ⟨by decide, by decide⟩)
set_option maxRecDepth 100000 in
set_option maxHeartbeats 4000000 in
theorem MX12_knowsRead (N : Nat) : SndI yX12_knowsRead cX12_knowsRead 2 (some .boolean) 3 2 true (mX12_knowsRead N) := by
  refine SndI.ofZ tX12_knowsRead (by decide +kernel) rfl rfl ?_ ?_
  · intro as w x h
    obtain ⟨t1, rfl, h_1⟩ := xS1_some h
    obtain ⟨a1, t2, rfl, h_2⟩ := xI1_some h_1
    obtain ⟨rfl, h_3⟩ := xN1_some h_2
    clear h h_1 h_2
    have h := h_3
    rw [callW_eq] at h
    exact ⟨fun _ => ⟨_, _, _, rfl, rfl, _, rfl, rfl⟩, rfl, Nat.le_of_ble_eq_true rfl⟩
  · intro X G hn hR as w r h hr
    have hC := crX12_knowsRead (N := N) G hR
    obtain ⟨t1, rfl, h_1⟩ := xS1_some h
    obtain ⟨a1, t2, rfl, h_2⟩ := xI1_some h_1
    obtain ⟨rfl, h_3⟩ := xN1_some h_2
    clear h h_1 h_2
    have h := h_3
    rw [callW_eq] at h
    refine run_sound (r := r) (X := X) (cc := cX12_knowsRead) (own := RX12) (tab := tX12_knowsRead) G (by rw [hn]; exact kX12_knowsRead) (oI := (oF [(mX12_partMet N), (mX12_isOf N), (mX12_wrong N)])) (oL := (oF [])) (oV := (oF [(mX12_token N)])) (rI := retZ) (rL := (fun _ _ => none)) (rV := (fun _ => none))
      (K := (fun j ls st w => none)) hr (fun _ _ _ _ hx => by cases hx) (fun _ _ _ hx => by cases hx) hC (fun ls => lsb [some (.inr (.inr (16, 0))), some (.inl a1)] 0 ls) (keepsP_of rfl) ?_ 36 0 [some (.inr (.inr (16, 0))), some (.inl a1)] [] w ?_ h
    · intro j ls st w hfx h
      obtain ⟨e0, e1, -⟩ : _ = _ ∧ _ = _ ∧ True := hfx
      try dsimp only at h
      cases h
    · exact (show _ = _ ∧ _ = _ ∧ True from ⟨rfl, rfl, trivial⟩)

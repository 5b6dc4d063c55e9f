-- MoorGuidesModel.layGuides()V
def tX12_layGuides : List EN := [
  (0, .aload_n 0, 0, 0, 0, 0, 0, []), (1, .getfield 531, 0, 12, 82, 0, 0, []), (4, .iconst 1, 0, 0, 0, 1, 0, []), (5, .isub, 0, 0, 0, 0, 0, []),
  (6, .istore_n 1, 0, 0, 0, 0, 0, []), (7, .iload_n 1, 6, 0, 0, 0, 0, []), (8, .ifCond .lt 143, 0, 85, 0, 0, 0, []), (11, .iconst 0, 0, 0, 0, 0, 0, []),
  (12, .istore_n 2, 0, 0, 0, 0, 0, []), (13, .iload_n 2, 10, 0, 0, 0, 0, []), (14, .bipush 7, 0, 0, 0, 7, 0, []), (16, .if_icmp .ge 129, 0, 83, 0, 0, 0, []),
  (19, .iload_n 1, 0, 0, 0, 0, 0, []), (20, .aload_n 0, 0, 0, 0, 0, 0, []), (21, .getfield 531, 0, 12, 82, 0, 0, []), (24, .iconst 1, 0, 0, 0, 1, 0, []),
  (25, .isub, 0, 0, 0, 0, 0, []), (26, .if_icmp .ne 7, 0, 20, 0, 0, 0, []), (29, .iconst 0, 0, 0, 0, 0, 0, []), (30, .goto 5, 0, 21, 0, 0, 0, []),
  (33, .bipush 99, 0, 0, 0, 99, 0, []), (35, .istore_n 3, 0, 0, 0, 0, 0, []), (36, .iconst 0, 0, 0, 0, 0, 0, []), (37, .istore 4, 0, 0, 0, 0, 0, []),
  (39, .iload 4, 25, 0, 0, 0, 0, []), (41, .bipush 7, 0, 0, 0, 7, 0, []), (43, .if_icmp .ge 61, 0, 60, 0, 0, 0, []), (46, .iload_n 1, 0, 0, 0, 0, 0, []),
  (47, .aload_n 0, 0, 0, 0, 0, 0, []), (48, .getfield 531, 0, 12, 82, 0, 0, []), (51, .iconst 1, 0, 0, 0, 1, 0, []), (52, .isub, 0, 0, 0, 0, 0, []),
  (53, .if_icmp .ge 51, 0, 60, 0, 0, 0, []), (56, .aload_n 0, 0, 0, 0, 0, 0, []), (57, .getfield 142, 0, 12, 81, 0, 0, []), (60, .bipush 7, 0, 0, 0, 7, 0, []),
  (62, .iload_n 1, 0, 0, 0, 0, 0, []), (63, .imul, 0, 0, 0, 0, 0, []), (64, .bipush 7, 0, 0, 0, 7, 0, []), (66, .iadd, 0, 0, 0, 0, 0, []),
  (67, .iload 4, 0, 0, 0, 0, 0, []), (69, .iadd, 0, 0, 0, 0, 0, []), (70, .iaload, 0, 0, 0, 0, 0, []), (71, .iload_n 2, 0, 0, 0, 0, 0, []),
  (72, .iload 4, 0, 0, 0, 0, 0, []), (74, .if_icmp .ne 7, 0, 48, 0, 0, 0, []), (77, .iconst 0, 0, 0, 0, 0, 0, []), (78, .goto 4, 0, 49, 0, 0, 0, []),
  (81, .iconst 1, 0, 0, 0, 1, 0, []), (82, .iadd, 50, 0, 0, 0, 0, []), (83, .istore 5, 0, 0, 0, 0, 0, []), (85, .iload 5, 0, 0, 0, 0, 0, []),
  (87, .iload_n 3, 0, 0, 0, 0, 0, []), (88, .if_icmp .ge 8, 0, 56, 0, 0, 0, []), (91, .iload 5, 0, 0, 0, 0, 0, []), (93, .goto 4, 0, 57, 0, 0, 0, []),
  (96, .iload_n 3, 0, 0, 0, 0, 0, []), (97, .istore_n 3, 0, 0, 0, 0, 0, []), (98, .iinc 4 1, 0, 0, 0, 1, 0, []), (101, .goto (-62), 0, 24, 0, 0, 0, []),
  (104, .aload_n 0, 61, 0, 0, 0, 0, []), (105, .getfield 142, 0, 12, 81, 0, 0, []), (108, .bipush 7, 0, 0, 0, 7, 0, []), (110, .iload_n 1, 0, 0, 0, 0, 0, []),
  (111, .imul, 0, 0, 0, 0, 0, []), (112, .iload_n 2, 0, 0, 0, 0, 0, []), (113, .iadd, 0, 0, 0, 0, 0, []), (114, .aload_n 0, 0, 0, 0, 0, 0, []),
  (115, .getfield 130, 0, 12, 77, 0, 0, []), (118, .iload_n 2, 0, 0, 0, 0, 0, []), (119, .iaload, 0, 0, 0, 0, 0, []), (120, .aload_n 0, 0, 0, 0, 0, 0, []),
  (121, .getfield 136, 0, 12, 79, 0, 0, []), (124, .iload_n 1, 0, 0, 0, 0, 0, []), (125, .iaload, 0, 0, 0, 0, 0, []), (126, .invokestatic 341, 0, 0, 2, 0, 0, []),
  (129, .ifCond .eq 7, 0, 79, 0, 0, 0, []), (132, .iload_n 3, 0, 0, 0, 0, 0, []), (133, .goto 5, 0, 80, 0, 0, 0, []), (136, .bipush 99, 0, 0, 0, 99, 0, []),
  (138, .iastore, 0, 0, 0, 0, 0, []), (139, .iinc 2 1, 0, 0, 0, 1, 0, []), (142, .goto (-129), 0, 9, 0, 0, 0, []), (145, .iinc 1 (-1), 84, 0, 0, (-1), 0, []),
  (148, .goto (-141), 0, 5, 0, 0, 0, []), (151, .aload_n 0, 86, 0, 0, 0, 0, []), (152, .getfield 534, 0, 12, 83, 0, 0, []), (155, .istore_n 1, 0, 0, 0, 0, 0, []),
  (156, .iconst 0, 0, 0, 0, 0, 0, []), (157, .istore_n 2, 0, 0, 0, 0, 0, []), (158, .iload_n 2, 91, 0, 0, 0, 0, []), (159, .aload_n 0, 0, 0, 0, 0, 0, []),
  (160, .getfield 531, 0, 12, 82, 0, 0, []), (163, .if_icmp .ge 73, 0, 138, 0, 0, 0, []), (166, .iconst 0, 0, 0, 0, 0, 0, []), (167, .istore_n 3, 0, 0, 0, 0, 0, []),
  (168, .aload_n 0, 97, 0, 0, 0, 0, []), (169, .getfield 142, 0, 12, 81, 0, 0, []), (172, .bipush 7, 0, 0, 0, 7, 0, []), (174, .iload_n 2, 0, 0, 0, 0, 0, []),
  (175, .imul, 0, 0, 0, 0, 0, []), (176, .iload_n 3, 0, 0, 0, 0, 0, []), (177, .iadd, 0, 0, 0, 0, 0, []), (178, .iaload, 0, 0, 0, 0, 0, []),
  (179, .iload_n 2, 0, 0, 0, 0, 0, []), (180, .ifCond .le 19, 0, 116, 0, 0, 0, []), (183, .aload_n 0, 0, 0, 0, 0, 0, []), (184, .getfield 139, 0, 12, 80, 0, 0, []),
  (187, .iload_n 2, 0, 0, 0, 0, 0, []), (188, .iconst 1, 0, 0, 0, 1, 0, []), (189, .isub, 0, 0, 0, 0, 0, []), (190, .iaload, 0, 0, 0, 0, 0, []),
  (191, .iload_n 3, 0, 0, 0, 0, 0, []), (192, .if_icmp .eq 7, 0, 116, 0, 0, 0, []), (195, .iconst 1, 0, 0, 0, 1, 0, []), (196, .goto 4, 0, 117, 0, 0, 0, []),
  (199, .iconst 0, 0, 0, 0, 0, 0, []), (200, .iadd, 0, 0, 0, 0, 0, []), (201, .iload_n 1, 0, 0, 0, 0, 0, []), (202, .if_icmp .eq 9, 0, 122, 0, 0, 0, []),
  (205, .iinc 3 1, 0, 0, 0, 1, 0, []), (208, .goto (-40), 0, 96, 0, 0, 0, []), (211, .aload_n 0, 123, 0, 0, 0, 0, []), (212, .getfield 142, 0, 12, 81, 0, 0, []),
  (215, .bipush 7, 0, 0, 0, 7, 0, []), (217, .iload_n 2, 0, 0, 0, 0, 0, []), (218, .imul, 0, 0, 0, 0, 0, []), (219, .iload_n 3, 0, 0, 0, 0, 0, []),
  (220, .iadd, 0, 0, 0, 0, 0, []), (221, .iaload, 0, 0, 0, 0, 0, []), (222, .istore_n 1, 0, 0, 0, 0, 0, []), (223, .aload_n 0, 0, 0, 0, 0, 0, []),
  (224, .getfield 139, 0, 12, 80, 0, 0, []), (227, .iload_n 2, 0, 0, 0, 0, 0, []), (228, .iload_n 3, 0, 0, 0, 0, 0, []), (229, .iastore, 0, 0, 0, 0, 0, []),
  (230, .iinc 2 1, 0, 0, 0, 1, 0, []), (233, .goto (-75), 0, 90, 0, 0, 0, []), (236, .return_, 0, 0, 0, 0, 0, [])]
noncomputable def fX12_layGuides_122 (N : Nat) (k90 : Int32 → Int32 → Wd → Option (Wd)) (v2 : Int32) (v3 : Int32) (w : Wd) : Option (Wd) :=
  (ldI w 115 0 (((7 : Int32) * v2) + v3) 63).bind fun x1 =>
  (stI w 114 0 v2 9 v3).bind fun w2 =>
  k90 x1 (v2 + (1 : Int32)) w2
noncomputable def fX12_layGuides_96 (N : Nat) : Nat → (Int32 → Int32 → Wd → Option (Wd)) → Int32 → Int32 → Int32 → Wd → Option (Wd)
  | 0, _, _, _, _, _ => none
  | n + 1, k122, v1, v2, v3, w =>
    (ldI w 115 0 (((7 : Int32) * v2) + v3) 63).bind fun x1 =>
    if 0 < v2 then
      (ldI w 114 0 (v2 - (1 : Int32)) 9).bind fun x2 =>
      if x2 = v3 then
        if (x1 + (0 : Int32)) = v1 then k122 v2 v3 w else
        callW (fX12_layGuides_96 N n k122 v1 v2 (v3 + (1 : Int32))) w
      else
      if (x1 + (1 : Int32)) = v1 then k122 v2 v3 w else
      callW (fX12_layGuides_96 N n k122 v1 v2 (v3 + (1 : Int32))) w
    else
    if (x1 + (0 : Int32)) = v1 then k122 v2 v3 w else
    callW (fX12_layGuides_96 N n k122 v1 v2 (v3 + (1 : Int32))) w
noncomputable def fX12_layGuides_90 (N : Nat) : Nat → Int32 → Int32 → Wd → Option (Wd)
  | 0, _, _, _ => none
  | n + 1, v1, v2, w =>
    if v2 < (gI w 16 0 82) then callW (fX12_layGuides_96 N N (fX12_layGuides_122 N (fX12_layGuides_90 N n)) v1 v2 (0 : Int32)) w else
    some w
noncomputable def fX12_layGuides_85 (N : Nat) (w : Wd) : Option (Wd) :=
  callW (fX12_layGuides_90 N N (gI w 16 0 83) (0 : Int32)) w
noncomputable def fX12_layGuides_83 (N : Nat) (k5 : Int32 → Wd → Option (Wd)) (v1 : Int32) (w : Wd) : Option (Wd) :=
  k5 (v1 + (-1 : Int32)) w
noncomputable def fX12_layGuides_60 (N : Nat) (k9 : Int32 → Int32 → Wd → Option (Wd)) (v1 : Int32) (v2 : Int32) (v3 : Int32) (w : Wd) : Option (Wd) :=
  (ldI w 111 0 v2 7).bind fun x1 =>
  (ldI w 113 0 v1 9).bind fun x2 =>
  (callW (pX12_isOf N x1 x2) w).bind fun r3 =>
  if r3.1 = 0 then
    (stI r3.2 115 0 (((7 : Int32) * v1) + v2) 63 (99 : Int32)).bind fun w4 =>
    k9 v1 (v2 + (1 : Int32)) w4
  else
  (stI r3.2 115 0 (((7 : Int32) * v1) + v2) 63 v3).bind fun w5 =>
  k9 v1 (v2 + (1 : Int32)) w5
noncomputable def fX12_layGuides_49 (N : Nat) (k24 : Int32 → Int32 → Int32 → Int32 → Wd → Option (Wd)) (v1 : Int32) (v2 : Int32) (v3 : Int32) (v4 : Int32) (s0 : Int32) (s1 : Int32) (w : Wd) : Option (Wd) :=
  if (s1 + s0) < v3 then k24 v1 v2 (s1 + s0) (v4 + (1 : Int32)) w else
  k24 v1 v2 v3 (v4 + (1 : Int32)) w
noncomputable def fX12_layGuides_24 (N : Nat) : Nat → (Int32 → Int32 → Int32 → Wd → Option (Wd)) → Int32 → Int32 → Int32 → Int32 → Wd → Option (Wd)
  | 0, _, _, _, _, _, _ => none
  | n + 1, k60, v1, v2, v3, v4, w =>
    if v4 < (7 : Int32) then
      if v1 < ((gI w 16 0 82) - (1 : Int32)) then
        (ldI w 115 0 ((((7 : Int32) * v1) + (7 : Int32)) + v4) 63).bind fun x1 =>
        if v2 = v4 then callW (fX12_layGuides_49 N (fX12_layGuides_24 N n k60) v1 v2 v3 v4 (0 : Int32) x1) w else
        callW (fX12_layGuides_49 N (fX12_layGuides_24 N n k60) v1 v2 v3 v4 (1 : Int32) x1) w
      else
      k60 v1 v2 v3 w
    else
    k60 v1 v2 v3 w
noncomputable def fX12_layGuides_9 (N : Nat) : Nat → (Int32 → Wd → Option (Wd)) → Int32 → Int32 → Wd → Option (Wd)
  | 0, _, _, _, _ => none
  | n + 1, k83, v1, v2, w =>
    if v2 < (7 : Int32) then
      if v1 = ((gI w 16 0 82) - (1 : Int32)) then
        callW (fX12_layGuides_24 N N (fX12_layGuides_60 N (fX12_layGuides_9 N n k83)) v1 v2 (0 : Int32) (0 : Int32)) w
      else
      callW (fX12_layGuides_24 N N (fX12_layGuides_60 N (fX12_layGuides_9 N n k83)) v1 v2 (99 : Int32) (0 : Int32)) w
    else
    k83 v1 w
noncomputable def fX12_layGuides_5 (N : Nat) : Nat → (Wd → Option (Wd)) → Int32 → Wd → Option (Wd)
  | 0, _, _, _ => none
  | n + 1, k85, v1, w =>
    if v1 < 0 then k85 w else
    callW (fX12_layGuides_9 N N (fX12_layGuides_83 N (fX12_layGuides_5 N n k85)) v1 (0 : Int32)) w
noncomputable def pX12_layGuides (N : Nat) (w : Wd) : Option (Wd) :=
  callW (fX12_layGuides_5 N N (fX12_layGuides_85 N) ((gI w 16 0 82) - (1 : Int32))) w
noncomputable def mX12_layGuides (N : Nat) (as : List AV) (w : Wd) : Option (Wd) := xS1 16 as fun t => xN1 t (callW (pX12_layGuides N) w)
set_option maxRecDepth 100000 in
set_option maxHeartbeats 4000000 in
theorem kX12_layGuides : TK cX12_layGuides RX12 6 tX12_layGuides := ⟨by decide +kernel, wok_of [1682, 1682, 1682, 1681, 1681, 1677, 1679, 1683, 1682, 1681, 1680, 1681, 1680] (by decide +kernel) (by decide +kernel)⟩
set_option maxRecDepth 100000 in
set_option maxHeartbeats 4000000 in
theorem sX12_layGuides_122 {N : Nat} {X : XT} (G : GX X cX12_layGuides RX12) (hn : xnL X = 6) (hC : CRs X tX12_layGuides (oF [(mX12_isOf N)]) (oF []) (oF [])) {r : Wd} (hr : RTV X cX12_layGuides r)  : ∀ (k90 : Int32 → Int32 → Wd → Option (Wd)) (v2 : Int32) (v3 : Int32) (w : Wd), fX12_layGuides_122 N k90 v2 v3 w = some r → (∀ (v1 : Int32) (v2 : Int32) (w : Wd), k90 v1 v2 w = some r → WW X (pcAt tX12_layGuides 90) [some (.inr (.inr (16, 0))), some (.inl v1), some (.inl v2), none, none, none] [] w) → WW X (pcAt tX12_layGuides 122) [some (.inr (.inr (16, 0))), none, some (.inl v2), some (.inl v3), none, none] [] w := by
  intro k90 v2 v3 w h h90
  refine run_sound (r := r) (X := X) (cc := cX12_layGuides) (own := RX12) (tab := tX12_layGuides) G (by rw [hn]; exact kX12_layGuides) (oI := (oF [(mX12_isOf N)])) (oL := (oF [])) (oV := (oF [])) (rI := (fun _ _ => none)) (rL := (fun _ _ => none)) (rV := (fun w => some w))
    (K := (fun j ls st w => if j = 90 then (lgI ls 1 fun v1 => lgI ls 2 fun v2 => st0 st (k90 v1 v2 w)) else none)) (fun _ _ _ _ hx => by cases hx) (fun _ _ _ _ hx => by cases hx) (fun w pc ls hx hd => hr w pc ls (Option.some.inj hx) hd) hC (fun ls => lsb [some (.inr (.inr (16, 0))), none, none, none, none, none] 0 ls) (keepsP_of rfl) ?_ 141 122 [some (.inr (.inr (16, 0))), none, some (.inl v2), some (.inl v3), none, none] [] w ?_ h
  · intro j ls st w hfx h
    obtain ⟨e0, -⟩ : _ = _ ∧ True := hfx
    try dsimp only at h
    by_cases hj : j = 90
    · subst hj
      rw [if_pos rfl] at h
      obtain ⟨v1, e1, h_1⟩ := lgI_some h
      obtain ⟨v2, e2, h_2⟩ := lgI_some h_1
      obtain ⟨rfl, h_3⟩ := st0_some h_2
      clear h h_1 h_2
      have h := h_3
      try rw [callW_eq] at h
      exact WW.le (a := [some (.inr (.inr (16, 0))), some (.inl v1), some (.inl v2), none, none, none]) (by rw [hn]; rfl) (show _ = _ ∧ _ = _ ∧ _ = _ ∧ True from ⟨e0, e1, e2, trivial⟩) (h90 v1 v2 w h)
    rw [if_neg hj] at h
    cases h
  · exact (show _ = _ ∧ True from ⟨rfl, trivial⟩)
set_option maxRecDepth 100000 in
set_option maxHeartbeats 4000000 in
theorem sX12_layGuides_96 {N : Nat} {X : XT} (G : GX X cX12_layGuides RX12) (hn : xnL X = 6) (hC : CRs X tX12_layGuides (oF [(mX12_isOf N)]) (oF []) (oF [])) {r : Wd} (hr : RTV X cX12_layGuides r)  : ∀ (n : Nat) (k122 : Int32 → Int32 → Wd → Option (Wd)) (v1 : Int32) (v2 : Int32) (v3 : Int32) (w : Wd), fX12_layGuides_96 N n k122 v1 v2 v3 w = some r → (∀ (v2 : Int32) (v3 : Int32) (w : Wd), k122 v2 v3 w = some r → WW X (pcAt tX12_layGuides 122) [some (.inr (.inr (16, 0))), none, some (.inl v2), some (.inl v3), none, none] [] w) → WW X (pcAt tX12_layGuides 96) [some (.inr (.inr (16, 0))), some (.inl v1), some (.inl v2), some (.inl v3), none, none] [] w := by
  intro n
  induction n with
  | zero => intro k122 v1 v2 v3 w h h122; cases h
  | succ n ih =>
    intro k122 v1 v2 v3 w h h122
    refine run_sound (r := r) (X := X) (cc := cX12_layGuides) (own := RX12) (tab := tX12_layGuides) G (by rw [hn]; exact kX12_layGuides) (oI := (oF [(mX12_isOf N)])) (oL := (oF [])) (oV := (oF [])) (rI := (fun _ _ => none)) (rL := (fun _ _ => none)) (rV := (fun w => some w))
      (K := (fun j ls st w => if j = 96 then (lgI ls 1 fun v1 => lgI ls 2 fun v2 => lgI ls 3 fun v3 => st0 st (callW (fX12_layGuides_96 N n k122 v1 v2 v3) w)) else if j = 122 then (lgI ls 2 fun v2 => lgI ls 3 fun v3 => st0 st (k122 v2 v3 w)) else none)) (fun _ _ _ _ hx => by cases hx) (fun _ _ _ _ hx => by cases hx) (fun w pc ls hx hd => hr w pc ls (Option.some.inj hx) hd) hC (fun ls => lsb [some (.inr (.inr (16, 0))), none, none, none, none, none] 0 ls) (keepsP_of rfl) ?_ 141 96 [some (.inr (.inr (16, 0))), some (.inl v1), some (.inl v2), some (.inl v3), none, none] [] w ?_ h
    · intro j ls st w hfx h
      obtain ⟨e0, -⟩ : _ = _ ∧ True := hfx
      try dsimp only at h
      by_cases hj : j = 96
      · subst hj
        rw [if_pos rfl] at h
        obtain ⟨v1, e1, h_1⟩ := lgI_some h
        obtain ⟨v2, e2, h_2⟩ := lgI_some h_1
        obtain ⟨v3, e3, h_3⟩ := lgI_some h_2
        obtain ⟨rfl, h_4⟩ := st0_some h_3
        clear h h_1 h_2 h_3
        have h := h_4
        try rw [callW_eq] at h
        exact WW.le (a := [some (.inr (.inr (16, 0))), some (.inl v1), some (.inl v2), some (.inl v3), none, none]) (by rw [hn]; rfl) (show _ = _ ∧ _ = _ ∧ _ = _ ∧ _ = _ ∧ True from ⟨e0, e1, e2, e3, trivial⟩) (ih k122 v1 v2 v3 w h h122)
      rw [if_neg hj] at h
      by_cases hj : j = 122
      · subst hj
        rw [if_pos rfl] at h
        obtain ⟨v2, e2, h_1⟩ := lgI_some h
        obtain ⟨v3, e3, h_2⟩ := lgI_some h_1
        obtain ⟨rfl, h_3⟩ := st0_some h_2
        clear h h_1 h_2
        have h := h_3
        try rw [callW_eq] at h
        exact WW.le (a := [some (.inr (.inr (16, 0))), none, some (.inl v2), some (.inl v3), none, none]) (by rw [hn]; rfl) (show _ = _ ∧ _ = _ ∧ _ = _ ∧ True from ⟨e0, e2, e3, trivial⟩) (h122 v2 v3 w h)
      rw [if_neg hj] at h
      cases h
    · exact (show _ = _ ∧ True from ⟨rfl, trivial⟩)
set_option maxRecDepth 100000 in
set_option maxHeartbeats 4000000 in
theorem sX12_layGuides_90 {N : Nat} {X : XT} (G : GX X cX12_layGuides RX12) (hn : xnL X = 6) (hC : CRs X tX12_layGuides (oF [(mX12_isOf N)]) (oF []) (oF [])) {r : Wd} (hr : RTV X cX12_layGuides r)  : ∀ (n : Nat) (v1 : Int32) (v2 : Int32) (w : Wd), fX12_layGuides_90 N n v1 v2 w = some r → WW X (pcAt tX12_layGuides 90) [some (.inr (.inr (16, 0))), some (.inl v1), some (.inl v2), none, none, none] [] w := by
  intro n
  induction n with
  | zero => intro v1 v2 w h; cases h
  | succ n ih =>
    intro v1 v2 w h
    refine run_sound (r := r) (X := X) (cc := cX12_layGuides) (own := RX12) (tab := tX12_layGuides) G (by rw [hn]; exact kX12_layGuides) (oI := (oF [(mX12_isOf N)])) (oL := (oF [])) (oV := (oF [])) (rI := (fun _ _ => none)) (rL := (fun _ _ => none)) (rV := (fun w => some w))
      (K := (fun j ls st w => if j = 96 then (lgI ls 1 fun v1 => lgI ls 2 fun v2 => lgI ls 3 fun v3 => st0 st (callW (fX12_layGuides_96 N N (fX12_layGuides_122 N (fX12_layGuides_90 N n)) v1 v2 v3) w)) else none)) (fun _ _ _ _ hx => by cases hx) (fun _ _ _ _ hx => by cases hx) (fun w pc ls hx hd => hr w pc ls (Option.some.inj hx) hd) hC (fun ls => lsb [some (.inr (.inr (16, 0))), none, none, none, none, none] 0 ls) (keepsP_of rfl) ?_ 141 90 [some (.inr (.inr (16, 0))), some (.inl v1), some (.inl v2), none, none, none] [] w ?_ h
    · intro j ls st w hfx h
      obtain ⟨e0, -⟩ : _ = _ ∧ True := hfx
      try dsimp only at h
      by_cases hj : j = 96
      · subst hj
        rw [if_pos rfl] at h
        obtain ⟨v1, e1, h_1⟩ := lgI_some h
        obtain ⟨v2, e2, h_2⟩ := lgI_some h_1
        obtain ⟨v3, e3, h_3⟩ := lgI_some h_2
        obtain ⟨rfl, h_4⟩ := st0_some h_3
        clear h h_1 h_2 h_3
        have h := h_4
        try rw [callW_eq] at h
        exact WW.le (a := [some (.inr (.inr (16, 0))), some (.inl v1), some (.inl v2), some (.inl v3), none, none]) (by rw [hn]; rfl) (show _ = _ ∧ _ = _ ∧ _ = _ ∧ _ = _ ∧ True from ⟨e0, e1, e2, e3, trivial⟩) (sX12_layGuides_96 G hn hC hr N (fX12_layGuides_122 N (fX12_layGuides_90 N n)) v1 v2 v3 w h (fun v2 v3 w h => (sX12_layGuides_122 G hn hC hr (fX12_layGuides_90 N n) v2 v3 w h (fun v1 v2 w h => (ih v1 v2 w h)))))
      rw [if_neg hj] at h
      cases h
    · exact (show _ = _ ∧ True from ⟨rfl, trivial⟩)
set_option maxRecDepth 100000 in
set_option maxHeartbeats 4000000 in
theorem sX12_layGuides_85 {N : Nat} {X : XT} (G : GX X cX12_layGuides RX12) (hn : xnL X = 6) (hC : CRs X tX12_layGuides (oF [(mX12_isOf N)]) (oF []) (oF [])) {r : Wd} (hr : RTV X cX12_layGuides r)  : ∀ (w : Wd), fX12_layGuides_85 N w = some r → WW X (pcAt tX12_layGuides 85) [some (.inr (.inr (16, 0))), none, none, none, none, none] [] w := by
  intro w h
  refine run_sound (r := r) (X := X) (cc := cX12_layGuides) (own := RX12) (tab := tX12_layGuides) G (by rw [hn]; exact kX12_layGuides) (oI := (oF [(mX12_isOf N)])) (oL := (oF [])) (oV := (oF [])) (rI := (fun _ _ => none)) (rL := (fun _ _ => none)) (rV := (fun w => some w))
    (K := (fun j ls st w => if j = 90 then (lgI ls 1 fun v1 => lgI ls 2 fun v2 => st0 st (callW (fX12_layGuides_90 N N v1 v2) w)) else none)) (fun _ _ _ _ hx => by cases hx) (fun _ _ _ _ hx => by cases hx) (fun w pc ls hx hd => hr w pc ls (Option.some.inj hx) hd) hC (fun ls => lsb [some (.inr (.inr (16, 0))), none, none, none, none, none] 0 ls) (keepsP_of rfl) ?_ 141 85 [some (.inr (.inr (16, 0))), none, none, none, none, none] [] w ?_ h
  · intro j ls st w hfx h
    obtain ⟨e0, -⟩ : _ = _ ∧ True := hfx
    try dsimp only at h
    by_cases hj : j = 90
    · subst hj
      rw [if_pos rfl] at h
      obtain ⟨v1, e1, h_1⟩ := lgI_some h
      obtain ⟨v2, e2, h_2⟩ := lgI_some h_1
      obtain ⟨rfl, h_3⟩ := st0_some h_2
      clear h h_1 h_2
      have h := h_3
      try rw [callW_eq] at h
      exact WW.le (a := [some (.inr (.inr (16, 0))), some (.inl v1), some (.inl v2), none, none, none]) (by rw [hn]; rfl) (show _ = _ ∧ _ = _ ∧ _ = _ ∧ True from ⟨e0, e1, e2, trivial⟩) (sX12_layGuides_90 G hn hC hr N v1 v2 w h)
    rw [if_neg hj] at h
    cases h
  · exact (show _ = _ ∧ True from ⟨rfl, trivial⟩)
set_option maxRecDepth 100000 in
set_option maxHeartbeats 4000000 in
theorem sX12_layGuides_83 {N : Nat} {X : XT} (G : GX X cX12_layGuides RX12) (hn : xnL X = 6) (hC : CRs X tX12_layGuides (oF [(mX12_isOf N)]) (oF []) (oF [])) {r : Wd} (hr : RTV X cX12_layGuides r)  : ∀ (k5 : Int32 → Wd → Option (Wd)) (v1 : Int32) (w : Wd), fX12_layGuides_83 N k5 v1 w = some r → (∀ (v1 : Int32) (w : Wd), k5 v1 w = some r → WW X (pcAt tX12_layGuides 5) [some (.inr (.inr (16, 0))), some (.inl v1), none, none, none, none] [] w) → WW X (pcAt tX12_layGuides 83) [some (.inr (.inr (16, 0))), some (.inl v1), none, none, none, none] [] w := by
  intro k5 v1 w h h5
  refine run_sound (r := r) (X := X) (cc := cX12_layGuides) (own := RX12) (tab := tX12_layGuides) G (by rw [hn]; exact kX12_layGuides) (oI := (oF [(mX12_isOf N)])) (oL := (oF [])) (oV := (oF [])) (rI := (fun _ _ => none)) (rL := (fun _ _ => none)) (rV := (fun w => some w))
    (K := (fun j ls st w => if j = 5 then (lgI ls 1 fun v1 => st0 st (k5 v1 w)) else none)) (fun _ _ _ _ hx => by cases hx) (fun _ _ _ _ hx => by cases hx) (fun w pc ls hx hd => hr w pc ls (Option.some.inj hx) hd) hC (fun ls => lsb [some (.inr (.inr (16, 0))), none, none, none, none, none] 0 ls) (keepsP_of rfl) ?_ 141 83 [some (.inr (.inr (16, 0))), some (.inl v1), none, none, none, none] [] w ?_ h
  · intro j ls st w hfx h
    obtain ⟨e0, -⟩ : _ = _ ∧ True := hfx
    try dsimp only at h
    by_cases hj : j = 5
    · subst hj
      rw [if_pos rfl] at h
      obtain ⟨v1, e1, h_1⟩ := lgI_some h
      obtain ⟨rfl, h_2⟩ := st0_some h_1
      clear h h_1
      have h := h_2
      try rw [callW_eq] at h
      exact WW.le (a := [some (.inr (.inr (16, 0))), some (.inl v1), none, none, none, none]) (by rw [hn]; rfl) (show _ = _ ∧ _ = _ ∧ True from ⟨e0, e1, trivial⟩) (h5 v1 w h)
    rw [if_neg hj] at h
    cases h
  · exact (show _ = _ ∧ True from ⟨rfl, trivial⟩)
set_option maxRecDepth 100000 in
set_option maxHeartbeats 4000000 in
theorem sX12_layGuides_60 {N : Nat} {X : XT} (G : GX X cX12_layGuides RX12) (hn : xnL X = 6) (hC : CRs X tX12_layGuides (oF [(mX12_isOf N)]) (oF []) (oF [])) {r : Wd} (hr : RTV X cX12_layGuides r)  : ∀ (k9 : Int32 → Int32 → Wd → Option (Wd)) (v1 : Int32) (v2 : Int32) (v3 : Int32) (w : Wd), fX12_layGuides_60 N k9 v1 v2 v3 w = some r → (∀ (v1 : Int32) (v2 : Int32) (w : Wd), k9 v1 v2 w = some r → WW X (pcAt tX12_layGuides 9) [some (.inr (.inr (16, 0))), some (.inl v1), some (.inl v2), none, none, none] [] w) → WW X (pcAt tX12_layGuides 60) [some (.inr (.inr (16, 0))), some (.inl v1), some (.inl v2), some (.inl v3), none, none] [] w := by
  intro k9 v1 v2 v3 w h h9
  refine run_sound (r := r) (X := X) (cc := cX12_layGuides) (own := RX12) (tab := tX12_layGuides) G (by rw [hn]; exact kX12_layGuides) (oI := (oF [(mX12_isOf N)])) (oL := (oF [])) (oV := (oF [])) (rI := (fun _ _ => none)) (rL := (fun _ _ => none)) (rV := (fun w => some w))
    (K := (fun j ls st w => if j = 9 then (lgI ls 1 fun v1 => lgI ls 2 fun v2 => st0 st (k9 v1 v2 w)) else none)) (fun _ _ _ _ hx => by cases hx) (fun _ _ _ _ hx => by cases hx) (fun w pc ls hx hd => hr w pc ls (Option.some.inj hx) hd) hC (fun ls => lsb [some (.inr (.inr (16, 0))), none, none, none, none, none] 0 ls) (keepsP_of rfl) ?_ 141 60 [some (.inr (.inr (16, 0))), some (.inl v1), some (.inl v2), some (.inl v3), none, none] [] w ?_ h
  · intro j ls st w hfx h
    obtain ⟨e0, -⟩ : _ = _ ∧ True := hfx
    try dsimp only at h
    by_cases hj : j = 9
    · subst hj
      rw [if_pos rfl] at h
      obtain ⟨v1, e1, h_1⟩ := lgI_some h
      obtain ⟨v2, e2, h_2⟩ := lgI_some h_1
      obtain ⟨rfl, h_3⟩ := st0_some h_2
      clear h h_1 h_2
      have h := h_3
      try rw [callW_eq] at h
      exact WW.le (a := [some (.inr (.inr (16, 0))), some (.inl v1), some (.inl v2), none, none, none]) (by rw [hn]; rfl) (show _ = _ ∧ _ = _ ∧ _ = _ ∧ True from ⟨e0, e1, e2, trivial⟩) (h9 v1 v2 w h)
    rw [if_neg hj] at h
    cases h
  · exact (show _ = _ ∧ True from ⟨rfl, trivial⟩)
set_option maxRecDepth 100000 in
set_option maxHeartbeats 4000000 in
theorem sX12_layGuides_49 {N : Nat} {X : XT} (G : GX X cX12_layGuides RX12) (hn : xnL X = 6) (hC : CRs X tX12_layGuides (oF [(mX12_isOf N)]) (oF []) (oF [])) {r : Wd} (hr : RTV X cX12_layGuides r)  : ∀ (k24 : Int32 → Int32 → Int32 → Int32 → Wd → Option (Wd)) (v1 : Int32) (v2 : Int32) (v3 : Int32) (v4 : Int32) (s0 : Int32) (s1 : Int32) (w : Wd), fX12_layGuides_49 N k24 v1 v2 v3 v4 s0 s1 w = some r → (∀ (v1 : Int32) (v2 : Int32) (v3 : Int32) (v4 : Int32) (w : Wd), k24 v1 v2 v3 v4 w = some r → WW X (pcAt tX12_layGuides 24) [some (.inr (.inr (16, 0))), some (.inl v1), some (.inl v2), some (.inl v3), some (.inl v4), none] [] w) → WW X (pcAt tX12_layGuides 49) [some (.inr (.inr (16, 0))), some (.inl v1), some (.inl v2), some (.inl v3), some (.inl v4), none] [.inl s0, .inl s1] w := by
  intro k24 v1 v2 v3 v4 s0 s1 w h h24
  refine run_sound (r := r) (X := X) (cc := cX12_layGuides) (own := RX12) (tab := tX12_layGuides) G (by rw [hn]; exact kX12_layGuides) (oI := (oF [(mX12_isOf N)])) (oL := (oF [])) (oV := (oF [])) (rI := (fun _ _ => none)) (rL := (fun _ _ => none)) (rV := (fun w => some w))
    (K := (fun j ls st w => if j = 24 then (lgI ls 1 fun v1 => lgI ls 2 fun v2 => lgI ls 3 fun v3 => lgI ls 4 fun v4 => st0 st (k24 v1 v2 v3 v4 w)) else none)) (fun _ _ _ _ hx => by cases hx) (fun _ _ _ _ hx => by cases hx) (fun w pc ls hx hd => hr w pc ls (Option.some.inj hx) hd) hC (fun ls => lsb [some (.inr (.inr (16, 0))), none, none, none, none, none] 0 ls) (keepsP_of rfl) ?_ 141 49 [some (.inr (.inr (16, 0))), some (.inl v1), some (.inl v2), some (.inl v3), some (.inl v4), none] [.inl s0, .inl s1] w ?_ h
  · intro j ls st w hfx h
    obtain ⟨e0, -⟩ : _ = _ ∧ True := hfx
    try dsimp only at h
    by_cases hj : j = 24
    · subst hj
      rw [if_pos rfl] at h
      obtain ⟨v1, e1, h_1⟩ := lgI_some h
      obtain ⟨v2, e2, h_2⟩ := lgI_some h_1
      obtain ⟨v3, e3, h_3⟩ := lgI_some h_2
      obtain ⟨v4, e4, h_4⟩ := lgI_some h_3
      obtain ⟨rfl, h_5⟩ := st0_some h_4
      clear h h_1 h_2 h_3 h_4
      have h := h_5
      try rw [callW_eq] at h
      exact WW.le (a := [some (.inr (.inr (16, 0))), some (.inl v1), some (.inl v2), some (.inl v3), some (.inl v4), none]) (by rw [hn]; rfl) (show _ = _ ∧ _ = _ ∧ _ = _ ∧ _ = _ ∧ _ = _ ∧ True from ⟨e0, e1, e2, e3, e4, trivial⟩) (h24 v1 v2 v3 v4 w h)
    rw [if_neg hj] at h
    cases h
  · exact (show _ = _ ∧ True from ⟨rfl, trivial⟩)
set_option maxRecDepth 100000 in
set_option maxHeartbeats 4000000 in
theorem sX12_layGuides_24 {N : Nat} {X : XT} (G : GX X cX12_layGuides RX12) (hn : xnL X = 6) (hC : CRs X tX12_layGuides (oF [(mX12_isOf N)]) (oF []) (oF [])) {r : Wd} (hr : RTV X cX12_layGuides r)  : ∀ (n : Nat) (k60 : Int32 → Int32 → Int32 → Wd → Option (Wd)) (v1 : Int32) (v2 : Int32) (v3 : Int32) (v4 : Int32) (w : Wd), fX12_layGuides_24 N n k60 v1 v2 v3 v4 w = some r → (∀ (v1 : Int32) (v2 : Int32) (v3 : Int32) (w : Wd), k60 v1 v2 v3 w = some r → WW X (pcAt tX12_layGuides 60) [some (.inr (.inr (16, 0))), some (.inl v1), some (.inl v2), some (.inl v3), none, none] [] w) → WW X (pcAt tX12_layGuides 24) [some (.inr (.inr (16, 0))), some (.inl v1), some (.inl v2), some (.inl v3), some (.inl v4), none] [] w := by
  intro n
  induction n with
  | zero => intro k60 v1 v2 v3 v4 w h h60; cases h
  | succ n ih =>
    intro k60 v1 v2 v3 v4 w h h60
    refine run_sound (r := r) (X := X) (cc := cX12_layGuides) (own := RX12) (tab := tX12_layGuides) G (by rw [hn]; exact kX12_layGuides) (oI := (oF [(mX12_isOf N)])) (oL := (oF [])) (oV := (oF [])) (rI := (fun _ _ => none)) (rL := (fun _ _ => none)) (rV := (fun w => some w))
      (K := (fun j ls st w => if j = 49 then (lgI ls 1 fun v1 => lgI ls 2 fun v2 => lgI ls 3 fun v3 => lgI ls 4 fun v4 => po1 st fun s0 st => po1 st fun s1 st => st0 st (callW (fX12_layGuides_49 N (fX12_layGuides_24 N n k60) v1 v2 v3 v4 s0 s1) w)) else if j = 60 then (lgI ls 1 fun v1 => lgI ls 2 fun v2 => lgI ls 3 fun v3 => st0 st (k60 v1 v2 v3 w)) else none)) (fun _ _ _ _ hx => by cases hx) (fun _ _ _ _ hx => by cases hx) (fun w pc ls hx hd => hr w pc ls (Option.some.inj hx) hd) hC (fun ls => lsb [some (.inr (.inr (16, 0))), none, none, none, none, none] 0 ls) (keepsP_of rfl) ?_ 141 24 [some (.inr (.inr (16, 0))), some (.inl v1), some (.inl v2), some (.inl v3), some (.inl v4), none] [] w ?_ h
    · intro j ls st w hfx h
      obtain ⟨e0, -⟩ : _ = _ ∧ True := hfx
      try dsimp only at h
      by_cases hj : j = 49
      · subst hj
        rw [if_pos rfl] at h
        obtain ⟨v1, e1, h_1⟩ := lgI_some h
        obtain ⟨v2, e2, h_2⟩ := lgI_some h_1
        obtain ⟨v3, e3, h_3⟩ := lgI_some h_2
        obtain ⟨v4, e4, h_4⟩ := lgI_some h_3
        obtain ⟨s0, st0, rfl, h_5⟩ := po1_some h_4
        obtain ⟨s1, st1, rfl, h_6⟩ := po1_some h_5
        obtain ⟨rfl, h_7⟩ := st0_some h_6
        clear h h_1 h_2 h_3 h_4 h_5 h_6
        have h := h_7
        try rw [callW_eq] at h
        exact WW.le (a := [some (.inr (.inr (16, 0))), some (.inl v1), some (.inl v2), some (.inl v3), some (.inl v4), none]) (by rw [hn]; rfl) (show _ = _ ∧ _ = _ ∧ _ = _ ∧ _ = _ ∧ _ = _ ∧ True from ⟨e0, e1, e2, e3, e4, trivial⟩) (sX12_layGuides_49 G hn hC hr (fX12_layGuides_24 N n k60) v1 v2 v3 v4 s0 s1 w h (fun v1 v2 v3 v4 w h => (ih k60 v1 v2 v3 v4 w h h60)))
      rw [if_neg hj] at h
      by_cases hj : j = 60
      · subst hj
        rw [if_pos rfl] at h
        obtain ⟨v1, e1, h_1⟩ := lgI_some h
        obtain ⟨v2, e2, h_2⟩ := lgI_some h_1
        obtain ⟨v3, e3, h_3⟩ := lgI_some h_2
        obtain ⟨rfl, h_4⟩ := st0_some h_3
        clear h h_1 h_2 h_3
        have h := h_4
        try rw [callW_eq] at h
        exact WW.le (a := [some (.inr (.inr (16, 0))), some (.inl v1), some (.inl v2), some (.inl v3), none, none]) (by rw [hn]; rfl) (show _ = _ ∧ _ = _ ∧ _ = _ ∧ _ = _ ∧ True from ⟨e0, e1, e2, e3, trivial⟩) (h60 v1 v2 v3 w h)
      rw [if_neg hj] at h
      cases h
    · exact (show _ = _ ∧ True from ⟨rfl, trivial⟩)
set_option maxRecDepth 100000 in
set_option maxHeartbeats 4000000 in
theorem sX12_layGuides_9 {N : Nat} {X : XT} (G : GX X cX12_layGuides RX12) (hn : xnL X = 6) (hC : CRs X tX12_layGuides (oF [(mX12_isOf N)]) (oF []) (oF [])) {r : Wd} (hr : RTV X cX12_layGuides r)  : ∀ (n : Nat) (k83 : Int32 → Wd → Option (Wd)) (v1 : Int32) (v2 : Int32) (w : Wd), fX12_layGuides_9 N n k83 v1 v2 w = some r → (∀ (v1 : Int32) (w : Wd), k83 v1 w = some r → WW X (pcAt tX12_layGuides 83) [some (.inr (.inr (16, 0))), some (.inl v1), none, none, none, none] [] w) → WW X (pcAt tX12_layGuides 9) [some (.inr (.inr (16, 0))), some (.inl v1), some (.inl v2), none, none, none] [] w := by
  intro n
  induction n with
  | zero => intro k83 v1 v2 w h h83; cases h
  | succ n ih =>
    intro k83 v1 v2 w h h83
    refine run_sound (r := r) (X := X) (cc := cX12_layGuides) (own := RX12) (tab := tX12_layGuides) G (by rw [hn]; exact kX12_layGuides) (oI := (oF [(mX12_isOf N)])) (oL := (oF [])) (oV := (oF [])) (rI := (fun _ _ => none)) (rL := (fun _ _ => none)) (rV := (fun w => some w))
      (K := (fun j ls st w => if j = 24 then (lgI ls 1 fun v1 => lgI ls 2 fun v2 => lgI ls 3 fun v3 => lgI ls 4 fun v4 => st0 st (callW (fX12_layGuides_24 N N (fX12_layGuides_60 N (fX12_layGuides_9 N n k83)) v1 v2 v3 v4) w)) else if j = 83 then (lgI ls 1 fun v1 => st0 st (k83 v1 w)) else none)) (fun _ _ _ _ hx => by cases hx) (fun _ _ _ _ hx => by cases hx) (fun w pc ls hx hd => hr w pc ls (Option.some.inj hx) hd) hC (fun ls => lsb [some (.inr (.inr (16, 0))), none, none, none, none, none] 0 ls) (keepsP_of rfl) ?_ 141 9 [some (.inr (.inr (16, 0))), some (.inl v1), some (.inl v2), none, none, none] [] w ?_ h
    · intro j ls st w hfx h
      obtain ⟨e0, -⟩ : _ = _ ∧ True := hfx
      try dsimp only at h
      by_cases hj : j = 24
      · subst hj
        rw [if_pos rfl] at h
        obtain ⟨v1, e1, h_1⟩ := lgI_some h
        obtain ⟨v2, e2, h_2⟩ := lgI_some h_1
        obtain ⟨v3, e3, h_3⟩ := lgI_some h_2
        obtain ⟨v4, e4, h_4⟩ := lgI_some h_3
        obtain ⟨rfl, h_5⟩ := st0_some h_4
        clear h h_1 h_2 h_3 h_4
        have h := h_5
        try rw [callW_eq] at h
        exact WW.le (a := [some (.inr (.inr (16, 0))), some (.inl v1), some (.inl v2), some (.inl v3), some (.inl v4), none]) (by rw [hn]; rfl) (show _ = _ ∧ _ = _ ∧ _ = _ ∧ _ = _ ∧ _ = _ ∧ True from ⟨e0, e1, e2, e3, e4, trivial⟩) (sX12_layGuides_24 G hn hC hr N (fX12_layGuides_60 N (fX12_layGuides_9 N n k83)) v1 v2 v3 v4 w h (fun v1 v2 v3 w h => (sX12_layGuides_60 G hn hC hr (fX12_layGuides_9 N n k83) v1 v2 v3 w h (fun v1 v2 w h => (ih k83 v1 v2 w h h83)))))
      rw [if_neg hj] at h
      by_cases hj : j = 83
      · subst hj
        rw [if_pos rfl] at h
        obtain ⟨v1, e1, h_1⟩ := lgI_some h
        obtain ⟨rfl, h_2⟩ := st0_some h_1
        clear h h_1
        have h := h_2
        try rw [callW_eq] at h
        exact WW.le (a := [some (.inr (.inr (16, 0))), some (.inl v1), none, none, none, none]) (by rw [hn]; rfl) (show _ = _ ∧ _ = _ ∧ True from ⟨e0, e1, trivial⟩) (h83 v1 w h)
      rw [if_neg hj] at h
      cases h
    · exact (show _ = _ ∧ True from ⟨rfl, trivial⟩)
set_option maxRecDepth 100000 in
set_option maxHeartbeats 4000000 in
theorem sX12_layGuides_5 {N : Nat} {X : XT} (G : GX X cX12_layGuides RX12) (hn : xnL X = 6) (hC : CRs X tX12_layGuides (oF [(mX12_isOf N)]) (oF []) (oF [])) {r : Wd} (hr : RTV X cX12_layGuides r)  : ∀ (n : Nat) (k85 : Wd → Option (Wd)) (v1 : Int32) (w : Wd), fX12_layGuides_5 N n k85 v1 w = some r → (∀ (w : Wd), k85 w = some r → WW X (pcAt tX12_layGuides 85) [some (.inr (.inr (16, 0))), none, none, none, none, none] [] w) → WW X (pcAt tX12_layGuides 5) [some (.inr (.inr (16, 0))), some (.inl v1), none, none, none, none] [] w := by
  intro n
  induction n with
  | zero => intro k85 v1 w h h85; cases h
  | succ n ih =>
    intro k85 v1 w h h85
    refine run_sound (r := r) (X := X) (cc := cX12_layGuides) (own := RX12) (tab := tX12_layGuides) G (by rw [hn]; exact kX12_layGuides) (oI := (oF [(mX12_isOf N)])) (oL := (oF [])) (oV := (oF [])) (rI := (fun _ _ => none)) (rL := (fun _ _ => none)) (rV := (fun w => some w))
      (K := (fun j ls st w => if j = 9 then (lgI ls 1 fun v1 => lgI ls 2 fun v2 => st0 st (callW (fX12_layGuides_9 N N (fX12_layGuides_83 N (fX12_layGuides_5 N n k85)) v1 v2) w)) else if j = 85 then (st0 st (k85 w)) else none)) (fun _ _ _ _ hx => by cases hx) (fun _ _ _ _ hx => by cases hx) (fun w pc ls hx hd => hr w pc ls (Option.some.inj hx) hd) hC (fun ls => lsb [some (.inr (.inr (16, 0))), none, none, none, none, none] 0 ls) (keepsP_of rfl) ?_ 141 5 [some (.inr (.inr (16, 0))), some (.inl v1), none, none, none, none] [] w ?_ h
    · intro j ls st w hfx h
      obtain ⟨e0, -⟩ : _ = _ ∧ True := hfx
      try dsimp only at h
      by_cases hj : j = 9
      · subst hj
        rw [if_pos rfl] at h
        obtain ⟨v1, e1, h_1⟩ := lgI_some h
        obtain ⟨v2, e2, h_2⟩ := lgI_some h_1
        obtain ⟨rfl, h_3⟩ := st0_some h_2
        clear h h_1 h_2
        have h := h_3
        try rw [callW_eq] at h
        exact WW.le (a := [some (.inr (.inr (16, 0))), some (.inl v1), some (.inl v2), none, none, none]) (by rw [hn]; rfl) (show _ = _ ∧ _ = _ ∧ _ = _ ∧ True from ⟨e0, e1, e2, trivial⟩) (sX12_layGuides_9 G hn hC hr N (fX12_layGuides_83 N (fX12_layGuides_5 N n k85)) v1 v2 w h (fun v1 w h => (sX12_layGuides_83 G hn hC hr (fX12_layGuides_5 N n k85) v1 w h (fun v1 w h => (ih k85 v1 w h h85)))))
      rw [if_neg hj] at h
      by_cases hj : j = 85
      · subst hj
        rw [if_pos rfl] at h
        obtain ⟨rfl, h_1⟩ := st0_some h
        clear h
        have h := h_1
        try rw [callW_eq] at h
        exact WW.le (a := [some (.inr (.inr (16, 0))), none, none, none, none, none]) (by rw [hn]; rfl) (show _ = _ ∧ True from ⟨e0, trivial⟩) (h85 w h)
      rw [if_neg hj] at h
      cases h
    · exact (show _ = _ ∧ True from ⟨rfl, trivial⟩)
set_option maxRecDepth 100000 in
set_option maxHeartbeats 4000000 in
theorem crX12_layGuides {N : Nat} {X : XT} (G : GX X cX12_layGuides RX12) (hR : xR X = rmL 2) : CRs X tX12_layGuides (oF [(mX12_isOf N)]) (oF []) (oF []) := by
  have hl : tX12_layGuides.filter isInv = [(126, .invokestatic 341, 0, 0, 2, 0, 0, [])] := rfl
  intro e he
  rw [hl] at he
  simp only [List.mem_cons, List.not_mem_nil, or_false] at he
  rcases he with rfl
  · exact crI_S (idx := 341) G (by decide +kernel) (MX12_isOf N) (cw_of (ps := [1589, 1590, 164, 1591]) (by decide +kernel) (by decide +kernel)) ⟨by decide +kernel, by decide +kernel, by decide +kernel⟩ (by unfold rmOk; rw [hR]; exact ⟨by decide, by decide⟩)
set_option maxRecDepth 100000 in
set_option maxHeartbeats 4000000 in
theorem MX12_layGuides (N : Nat) : SndV yX12_layGuides cX12_layGuides 6 none 2 1 true (mX12_layGuides N) := by
  refine SndV.of tX12_layGuides (by decide +kernel) rfl rfl ?_ ?_
  · intro as w x h
    obtain ⟨t1, rfl, h_1⟩ := xS1_some h
    obtain ⟨rfl, h_2⟩ := xN1_some h_1
    clear h h_1
    have h := h_2
    rw [callW_eq] at h
    exact ⟨fun _ => ⟨_, _, _, rfl, rfl, _, rfl, rfl⟩, rfl, Nat.le_of_ble_eq_true rfl⟩
  · intro X G hn hR as w r h hr
    have hC := crX12_layGuides (N := N) G hR
    obtain ⟨t1, rfl, h_1⟩ := xS1_some h
    obtain ⟨rfl, h_2⟩ := xN1_some h_1
    clear h h_1
    have h := h_2
    rw [callW_eq] at h
    refine run_sound (r := r) (X := X) (cc := cX12_layGuides) (own := RX12) (tab := tX12_layGuides) G (by rw [hn]; exact kX12_layGuides) (oI := (oF [(mX12_isOf N)])) (oL := (oF [])) (oV := (oF [])) (rI := (fun _ _ => none)) (rL := (fun _ _ => none)) (rV := (fun w => some w))
      (K := (fun j ls st w => if j = 5 then (lgI ls 1 fun v1 => st0 st (callW (fX12_layGuides_5 N N (fX12_layGuides_85 N) v1) w)) else none)) (fun _ _ _ _ hx => by cases hx) (fun _ _ _ _ hx => by cases hx) (fun w pc ls hx hd => hr w pc ls (Option.some.inj hx) hd) hC (fun ls => lsb [some (.inr (.inr (16, 0))), none, none, none, none, none] 0 ls) (keepsP_of rfl) ?_ 141 0 [some (.inr (.inr (16, 0))), none, none, none, none, none] [] w ?_ h
    · intro j ls st w hfx h
      obtain ⟨e0, -⟩ : _ = _ ∧ True := hfx
      try dsimp only at h
      by_cases hj : j = 5
      · subst hj
        rw [if_pos rfl] at h
        obtain ⟨v1, e1, h_1⟩ := lgI_some h
        obtain ⟨rfl, h_2⟩ := st0_some h_1
        clear h h_1
        have h := h_2
        try rw [callW_eq] at h
        exact WW.le (a := [some (.inr (.inr (16, 0))), some (.inl v1), none, none, none, none]) (by rw [hn]; rfl) (show _ = _ ∧ _ = _ ∧ True from ⟨e0, e1, trivial⟩) (sX12_layGuides_5 G hn hC hr N (fX12_layGuides_85 N) v1 w h (fun w h => (sX12_layGuides_85 G hn hC hr w h)))
      rw [if_neg hj] at h
      cases h
    · exact (show _ = _ ∧ True from ⟨rfl, trivial⟩)
-- MoorGuidesModel.layWay(I)Z
def tX12_layWay : List EN := [
  (0, .aload_n 0, 0, 0, 0, 0, 0, []), (1, .iload_n 1, 0, 0, 0, 0, 0, []), (2, .invokevirtual 528, 0, 0, 2, 0, 0, []), (5, .istore_n 2, 0, 0, 0, 0, 0, []),
  (6, .iload_n 2, 0, 0, 0, 0, 0, []), (7, .ldc 234, 0, 0, 0, 99999, 0, []), (9, .if_icmp .lt 5, 0, 9, 0, 0, 0, []), (12, .iconst 0, 0, 0, 0, 0, 0, []),
  (13, .ireturn, 0, 0, 0, 0, 0, []), (14, .aload_n 0, 0, 0, 0, 0, 0, []), (15, .iload_n 2, 0, 0, 0, 0, 0, []), (16, .bipush 100, 0, 0, 0, 100, 0, []),
  (18, .irem, 0, 0, 0, 0, 0, []), (19, .putfield 531, 0, 12, 82, 0, 0, []), (22, .aload_n 0, 0, 0, 0, 0, 0, []), (23, .iload_n 2, 0, 0, 0, 0, 0, []),
  (24, .bipush 100, 0, 0, 0, 100, 0, []), (26, .idiv, 0, 0, 0, 0, 0, []), (27, .putfield 534, 0, 12, 83, 0, 0, []), (30, .aload_n 0, 0, 0, 0, 0, 0, []),
  (31, .getfield 136, 0, 12, 79, 0, 0, []), (34, .iconst 0, 0, 0, 0, 0, 0, []), (35, .aload_n 0, 0, 0, 0, 0, 0, []), (36, .getfield 47, 0, 12, 40, 0, 0, []),
  (39, .iload_n 1, 0, 0, 0, 0, 0, []), (40, .iaload, 0, 0, 0, 0, 0, []), (41, .iastore, 0, 0, 0, 0, 0, []), (42, .iconst 0, 0, 0, 0, 0, 0, []),
  (43, .istore_n 3, 0, 0, 0, 0, 0, []), (44, .iload_n 3, 30, 0, 0, 0, 0, []), (45, .bipush 7, 0, 0, 0, 7, 0, []), (47, .if_icmp .ge 39, 0, 51, 0, 0, 0, []),
  (50, .aload_n 0, 0, 0, 0, 0, 0, []), (51, .getfield 145, 0, 12, 84, 0, 0, []), (54, .iload_n 3, 0, 0, 0, 0, 0, []), (55, .aload_n 0, 0, 0, 0, 0, 0, []),
  (56, .getfield 130, 0, 12, 77, 0, 0, []), (59, .iload_n 3, 0, 0, 0, 0, 0, []), (60, .iaload, 0, 0, 0, 0, 0, []), (61, .aload_n 0, 0, 0, 0, 0, 0, []),
  (62, .getfield 136, 0, 12, 79, 0, 0, []), (65, .iconst 0, 0, 0, 0, 0, 0, []), (66, .iaload, 0, 0, 0, 0, 0, []), (67, .invokestatic 341, 0, 1, 2, 0, 0, []),
  (70, .ifCond .eq 7, 0, 47, 0, 0, 0, []), (73, .iconst 0, 0, 0, 0, 0, 0, []), (74, .goto 5, 0, 48, 0, 0, 0, []), (77, .bipush 99, 0, 0, 0, 99, 0, []),
  (79, .iastore, 0, 0, 0, 0, 0, []), (80, .iinc 3 1, 0, 0, 0, 1, 0, []), (83, .goto (-39), 0, 29, 0, 0, 0, []), (86, .iconst 1, 52, 0, 0, 1, 0, []),
  (87, .istore_n 3, 0, 0, 0, 0, 0, []), (88, .iload_n 3, 54, 0, 0, 0, 0, []), (89, .aload_n 0, 0, 0, 0, 0, 0, []), (90, .getfield 531, 0, 12, 82, 0, 0, []),
  (93, .if_icmp .ge 53, 0, 85, 0, 0, 0, []), (96, .iconst 0, 0, 0, 0, 0, 0, []), (97, .istore 4, 0, 0, 0, 0, 0, []), (99, .aload_n 0, 60, 0, 0, 0, 0, []),
  (100, .iload_n 3, 0, 0, 0, 0, 0, []), (101, .iconst 1, 0, 0, 0, 1, 0, []), (102, .isub, 0, 0, 0, 0, 0, []), (103, .aload_n 0, 0, 0, 0, 0, 0, []),
  (104, .getfield 136, 0, 12, 79, 0, 0, []), (107, .iload_n 3, 0, 0, 0, 0, 0, []), (108, .iconst 1, 0, 0, 0, 1, 0, []), (109, .isub, 0, 0, 0, 0, 0, []),
  (110, .iaload, 0, 0, 0, 0, 0, []), (111, .iload 4, 0, 0, 0, 0, 0, []), (113, .iload_n 2, 0, 0, 0, 0, 0, []), (114, .invokevirtual 537, 0, 2, 5, 0, 0, []),
  (117, .ifCond .ne 9, 0, 75, 0, 0, 0, []), (120, .iinc 4 1, 0, 0, 0, 1, 0, []), (123, .goto (-24), 0, 59, 0, 0, 0, []), (126, .aload_n 0, 76, 0, 0, 0, 0, []),
  (127, .getfield 136, 0, 12, 79, 0, 0, []), (130, .iload_n 3, 0, 0, 0, 0, 0, []), (131, .iload 4, 0, 0, 0, 0, 0, []), (133, .iastore, 0, 0, 0, 0, 0, []),
  (134, .aload_n 0, 0, 0, 0, 0, 0, []), (135, .iload 4, 0, 0, 0, 0, 0, []), (137, .invokevirtual 540, 0, 0, 2, 0, 0, [(0, 0), (0, 0)]), (140, .iinc 3 1, 0, 0, 0, 1, 0, []),
  (143, .goto (-55), 0, 53, 0, 0, 0, []), (146, .aload_n 0, 86, 0, 0, 0, 0, []), (147, .invokevirtual 543, 0, 1, 1, 0, 0, [(0, 0), (0, 0)]), (150, .iconst 1, 0, 0, 0, 1, 0, []),
  (151, .ireturn, 0, 0, 0, 0, 0, [])]
noncomputable def fX12_layWay_85 (N : Nat) (w : Wd) : Option (Int32 × Wd) :=
  (callW (pX12_layGuides N) w).bind fun w1 =>
  some ((1 : Int32), w1)
noncomputable def fX12_layWay_75 (N : Nat) (k53 : Int32 → Int32 → Wd → Option (Int32 × Wd)) (v2 : Int32) (v3 : Int32) (v4 : Int32) (w : Wd) : Option (Int32 × Wd) :=
  (stI w 113 0 v3 9 v4).bind fun w1 =>
  (callW (pX12_laySpent N v4) w1).bind fun w2 =>
  k53 v2 (v3 + (1 : Int32)) w2
noncomputable def fX12_layWay_59 (N : Nat) : Nat → (Int32 → Int32 → Int32 → Wd → Option (Int32 × Wd)) → Int32 → Int32 → Int32 → Wd → Option (Int32 × Wd)
  | 0, _, _, _, _, _ => none
  | n + 1, k75, v2, v3, v4, w =>
    (ldI w 113 0 (v3 - (1 : Int32)) 9).bind fun x1 =>
    (callW (pX12_goesOn N (v3 - (1 : Int32)) x1 v4 v2) w).bind fun r2 =>
    if r2.1 = 0 then callW (fX12_layWay_59 N n k75 v2 v3 (v4 + (1 : Int32))) r2.2 else
    k75 v2 v3 v4 r2.2
noncomputable def fX12_layWay_53 (N : Nat) : Nat → (Wd → Option (Int32 × Wd)) → Int32 → Int32 → Wd → Option (Int32 × Wd)
  | 0, _, _, _, _ => none
  | n + 1, k85, v2, v3, w =>
    if v3 < (gI w 16 0 82) then callW (fX12_layWay_59 N N (fX12_layWay_75 N (fX12_layWay_53 N n k85)) v2 v3 (0 : Int32)) w else
    k85 w
noncomputable def fX12_layWay_51 (N : Nat) (v2 : Int32) (w : Wd) : Option (Int32 × Wd) :=
  callW (fX12_layWay_53 N N (fX12_layWay_85 N) v2 (1 : Int32)) w
noncomputable def fX12_layWay_29 (N : Nat) : Nat → (Int32 → Wd → Option (Int32 × Wd)) → Int32 → Int32 → Wd → Option (Int32 × Wd)
  | 0, _, _, _, _ => none
  | n + 1, k51, v2, v3, w =>
    if v3 < (7 : Int32) then
      (ldI w 111 0 v3 7).bind fun x1 =>
      (ldI w 113 0 (0 : Int32) 9).bind fun x2 =>
      (callW (pX12_isOf N x1 x2) w).bind fun r3 =>
      if r3.1 = 0 then
        (stI r3.2 116 0 v3 7 (99 : Int32)).bind fun w4 =>
        callW (fX12_layWay_29 N n k51 v2 (v3 + (1 : Int32))) w4
      else
      (stI r3.2 116 0 v3 7 (0 : Int32)).bind fun w5 =>
      callW (fX12_layWay_29 N n k51 v2 (v3 + (1 : Int32))) w5
    else
    k51 v2 w
noncomputable def pX12_layWay (N : Nat) (a1 : Int32) (w : Wd) : Option (Int32 × Wd) :=
  (callW (pX12_leastOf N a1) w).bind fun r1 =>
  if r1.1 < (99999 : Int32) then
    (ldI (setI (setI r1.2 16 0 82 (r1.1 - r1.1 / (100 : Int32) * (100 : Int32))) 16 0 83 (r1.1 / (100 : Int32))) 84 0 a1 16).bind fun x2 =>
    (stI (setI (setI r1.2 16 0 82 (r1.1 - r1.1 / (100 : Int32) * (100 : Int32))) 16 0 83 (r1.1 / (100 : Int32))) 113 0 (0 : Int32) 9 x2).bind fun w3 =>
    callW (fX12_layWay_29 N N (fX12_layWay_51 N) r1.1 (0 : Int32)) w3
  else
  some ((0 : Int32), r1.2)
noncomputable def mX12_layWay (N : Nat) (as : List AV) (w : Wd) : Option (Int32 × Wd) := xS1 16 as fun t => xI1 t fun a1 t => xN1 t (callW (pX12_layWay N a1) w)
set_option maxRecDepth 100000 in
set_option maxHeartbeats 4000000 in
theorem kX12_layWay : TK cX12_layWay RX12 5 tX12_layWay := ⟨by decide +kernel, wok_of [1958, 1682, 1683, 1679, 1640, 1684, 1677, 1679, 1682, 1679, 1679] (by decide +kernel) (by decide +kernel)⟩
set_option maxRecDepth 100000 in
set_option maxHeartbeats 4000000 in
theorem sX12_layWay_85 {N : Nat} {X : XT} (G : GX X cX12_layWay RX12) (hn : xnL X = 5) (hC : CRs X tX12_layWay (oF [(mX12_leastOf N), (mX12_isOf N), (mX12_goesOn N)]) (oF []) (oF [(mX12_laySpent N), (mX12_layGuides N)])) {r : Int32 × Wd} (hr : RTZ X cX12_layWay r) (a1 : Int32) : ∀ (w : Wd), fX12_layWay_85 N w = some r → WW X (pcAt tX12_layWay 85) [some (.inr (.inr (16, 0))), some (.inl a1), none, none, none] [] w := by
  intro w h
  refine run_sound (r := r) (X := X) (cc := cX12_layWay) (own := RX12) (tab := tX12_layWay) G (by rw [hn]; exact kX12_layWay) (oI := (oF [(mX12_leastOf N), (mX12_isOf N), (mX12_goesOn N)])) (oL := (oF [])) (oV := (oF [(mX12_laySpent N), (mX12_layGuides N)])) (rI := retZ) (rL := (fun _ _ => none)) (rV := (fun _ => none))
    (K := (fun j ls st w => none)) hr (fun _ _ _ _ hx => by cases hx) (fun _ _ _ hx => by cases hx) hC (fun ls => lsb [some (.inr (.inr (16, 0))), some (.inl a1), none, none, none] 0 ls) (keepsP_of rfl) ?_ 91 85 [some (.inr (.inr (16, 0))), some (.inl a1), none, none, none] [] w ?_ h
  · intro j ls st w hfx h
    obtain ⟨e0, e1, -⟩ : _ = _ ∧ _ = _ ∧ True := hfx
    try dsimp only at h
    cases h
  · exact (show _ = _ ∧ _ = _ ∧ True from ⟨rfl, rfl, trivial⟩)
set_option maxRecDepth 100000 in
set_option maxHeartbeats 4000000 in
theorem sX12_layWay_75 {N : Nat} {X : XT} (G : GX X cX12_layWay RX12) (hn : xnL X = 5) (hC : CRs X tX12_layWay (oF [(mX12_leastOf N), (mX12_isOf N), (mX12_goesOn N)]) (oF []) (oF [(mX12_laySpent N), (mX12_layGuides N)])) {r : Int32 × Wd} (hr : RTZ X cX12_layWay r) (a1 : Int32) : ∀ (k53 : Int32 → Int32 → Wd → Option (Int32 × Wd)) (v2 : Int32) (v3 : Int32) (v4 : Int32) (w : Wd), fX12_layWay_75 N k53 v2 v3 v4 w = some r → (∀ (v2 : Int32) (v3 : Int32) (w : Wd), k53 v2 v3 w = some r → WW X (pcAt tX12_layWay 53) [some (.inr (.inr (16, 0))), some (.inl a1), some (.inl v2), some (.inl v3), none] [] w) → WW X (pcAt tX12_layWay 75) [some (.inr (.inr (16, 0))), some (.inl a1), some (.inl v2), some (.inl v3), some (.inl v4)] [] w := by
  intro k53 v2 v3 v4 w h h53
  refine run_sound (r := r) (X := X) (cc := cX12_layWay) (own := RX12) (tab := tX12_layWay) G (by rw [hn]; exact kX12_layWay) (oI := (oF [(mX12_leastOf N), (mX12_isOf N), (mX12_goesOn N)])) (oL := (oF [])) (oV := (oF [(mX12_laySpent N), (mX12_layGuides N)])) (rI := retZ) (rL := (fun _ _ => none)) (rV := (fun _ => none))
    (K := (fun j ls st w => if j = 53 then (lgI ls 2 fun v2 => lgI ls 3 fun v3 => st0 st (k53 v2 v3 w)) else none)) hr (fun _ _ _ _ hx => by cases hx) (fun _ _ _ hx => by cases hx) hC (fun ls => lsb [some (.inr (.inr (16, 0))), some (.inl a1), none, none, none] 0 ls) (keepsP_of rfl) ?_ 91 75 [some (.inr (.inr (16, 0))), some (.inl a1), some (.inl v2), some (.inl v3), some (.inl v4)] [] w ?_ h
  · intro j ls st w hfx h
    obtain ⟨e0, e1, -⟩ : _ = _ ∧ _ = _ ∧ True := hfx
    try dsimp only at h
    by_cases hj : j = 53
    · subst hj
      rw [if_pos rfl] at h
      obtain ⟨v2, e2, h_1⟩ := lgI_some h
      obtain ⟨v3, e3, h_2⟩ := lgI_some h_1
      obtain ⟨rfl, h_3⟩ := st0_some h_2
      clear h h_1 h_2
      have h := h_3
      try rw [callW_eq] at h
      exact WW.le (a := [some (.inr (.inr (16, 0))), some (.inl a1), some (.inl v2), some (.inl v3), none]) (by rw [hn]; rfl) (show _ = _ ∧ _ = _ ∧ _ = _ ∧ _ = _ ∧ True from ⟨e0, e1, e2, e3, trivial⟩) (h53 v2 v3 w h)
    rw [if_neg hj] at h
    cases h
  · exact (show _ = _ ∧ _ = _ ∧ True from ⟨rfl, rfl, trivial⟩)
set_option maxRecDepth 100000 in
set_option maxHeartbeats 4000000 in
theorem sX12_layWay_59 {N : Nat} {X : XT} (G : GX X cX12_layWay RX12) (hn : xnL X = 5) (hC : CRs X tX12_layWay (oF [(mX12_leastOf N), (mX12_isOf N), (mX12_goesOn N)]) (oF []) (oF [(mX12_laySpent N), (mX12_layGuides N)])) {r : Int32 × Wd} (hr : RTZ X cX12_layWay r) (a1 : Int32) : ∀ (n : Nat) (k75 : Int32 → Int32 → Int32 → Wd → Option (Int32 × Wd)) (v2 : Int32) (v3 : Int32) (v4 : Int32) (w : Wd), fX12_layWay_59 N n k75 v2 v3 v4 w = some r → (∀ (v2 : Int32) (v3 : Int32) (v4 : Int32) (w : Wd), k75 v2 v3 v4 w = some r → WW X (pcAt tX12_layWay 75) [some (.inr (.inr (16, 0))), some (.inl a1), some (.inl v2), some (.inl v3), some (.inl v4)] [] w) → WW X (pcAt tX12_layWay 59) [some (.inr (.inr (16, 0))), some (.inl a1), some (.inl v2), some (.inl v3), some (.inl v4)] [] w := by
  intro n
  induction n with
  | zero => intro k75 v2 v3 v4 w h h75; cases h
  | succ n ih =>
    intro k75 v2 v3 v4 w h h75
    refine run_sound (r := r) (X := X) (cc := cX12_layWay) (own := RX12) (tab := tX12_layWay) G (by rw [hn]; exact kX12_layWay) (oI := (oF [(mX12_leastOf N), (mX12_isOf N), (mX12_goesOn N)])) (oL := (oF [])) (oV := (oF [(mX12_laySpent N), (mX12_layGuides N)])) (rI := retZ) (rL := (fun _ _ => none)) (rV := (fun _ => none))
      (K := (fun j ls st w => if j = 59 then (lgI ls 2 fun v2 => lgI ls 3 fun v3 => lgI ls 4 fun v4 => st0 st (callW (fX12_layWay_59 N n k75 v2 v3 v4) w)) else if j = 75 then (lgI ls 2 fun v2 => lgI ls 3 fun v3 => lgI ls 4 fun v4 => st0 st (k75 v2 v3 v4 w)) else none)) hr (fun _ _ _ _ hx => by cases hx) (fun _ _ _ hx => by cases hx) hC (fun ls => lsb [some (.inr (.inr (16, 0))), some (.inl a1), none, none, none] 0 ls) (keepsP_of rfl) ?_ 91 59 [some (.inr (.inr (16, 0))), some (.inl a1), some (.inl v2), some (.inl v3), some (.inl v4)] [] w ?_ h
    · intro j ls st w hfx h
      obtain ⟨e0, e1, -⟩ : _ = _ ∧ _ = _ ∧ True := hfx
      try dsimp only at h
      by_cases hj : j = 59
      · subst hj
        rw [if_pos rfl] at h
        obtain ⟨v2, e2, h_1⟩ := lgI_some h
        obtain ⟨v3, e3, h_2⟩ := lgI_some h_1
        obtain ⟨v4, e4, h_3⟩ := lgI_some h_2
        obtain ⟨rfl, h_4⟩ := st0_some h_3
        clear h h_1 h_2 h_3
        have h := h_4
        try rw [callW_eq] at h
        exact WW.le (a := [some (.inr (.inr (16, 0))), some (.inl a1), some (.inl v2), some (.inl v3), some (.inl v4)]) (by rw [hn]; rfl) (show _ = _ ∧ _ = _ ∧ _ = _ ∧ _ = _ ∧ _ = _ ∧ True from ⟨e0, e1, e2, e3, e4, trivial⟩) (ih k75 v2 v3 v4 w h h75)
      rw [if_neg hj] at h
      by_cases hj : j = 75
      · subst hj
        rw [if_pos rfl] at h
        obtain ⟨v2, e2, h_1⟩ := lgI_some h
        obtain ⟨v3, e3, h_2⟩ := lgI_some h_1
        obtain ⟨v4, e4, h_3⟩ := lgI_some h_2
        obtain ⟨rfl, h_4⟩ := st0_some h_3
        clear h h_1 h_2 h_3
        have h := h_4
        try rw [callW_eq] at h
        exact WW.le (a := [some (.inr (.inr (16, 0))), some (.inl a1), some (.inl v2), some (.inl v3), some (.inl v4)]) (by rw [hn]; rfl) (show _ = _ ∧ _ = _ ∧ _ = _ ∧ _ = _ ∧ _ = _ ∧ True from ⟨e0, e1, e2, e3, e4, trivial⟩) (h75 v2 v3 v4 w h)
      rw [if_neg hj] at h
      cases h
    · exact (show _ = _ ∧ _ = _ ∧ True from ⟨rfl, rfl, trivial⟩)
set_option maxRecDepth 100000 in
set_option maxHeartbeats 4000000 in
theorem sX12_layWay_53 {N : Nat} {X : XT} (G : GX X cX12_layWay RX12) (hn : xnL X = 5) (hC : CRs X tX12_layWay (oF [(mX12_leastOf N), (mX12_isOf N), (mX12_goesOn N)]) (oF []) (oF [(mX12_laySpent N), (mX12_layGuides N)])) {r : Int32 × Wd} (hr : RTZ X cX12_layWay r) (a1 : Int32) : ∀ (n : Nat) (k85 : Wd → Option (Int32 × Wd)) (v2 : Int32) (v3 : Int32) (w : Wd), fX12_layWay_53 N n k85 v2 v3 w = some r → (∀ (w : Wd), k85 w = some r → WW X (pcAt tX12_layWay 85) [some (.inr (.inr (16, 0))), some (.inl a1), none, none, none] [] w) → WW X (pcAt tX12_layWay 53) [some (.inr (.inr (16, 0))), some (.inl a1), some (.inl v2), some (.inl v3), none] [] w := by
  intro n
  induction n with
  | zero => intro k85 v2 v3 w h h85; cases h
  | succ n ih =>
    intro k85 v2 v3 w h h85
    refine run_sound (r := r) (X := X) (cc := cX12_layWay) (own := RX12) (tab := tX12_layWay) G (by rw [hn]; exact kX12_layWay) (oI := (oF [(mX12_leastOf N), (mX12_isOf N), (mX12_goesOn N)])) (oL := (oF [])) (oV := (oF [(mX12_laySpent N), (mX12_layGuides N)])) (rI := retZ) (rL := (fun _ _ => none)) (rV := (fun _ => none))
      (K := (fun j ls st w => if j = 59 then (lgI ls 2 fun v2 => lgI ls 3 fun v3 => lgI ls 4 fun v4 => st0 st (callW (fX12_layWay_59 N N (fX12_layWay_75 N (fX12_layWay_53 N n k85)) v2 v3 v4) w)) else if j = 85 then (st0 st (k85 w)) else none)) hr (fun _ _ _ _ hx => by cases hx) (fun _ _ _ hx => by cases hx) hC (fun ls => lsb [some (.inr (.inr (16, 0))), some (.inl a1), none, none, none] 0 ls) (keepsP_of rfl) ?_ 91 53 [some (.inr (.inr (16, 0))), some (.inl a1), some (.inl v2), some (.inl v3), none] [] w ?_ h
    · intro j ls st w hfx h
      obtain ⟨e0, e1, -⟩ : _ = _ ∧ _ = _ ∧ True := hfx
      try dsimp only at h
      by_cases hj : j = 59
      · subst hj
        rw [if_pos rfl] at h
        obtain ⟨v2, e2, h_1⟩ := lgI_some h
        obtain ⟨v3, e3, h_2⟩ := lgI_some h_1
        obtain ⟨v4, e4, h_3⟩ := lgI_some h_2
        obtain ⟨rfl, h_4⟩ := st0_some h_3
        clear h h_1 h_2 h_3
        have h := h_4
        try rw [callW_eq] at h
        exact WW.le (a := [some (.inr (.inr (16, 0))), some (.inl a1), some (.inl v2), some (.inl v3), some (.inl v4)]) (by rw [hn]; rfl) (show _ = _ ∧ _ = _ ∧ _ = _ ∧ _ = _ ∧ _ = _ ∧ True from ⟨e0, e1, e2, e3, e4, trivial⟩) (sX12_layWay_59 G hn hC hr a1 N (fX12_layWay_75 N (fX12_layWay_53 N n k85)) v2 v3 v4 w h (fun v2 v3 v4 w h => (sX12_layWay_75 G hn hC hr a1 (fX12_layWay_53 N n k85) v2 v3 v4 w h (fun v2 v3 w h => (ih k85 v2 v3 w h h85)))))
      rw [if_neg hj] at h
      by_cases hj : j = 85
      · subst hj
        rw [if_pos rfl] at h
        obtain ⟨rfl, h_1⟩ := st0_some h
        clear h
        have h := h_1
        try rw [callW_eq] at h
        exact WW.le (a := [some (.inr (.inr (16, 0))), some (.inl a1), none, none, none]) (by rw [hn]; rfl) (show _ = _ ∧ _ = _ ∧ True from ⟨e0, e1, trivial⟩) (h85 w h)
      rw [if_neg hj] at h
      cases h
    · exact (show _ = _ ∧ _ = _ ∧ True from ⟨rfl, rfl, trivial⟩)
set_option maxRecDepth 100000 in
set_option maxHeartbeats 4000000 in
theorem sX12_layWay_51 {N : Nat} {X : XT} (G : GX X cX12_layWay RX12) (hn : xnL X = 5) (hC : CRs X tX12_layWay (oF [(mX12_leastOf N), (mX12_isOf N), (mX12_goesOn N)]) (oF []) (oF [(mX12_laySpent N), (mX12_layGuides N)])) {r : Int32 × Wd} (hr : RTZ X cX12_layWay r) (a1 : Int32) : ∀ (v2 : Int32) (w : Wd), fX12_layWay_51 N v2 w = some r → WW X (pcAt tX12_layWay 51) [some (.inr (.inr (16, 0))), some (.inl a1), some (.inl v2), none, none] [] w := by
  intro v2 w h
  refine run_sound (r := r) (X := X) (cc := cX12_layWay) (own := RX12) (tab := tX12_layWay) G (by rw [hn]; exact kX12_layWay) (oI := (oF [(mX12_leastOf N), (mX12_isOf N), (mX12_goesOn N)])) (oL := (oF [])) (oV := (oF [(mX12_laySpent N), (mX12_layGuides N)])) (rI := retZ) (rL := (fun _ _ => none)) (rV := (fun _ => none))
    (K := (fun j ls st w => if j = 53 then (lgI ls 2 fun v2 => lgI ls 3 fun v3 => st0 st (callW (fX12_layWay_53 N N (fX12_layWay_85 N) v2 v3) w)) else none)) hr (fun _ _ _ _ hx => by cases hx) (fun _ _ _ hx => by cases hx) hC (fun ls => lsb [some (.inr (.inr (16, 0))), some (.inl a1), none, none, none] 0 ls) (keepsP_of rfl) ?_ 91 51 [some (.inr (.inr (16, 0))), some (.inl a1), some (.inl v2), none, none] [] w ?_ h
  · intro j ls st w hfx h
    obtain ⟨e0, e1, -⟩ : _ = _ ∧ _ = _ ∧ True := hfx
    try dsimp only at h
    by_cases hj : j = 53
    · subst hj
      rw [if_pos rfl] at h
      obtain ⟨v2, e2, h_1⟩ := lgI_some h
      obtain ⟨v3, e3, h_2⟩ := lgI_some h_1
      obtain ⟨rfl, h_3⟩ := st0_some h_2
      clear h h_1 h_2
      have h := h_3
      try rw [callW_eq] at h
      exact WW.le (a := [some (.inr (.inr (16, 0))), some (.inl a1), some (.inl v2), some (.inl v3), none]) (by rw [hn]; rfl) (show _ = _ ∧ _ = _ ∧ _ = _ ∧ _ = _ ∧ True from ⟨e0, e1, e2, e3, trivial⟩) (sX12_layWay_53 G hn hC hr a1 N (fX12_layWay_85 N) v2 v3 w h (fun w h => (sX12_layWay_85 G hn hC hr a1 w h)))
    rw [if_neg hj] at h
    cases h
  · exact (show _ = _ ∧ _ = _ ∧ True from ⟨rfl, rfl, trivial⟩)
set_option maxRecDepth 100000 in
set_option maxHeartbeats 4000000 in
theorem sX12_layWay_29 {N : Nat} {X : XT} (G : GX X cX12_layWay RX12) (hn : xnL X = 5) (hC : CRs X tX12_layWay (oF [(mX12_leastOf N), (mX12_isOf N), (mX12_goesOn N)]) (oF []) (oF [(mX12_laySpent N), (mX12_layGuides N)])) {r : Int32 × Wd} (hr : RTZ X cX12_layWay r) (a1 : Int32) : ∀ (n : Nat) (k51 : Int32 → Wd → Option (Int32 × Wd)) (v2 : Int32) (v3 : Int32) (w : Wd), fX12_layWay_29 N n k51 v2 v3 w = some r → (∀ (v2 : Int32) (w : Wd), k51 v2 w = some r → WW X (pcAt tX12_layWay 51) [some (.inr (.inr (16, 0))), some (.inl a1), some (.inl v2), none, none] [] w) → WW X (pcAt tX12_layWay 29) [some (.inr (.inr (16, 0))), some (.inl a1), some (.inl v2), some (.inl v3), none] [] w := by
  intro n
  induction n with
  | zero => intro k51 v2 v3 w h h51; cases h
  | succ n ih =>
    intro k51 v2 v3 w h h51
    refine run_sound (r := r) (X := X) (cc := cX12_layWay) (own := RX12) (tab := tX12_layWay) G (by rw [hn]; exact kX12_layWay) (oI := (oF [(mX12_leastOf N), (mX12_isOf N), (mX12_goesOn N)])) (oL := (oF [])) (oV := (oF [(mX12_laySpent N), (mX12_layGuides N)])) (rI := retZ) (rL := (fun _ _ => none)) (rV := (fun _ => none))
      (K := (fun j ls st w => if j = 29 then (lgI ls 2 fun v2 => lgI ls 3 fun v3 => st0 st (callW (fX12_layWay_29 N n k51 v2 v3) w)) else if j = 51 then (lgI ls 2 fun v2 => st0 st (k51 v2 w)) else none)) hr (fun _ _ _ _ hx => by cases hx) (fun _ _ _ hx => by cases hx) hC (fun ls => lsb [some (.inr (.inr (16, 0))), some (.inl a1), none, none, none] 0 ls) (keepsP_of rfl) ?_ 91 29 [some (.inr (.inr (16, 0))), some (.inl a1), some (.inl v2), some (.inl v3), none] [] w ?_ h
    · intro j ls st w hfx h
      obtain ⟨e0, e1, -⟩ : _ = _ ∧ _ = _ ∧ True := hfx
      try dsimp only at h
      by_cases hj : j = 29
      · subst hj
        rw [if_pos rfl] at h
        obtain ⟨v2, e2, h_1⟩ := lgI_some h
        obtain ⟨v3, e3, h_2⟩ := lgI_some h_1
        obtain ⟨rfl, h_3⟩ := st0_some h_2
        clear h h_1 h_2
        have h := h_3
        try rw [callW_eq] at h
        exact WW.le (a := [some (.inr (.inr (16, 0))), some (.inl a1), some (.inl v2), some (.inl v3), none]) (by rw [hn]; rfl) (show _ = _ ∧ _ = _ ∧ _ = _ ∧ _ = _ ∧ True from ⟨e0, e1, e2, e3, trivial⟩) (ih k51 v2 v3 w h h51)
      rw [if_neg hj] at h
      by_cases hj : j = 51
      · subst hj
        rw [if_pos rfl] at h
        obtain ⟨v2, e2, h_1⟩ := lgI_some h
        obtain ⟨rfl, h_2⟩ := st0_some h_1
        clear h h_1
        have h := h_2
        try rw [callW_eq] at h
        exact WW.le (a := [some (.inr (.inr (16, 0))), some (.inl a1), some (.inl v2), none, none]) (by rw [hn]; rfl) (show _ = _ ∧ _ = _ ∧ _ = _ ∧ True from ⟨e0, e1, e2, trivial⟩) (h51 v2 w h)
      rw [if_neg hj] at h
      cases h
    · exact (show _ = _ ∧ _ = _ ∧ True from ⟨rfl, rfl, trivial⟩)
set_option maxRecDepth 100000 in
set_option maxHeartbeats 4000000 in
theorem crX12_layWay {N : Nat} {X : XT} (G : GX X cX12_layWay RX12) (hR : xR X = rmL 5) : CRs X tX12_layWay (oF [(mX12_leastOf N), (mX12_isOf N), (mX12_goesOn N)]) (oF []) (oF [(mX12_laySpent N), (mX12_layGuides N)]) := by
  have hl : tX12_layWay.filter isInv = [(2, .invokevirtual 528, 0, 0, 2, 0, 0, []), (67, .invokestatic 341, 0, 1, 2, 0, 0, []), (114, .invokevirtual 537, 0, 2, 5, 0, 0, []), (137, .invokevirtual 540, 0, 0, 2, 0, 0, [(0, 0), (0, 0)]), (147, .invokevirtual 543, 0, 1, 1, 0, 0, [(0, 0), (0, 0)])] := rfl
  intro e he
  rw [hl] at he
  simp only [List.mem_cons, List.not_mem_nil, or_false] at he
  rcases he with rfl | rfl | rfl | rfl | rfl
  · exact crI_V (idx := 528) G (by decide +kernel) (MX12_leastOf N) (cw_of (ps := [2197, 2199, 123, 164, 2200]) (by decide +kernel) (by decide +kernel)) ⟨by decide +kernel, by decide +kernel, by decide +kernel⟩ (by unfold rmOk; rw [hR]; exact ⟨by decide, by decide⟩)
  · exact crI_S (idx := 341) G (by decide +kernel) (MX12_isOf N) (cw_of (ps := [1589, 1590, 164, 1591]) (by decide +kernel) (by decide +kernel)) ⟨by decide +kernel, by decide +kernel, by decide +kernel⟩ (by unfold rmOk; rw [hR]; exact ⟨by decide, by decide⟩)
  · exact crI_V (idx := 537) G (by decide +kernel) (MX12_goesOn N) (cw_of (ps := [2217, 2219, 127, 164, 2220]) (by decide +kernel) (by decide +kernel)) ⟨by decide +kernel, by decide +kernel, by decide +kernel⟩ (by unfold rmOk; rw [hR]; exact ⟨by decide, by decide⟩)
  · exact crV_V (idx := 540) G (by decide +kernel) (MX12_laySpent N) (cw_of (ps := [2221, 2223, 128, 164, 2224]) (by decide +kernel) (by decide +kernel)) ⟨by decide +kernel, by decide +kernel, by decide +kernel⟩ (by unfold rmOk; rw [hR]; exact ⟨by decide, by decide⟩)
  · exact crV_V (idx := 543) G (by decide +kernel) (MX12_layGuides N) (cw_of (ps := [2225, 2227, 129, 164, 2228]) (by decide +kernel) (by decide +kernel)) ⟨by decide +kernel, by decide +kernel, by decide +kernel⟩ (by unfold rmOk; rw [hR]; exact ⟨by decide, by decide⟩)
set_option maxRecDepth 100000 in
set_option maxHeartbeats 4000000 in
theorem MX12_layWay (N : Nat) : SndI yX12_layWay cX12_layWay 5 (some .boolean) 5 2 true (mX12_layWay N) := by
  refine SndI.ofZ tX12_layWay (by decide +kernel) rfl rfl ?_ ?_
  · intro as w x h
    obtain ⟨t1, rfl, h_1⟩ := xS1_some h
    obtain ⟨a1, t2, rfl, h_2⟩ := xI1_some h_1
    obtain ⟨rfl, h_3⟩ := xN1_some h_2
    clear h h_1 h_2
    have h := h_3
    rw [callW_eq] at h
    exact ⟨fun _ => ⟨_, _, _, rfl, rfl, _, rfl, rfl⟩, rfl, Nat.le_of_ble_eq_true rfl⟩
  · intro X G hn hR as w r h hr
    have hC := crX12_layWay (N := N) G hR
    obtain ⟨t1, rfl, h_1⟩ := xS1_some h
    obtain ⟨a1, t2, rfl, h_2⟩ := xI1_some h_1
    obtain ⟨rfl, h_3⟩ := xN1_some h_2
    clear h h_1 h_2
    have h := h_3
    rw [callW_eq] at h
    refine run_sound (r := r) (X := X) (cc := cX12_layWay) (own := RX12) (tab := tX12_layWay) G (by rw [hn]; exact kX12_layWay) (oI := (oF [(mX12_leastOf N), (mX12_isOf N), (mX12_goesOn N)])) (oL := (oF [])) (oV := (oF [(mX12_laySpent N), (mX12_layGuides N)])) (rI := retZ) (rL := (fun _ _ => none)) (rV := (fun _ => none))
      (K := (fun j ls st w => if j = 29 then (lgI ls 2 fun v2 => lgI ls 3 fun v3 => st0 st (callW (fX12_layWay_29 N N (fX12_layWay_51 N) v2 v3) w)) else none)) hr (fun _ _ _ _ hx => by cases hx) (fun _ _ _ hx => by cases hx) hC (fun ls => lsb [some (.inr (.inr (16, 0))), some (.inl a1), none, none, none] 0 ls) (keepsP_of rfl) ?_ 91 0 [some (.inr (.inr (16, 0))), some (.inl a1), none, none, none] [] w ?_ h
    · intro j ls st w hfx h
      obtain ⟨e0, e1, -⟩ : _ = _ ∧ _ = _ ∧ True := hfx
      try dsimp only at h
      by_cases hj : j = 29
      · subst hj
        rw [if_pos rfl] at h
        obtain ⟨v2, e2, h_1⟩ := lgI_some h
        obtain ⟨v3, e3, h_2⟩ := lgI_some h_1
        obtain ⟨rfl, h_3⟩ := st0_some h_2
        clear h h_1 h_2
        have h := h_3
        try rw [callW_eq] at h
        exact WW.le (a := [some (.inr (.inr (16, 0))), some (.inl a1), some (.inl v2), some (.inl v3), none]) (by rw [hn]; rfl) (show _ = _ ∧ _ = _ ∧ _ = _ ∧ _ = _ ∧ True from ⟨e0, e1, e2, e3, trivial⟩) (sX12_layWay_29 G hn hC hr a1 N (fX12_layWay_51 N) v2 v3 w h (fun v2 w h => (sX12_layWay_51 G hn hC hr a1 v2 w h)))
      rw [if_neg hj] at h
      cases h
    · exact (show _ = _ ∧ _ = _ ∧ True from ⟨rfl, rfl, trivial⟩)
-- MoorGuidesModel.led(II)I
def tX12_led : List EN := [
  (0, .aload_n 0, 0, 0, 0, 0, 0, []), (1, .iconst 0, 0, 0, 0, 0, 0, []), (2, .putfield 196, 0, 12, 2, 0, 0, []), (5, .aload_n 0, 0, 0, 0, 0, 0, []),
  (6, .iload_n 1, 0, 0, 0, 0, 0, []), (7, .invokevirtual 546, 0, 0, 2, 0, 0, []), (10, .ifCond .eq 12, 0, 12, 0, 0, 0, []), (13, .iload_n 2, 0, 0, 0, 0, 0, []),
  (14, .iconst 0, 0, 0, 0, 0, 0, []), (15, .iconst 1, 0, 0, 0, 1, 0, []), (16, .invokestatic 241, 0, 1, 3, 0, 0, []), (19, .ifCond .ne 5, 0, 14, 0, 0, 0, []),
  (22, .iconst (-1), 0, 0, 0, (-1), 0, []), (23, .ireturn, 0, 0, 0, 0, 0, []), (24, .aload_n 0, 0, 0, 0, 0, 0, []), (25, .iconst 0, 0, 0, 0, 0, 0, []),
  (26, .aload_n 0, 0, 0, 0, 0, 0, []), (27, .getfield 53, 0, 12, 42, 0, 0, []), (30, .iload_n 1, 0, 0, 0, 0, 0, []), (31, .iaload, 0, 0, 0, 0, 0, []),
  (32, .iconst 0, 0, 0, 0, 0, 0, []), (33, .invokevirtual 549, 0, 0, 4, 0, 0, [(0, 0), (0, 0)]), (36, .aload_n 0, 0, 0, 0, 0, 0, []), (37, .iload_n 1, 0, 0, 0, 0, 0, []),
  (38, .invokevirtual 528, 0, 2, 2, 0, 0, []), (41, .istore_n 3, 0, 0, 0, 0, 0, []), (42, .iload_n 3, 0, 0, 0, 0, 0, []), (43, .ldc 234, 0, 0, 0, 99999, 0, []),
  (45, .if_icmp .lt 8, 0, 31, 0, 0, 0, []), (48, .bipush (-2), 0, 0, 0, (-2), 0, []), (50, .goto 18, 0, 40, 0, 0, 0, []), (53, .iload_n 2, 0, 0, 0, 0, 0, []),
  (54, .ifCond .ne 10, 0, 37, 0, 0, 0, []), (57, .iload_n 3, 0, 0, 0, 0, 0, []), (58, .bipush 100, 0, 0, 0, 100, 0, []), (60, .idiv, 0, 0, 0, 0, 0, []),
  (61, .goto 7, 0, 40, 0, 0, 0, []), (64, .iload_n 3, 0, 0, 0, 0, 0, []), (65, .bipush 100, 0, 0, 0, 100, 0, []), (67, .irem, 0, 0, 0, 0, 0, []),
  (68, .ireturn, 0, 0, 0, 0, 0, [])]
noncomputable def pX12_led (N : Nat) (a1 : Int32) (a2 : Int32) (w : Wd) : Option (Int32 × Wd) :=
  (callW (pX12_isParty N a1) (setI w 16 0 2 (0 : Int32))).bind fun r1 =>
  if r1.1 = 0 then some ((-1 : Int32), r1.2) else
  (callW (pX12_isIn N a2 (0 : Int32) (1 : Int32)) r1.2).bind fun r2 =>
  if r2.1 = 0 then some ((-1 : Int32), r2.2) else
  (ldI r2.2 86 0 a1 16).bind fun x3 =>
  (callW (pX12_layKnown N (0 : Int32) x3 (0 : Int32)) r2.2).bind fun w4 =>
  (callW (pX12_leastOf N a1) w4).bind fun r5 =>
  if r5.1 < (99999 : Int32) then
    if a2 = 0 then some ((r5.1 / (100 : Int32)), r5.2) else
    some ((r5.1 - r5.1 / (100 : Int32) * (100 : Int32)), r5.2)
  else
  some ((-2 : Int32), r5.2)
noncomputable def mX12_led (N : Nat) (as : List AV) (w : Wd) : Option (Int32 × Wd) := xS1 16 as fun t => xI1 t fun a1 t => xI1 t fun a2 t => xN1 t (callW (pX12_led N a1 a2) w)
set_option maxRecDepth 100000 in
set_option maxHeartbeats 4000000 in
theorem kX12_led : TK cX12_led RX12 4 tX12_led := ⟨by decide +kernel, wok_of [1602, 1642, 1958] (by decide +kernel) (by decide +kernel)⟩
set_option maxRecDepth 100000 in
set_option maxHeartbeats 4000000 in
theorem crX12_led {N : Nat} {X : XT} (G : GX X cX12_led RX12) (hR : xR X = rmL 5) : CRs X tX12_led (oF [(mX12_isParty N), (mX12_isIn N), (mX12_leastOf N)]) (oF []) (oF [(mX12_layKnown N)]) := by
  have hl : tX12_led.filter isInv = [(7, .invokevirtual 546, 0, 0, 2, 0, 0, []), (16, .invokestatic 241, 0, 1, 3, 0, 0, []), (33, .invokevirtual 549, 0, 0, 4, 0, 0, [(0, 0), (0, 0)]), (38, .invokevirtual 528, 0, 2, 2, 0, 0, [])] := rfl
  intro e he
  rw [hl] at he
  simp only [List.mem_cons, List.not_mem_nil, or_false] at he
  rcases he with rfl | rfl | rfl | rfl
  · exact crI_V (idx := 546) G (by decide +kernel) (MX12_isParty N) (cw_of (ps := [2189, 2191, 121, 164, 2192]) (by decide +kernel) (by decide +kernel)) ⟨by decide +kernel, by decide +kernel, by decide +kernel⟩ (by unfold rmOk; rw [hR]; exact ⟨by decide, by decide⟩)
  · exact crI_S (idx := 241) G (by decide +kernel) (MX12_isIn N) (cw_of (ps := [1986, 1987, 164, 1988]) (by decide +kernel) (by decide +kernel)) ⟨by decide +kernel, by decide +kernel, by decide +kernel⟩ (by unfold rmOk; rw [hR]; exact ⟨by decide, by decide⟩)
  · exact crV_V (idx := 549) G (by decide +kernel) (MX12_layKnown N) (cw_of (ps := [2193, 2195, 122, 164, 2196]) (by decide +kernel) (by decide +kernel)) ⟨by decide +kernel, by decide +kernel, by decide +kernel⟩ (by unfold rmOk; rw [hR]; exact ⟨by decide, by decide⟩)
  · exact crI_V (idx := 528) G (by decide +kernel) (MX12_leastOf N) (cw_of (ps := [2197, 2199, 123, 164, 2200]) (by decide +kernel) (by decide +kernel)) ⟨by decide +kernel, by decide +kernel, by decide +kernel⟩ (by unfold rmOk; rw [hR]; exact ⟨by decide, by decide⟩)
set_option maxRecDepth 100000 in
set_option maxHeartbeats 4000000 in
theorem MX12_led (N : Nat) : SndI yX12_led cX12_led 4 (some .int) 5 3 true (mX12_led N) := by
  refine SndI.of tX12_led (by decide +kernel) rfl rfl ?_ ?_
  · intro as w x h
    obtain ⟨t1, rfl, h_1⟩ := xS1_some h
    obtain ⟨a1, t2, rfl, h_2⟩ := xI1_some h_1
    obtain ⟨a2, t3, rfl, h_3⟩ := xI1_some h_2
    obtain ⟨rfl, h_4⟩ := xN1_some h_3
    clear h h_1 h_2 h_3
    have h := h_4
    rw [callW_eq] at h
    exact ⟨fun _ => ⟨_, _, _, rfl, rfl, _, rfl, rfl⟩, rfl, Nat.le_of_ble_eq_true rfl⟩
  · intro X G hn hR as w r h hr
    have hC := crX12_led (N := N) G hR
    obtain ⟨t1, rfl, h_1⟩ := xS1_some h
    obtain ⟨a1, t2, rfl, h_2⟩ := xI1_some h_1
    obtain ⟨a2, t3, rfl, h_3⟩ := xI1_some h_2
    obtain ⟨rfl, h_4⟩ := xN1_some h_3
    clear h h_1 h_2 h_3
    have h := h_4
    rw [callW_eq] at h
    refine run_sound (r := r) (X := X) (cc := cX12_led) (own := RX12) (tab := tX12_led) G (by rw [hn]; exact kX12_led) (oI := (oF [(mX12_isParty N), (mX12_isIn N), (mX12_leastOf N)])) (oL := (oF [])) (oV := (oF [(mX12_layKnown N)])) (rI := (fun x w => some (x, w))) (rL := (fun _ _ => none)) (rV := (fun _ => none))
      (K := (fun j ls st w => none)) (fun x w pc ls hx hd => hr x w pc ls (Option.some.inj hx) hd) (fun _ _ _ _ hx => by cases hx) (fun _ _ _ hx => by cases hx) hC (fun ls => lsb [some (.inr (.inr (16, 0))), some (.inl a1), some (.inl a2), none] 0 ls) (keepsP_of rfl) ?_ 43 0 [some (.inr (.inr (16, 0))), some (.inl a1), some (.inl a2), none] [] w ?_ h
    · intro j ls st w hfx h
      obtain ⟨e0, e1, e2, -⟩ : _ = _ ∧ _ = _ ∧ _ = _ ∧ True := hfx
      try dsimp only at h
      cases h
    · exact (show _ = _ ∧ _ = _ ∧ _ = _ ∧ True from ⟨rfl, rfl, rfl, trivial⟩)
-- MoorGuidesModel.way(III)I
def tX12_way : List EN := [
  (0, .aload_n 0, 0, 0, 0, 0, 0, []), (1, .iconst 0, 0, 0, 0, 0, 0, []), (2, .putfield 196, 0, 12, 2, 0, 0, []), (5, .aload_n 0, 0, 0, 0, 0, 0, []),
  (6, .iload_n 1, 0, 0, 0, 0, 0, []), (7, .invokevirtual 546, 0, 0, 2, 0, 0, []), (10, .ifCond .eq 16, 0, 14, 0, 0, 0, []), (13, .iload_n 2, 0, 0, 0, 0, 0, []),
  (14, .ifCond .lt 12, 0, 14, 0, 0, 0, []), (17, .iload_n 3, 0, 0, 0, 0, 0, []), (18, .iconst 0, 0, 0, 0, 0, 0, []), (19, .iconst 1, 0, 0, 0, 1, 0, []),
  (20, .invokestatic 241, 0, 1, 3, 0, 0, []), (23, .ifCond .ne 5, 0, 16, 0, 0, 0, []), (26, .iconst (-1), 0, 0, 0, (-1), 0, []), (27, .ireturn, 0, 0, 0, 0, 0, []),
  (28, .aload_n 0, 0, 0, 0, 0, 0, []), (29, .iconst 0, 0, 0, 0, 0, 0, []), (30, .aload_n 0, 0, 0, 0, 0, 0, []), (31, .getfield 53, 0, 12, 42, 0, 0, []),
  (34, .iload_n 1, 0, 0, 0, 0, 0, []), (35, .iaload, 0, 0, 0, 0, 0, []), (36, .iconst 0, 0, 0, 0, 0, 0, []), (37, .invokevirtual 549, 0, 0, 4, 0, 0, [(0, 0), (0, 0)]),
  (40, .aload_n 0, 0, 0, 0, 0, 0, []), (41, .iload_n 1, 0, 0, 0, 0, 0, []), (42, .invokevirtual 552, 0, 2, 2, 0, 0, []), (45, .ifCond .eq 11, 0, 32, 0, 0, 0, []),
  (48, .iload_n 2, 0, 0, 0, 0, 0, []), (49, .aload_n 0, 0, 0, 0, 0, 0, []), (50, .getfield 531, 0, 12, 82, 0, 0, []), (53, .if_icmp .lt 6, 0, 34, 0, 0, 0, []),
  (56, .bipush (-2), 0, 0, 0, (-2), 0, []), (58, .ireturn, 0, 0, 0, 0, 0, []), (59, .iload_n 3, 0, 0, 0, 0, 0, []), (60, .ifCond .ne 12, 0, 41, 0, 0, 0, []),
  (63, .aload_n 0, 0, 0, 0, 0, 0, []), (64, .getfield 136, 0, 12, 79, 0, 0, []), (67, .iload_n 2, 0, 0, 0, 0, 0, []), (68, .iaload, 0, 0, 0, 0, 0, []),
  (69, .goto 9, 0, 45, 0, 0, 0, []), (72, .aload_n 0, 0, 0, 0, 0, 0, []), (73, .getfield 139, 0, 12, 80, 0, 0, []), (76, .iload_n 2, 0, 0, 0, 0, 0, []),
  (77, .iaload, 0, 0, 0, 0, 0, []), (78, .ireturn, 0, 0, 0, 0, 0, [])]
noncomputable def pX12_way (N : Nat) (a1 : Int32) (a2 : Int32) (a3 : Int32) (w : Wd) : Option (Int32 × Wd) :=
  (callW (pX12_isParty N a1) (setI w 16 0 2 (0 : Int32))).bind fun r1 =>
  if r1.1 = 0 then some ((-1 : Int32), r1.2) else
  if a2 < 0 then some ((-1 : Int32), r1.2) else
  (callW (pX12_isIn N a3 (0 : Int32) (1 : Int32)) r1.2).bind fun r2 =>
  if r2.1 = 0 then some ((-1 : Int32), r2.2) else
  (ldI r2.2 86 0 a1 16).bind fun x3 =>
  (callW (pX12_layKnown N (0 : Int32) x3 (0 : Int32)) r2.2).bind fun w4 =>
  (callW (pX12_layWay N a1) w4).bind fun r5 =>
  if r5.1 = 0 then some ((-2 : Int32), r5.2) else
  if a2 < (gI r5.2 16 0 82) then
    if a3 = 0 then
      (ldI r5.2 113 0 a2 9).bind fun x6 =>
      some (x6, r5.2)
    else
    (ldI r5.2 114 0 a2 9).bind fun x7 =>
    some (x7, r5.2)
  else
  some ((-2 : Int32), r5.2)
noncomputable def mX12_way (N : Nat) (as : List AV) (w : Wd) : Option (Int32 × Wd) := xS1 16 as fun t => xI1 t fun a1 t => xI1 t fun a2 t => xI1 t fun a3 t => xN1 t (callW (pX12_way N a1 a2 a3) w)
set_option maxRecDepth 100000 in
set_option maxHeartbeats 4000000 in
theorem kX12_way : TK cX12_way RX12 4 tX12_way := ⟨by decide +kernel, wok_of [1602, 1642, 1682, 1679, 1680] (by decide +kernel) (by decide +kernel)⟩
set_option maxRecDepth 100000 in
set_option maxHeartbeats 4000000 in
theorem crX12_way {N : Nat} {X : XT} (G : GX X cX12_way RX12) (hR : xR X = rmL 6) : CRs X tX12_way (oF [(mX12_isParty N), (mX12_isIn N), (mX12_layWay N)]) (oF []) (oF [(mX12_layKnown N)]) := by
  have hl : tX12_way.filter isInv = [(7, .invokevirtual 546, 0, 0, 2, 0, 0, []), (20, .invokestatic 241, 0, 1, 3, 0, 0, []), (37, .invokevirtual 549, 0, 0, 4, 0, 0, [(0, 0), (0, 0)]), (42, .invokevirtual 552, 0, 2, 2, 0, 0, [])] := rfl
  intro e he
  rw [hl] at he
  simp only [List.mem_cons, List.not_mem_nil, or_false] at he
  rcases he with rfl | rfl | rfl | rfl
  · exact crI_V (idx := 546) G (by decide +kernel) (MX12_isParty N) (cw_of (ps := [2189, 2191, 121, 164, 2192]) (by decide +kernel) (by decide +kernel)) ⟨by decide +kernel, by decide +kernel, by decide +kernel⟩ (by unfold rmOk; rw [hR]; exact ⟨by decide, by decide⟩)
  · exact crI_S (idx := 241) G (by decide +kernel) (MX12_isIn N) (cw_of (ps := [1986, 1987, 164, 1988]) (by decide +kernel) (by decide +kernel)) ⟨by decide +kernel, by decide +kernel, by decide +kernel⟩ (by unfold rmOk; rw [hR]; exact ⟨by decide, by decide⟩)
  · exact crV_V (idx := 549) G (by decide +kernel) (MX12_layKnown N) (cw_of (ps := [2193, 2195, 122, 164, 2196]) (by decide +kernel) (by decide +kernel)) ⟨by decide +kernel, by decide +kernel, by decide +kernel⟩ (by unfold rmOk; rw [hR]; exact ⟨by decide, by decide⟩)
  · exact crI_V (idx := 552) G (by decide +kernel) (MX12_layWay N) (cw_of (ps := [2213, 2215, 126, 164, 2216]) (by decide +kernel) (by decide +kernel)) ⟨by decide +kernel, by decide +kernel, by decide +kernel⟩ (by unfold rmOk; rw [hR]; exact ⟨by decide, by decide⟩)
set_option maxRecDepth 100000 in
set_option maxHeartbeats 4000000 in
theorem MX12_way (N : Nat) : SndI yX12_way cX12_way 4 (some .int) 6 4 true (mX12_way N) := by
  refine SndI.of tX12_way (by decide +kernel) rfl rfl ?_ ?_
  · intro as w x h
    obtain ⟨t1, rfl, h_1⟩ := xS1_some h
    obtain ⟨a1, t2, rfl, h_2⟩ := xI1_some h_1
    obtain ⟨a2, t3, rfl, h_3⟩ := xI1_some h_2
    obtain ⟨a3, t4, rfl, h_4⟩ := xI1_some h_3
    obtain ⟨rfl, h_5⟩ := xN1_some h_4
    clear h h_1 h_2 h_3 h_4
    have h := h_5
    rw [callW_eq] at h
    exact ⟨fun _ => ⟨_, _, _, rfl, rfl, _, rfl, rfl⟩, rfl, Nat.le_of_ble_eq_true rfl⟩
  · intro X G hn hR as w r h hr
    have hC := crX12_way (N := N) G hR
    obtain ⟨t1, rfl, h_1⟩ := xS1_some h
    obtain ⟨a1, t2, rfl, h_2⟩ := xI1_some h_1
    obtain ⟨a2, t3, rfl, h_3⟩ := xI1_some h_2
    obtain ⟨a3, t4, rfl, h_4⟩ := xI1_some h_3
    obtain ⟨rfl, h_5⟩ := xN1_some h_4
    clear h h_1 h_2 h_3 h_4
    have h := h_5
    rw [callW_eq] at h
    refine run_sound (r := r) (X := X) (cc := cX12_way) (own := RX12) (tab := tX12_way) G (by rw [hn]; exact kX12_way) (oI := (oF [(mX12_isParty N), (mX12_isIn N), (mX12_layWay N)])) (oL := (oF [])) (oV := (oF [(mX12_layKnown N)])) (rI := (fun x w => some (x, w))) (rL := (fun _ _ => none)) (rV := (fun _ => none))
      (K := (fun j ls st w => none)) (fun x w pc ls hx hd => hr x w pc ls (Option.some.inj hx) hd) (fun _ _ _ _ hx => by cases hx) (fun _ _ _ hx => by cases hx) hC (fun ls => lsb [some (.inr (.inr (16, 0))), some (.inl a1), some (.inl a2), some (.inl a3)] 0 ls) (keepsP_of rfl) ?_ 48 0 [some (.inr (.inr (16, 0))), some (.inl a1), some (.inl a2), some (.inl a3)] [] w ?_ h
    · intro j ls st w hfx h
      obtain ⟨e0, e1, e2, e3, -⟩ : _ = _ ∧ _ = _ ∧ _ = _ ∧ _ = _ ∧ True := hfx
      try dsimp only at h
      cases h
    · exact (show _ = _ ∧ _ = _ ∧ _ = _ ∧ _ = _ ∧ True from ⟨rfl, rfl, rfl, rfl, trivial⟩)
-- MoorGuidesModel.round(II)I
def tX12_round : List EN := [
  (0, .aload_n 0, 0, 0, 0, 0, 0, []), (1, .iconst 0, 0, 0, 0, 0, 0, []), (2, .putfield 196, 0, 12, 2, 0, 0, []), (5, .aload_n 0, 0, 0, 0, 0, 0, []),
  (6, .iload_n 1, 0, 0, 0, 0, 0, []), (7, .invokevirtual 546, 0, 0, 2, 0, 0, []), (10, .ifCond .eq 31, 0, 23, 0, 0, 0, []), (13, .aload_n 0, 0, 0, 0, 0, 0, []),
  (14, .iload_n 2, 0, 0, 0, 0, 0, []), (15, .invokevirtual 473, 0, 1, 2, 0, 0, []), (18, .ifCond .eq 23, 0, 23, 0, 0, 0, []), (21, .aload_n 0, 0, 0, 0, 0, 0, []),
  (22, .getfield 47, 0, 12, 40, 0, 0, []), (25, .iload_n 1, 0, 0, 0, 0, 0, []), (26, .iaload, 0, 0, 0, 0, 0, []), (27, .iload_n 2, 0, 0, 0, 0, 0, []),
  (28, .if_icmp .eq 13, 0, 23, 0, 0, 0, []), (31, .aload_n 0, 0, 0, 0, 0, 0, []), (32, .getfield 50, 0, 12, 41, 0, 0, []), (35, .iload_n 1, 0, 0, 0, 0, 0, []),
  (36, .iaload, 0, 0, 0, 0, 0, []), (37, .iload_n 2, 0, 0, 0, 0, 0, []), (38, .if_icmp .ne 5, 0, 25, 0, 0, 0, []), (41, .iconst (-1), 0, 0, 0, (-1), 0, []),
  (42, .ireturn, 0, 0, 0, 0, 0, []), (43, .bipush 8, 0, 0, 0, 8, 0, []), (45, .aload_n 0, 0, 0, 0, 0, 0, []), (46, .getfield 47, 0, 12, 40, 0, 0, []),
  (49, .iload_n 1, 0, 0, 0, 0, 0, []), (50, .iaload, 0, 0, 0, 0, 0, []), (51, .imul, 0, 0, 0, 0, 0, []), (52, .aload_n 0, 0, 0, 0, 0, 0, []),
  (53, .getfield 50, 0, 12, 41, 0, 0, []), (56, .iload_n 1, 0, 0, 0, 0, 0, []), (57, .iaload, 0, 0, 0, 0, 0, []), (58, .iadd, 0, 0, 0, 0, 0, []),
  (59, .istore_n 3, 0, 0, 0, 0, 0, []), (60, .aload_n 0, 0, 0, 0, 0, 0, []), (61, .getfield 118, 0, 12, 72, 0, 0, []), (64, .iload_n 3, 0, 0, 0, 0, 0, []),
  (65, .iaload, 0, 0, 0, 0, 0, []), (66, .bipush 99, 0, 0, 0, 99, 0, []), (68, .if_icmp .lt 5, 0, 45, 0, 0, 0, []), (71, .iconst (-1), 0, 0, 0, (-1), 0, []),
  (72, .ireturn, 0, 0, 0, 0, 0, []), (73, .aload_n 0, 0, 0, 0, 0, 0, []), (74, .aload_n 0, 0, 0, 0, 0, 0, []), (75, .getfield 121, 0, 12, 73, 0, 0, []),
  (78, .iload_n 2, 0, 0, 0, 0, 0, []), (79, .invokevirtual 482, 0, 0, 3, 0, 0, [(0, 0), (0, 0)]), (82, .aload_n 0, 0, 0, 0, 0, 0, []), (83, .getfield 121, 0, 12, 73, 0, 0, []),
  (86, .iload_n 3, 0, 0, 0, 0, 0, []), (87, .iaload, 0, 0, 0, 0, 0, []), (88, .bipush 99, 0, 0, 0, 99, 0, []), (90, .if_icmp .lt 8, 0, 58, 0, 0, 0, []),
  (93, .bipush (-2), 0, 0, 0, (-2), 0, []), (95, .goto 16, 0, 67, 0, 0, 0, []), (98, .aload_n 0, 0, 0, 0, 0, 0, []), (99, .getfield 121, 0, 12, 73, 0, 0, []),
  (102, .iload_n 3, 0, 0, 0, 0, 0, []), (103, .iaload, 0, 0, 0, 0, 0, []), (104, .aload_n 0, 0, 0, 0, 0, 0, []), (105, .getfield 118, 0, 12, 72, 0, 0, []),
  (108, .iload_n 3, 0, 0, 0, 0, 0, []), (109, .iaload, 0, 0, 0, 0, 0, []), (110, .isub, 0, 0, 0, 0, 0, []), (111, .ireturn, 0, 0, 0, 0, 0, [])]
noncomputable def pX12_round (N : Nat) (a1 : Int32) (a2 : Int32) (w : Wd) : Option (Int32 × Wd) :=
  (callW (pX12_isParty N a1) (setI w 16 0 2 (0 : Int32))).bind fun r1 =>
  if r1.1 = 0 then some ((-1 : Int32), r1.2) else
  (callW (pX12_isPart N a2) r1.2).bind fun r2 =>
  if r2.1 = 0 then some ((-1 : Int32), r2.2) else
  (ldI r2.2 84 0 a1 16).bind fun x3 =>
  if x3 = a2 then some ((-1 : Int32), r2.2) else
  (ldI r2.2 85 0 a1 16).bind fun x4 =>
  if x4 = a2 then some ((-1 : Int32), r2.2) else
  (ldI r2.2 84 0 a1 16).bind fun x5 =>
  (ldI r2.2 85 0 a1 16).bind fun x6 =>
  (ldI r2.2 107 0 (((8 : Int32) * x5) + x6) 64).bind fun x7 =>
  if x7 < (99 : Int32) then
    (callW (pX12_layWays N 108 0 a2) r2.2).bind fun w8 =>
    (ldI w8 108 0 (((8 : Int32) * x5) + x6) 64).bind fun x9 =>
    if x9 < (99 : Int32) then
      (ldI w8 108 0 (((8 : Int32) * x5) + x6) 64).bind fun x10 =>
      (ldI w8 107 0 (((8 : Int32) * x5) + x6) 64).bind fun x11 =>
      some ((x10 - x11), w8)
    else
    some ((-2 : Int32), w8)
  else
  some ((-1 : Int32), r2.2)
noncomputable def mX12_round (N : Nat) (as : List AV) (w : Wd) : Option (Int32 × Wd) := xS1 16 as fun t => xI1 t fun a1 t => xI1 t fun a2 t => xN1 t (callW (pX12_round N a1 a2) w)
set_option maxRecDepth 100000 in
set_option maxHeartbeats 4000000 in
theorem kX12_round : TK cX12_round RX12 4 tX12_round := ⟨by decide +kernel, wok_of [1602, 1640, 1641, 1640, 1641, 1672, 1673, 1673, 1673, 1672] (by decide +kernel) (by decide +kernel)⟩
set_option maxRecDepth 100000 in
set_option maxHeartbeats 4000000 in
theorem crX12_round {N : Nat} {X : XT} (G : GX X cX12_round RX12) (hR : xR X = rmL 3) : CRs X tX12_round (oF [(mX12_isParty N), (mX12_isPart N)]) (oF []) (oF [(mX12_layWays N)]) := by
  have hl : tX12_round.filter isInv = [(7, .invokevirtual 546, 0, 0, 2, 0, 0, []), (15, .invokevirtual 473, 0, 1, 2, 0, 0, []), (79, .invokevirtual 482, 0, 0, 3, 0, 0, [(0, 0), (0, 0)])] := rfl
  intro e he
  rw [hl] at he
  simp only [List.mem_cons, List.not_mem_nil, or_false] at he
  rcases he with rfl | rfl | rfl
  · exact crI_V (idx := 546) G (by decide +kernel) (MX12_isParty N) (cw_of (ps := [2189, 2191, 121, 164, 2192]) (by decide +kernel) (by decide +kernel)) ⟨by decide +kernel, by decide +kernel, by decide +kernel⟩ (by unfold rmOk; rw [hR]; exact ⟨by decide, by decide⟩)
  · exact crI_V (idx := 473) G (by decide +kernel) (MX12_isPart N) (cw_of (ps := [2104, 2106, 111, 164, 2107]) (by decide +kernel) (by decide +kernel)) ⟨by decide +kernel, by decide +kernel, by decide +kernel⟩ (by unfold rmOk; rw [hR]; exact ⟨by decide, by decide⟩)
  · exact crV_V (idx := 482) G (by decide +kernel) (MX12_layWays N) (cw_of (ps := [1596, 1598, 75, 164, 1599]) (by decide +kernel) (by decide +kernel)) ⟨by decide +kernel, by decide +kernel, by decide +kernel⟩ (by unfold rmOk; rw [hR]; exact ⟨by decide, by decide⟩)
set_option maxRecDepth 100000 in
set_option maxHeartbeats 4000000 in
theorem MX12_round (N : Nat) : SndI yX12_round cX12_round 4 (some .int) 3 3 true (mX12_round N) := by
  refine SndI.of tX12_round (by decide +kernel) rfl rfl ?_ ?_
  · intro as w x h
    obtain ⟨t1, rfl, h_1⟩ := xS1_some h
    obtain ⟨a1, t2, rfl, h_2⟩ := xI1_some h_1
    obtain ⟨a2, t3, rfl, h_3⟩ := xI1_some h_2
    obtain ⟨rfl, h_4⟩ := xN1_some h_3
    clear h h_1 h_2 h_3
    have h := h_4
    rw [callW_eq] at h
    exact ⟨fun _ => ⟨_, _, _, rfl, rfl, _, rfl, rfl⟩, rfl, Nat.le_of_ble_eq_true rfl⟩
  · intro X G hn hR as w r h hr
    have hC := crX12_round (N := N) G hR
    obtain ⟨t1, rfl, h_1⟩ := xS1_some h
    obtain ⟨a1, t2, rfl, h_2⟩ := xI1_some h_1
    obtain ⟨a2, t3, rfl, h_3⟩ := xI1_some h_2
    obtain ⟨rfl, h_4⟩ := xN1_some h_3
    clear h h_1 h_2 h_3
    have h := h_4
    rw [callW_eq] at h
    refine run_sound (r := r) (X := X) (cc := cX12_round) (own := RX12) (tab := tX12_round) G (by rw [hn]; exact kX12_round) (oI := (oF [(mX12_isParty N), (mX12_isPart N)])) (oL := (oF [])) (oV := (oF [(mX12_layWays N)])) (rI := (fun x w => some (x, w))) (rL := (fun _ _ => none)) (rV := (fun _ => none))
      (K := (fun j ls st w => none)) (fun x w pc ls hx hd => hr x w pc ls (Option.some.inj hx) hd) (fun _ _ _ _ hx => by cases hx) (fun _ _ _ hx => by cases hx) hC (fun ls => lsb [some (.inr (.inr (16, 0))), some (.inl a1), some (.inl a2), none] 0 ls) (keepsP_of rfl) ?_ 70 0 [some (.inr (.inr (16, 0))), some (.inl a1), some (.inl a2), none] [] w ?_ h
    · intro j ls st w hfx h
      obtain ⟨e0, e1, e2, -⟩ : _ = _ ∧ _ = _ ∧ _ = _ ∧ True := hfx
      try dsimp only at h
      cases h
    · exact (show _ = _ ∧ _ = _ ∧ _ = _ ∧ True from ⟨rfl, rfl, rfl, trivial⟩)
-- MoorGuidesModel.leads(II)Z
def tX12_leads : List EN := [
  (0, .aload_n 0, 0, 0, 0, 0, 0, []), (1, .getfield 130, 0, 12, 77, 0, 0, []), (4, .iload_n 1, 0, 0, 0, 0, 0, []), (5, .iaload, 0, 0, 0, 0, 0, []),
  (6, .istore_n 3, 0, 0, 0, 0, 0, []), (7, .iload_n 3, 0, 0, 0, 0, 0, []), (8, .aload_n 0, 0, 0, 0, 0, 0, []), (9, .getfield 47, 0, 12, 40, 0, 0, []),
  (12, .iload_n 2, 0, 0, 0, 0, 0, []), (13, .iaload, 0, 0, 0, 0, 0, []), (14, .invokestatic 341, 0, 0, 2, 0, 0, []), (17, .ifCond .eq 14, 0, 19, 0, 0, 0, []),
  (20, .iconst 1, 0, 0, 0, 1, 0, []), (21, .aload_n 0, 0, 0, 0, 0, 0, []), (22, .getfield 47, 0, 12, 40, 0, 0, []), (25, .iload_n 2, 0, 0, 0, 0, 0, []),
  (26, .iaload, 0, 0, 0, 0, 0, []), (27, .ishl, 0, 0, 0, 0, 0, []), (28, .goto 4, 0, 20, 0, 0, 0, []), (31, .iconst 0, 0, 0, 0, 0, 0, []),
  (32, .istore 4, 0, 0, 0, 0, 0, []), (34, .iconst 0, 0, 0, 0, 0, 0, []), (35, .istore 5, 0, 0, 0, 0, 0, []), (37, .iload 5, 24, 0, 0, 0, 0, []),
  (39, .bipush 8, 0, 0, 0, 8, 0, []), (41, .if_icmp .ge 55, 0, 51, 0, 0, 0, []), (44, .iconst 0, 0, 0, 0, 0, 0, []), (45, .istore 6, 0, 0, 0, 0, 0, []),
  (47, .iload 6, 29, 0, 0, 0, 0, []), (49, .aload_n 0, 0, 0, 0, 0, 0, []), (50, .getfield 295, 0, 12, 12, 0, 0, []), (53, .if_icmp .ge 37, 0, 49, 0, 0, 0, []),
  (56, .iload 4, 0, 0, 0, 0, 0, []), (58, .iload 4, 0, 0, 0, 0, 0, []), (60, .iload 6, 0, 0, 0, 0, 0, []), (62, .invokestatic 341, 0, 0, 2, 0, 0, []),
  (65, .ifCond .eq 15, 0, 44, 0, 0, 0, []), (68, .aload_n 0, 0, 0, 0, 0, 0, []), (69, .getfield 26, 0, 12, 33, 0, 0, []), (72, .iload 6, 0, 0, 0, 0, 0, []),
  (74, .iaload, 0, 0, 0, 0, 0, []), (75, .iload_n 3, 0, 0, 0, 0, 0, []), (76, .iand, 0, 0, 0, 0, 0, []), (77, .goto 4, 0, 45, 0, 0, 0, []),
  (80, .iconst 0, 0, 0, 0, 0, 0, []), (81, .ior, 0, 0, 0, 0, 0, []), (82, .istore 4, 0, 0, 0, 0, 0, []), (84, .iinc 6 1, 0, 0, 0, 1, 0, []),
  (87, .goto (-40), 0, 28, 0, 0, 0, []), (90, .iinc 5 1, 50, 0, 0, 1, 0, []), (93, .goto (-56), 0, 23, 0, 0, 0, []), (96, .iload 4, 52, 0, 0, 0, 0, []),
  (98, .aload_n 0, 0, 0, 0, 0, 0, []), (99, .getfield 50, 0, 12, 41, 0, 0, []), (102, .iload_n 2, 0, 0, 0, 0, 0, []), (103, .iaload, 0, 0, 0, 0, 0, []),
  (104, .invokestatic 341, 0, 0, 2, 0, 0, []), (107, .ireturn, 0, 0, 0, 0, 0, [])]
noncomputable def fX12_leads_51 (N : Nat) (a2 : Int32) (v4 : Int32) (w : Wd) : Option (Int32 × Wd) :=
  (ldI w 85 0 a2 16).bind fun x1 =>
  (callW (pX12_isOf N v4 x1) w).bind fun r2 =>
  retZ r2.1 r2.2
noncomputable def fX12_leads_49 (N : Nat) (a2 : Int32) (k23 : Int32 → Int32 → Int32 → Wd → Option (Int32 × Wd)) (v3 : Int32) (v4 : Int32) (v5 : Int32) (w : Wd) : Option (Int32 × Wd) :=
  k23 v3 v4 (v5 + (1 : Int32)) w
noncomputable def fX12_leads_28 (N : Nat) (a2 : Int32) : Nat → (Int32 → Int32 → Int32 → Wd → Option (Int32 × Wd)) → Int32 → Int32 → Int32 → Int32 → Wd → Option (Int32 × Wd)
  | 0, _, _, _, _, _, _ => none
  | n + 1, k49, v3, v4, v5, v6, w =>
    if v6 < (gI w 16 0 12) then
      (callW (pX12_isOf N v4 v6) w).bind fun r1 =>
      if r1.1 = 0 then callW (fX12_leads_28 N a2 n k49 v3 (v4 ||| (0 : Int32)) v5 (v6 + (1 : Int32))) r1.2 else
      (ldI r1.2 77 0 v6 16).bind fun x2 =>
      callW (fX12_leads_28 N a2 n k49 v3 (v4 ||| (x2 &&& v3)) v5 (v6 + (1 : Int32))) r1.2
    else
    k49 v3 v4 v5 w
noncomputable def fX12_leads_23 (N : Nat) (a2 : Int32) : Nat → (Int32 → Wd → Option (Int32 × Wd)) → Int32 → Int32 → Int32 → Wd → Option (Int32 × Wd)
  | 0, _, _, _, _, _ => none
  | n + 1, k51, v3, v4, v5, w =>
    if v5 < (8 : Int32) then callW (fX12_leads_28 N a2 N (fX12_leads_49 N a2 (fX12_leads_23 N a2 n k51)) v3 v4 v5 (0 : Int32)) w else
    k51 v4 w
noncomputable def pX12_leads (N : Nat) (a1 : Int32) (a2 : Int32) (w : Wd) : Option (Int32 × Wd) :=
  (ldI w 111 0 a1 7).bind fun x1 =>
  (ldI w 84 0 a2 16).bind fun x2 =>
  (callW (pX12_isOf N x1 x2) w).bind fun r3 =>
  if r3.1 = 0 then callW (fX12_leads_23 N a2 N (fX12_leads_51 N a2) x1 (0 : Int32) (0 : Int32)) r3.2 else
  (ldI r3.2 84 0 a2 16).bind fun x4 =>
  callW (fX12_leads_23 N a2 N (fX12_leads_51 N a2) x1 ((1 : Int32) <<< (x4 &&& (31 : Int32))) (0 : Int32)) r3.2
noncomputable def mX12_leads (N : Nat) (as : List AV) (w : Wd) : Option (Int32 × Wd) := xS1 16 as fun t => xI1 t fun a1 t => xI1 t fun a2 t => xN1 t (callW (pX12_leads N a1 a2) w)
set_option maxRecDepth 100000 in
set_option maxHeartbeats 4000000 in
theorem kX12_leads : TK cX12_leads RX12 7 tX12_leads := ⟨by decide +kernel, wok_of [1677, 1640, 1640, 1612, 1633, 1641] (by decide +kernel) (by decide +kernel)⟩
set_option maxRecDepth 100000 in
set_option maxHeartbeats 4000000 in
theorem sX12_leads_51 {N : Nat} {X : XT} (G : GX X cX12_leads RX12) (hn : xnL X = 7) (hC : CRs X tX12_leads (oF [(mX12_isOf N)]) (oF []) (oF [])) {r : Int32 × Wd} (hr : RTZ X cX12_leads r) (a1 : Int32) (a2 : Int32) : ∀ (v4 : Int32) (w : Wd), fX12_leads_51 N a2 v4 w = some r → WW X (pcAt tX12_leads 51) [some (.inr (.inr (16, 0))), some (.inl a1), some (.inl a2), none, some (.inl v4), none, none] [] w := by
  intro v4 w h
  refine run_sound (r := r) (X := X) (cc := cX12_leads) (own := RX12) (tab := tX12_leads) G (by rw [hn]; exact kX12_leads) (oI := (oF [(mX12_isOf N)])) (oL := (oF [])) (oV := (oF [])) (rI := retZ) (rL := (fun _ _ => none)) (rV := (fun _ => none))
    (K := (fun j ls st w => none)) hr (fun _ _ _ _ hx => by cases hx) (fun _ _ _ hx => by cases hx) hC (fun ls => lsb [some (.inr (.inr (16, 0))), some (.inl a1), some (.inl a2), none, none, none, none] 0 ls) (keepsP_of rfl) ?_ 60 51 [some (.inr (.inr (16, 0))), some (.inl a1), some (.inl a2), none, some (.inl v4), none, none] [] w ?_ h
  · intro j ls st w hfx h
    obtain ⟨e0, e1, e2, -⟩ : _ = _ ∧ _ = _ ∧ _ = _ ∧ True := hfx
    try dsimp only at h
    cases h
  · exact (show _ = _ ∧ _ = _ ∧ _ = _ ∧ True from ⟨rfl, rfl, rfl, trivial⟩)
set_option maxRecDepth 100000 in
set_option maxHeartbeats 4000000 in
theorem sX12_leads_49 {N : Nat} {X : XT} (G : GX X cX12_leads RX12) (hn : xnL X = 7) (hC : CRs X tX12_leads (oF [(mX12_isOf N)]) (oF []) (oF [])) {r : Int32 × Wd} (hr : RTZ X cX12_leads r) (a1 : Int32) (a2 : Int32) : ∀ (k23 : Int32 → Int32 → Int32 → Wd → Option (Int32 × Wd)) (v3 : Int32) (v4 : Int32) (v5 : Int32) (w : Wd), fX12_leads_49 N a2 k23 v3 v4 v5 w = some r → (∀ (v3 : Int32) (v4 : Int32) (v5 : Int32) (w : Wd), k23 v3 v4 v5 w = some r → WW X (pcAt tX12_leads 23) [some (.inr (.inr (16, 0))), some (.inl a1), some (.inl a2), some (.inl v3), some (.inl v4), some (.inl v5), none] [] w) → WW X (pcAt tX12_leads 49) [some (.inr (.inr (16, 0))), some (.inl a1), some (.inl a2), some (.inl v3), some (.inl v4), some (.inl v5), none] [] w := by
  intro k23 v3 v4 v5 w h h23
  refine run_sound (r := r) (X := X) (cc := cX12_leads) (own := RX12) (tab := tX12_leads) G (by rw [hn]; exact kX12_leads) (oI := (oF [(mX12_isOf N)])) (oL := (oF [])) (oV := (oF [])) (rI := retZ) (rL := (fun _ _ => none)) (rV := (fun _ => none))
    (K := (fun j ls st w => if j = 23 then (lgI ls 3 fun v3 => lgI ls 4 fun v4 => lgI ls 5 fun v5 => st0 st (k23 v3 v4 v5 w)) else none)) hr (fun _ _ _ _ hx => by cases hx) (fun _ _ _ hx => by cases hx) hC (fun ls => lsb [some (.inr (.inr (16, 0))), some (.inl a1), some (.inl a2), none, none, none, none] 0 ls) (keepsP_of rfl) ?_ 60 49 [some (.inr (.inr (16, 0))), some (.inl a1), some (.inl a2), some (.inl v3), some (.inl v4), some (.inl v5), none] [] w ?_ h
  · intro j ls st w hfx h
    obtain ⟨e0, e1, e2, -⟩ : _ = _ ∧ _ = _ ∧ _ = _ ∧ True := hfx
    try dsimp only at h
    by_cases hj : j = 23
    · subst hj
      rw [if_pos rfl] at h
      obtain ⟨v3, e3, h_1⟩ := lgI_some h
      obtain ⟨v4, e4, h_2⟩ := lgI_some h_1
      obtain ⟨v5, e5, h_3⟩ := lgI_some h_2
      obtain ⟨rfl, h_4⟩ := st0_some h_3
      clear h h_1 h_2 h_3
      have h := h_4
      try rw [callW_eq] at h
      exact WW.le (a := [some (.inr (.inr (16, 0))), some (.inl a1), some (.inl a2), some (.inl v3), some (.inl v4), some (.inl v5), none]) (by rw [hn]; rfl) (show _ = _ ∧ _ = _ ∧ _ = _ ∧ _ = _ ∧ _ = _ ∧ _ = _ ∧ True from ⟨e0, e1, e2, e3, e4, e5, trivial⟩) (h23 v3 v4 v5 w h)
    rw [if_neg hj] at h
    cases h
  · exact (show _ = _ ∧ _ = _ ∧ _ = _ ∧ True from ⟨rfl, rfl, rfl, trivial⟩)
set_option maxRecDepth 100000 in
set_option maxHeartbeats 4000000 in
theorem sX12_leads_28 {N : Nat} {X : XT} (G : GX X cX12_leads RX12) (hn : xnL X = 7) (hC : CRs X tX12_leads (oF [(mX12_isOf N)]) (oF []) (oF [])) {r : Int32 × Wd} (hr : RTZ X cX12_leads r) (a1 : Int32) (a2 : Int32) : ∀ (n : Nat) (k49 : Int32 → Int32 → Int32 → Wd → Option (Int32 × Wd)) (v3 : Int32) (v4 : Int32) (v5 : Int32) (v6 : Int32) (w : Wd), fX12_leads_28 N a2 n k49 v3 v4 v5 v6 w = some r → (∀ (v3 : Int32) (v4 : Int32) (v5 : Int32) (w : Wd), k49 v3 v4 v5 w = some r → WW X (pcAt tX12_leads 49) [some (.inr (.inr (16, 0))), some (.inl a1), some (.inl a2), some (.inl v3), some (.inl v4), some (.inl v5), none] [] w) → WW X (pcAt tX12_leads 28) [some (.inr (.inr (16, 0))), some (.inl a1), some (.inl a2), some (.inl v3), some (.inl v4), some (.inl v5), some (.inl v6)] [] w := by
  intro n
  induction n with
  | zero => intro k49 v3 v4 v5 v6 w h h49; cases h
  | succ n ih =>
    intro k49 v3 v4 v5 v6 w h h49
    refine run_sound (r := r) (X := X) (cc := cX12_leads) (own := RX12) (tab := tX12_leads) G (by rw [hn]; exact kX12_leads) (oI := (oF [(mX12_isOf N)])) (oL := (oF [])) (oV := (oF [])) (rI := retZ) (rL := (fun _ _ => none)) (rV := (fun _ => none))
      (K := (fun j ls st w => if j = 28 then (lgI ls 3 fun v3 => lgI ls 4 fun v4 => lgI ls 5 fun v5 => lgI ls 6 fun v6 => st0 st (callW (fX12_leads_28 N a2 n k49 v3 v4 v5 v6) w)) else if j = 49 then (lgI ls 3 fun v3 => lgI ls 4 fun v4 => lgI ls 5 fun v5 => st0 st (k49 v3 v4 v5 w)) else none)) hr (fun _ _ _ _ hx => by cases hx) (fun _ _ _ hx => by cases hx) hC (fun ls => lsb [some (.inr (.inr (16, 0))), some (.inl a1), some (.inl a2), none, none, none, none] 0 ls) (keepsP_of rfl) ?_ 60 28 [some (.inr (.inr (16, 0))), some (.inl a1), some (.inl a2), some (.inl v3), some (.inl v4), some (.inl v5), some (.inl v6)] [] w ?_ h
    · intro j ls st w hfx h
      obtain ⟨e0, e1, e2, -⟩ : _ = _ ∧ _ = _ ∧ _ = _ ∧ True := hfx
      try dsimp only at h
      by_cases hj : j = 28
      · subst hj
        rw [if_pos rfl] at h
        obtain ⟨v3, e3, h_1⟩ := lgI_some h
        obtain ⟨v4, e4, h_2⟩ := lgI_some h_1
        obtain ⟨v5, e5, h_3⟩ := lgI_some h_2
        obtain ⟨v6, e6, h_4⟩ := lgI_some h_3
        obtain ⟨rfl, h_5⟩ := st0_some h_4
        clear h h_1 h_2 h_3 h_4
        have h := h_5
        try rw [callW_eq] at h
        exact WW.le (a := [some (.inr (.inr (16, 0))), some (.inl a1), some (.inl a2), some (.inl v3), some (.inl v4), some (.inl v5), some (.inl v6)]) (by rw [hn]; rfl) (show _ = _ ∧ _ = _ ∧ _ = _ ∧ _ = _ ∧ _ = _ ∧ _ = _ ∧ _ = _ ∧ True from ⟨e0, e1, e2, e3, e4, e5, e6, trivial⟩) (ih k49 v3 v4 v5 v6 w h h49)
      rw [if_neg hj] at h
      by_cases hj : j = 49
      · subst hj
        rw [if_pos rfl] at h
        obtain ⟨v3, e3, h_1⟩ := lgI_some h
        obtain ⟨v4, e4, h_2⟩ := lgI_some h_1
        obtain ⟨v5, e5, h_3⟩ := lgI_some h_2
        obtain ⟨rfl, h_4⟩ := st0_some h_3
        clear h h_1 h_2 h_3
        have h := h_4
        try rw [callW_eq] at h
        exact WW.le (a := [some (.inr (.inr (16, 0))), some (.inl a1), some (.inl a2), some (.inl v3), some (.inl v4), some (.inl v5), none]) (by rw [hn]; rfl) (show _ = _ ∧ _ = _ ∧ _ = _ ∧ _ = _ ∧ _ = _ ∧ _ = _ ∧ True from ⟨e0, e1, e2, e3, e4, e5, trivial⟩) (h49 v3 v4 v5 w h)
      rw [if_neg hj] at h
      cases h
    · exact (show _ = _ ∧ _ = _ ∧ _ = _ ∧ True from ⟨rfl, rfl, rfl, trivial⟩)
set_option maxRecDepth 100000 in
set_option maxHeartbeats 4000000 in
theorem sX12_leads_23 {N : Nat} {X : XT} (G : GX X cX12_leads RX12) (hn : xnL X = 7) (hC : CRs X tX12_leads (oF [(mX12_isOf N)]) (oF []) (oF [])) {r : Int32 × Wd} (hr : RTZ X cX12_leads r) (a1 : Int32) (a2 : Int32) : ∀ (n : Nat) (k51 : Int32 → Wd → Option (Int32 × Wd)) (v3 : Int32) (v4 : Int32) (v5 : Int32) (w : Wd), fX12_leads_23 N a2 n k51 v3 v4 v5 w = some r → (∀ (v4 : Int32) (w : Wd), k51 v4 w = some r → WW X (pcAt tX12_leads 51) [some (.inr (.inr (16, 0))), some (.inl a1), some (.inl a2), none, some (.inl v4), none, none] [] w) → WW X (pcAt tX12_leads 23) [some (.inr (.inr (16, 0))), some (.inl a1), some (.inl a2), some (.inl v3), some (.inl v4), some (.inl v5), none] [] w := by
  intro n
  induction n with
  | zero => intro k51 v3 v4 v5 w h h51; cases h
  | succ n ih =>
    intro k51 v3 v4 v5 w h h51
    refine run_sound (r := r) (X := X) (cc := cX12_leads) (own := RX12) (tab := tX12_leads) G (by rw [hn]; exact kX12_leads) (oI := (oF [(mX12_isOf N)])) (oL := (oF [])) (oV := (oF [])) (rI := retZ) (rL := (fun _ _ => none)) (rV := (fun _ => none))
      (K := (fun j ls st w => if j = 28 then (lgI ls 3 fun v3 => lgI ls 4 fun v4 => lgI ls 5 fun v5 => lgI ls 6 fun v6 => st0 st (callW (fX12_leads_28 N a2 N (fX12_leads_49 N a2 (fX12_leads_23 N a2 n k51)) v3 v4 v5 v6) w)) else if j = 51 then (lgI ls 4 fun v4 => st0 st (k51 v4 w)) else none)) hr (fun _ _ _ _ hx => by cases hx) (fun _ _ _ hx => by cases hx) hC (fun ls => lsb [some (.inr (.inr (16, 0))), some (.inl a1), some (.inl a2), none, none, none, none] 0 ls) (keepsP_of rfl) ?_ 60 23 [some (.inr (.inr (16, 0))), some (.inl a1), some (.inl a2), some (.inl v3), some (.inl v4), some (.inl v5), none] [] w ?_ h
    · intro j ls st w hfx h
      obtain ⟨e0, e1, e2, -⟩ : _ = _ ∧ _ = _ ∧ _ = _ ∧ True := hfx
      try dsimp only at h
      by_cases hj : j = 28
      · subst hj
        rw [if_pos rfl] at h
        obtain ⟨v3, e3, h_1⟩ := lgI_some h
        obtain ⟨v4, e4, h_2⟩ := lgI_some h_1
        obtain ⟨v5, e5, h_3⟩ := lgI_some h_2
        obtain ⟨v6, e6, h_4⟩ := lgI_some h_3
        obtain ⟨rfl, h_5⟩ := st0_some h_4
        clear h h_1 h_2 h_3 h_4
        have h := h_5
        try rw [callW_eq] at h
        exact WW.le (a := [some (.inr (.inr (16, 0))), some (.inl a1), some (.inl a2), some (.inl v3), some (.inl v4), some (.inl v5), some (.inl v6)]) (by rw [hn]; rfl) (show _ = _ ∧ _ = _ ∧ _ = _ ∧ _ = _ ∧ _ = _ ∧ _ = _ ∧ _ = _ ∧ True from ⟨e0, e1, e2, e3, e4, e5, e6, trivial⟩) (sX12_leads_28 G hn hC hr a1 a2 N (fX12_leads_49 N a2 (fX12_leads_23 N a2 n k51)) v3 v4 v5 v6 w h (fun v3 v4 v5 w h => (sX12_leads_49 G hn hC hr a1 a2 (fX12_leads_23 N a2 n k51) v3 v4 v5 w h (fun v3 v4 v5 w h => (ih k51 v3 v4 v5 w h h51)))))
      rw [if_neg hj] at h
      by_cases hj : j = 51
      · subst hj
        rw [if_pos rfl] at h
        obtain ⟨v4, e4, h_1⟩ := lgI_some h
        obtain ⟨rfl, h_2⟩ := st0_some h_1
        clear h h_1
        have h := h_2
        try rw [callW_eq] at h
        exact WW.le (a := [some (.inr (.inr (16, 0))), some (.inl a1), some (.inl a2), none, some (.inl v4), none, none]) (by rw [hn]; rfl) (show _ = _ ∧ _ = _ ∧ _ = _ ∧ _ = _ ∧ True from ⟨e0, e1, e2, e4, trivial⟩) (h51 v4 w h)
      rw [if_neg hj] at h
      cases h
    · exact (show _ = _ ∧ _ = _ ∧ _ = _ ∧ True from ⟨rfl, rfl, rfl, trivial⟩)
set_option maxRecDepth 100000 in
set_option maxHeartbeats 4000000 in
theorem crX12_leads {N : Nat} {X : XT} (G : GX X cX12_leads RX12) (hR : xR X = rmL 2) : CRs X tX12_leads (oF [(mX12_isOf N)]) (oF []) (oF []) := by
  have hl : tX12_leads.filter isInv = [(14, .invokestatic 341, 0, 0, 2, 0, 0, []), (62, .invokestatic 341, 0, 0, 2, 0, 0, []), (104, .invokestatic 341, 0, 0, 2, 0, 0, [])] := rfl
  intro e he
  rw [hl] at he
  simp only [List.mem_cons, List.not_mem_nil, or_false] at he
  rcases he with rfl | rfl | rfl
  · exact crI_S (idx := 341) G (by decide +kernel) (MX12_isOf N) (cw_of (ps := [1589, 1590, 164, 1591]) (by decide +kernel) (by decide +kernel)) ⟨by decide +kernel, by decide +kernel, by decide +kernel⟩ (by unfold rmOk; rw [hR]; exact ⟨by decide, by decide⟩)
  · exact crI_S (idx := 341) G (by decide +kernel) (MX12_isOf N) (cw_of (ps := [1589, 1590, 164, 1591]) (by decide +kernel) (by decide +kernel)) ⟨by decide +kernel, by decide +kernel, by decide +kernel⟩ (by unfold rmOk; rw [hR]; exact ⟨by decide, by decide⟩)
  · exact crI_S (idx := 341) G (by decide +kernel) (MX12_isOf N) (cw_of (ps := [1589, 1590, 164, 1591]) (by decide +kernel) (by decide +kernel)) ⟨by decide +kernel, by decide +kernel, by decide +kernel⟩ (by unfold rmOk; rw [hR]; exact ⟨by decide, by decide⟩)
set_option maxRecDepth 100000 in
set_option maxHeartbeats 4000000 in
theorem MX12_leads (N : Nat) : SndI yX12_leads cX12_leads 7 (some .boolean) 2 3 true (mX12_leads N) := by
  refine SndI.ofZ tX12_leads (by decide +kernel) rfl rfl ?_ ?_
  · intro as w x h
    obtain ⟨t1, rfl, h_1⟩ := xS1_some h
    obtain ⟨a1, t2, rfl, h_2⟩ := xI1_some h_1
    obtain ⟨a2, t3, rfl, h_3⟩ := xI1_some h_2
    obtain ⟨rfl, h_4⟩ := xN1_some h_3
    clear h h_1 h_2 h_3
    have h := h_4
    rw [callW_eq] at h
    exact ⟨fun _ => ⟨_, _, _, rfl, rfl, _, rfl, rfl⟩, rfl, Nat.le_of_ble_eq_true rfl⟩
  · intro X G hn hR as w r h hr
    have hC := crX12_leads (N := N) G hR
    obtain ⟨t1, rfl, h_1⟩ := xS1_some h
    obtain ⟨a1, t2, rfl, h_2⟩ := xI1_some h_1
    obtain ⟨a2, t3, rfl, h_3⟩ := xI1_some h_2
    obtain ⟨rfl, h_4⟩ := xN1_some h_3
    clear h h_1 h_2 h_3
    have h := h_4
    rw [callW_eq] at h
    refine run_sound (r := r) (X := X) (cc := cX12_leads) (own := RX12) (tab := tX12_leads) G (by rw [hn]; exact kX12_leads) (oI := (oF [(mX12_isOf N)])) (oL := (oF [])) (oV := (oF [])) (rI := retZ) (rL := (fun _ _ => none)) (rV := (fun _ => none))
      (K := (fun j ls st w => if j = 23 then (lgI ls 3 fun v3 => lgI ls 4 fun v4 => lgI ls 5 fun v5 => st0 st (callW (fX12_leads_23 N a2 N (fX12_leads_51 N a2) v3 v4 v5) w)) else none)) hr (fun _ _ _ _ hx => by cases hx) (fun _ _ _ hx => by cases hx) hC (fun ls => lsb [some (.inr (.inr (16, 0))), some (.inl a1), some (.inl a2), none, none, none, none] 0 ls) (keepsP_of rfl) ?_ 60 0 [some (.inr (.inr (16, 0))), some (.inl a1), some (.inl a2), none, none, none, none] [] w ?_ h
    · intro j ls st w hfx h
      obtain ⟨e0, e1, e2, -⟩ : _ = _ ∧ _ = _ ∧ _ = _ ∧ True := hfx
      try dsimp only at h
      by_cases hj : j = 23
      · subst hj
        rw [if_pos rfl] at h
        obtain ⟨v3, e3, h_1⟩ := lgI_some h
        obtain ⟨v4, e4, h_2⟩ := lgI_some h_1
        obtain ⟨v5, e5, h_3⟩ := lgI_some h_2
        obtain ⟨rfl, h_4⟩ := st0_some h_3
        clear h h_1 h_2 h_3
        have h := h_4
        try rw [callW_eq] at h
        exact WW.le (a := [some (.inr (.inr (16, 0))), some (.inl a1), some (.inl a2), some (.inl v3), some (.inl v4), some (.inl v5), none]) (by rw [hn]; rfl) (show _ = _ ∧ _ = _ ∧ _ = _ ∧ _ = _ ∧ _ = _ ∧ _ = _ ∧ True from ⟨e0, e1, e2, e3, e4, e5, trivial⟩) (sX12_leads_23 G hn hC hr a1 a2 N (fX12_leads_51 N a2) v3 v4 v5 w h (fun v4 w h => (sX12_leads_51 G hn hC hr a1 a2 v4 w h)))
      rw [if_neg hj] at h
      cases h
    · exact (show _ = _ ∧ _ = _ ∧ _ = _ ∧ True from ⟨rfl, rfl, rfl, trivial⟩)
-- MoorGuidesModel.layShares(I)V
def tX12_layShares : List EN := [
  (0, .aload_n 0, 0, 0, 0, 0, 0, []), (1, .iconst 0, 0, 0, 0, 0, 0, []), (2, .iload_n 1, 0, 0, 0, 0, 0, []), (3, .iconst 0, 0, 0, 0, 0, 0, []),
  (4, .invokevirtual 549, 0, 0, 4, 0, 0, [(0, 0), (0, 0)]), (7, .iconst 0, 0, 0, 0, 0, 0, []), (8, .istore_n 2, 0, 0, 0, 0, 0, []), (9, .iload_n 2, 8, 0, 0, 0, 0, []),
  (10, .bipush 64, 0, 0, 0, 64, 0, []), (12, .if_icmp .ge 24, 0, 22, 0, 0, 0, []), (15, .aload_n 0, 0, 0, 0, 0, 0, []), (16, .getfield 151, 0, 12, 86, 0, 0, []),
  (19, .bipush 64, 0, 0, 0, 64, 0, []), (21, .aload_n 0, 0, 0, 0, 0, 0, []), (22, .getfield 301, 0, 12, 14, 0, 0, []), (25, .imul, 0, 0, 0, 0, 0, []),
  (26, .iload_n 2, 0, 0, 0, 0, 0, []), (27, .iadd, 0, 0, 0, 0, 0, []), (28, .iconst 0, 0, 0, 0, 0, 0, []), (29, .iastore, 0, 0, 0, 0, 0, []),
  (30, .iinc 2 1, 0, 0, 0, 1, 0, []), (33, .goto (-24), 0, 7, 0, 0, 0, []), (36, .aload_n 0, 23, 0, 0, 0, 0, []), (37, .getfield 301, 0, 12, 14, 0, 0, []),
  (40, .iconst 1, 0, 0, 0, 1, 0, []), (41, .isub, 0, 0, 0, 0, 0, []), (42, .istore_n 2, 0, 0, 0, 0, 0, []), (43, .iload_n 2, 28, 0, 0, 0, 0, []),
  (44, .ifCond .lt 148, 0, 111, 0, 0, 0, []), (47, .iconst 0, 0, 0, 0, 0, 0, []), (48, .istore_n 3, 0, 0, 0, 0, 0, []), (49, .iload_n 3, 32, 0, 0, 0, 0, []),
  (50, .bipush 64, 0, 0, 0, 64, 0, []), (52, .if_icmp .ge 134, 0, 109, 0, 0, 0, []), (55, .aload_n 0, 0, 0, 0, 0, 0, []), (56, .getfield 151, 0, 12, 86, 0, 0, []),
  (59, .bipush 64, 0, 0, 0, 64, 0, []), (61, .iload_n 2, 0, 0, 0, 0, 0, []), (62, .imul, 0, 0, 0, 0, 0, []), (63, .bipush 64, 0, 0, 0, 64, 0, []),
  (65, .iadd, 0, 0, 0, 0, 0, []), (66, .iload_n 3, 0, 0, 0, 0, 0, []), (67, .iadd, 0, 0, 0, 0, 0, []), (68, .iaload, 0, 0, 0, 0, 0, []),
  (69, .istore 4, 0, 0, 0, 0, 0, []), (71, .iconst 0, 0, 0, 0, 0, 0, []), (72, .istore 5, 0, 0, 0, 0, 0, []), (74, .iload 5, 48, 0, 0, 0, 0, []),
  (76, .aload_n 0, 0, 0, 0, 0, 0, []), (77, .getfield 298, 0, 12, 13, 0, 0, []), (80, .if_icmp .ge 87, 0, 98, 0, 0, 0, []), (83, .aload_n 0, 0, 0, 0, 0, 0, []),
  (84, .getfield 53, 0, 12, 42, 0, 0, []), (87, .iload_n 2, 0, 0, 0, 0, 0, []), (88, .iaload, 0, 0, 0, 0, 0, []), (89, .iload_n 1, 0, 0, 0, 0, 0, []),
  (90, .if_icmp .ne 77, 0, 98, 0, 0, 0, []), (93, .iload_n 3, 0, 0, 0, 0, 0, []), (94, .iload 5, 0, 0, 0, 0, 0, []), (96, .invokestatic 341, 0, 0, 2, 0, 0, []),
  (99, .ifCond .eq 62, 0, 96, 0, 0, 0, []), (102, .aload_n 0, 0, 0, 0, 0, 0, []), (103, .iload 5, 0, 0, 0, 0, 0, []), (105, .iload_n 2, 0, 0, 0, 0, 0, []),
  (106, .invokevirtual 555, 0, 1, 3, 0, 0, []), (109, .ifCond .ne 6, 0, 67, 0, 0, 0, []), (112, .goto 49, 0, 96, 0, 0, 0, []), (115, .aload_n 0, 0, 0, 0, 0, 0, []),
  (116, .getfield 56, 0, 12, 43, 0, 0, []), (119, .iload_n 2, 0, 0, 0, 0, 0, []), (120, .iaload, 0, 0, 0, 0, 0, []), (121, .aload_n 0, 0, 0, 0, 0, 0, []),
  (122, .getfield 151, 0, 12, 86, 0, 0, []), (125, .bipush 64, 0, 0, 0, 64, 0, []), (127, .iload_n 2, 0, 0, 0, 0, 0, []), (128, .imul, 0, 0, 0, 0, 0, []),
  (129, .bipush 64, 0, 0, 0, 64, 0, []), (131, .iadd, 0, 0, 0, 0, 0, []), (132, .iload_n 3, 0, 0, 0, 0, 0, []), (133, .iconst 1, 0, 0, 0, 1, 0, []),
  (134, .iload 5, 0, 0, 0, 0, 0, []), (136, .ishl, 0, 0, 0, 0, 0, []), (137, .iconst (-1), 0, 0, 0, (-1), 0, []), (138, .ixor, 0, 0, 0, 0, 0, []),
  (139, .iand, 0, 0, 0, 0, 0, []), (140, .iadd, 0, 0, 0, 0, 0, []), (141, .iaload, 0, 0, 0, 0, 0, []), (142, .iadd, 0, 0, 0, 0, 0, []),
  (143, .istore 6, 0, 0, 0, 0, 0, []), (145, .iload 6, 0, 0, 0, 0, 0, []), (147, .iload 4, 0, 0, 0, 0, 0, []), (149, .if_icmp .le 8, 0, 94, 0, 0, 0, []),
  (152, .iload 6, 0, 0, 0, 0, 0, []), (154, .goto 5, 0, 95, 0, 0, 0, []), (157, .iload 4, 0, 0, 0, 0, 0, []), (159, .istore 4, 0, 0, 0, 0, 0, []),
  (161, .iinc 5 1, 0, 0, 0, 1, 0, []), (164, .goto (-90), 0, 47, 0, 0, 0, []), (167, .aload_n 0, 99, 0, 0, 0, 0, []), (168, .getfield 151, 0, 12, 86, 0, 0, []),
  (171, .bipush 64, 0, 0, 0, 64, 0, []), (173, .iload_n 2, 0, 0, 0, 0, 0, []), (174, .imul, 0, 0, 0, 0, 0, []), (175, .iload_n 3, 0, 0, 0, 0, 0, []),
  (176, .iadd, 0, 0, 0, 0, 0, []), (177, .iload 4, 0, 0, 0, 0, 0, []), (179, .iastore, 0, 0, 0, 0, 0, []), (180, .iinc 3 1, 0, 0, 0, 1, 0, []),
  (183, .goto (-134), 0, 31, 0, 0, 0, []), (186, .iinc 2 (-1), 110, 0, 0, (-1), 0, []), (189, .goto (-146), 0, 27, 0, 0, 0, []), (192, .return_, 0, 0, 0, 0, 0, [])]
noncomputable def fX12_layShares_109 (N : Nat) (a1 : Int32) (k27 : Int32 → Wd → Option (Wd)) (v2 : Int32) (w : Wd) : Option (Wd) :=
  k27 (v2 + (-1 : Int32)) w
noncomputable def fX12_layShares_98 (N : Nat) (a1 : Int32) (k31 : Int32 → Int32 → Wd → Option (Wd)) (v2 : Int32) (v3 : Int32) (v4 : Int32) (w : Wd) : Option (Wd) :=
  (stI w 118 0 (((64 : Int32) * v2) + v3) 576 v4).bind fun w1 =>
  k31 v2 (v3 + (1 : Int32)) w1
noncomputable def fX12_layShares_47 (N : Nat) (a1 : Int32) : Nat → (Int32 → Int32 → Int32 → Wd → Option (Wd)) → Int32 → Int32 → Int32 → Int32 → Wd → Option (Wd)
  | 0, _, _, _, _, _, _ => none
  | n + 1, k98, v2, v3, v4, v5, w =>
    if v5 < (gI w 16 0 13) then
      (ldI w 86 0 v2 16).bind fun x1 =>
      if x1 = a1 then
        (callW (pX12_isOf N v3 v5) w).bind fun r2 =>
        if r2.1 = 0 then callW (fX12_layShares_47 N a1 n k98 v2 v3 v4 (v5 + (1 : Int32))) r2.2 else
        (callW (pX12_leads N v5 v2) r2.2).bind fun r3 =>
        if r3.1 = 0 then callW (fX12_layShares_47 N a1 n k98 v2 v3 v4 (v5 + (1 : Int32))) r3.2 else
        (ldI r3.2 87 0 v2 16).bind fun x4 =>
        (ldI r3.2 118 0 ((((64 : Int32) * v2) + (64 : Int32)) + (v3 &&& (((1 : Int32) <<< (v5 &&& (31 : Int32))) ^^^ (-1 : Int32)))) 576).bind fun x5 =>
        if v4 < (x4 + x5) then callW (fX12_layShares_47 N a1 n k98 v2 v3 (x4 + x5) (v5 + (1 : Int32))) r3.2 else
        callW (fX12_layShares_47 N a1 n k98 v2 v3 v4 (v5 + (1 : Int32))) r3.2
      else
      k98 v2 v3 v4 w
    else
    k98 v2 v3 v4 w
noncomputable def fX12_layShares_31 (N : Nat) (a1 : Int32) : Nat → (Int32 → Wd → Option (Wd)) → Int32 → Int32 → Wd → Option (Wd)
  | 0, _, _, _, _ => none
  | n + 1, k109, v2, v3, w =>
    if v3 < (64 : Int32) then
      (ldI w 118 0 ((((64 : Int32) * v2) + (64 : Int32)) + v3) 576).bind fun x1 =>
      callW (fX12_layShares_47 N a1 N (fX12_layShares_98 N a1 (fX12_layShares_31 N a1 n k109)) v2 v3 x1 (0 : Int32)) w
    else
    k109 v2 w
noncomputable def fX12_layShares_27 (N : Nat) (a1 : Int32) : Nat → Int32 → Wd → Option (Wd)
  | 0, _, _ => none
  | n + 1, v2, w =>
    if v2 < 0 then some w else
    callW (fX12_layShares_31 N a1 N (fX12_layShares_109 N a1 (fX12_layShares_27 N a1 n)) v2 (0 : Int32)) w
noncomputable def fX12_layShares_22 (N : Nat) (a1 : Int32) (w : Wd) : Option (Wd) :=
  callW (fX12_layShares_27 N a1 N ((gI w 16 0 14) - (1 : Int32))) w
noncomputable def fX12_layShares_7 (N : Nat) (a1 : Int32) : Nat → (Wd → Option (Wd)) → Int32 → Wd → Option (Wd)
  | 0, _, _, _ => none
  | n + 1, k22, v2, w =>
    if v2 < (64 : Int32) then
      (stI w 118 0 (((64 : Int32) * (gI w 16 0 14)) + v2) 576 (0 : Int32)).bind fun w1 =>
      callW (fX12_layShares_7 N a1 n k22 (v2 + (1 : Int32))) w1
    else
    k22 w
noncomputable def pX12_layShares (N : Nat) (a1 : Int32) (w : Wd) : Option (Wd) :=
  (callW (pX12_layKnown N (0 : Int32) a1 (0 : Int32)) w).bind fun w1 =>
  callW (fX12_layShares_7 N a1 N (fX12_layShares_22 N a1) (0 : Int32)) w1
noncomputable def mX12_layShares (N : Nat) (as : List AV) (w : Wd) : Option (Wd) := xS1 16 as fun t => xI1 t fun a1 t => xN1 t (callW (pX12_layShares N a1) w)
set_option maxRecDepth 100000 in
set_option maxHeartbeats 4000000 in
theorem kX12_layShares : TK cX12_layShares RX12 7 tX12_layShares := ⟨by decide +kernel, wok_of [1686, 1614, 1614, 1686, 1613, 1642, 1643, 1686, 1686] (by decide +kernel) (by decide +kernel)⟩
set_option maxRecDepth 100000 in
set_option maxHeartbeats 4000000 in
theorem sX12_layShares_109 {N : Nat} {X : XT} (G : GX X cX12_layShares RX12) (hn : xnL X = 7) (hC : CRs X tX12_layShares (oF [(mX12_isOf N), (mX12_leads N)]) (oF []) (oF [(mX12_layKnown N)])) {r : Wd} (hr : RTV X cX12_layShares r) (a1 : Int32) : ∀ (k27 : Int32 → Wd → Option (Wd)) (v2 : Int32) (w : Wd), fX12_layShares_109 N a1 k27 v2 w = some r → (∀ (v2 : Int32) (w : Wd), k27 v2 w = some r → WW X (pcAt tX12_layShares 27) [some (.inr (.inr (16, 0))), some (.inl a1), some (.inl v2), none, none, none, none] [] w) → WW X (pcAt tX12_layShares 109) [some (.inr (.inr (16, 0))), some (.inl a1), some (.inl v2), none, none, none, none] [] w := by
  intro k27 v2 w h h27
  refine run_sound (r := r) (X := X) (cc := cX12_layShares) (own := RX12) (tab := tX12_layShares) G (by rw [hn]; exact kX12_layShares) (oI := (oF [(mX12_isOf N), (mX12_leads N)])) (oL := (oF [])) (oV := (oF [(mX12_layKnown N)])) (rI := (fun _ _ => none)) (rL := (fun _ _ => none)) (rV := (fun w => some w))
    (K := (fun j ls st w => if j = 27 then (lgI ls 2 fun v2 => st0 st (k27 v2 w)) else none)) (fun _ _ _ _ hx => by cases hx) (fun _ _ _ _ hx => by cases hx) (fun w pc ls hx hd => hr w pc ls (Option.some.inj hx) hd) hC (fun ls => lsb [some (.inr (.inr (16, 0))), some (.inl a1), none, none, none, none, none] 0 ls) (keepsP_of rfl) ?_ 114 109 [some (.inr (.inr (16, 0))), some (.inl a1), some (.inl v2), none, none, none, none] [] w ?_ h
  · intro j ls st w hfx h
    obtain ⟨e0, e1, -⟩ : _ = _ ∧ _ = _ ∧ True := hfx
    try dsimp only at h
    by_cases hj : j = 27
    · subst hj
      rw [if_pos rfl] at h
      obtain ⟨v2, e2, h_1⟩ := lgI_some h
      obtain ⟨rfl, h_2⟩ := st0_some h_1
      clear h h_1
      have h := h_2
      try rw [callW_eq] at h
      exact WW.le (a := [some (.inr (.inr (16, 0))), some (.inl a1), some (.inl v2), none, none, none, none]) (by rw [hn]; rfl) (show _ = _ ∧ _ = _ ∧ _ = _ ∧ True from ⟨e0, e1, e2, trivial⟩) (h27 v2 w h)
    rw [if_neg hj] at h
    cases h
  · exact (show _ = _ ∧ _ = _ ∧ True from ⟨rfl, rfl, trivial⟩)
set_option maxRecDepth 100000 in
set_option maxHeartbeats 4000000 in
theorem sX12_layShares_98 {N : Nat} {X : XT} (G : GX X cX12_layShares RX12) (hn : xnL X = 7) (hC : CRs X tX12_layShares (oF [(mX12_isOf N), (mX12_leads N)]) (oF []) (oF [(mX12_layKnown N)])) {r : Wd} (hr : RTV X cX12_layShares r) (a1 : Int32) : ∀ (k31 : Int32 → Int32 → Wd → Option (Wd)) (v2 : Int32) (v3 : Int32) (v4 : Int32) (w : Wd), fX12_layShares_98 N a1 k31 v2 v3 v4 w = some r → (∀ (v2 : Int32) (v3 : Int32) (w : Wd), k31 v2 v3 w = some r → WW X (pcAt tX12_layShares 31) [some (.inr (.inr (16, 0))), some (.inl a1), some (.inl v2), some (.inl v3), none, none, none] [] w) → WW X (pcAt tX12_layShares 98) [some (.inr (.inr (16, 0))), some (.inl a1), some (.inl v2), some (.inl v3), some (.inl v4), none, none] [] w := by
  intro k31 v2 v3 v4 w h h31
  refine run_sound (r := r) (X := X) (cc := cX12_layShares) (own := RX12) (tab := tX12_layShares) G (by rw [hn]; exact kX12_layShares) (oI := (oF [(mX12_isOf N), (mX12_leads N)])) (oL := (oF [])) (oV := (oF [(mX12_layKnown N)])) (rI := (fun _ _ => none)) (rL := (fun _ _ => none)) (rV := (fun w => some w))
    (K := (fun j ls st w => if j = 31 then (lgI ls 2 fun v2 => lgI ls 3 fun v3 => st0 st (k31 v2 v3 w)) else none)) (fun _ _ _ _ hx => by cases hx) (fun _ _ _ _ hx => by cases hx) (fun w pc ls hx hd => hr w pc ls (Option.some.inj hx) hd) hC (fun ls => lsb [some (.inr (.inr (16, 0))), some (.inl a1), none, none, none, none, none] 0 ls) (keepsP_of rfl) ?_ 114 98 [some (.inr (.inr (16, 0))), some (.inl a1), some (.inl v2), some (.inl v3), some (.inl v4), none, none] [] w ?_ h
  · intro j ls st w hfx h
    obtain ⟨e0, e1, -⟩ : _ = _ ∧ _ = _ ∧ True := hfx
    try dsimp only at h
    by_cases hj : j = 31
    · subst hj
      rw [if_pos rfl] at h
      obtain ⟨v2, e2, h_1⟩ := lgI_some h
      obtain ⟨v3, e3, h_2⟩ := lgI_some h_1
      obtain ⟨rfl, h_3⟩ := st0_some h_2
      clear h h_1 h_2
      have h := h_3
      try rw [callW_eq] at h
      exact WW.le (a := [some (.inr (.inr (16, 0))), some (.inl a1), some (.inl v2), some (.inl v3), none, none, none]) (by rw [hn]; rfl) (show _ = _ ∧ _ = _ ∧ _ = _ ∧ _ = _ ∧ True from ⟨e0, e1, e2, e3, trivial⟩) (h31 v2 v3 w h)
    rw [if_neg hj] at h
    cases h
  · exact (show _ = _ ∧ _ = _ ∧ True from ⟨rfl, rfl, trivial⟩)
set_option maxRecDepth 100000 in
set_option maxHeartbeats 4000000 in
theorem sX12_layShares_47 {N : Nat} {X : XT} (G : GX X cX12_layShares RX12) (hn : xnL X = 7) (hC : CRs X tX12_layShares (oF [(mX12_isOf N), (mX12_leads N)]) (oF []) (oF [(mX12_layKnown N)])) {r : Wd} (hr : RTV X cX12_layShares r) (a1 : Int32) : ∀ (n : Nat) (k98 : Int32 → Int32 → Int32 → Wd → Option (Wd)) (v2 : Int32) (v3 : Int32) (v4 : Int32) (v5 : Int32) (w : Wd), fX12_layShares_47 N a1 n k98 v2 v3 v4 v5 w = some r → (∀ (v2 : Int32) (v3 : Int32) (v4 : Int32) (w : Wd), k98 v2 v3 v4 w = some r → WW X (pcAt tX12_layShares 98) [some (.inr (.inr (16, 0))), some (.inl a1), some (.inl v2), some (.inl v3), some (.inl v4), none, none] [] w) → WW X (pcAt tX12_layShares 47) [some (.inr (.inr (16, 0))), some (.inl a1), some (.inl v2), some (.inl v3), some (.inl v4), some (.inl v5), none] [] w := by
  intro n
  induction n with
  | zero => intro k98 v2 v3 v4 v5 w h h98; cases h
  | succ n ih =>
    intro k98 v2 v3 v4 v5 w h h98
    refine run_sound (r := r) (X := X) (cc := cX12_layShares) (own := RX12) (tab := tX12_layShares) G (by rw [hn]; exact kX12_layShares) (oI := (oF [(mX12_isOf N), (mX12_leads N)])) (oL := (oF [])) (oV := (oF [(mX12_layKnown N)])) (rI := (fun _ _ => none)) (rL := (fun _ _ => none)) (rV := (fun w => some w))
      (K := (fun j ls st w => if j = 47 then (lgI ls 2 fun v2 => lgI ls 3 fun v3 => lgI ls 4 fun v4 => lgI ls 5 fun v5 => st0 st (callW (fX12_layShares_47 N a1 n k98 v2 v3 v4 v5) w)) else if j = 98 then (lgI ls 2 fun v2 => lgI ls 3 fun v3 => lgI ls 4 fun v4 => st0 st (k98 v2 v3 v4 w)) else none)) (fun _ _ _ _ hx => by cases hx) (fun _ _ _ _ hx => by cases hx) (fun w pc ls hx hd => hr w pc ls (Option.some.inj hx) hd) hC (fun ls => lsb [some (.inr (.inr (16, 0))), some (.inl a1), none, none, none, none, none] 0 ls) (keepsP_of rfl) ?_ 114 47 [some (.inr (.inr (16, 0))), some (.inl a1), some (.inl v2), some (.inl v3), some (.inl v4), some (.inl v5), none] [] w ?_ h
    · intro j ls st w hfx h
      obtain ⟨e0, e1, -⟩ : _ = _ ∧ _ = _ ∧ True := hfx
      try dsimp only at h
      by_cases hj : j = 47
      · subst hj
        rw [if_pos rfl] at h
        obtain ⟨v2, e2, h_1⟩ := lgI_some h
        obtain ⟨v3, e3, h_2⟩ := lgI_some h_1
        obtain ⟨v4, e4, h_3⟩ := lgI_some h_2
        obtain ⟨v5, e5, h_4⟩ := lgI_some h_3
        obtain ⟨rfl, h_5⟩ := st0_some h_4
        clear h h_1 h_2 h_3 h_4
        have h := h_5
        try rw [callW_eq] at h
        exact WW.le (a := [some (.inr (.inr (16, 0))), some (.inl a1), some (.inl v2), some (.inl v3), some (.inl v4), some (.inl v5), none]) (by rw [hn]; rfl) (show _ = _ ∧ _ = _ ∧ _ = _ ∧ _ = _ ∧ _ = _ ∧ _ = _ ∧ True from ⟨e0, e1, e2, e3, e4, e5, trivial⟩) (ih k98 v2 v3 v4 v5 w h h98)
      rw [if_neg hj] at h
      by_cases hj : j = 98
      · subst hj
        rw [if_pos rfl] at h
        obtain ⟨v2, e2, h_1⟩ := lgI_some h
        obtain ⟨v3, e3, h_2⟩ := lgI_some h_1
        obtain ⟨v4, e4, h_3⟩ := lgI_some h_2
        obtain ⟨rfl, h_4⟩ := st0_some h_3
        clear h h_1 h_2 h_3
        have h := h_4
        try rw [callW_eq] at h
        exact WW.le (a := [some (.inr (.inr (16, 0))), some (.inl a1), some (.inl v2), some (.inl v3), some (.inl v4), none, none]) (by rw [hn]; rfl) (show _ = _ ∧ _ = _ ∧ _ = _ ∧ _ = _ ∧ _ = _ ∧ True from ⟨e0, e1, e2, e3, e4, trivial⟩) (h98 v2 v3 v4 w h)
      rw [if_neg hj] at h
      cases h
    · exact (show _ = _ ∧ _ = _ ∧ True from ⟨rfl, rfl, trivial⟩)
set_option maxRecDepth 100000 in
set_option maxHeartbeats 4000000 in
theorem sX12_layShares_31 {N : Nat} {X : XT} (G : GX X cX12_layShares RX12) (hn : xnL X = 7) (hC : CRs X tX12_layShares (oF [(mX12_isOf N), (mX12_leads N)]) (oF []) (oF [(mX12_layKnown N)])) {r : Wd} (hr : RTV X cX12_layShares r) (a1 : Int32) : ∀ (n : Nat) (k109 : Int32 → Wd → Option (Wd)) (v2 : Int32) (v3 : Int32) (w : Wd), fX12_layShares_31 N a1 n k109 v2 v3 w = some r → (∀ (v2 : Int32) (w : Wd), k109 v2 w = some r → WW X (pcAt tX12_layShares 109) [some (.inr (.inr (16, 0))), some (.inl a1), some (.inl v2), none, none, none, none] [] w) → WW X (pcAt tX12_layShares 31) [some (.inr (.inr (16, 0))), some (.inl a1), some (.inl v2), some (.inl v3), none, none, none] [] w := by
  intro n
  induction n with
  | zero => intro k109 v2 v3 w h h109; cases h
  | succ n ih =>
    intro k109 v2 v3 w h h109
    refine run_sound (r := r) (X := X) (cc := cX12_layShares) (own := RX12) (tab := tX12_layShares) G (by rw [hn]; exact kX12_layShares) (oI := (oF [(mX12_isOf N), (mX12_leads N)])) (oL := (oF [])) (oV := (oF [(mX12_layKnown N)])) (rI := (fun _ _ => none)) (rL := (fun _ _ => none)) (rV := (fun w => some w))
      (K := (fun j ls st w => if j = 47 then (lgI ls 2 fun v2 => lgI ls 3 fun v3 => lgI ls 4 fun v4 => lgI ls 5 fun v5 => st0 st (callW (fX12_layShares_47 N a1 N (fX12_layShares_98 N a1 (fX12_layShares_31 N a1 n k109)) v2 v3 v4 v5) w)) else if j = 109 then (lgI ls 2 fun v2 => st0 st (k109 v2 w)) else none)) (fun _ _ _ _ hx => by cases hx) (fun _ _ _ _ hx => by cases hx) (fun w pc ls hx hd => hr w pc ls (Option.some.inj hx) hd) hC (fun ls => lsb [some (.inr (.inr (16, 0))), some (.inl a1), none, none, none, none, none] 0 ls) (keepsP_of rfl) ?_ 114 31 [some (.inr (.inr (16, 0))), some (.inl a1), some (.inl v2), some (.inl v3), none, none, none] [] w ?_ h
    · intro j ls st w hfx h
      obtain ⟨e0, e1, -⟩ : _ = _ ∧ _ = _ ∧ True := hfx
      try dsimp only at h
      by_cases hj : j = 47
      · subst hj
        rw [if_pos rfl] at h
        obtain ⟨v2, e2, h_1⟩ := lgI_some h
        obtain ⟨v3, e3, h_2⟩ := lgI_some h_1
        obtain ⟨v4, e4, h_3⟩ := lgI_some h_2
        obtain ⟨v5, e5, h_4⟩ := lgI_some h_3
        obtain ⟨rfl, h_5⟩ := st0_some h_4
        clear h h_1 h_2 h_3 h_4
        have h := h_5
        try rw [callW_eq] at h
        exact WW.le (a := [some (.inr (.inr (16, 0))), some (.inl a1), some (.inl v2), some (.inl v3), some (.inl v4), some (.inl v5), none]) (by rw [hn]; rfl) (show _ = _ ∧ _ = _ ∧ _ = _ ∧ _ = _ ∧ _ = _ ∧ _ = _ ∧ True from ⟨e0, e1, e2, e3, e4, e5, trivial⟩) (sX12_layShares_47 G hn hC hr a1 N (fX12_layShares_98 N a1 (fX12_layShares_31 N a1 n k109)) v2 v3 v4 v5 w h (fun v2 v3 v4 w h => (sX12_layShares_98 G hn hC hr a1 (fX12_layShares_31 N a1 n k109) v2 v3 v4 w h (fun v2 v3 w h => (ih k109 v2 v3 w h h109)))))
      rw [if_neg hj] at h
      by_cases hj : j = 109
      · subst hj
        rw [if_pos rfl] at h
        obtain ⟨v2, e2, h_1⟩ := lgI_some h
        obtain ⟨rfl, h_2⟩ := st0_some h_1
        clear h h_1
        have h := h_2
        try rw [callW_eq] at h
        exact WW.le (a := [some (.inr (.inr (16, 0))), some (.inl a1), some (.inl v2), none, none, none, none]) (by rw [hn]; rfl) (show _ = _ ∧ _ = _ ∧ _ = _ ∧ True from ⟨e0, e1, e2, trivial⟩) (h109 v2 w h)
      rw [if_neg hj] at h
      cases h
    · exact (show _ = _ ∧ _ = _ ∧ True from ⟨rfl, rfl, trivial⟩)
set_option maxRecDepth 100000 in
set_option maxHeartbeats 4000000 in
theorem sX12_layShares_27 {N : Nat} {X : XT} (G : GX X cX12_layShares RX12) (hn : xnL X = 7) (hC : CRs X tX12_layShares (oF [(mX12_isOf N), (mX12_leads N)]) (oF []) (oF [(mX12_layKnown N)])) {r : Wd} (hr : RTV X cX12_layShares r) (a1 : Int32) : ∀ (n : Nat) (v2 : Int32) (w : Wd), fX12_layShares_27 N a1 n v2 w = some r → WW X (pcAt tX12_layShares 27) [some (.inr (.inr (16, 0))), some (.inl a1), some (.inl v2), none, none, none, none] [] w := by
  intro n
  induction n with
  | zero => intro v2 w h; cases h
  | succ n ih =>
    intro v2 w h
    refine run_sound (r := r) (X := X) (cc := cX12_layShares) (own := RX12) (tab := tX12_layShares) G (by rw [hn]; exact kX12_layShares) (oI := (oF [(mX12_isOf N), (mX12_leads N)])) (oL := (oF [])) (oV := (oF [(mX12_layKnown N)])) (rI := (fun _ _ => none)) (rL := (fun _ _ => none)) (rV := (fun w => some w))
      (K := (fun j ls st w => if j = 31 then (lgI ls 2 fun v2 => lgI ls 3 fun v3 => st0 st (callW (fX12_layShares_31 N a1 N (fX12_layShares_109 N a1 (fX12_layShares_27 N a1 n)) v2 v3) w)) else none)) (fun _ _ _ _ hx => by cases hx) (fun _ _ _ _ hx => by cases hx) (fun w pc ls hx hd => hr w pc ls (Option.some.inj hx) hd) hC (fun ls => lsb [some (.inr (.inr (16, 0))), some (.inl a1), none, none, none, none, none] 0 ls) (keepsP_of rfl) ?_ 114 27 [some (.inr (.inr (16, 0))), some (.inl a1), some (.inl v2), none, none, none, none] [] w ?_ h
    · intro j ls st w hfx h
      obtain ⟨e0, e1, -⟩ : _ = _ ∧ _ = _ ∧ True := hfx
      try dsimp only at h
      by_cases hj : j = 31
      · subst hj
        rw [if_pos rfl] at h
        obtain ⟨v2, e2, h_1⟩ := lgI_some h
        obtain ⟨v3, e3, h_2⟩ := lgI_some h_1
        obtain ⟨rfl, h_3⟩ := st0_some h_2
        clear h h_1 h_2
        have h := h_3
        try rw [callW_eq] at h
        exact WW.le (a := [some (.inr (.inr (16, 0))), some (.inl a1), some (.inl v2), some (.inl v3), none, none, none]) (by rw [hn]; rfl) (show _ = _ ∧ _ = _ ∧ _ = _ ∧ _ = _ ∧ True from ⟨e0, e1, e2, e3, trivial⟩) (sX12_layShares_31 G hn hC hr a1 N (fX12_layShares_109 N a1 (fX12_layShares_27 N a1 n)) v2 v3 w h (fun v2 w h => (sX12_layShares_109 G hn hC hr a1 (fX12_layShares_27 N a1 n) v2 w h (fun v2 w h => (ih v2 w h)))))
      rw [if_neg hj] at h
      cases h
    · exact (show _ = _ ∧ _ = _ ∧ True from ⟨rfl, rfl, trivial⟩)
set_option maxRecDepth 100000 in
set_option maxHeartbeats 4000000 in
theorem sX12_layShares_22 {N : Nat} {X : XT} (G : GX X cX12_layShares RX12) (hn : xnL X = 7) (hC : CRs X tX12_layShares (oF [(mX12_isOf N), (mX12_leads N)]) (oF []) (oF [(mX12_layKnown N)])) {r : Wd} (hr : RTV X cX12_layShares r) (a1 : Int32) : ∀ (w : Wd), fX12_layShares_22 N a1 w = some r → WW X (pcAt tX12_layShares 22) [some (.inr (.inr (16, 0))), some (.inl a1), none, none, none, none, none] [] w := by
  intro w h
  refine run_sound (r := r) (X := X) (cc := cX12_layShares) (own := RX12) (tab := tX12_layShares) G (by rw [hn]; exact kX12_layShares) (oI := (oF [(mX12_isOf N), (mX12_leads N)])) (oL := (oF [])) (oV := (oF [(mX12_layKnown N)])) (rI := (fun _ _ => none)) (rL := (fun _ _ => none)) (rV := (fun w => some w))
    (K := (fun j ls st w => if j = 27 then (lgI ls 2 fun v2 => st0 st (callW (fX12_layShares_27 N a1 N v2) w)) else none)) (fun _ _ _ _ hx => by cases hx) (fun _ _ _ _ hx => by cases hx) (fun w pc ls hx hd => hr w pc ls (Option.some.inj hx) hd) hC (fun ls => lsb [some (.inr (.inr (16, 0))), some (.inl a1), none, none, none, none, none] 0 ls) (keepsP_of rfl) ?_ 114 22 [some (.inr (.inr (16, 0))), some (.inl a1), none, none, none, none, none] [] w ?_ h
  · intro j ls st w hfx h
    obtain ⟨e0, e1, -⟩ : _ = _ ∧ _ = _ ∧ True := hfx
    try dsimp only at h
    by_cases hj : j = 27
    · subst hj
      rw [if_pos rfl] at h
      obtain ⟨v2, e2, h_1⟩ := lgI_some h
      obtain ⟨rfl, h_2⟩ := st0_some h_1
      clear h h_1
      have h := h_2
      try rw [callW_eq] at h
      exact WW.le (a := [some (.inr (.inr (16, 0))), some (.inl a1), some (.inl v2), none, none, none, none]) (by rw [hn]; rfl) (show _ = _ ∧ _ = _ ∧ _ = _ ∧ True from ⟨e0, e1, e2, trivial⟩) (sX12_layShares_27 G hn hC hr a1 N v2 w h)
    rw [if_neg hj] at h
    cases h
  · exact (show _ = _ ∧ _ = _ ∧ True from ⟨rfl, rfl, trivial⟩)
set_option maxRecDepth 100000 in
set_option maxHeartbeats 4000000 in
theorem sX12_layShares_7 {N : Nat} {X : XT} (G : GX X cX12_layShares RX12) (hn : xnL X = 7) (hC : CRs X tX12_layShares (oF [(mX12_isOf N), (mX12_leads N)]) (oF []) (oF [(mX12_layKnown N)])) {r : Wd} (hr : RTV X cX12_layShares r) (a1 : Int32) : ∀ (n : Nat) (k22 : Wd → Option (Wd)) (v2 : Int32) (w : Wd), fX12_layShares_7 N a1 n k22 v2 w = some r → (∀ (w : Wd), k22 w = some r → WW X (pcAt tX12_layShares 22) [some (.inr (.inr (16, 0))), some (.inl a1), none, none, none, none, none] [] w) → WW X (pcAt tX12_layShares 7) [some (.inr (.inr (16, 0))), some (.inl a1), some (.inl v2), none, none, none, none] [] w := by
  intro n
  induction n with
  | zero => intro k22 v2 w h h22; cases h
  | succ n ih =>
    intro k22 v2 w h h22
    refine run_sound (r := r) (X := X) (cc := cX12_layShares) (own := RX12) (tab := tX12_layShares) G (by rw [hn]; exact kX12_layShares) (oI := (oF [(mX12_isOf N), (mX12_leads N)])) (oL := (oF [])) (oV := (oF [(mX12_layKnown N)])) (rI := (fun _ _ => none)) (rL := (fun _ _ => none)) (rV := (fun w => some w))
      (K := (fun j ls st w => if j = 7 then (lgI ls 2 fun v2 => st0 st (callW (fX12_layShares_7 N a1 n k22 v2) w)) else if j = 22 then (st0 st (k22 w)) else none)) (fun _ _ _ _ hx => by cases hx) (fun _ _ _ _ hx => by cases hx) (fun w pc ls hx hd => hr w pc ls (Option.some.inj hx) hd) hC (fun ls => lsb [some (.inr (.inr (16, 0))), some (.inl a1), none, none, none, none, none] 0 ls) (keepsP_of rfl) ?_ 114 7 [some (.inr (.inr (16, 0))), some (.inl a1), some (.inl v2), none, none, none, none] [] w ?_ h
    · intro j ls st w hfx h
      obtain ⟨e0, e1, -⟩ : _ = _ ∧ _ = _ ∧ True := hfx
      try dsimp only at h
      by_cases hj : j = 7
      · subst hj
        rw [if_pos rfl] at h
        obtain ⟨v2, e2, h_1⟩ := lgI_some h
        obtain ⟨rfl, h_2⟩ := st0_some h_1
        clear h h_1
        have h := h_2
        try rw [callW_eq] at h
        exact WW.le (a := [some (.inr (.inr (16, 0))), some (.inl a1), some (.inl v2), none, none, none, none]) (by rw [hn]; rfl) (show _ = _ ∧ _ = _ ∧ _ = _ ∧ True from ⟨e0, e1, e2, trivial⟩) (ih k22 v2 w h h22)
      rw [if_neg hj] at h
      by_cases hj : j = 22
      · subst hj
        rw [if_pos rfl] at h
        obtain ⟨rfl, h_1⟩ := st0_some h
        clear h
        have h := h_1
        try rw [callW_eq] at h
        exact WW.le (a := [some (.inr (.inr (16, 0))), some (.inl a1), none, none, none, none, none]) (by rw [hn]; rfl) (show _ = _ ∧ _ = _ ∧ True from ⟨e0, e1, trivial⟩) (h22 w h)
      rw [if_neg hj] at h
      cases h
    · exact (show _ = _ ∧ _ = _ ∧ True from ⟨rfl, rfl, trivial⟩)
set_option maxRecDepth 100000 in
set_option maxHeartbeats 4000000 in
theorem crX12_layShares {N : Nat} {X : XT} (G : GX X cX12_layShares RX12) (hR : xR X = rmL 5) : CRs X tX12_layShares (oF [(mX12_isOf N), (mX12_leads N)]) (oF []) (oF [(mX12_layKnown N)]) := by
  have hl : tX12_layShares.filter isInv = [(4, .invokevirtual 549, 0, 0, 4, 0, 0, [(0, 0), (0, 0)]), (96, .invokestatic 341, 0, 0, 2, 0, 0, []), (106, .invokevirtual 555, 0, 1, 3, 0, 0, [])] := rfl
  intro e he
  rw [hl] at he
  simp only [List.mem_cons, List.not_mem_nil, or_false] at he
  rcases he with rfl | rfl | rfl
  · exact crV_V (idx := 549) G (by decide +kernel) (MX12_layKnown N) (cw_of (ps := [2193, 2195, 122, 164, 2196]) (by decide +kernel) (by decide +kernel)) ⟨by decide +kernel, by decide +kernel, by decide +kernel⟩ (by unfold rmOk; rw [hR]; exact ⟨by decide, by decide⟩)
  · exact crI_S (idx := 341) G (by decide +kernel) (MX12_isOf N) (cw_of (ps := [1589, 1590, 164, 1591]) (by decide +kernel) (by decide +kernel)) ⟨by decide +kernel, by decide +kernel, by decide +kernel⟩ (by unfold rmOk; rw [hR]; exact ⟨by decide, by decide⟩)
  · exact crI_V (idx := 555) G (by decide +kernel) (MX12_leads N) (cw_of (ps := [2241, 2243, 131, 164, 2244]) (by decide +kernel) (by decide +kernel)) ⟨by decide +kernel, by decide +kernel, by decide +kernel⟩ (by unfold rmOk; rw [hR]; exact ⟨by decide, by decide⟩)
set_option maxRecDepth 100000 in
set_option maxHeartbeats 4000000 in
theorem MX12_layShares (N : Nat) : SndV yX12_layShares cX12_layShares 7 none 5 2 true (mX12_layShares N) := by
  refine SndV.of tX12_layShares (by decide +kernel) rfl rfl ?_ ?_
  · intro as w x h
    obtain ⟨t1, rfl, h_1⟩ := xS1_some h
    obtain ⟨a1, t2, rfl, h_2⟩ := xI1_some h_1
    obtain ⟨rfl, h_3⟩ := xN1_some h_2
    clear h h_1 h_2
    have h := h_3
    rw [callW_eq] at h
    exact ⟨fun _ => ⟨_, _, _, rfl, rfl, _, rfl, rfl⟩, rfl, Nat.le_of_ble_eq_true rfl⟩
  · intro X G hn hR as w r h hr
    have hC := crX12_layShares (N := N) G hR
    obtain ⟨t1, rfl, h_1⟩ := xS1_some h
    obtain ⟨a1, t2, rfl, h_2⟩ := xI1_some h_1
    obtain ⟨rfl, h_3⟩ := xN1_some h_2
    clear h h_1 h_2
    have h := h_3
    rw [callW_eq] at h
    refine run_sound (r := r) (X := X) (cc := cX12_layShares) (own := RX12) (tab := tX12_layShares) G (by rw [hn]; exact kX12_layShares) (oI := (oF [(mX12_isOf N), (mX12_leads N)])) (oL := (oF [])) (oV := (oF [(mX12_layKnown N)])) (rI := (fun _ _ => none)) (rL := (fun _ _ => none)) (rV := (fun w => some w))
      (K := (fun j ls st w => if j = 7 then (lgI ls 2 fun v2 => st0 st (callW (fX12_layShares_7 N a1 N (fX12_layShares_22 N a1) v2) w)) else none)) (fun _ _ _ _ hx => by cases hx) (fun _ _ _ _ hx => by cases hx) (fun w pc ls hx hd => hr w pc ls (Option.some.inj hx) hd) hC (fun ls => lsb [some (.inr (.inr (16, 0))), some (.inl a1), none, none, none, none, none] 0 ls) (keepsP_of rfl) ?_ 114 0 [some (.inr (.inr (16, 0))), some (.inl a1), none, none, none, none, none] [] w ?_ h
    · intro j ls st w hfx h
      obtain ⟨e0, e1, -⟩ : _ = _ ∧ _ = _ ∧ True := hfx
      try dsimp only at h
      by_cases hj : j = 7
      · subst hj
        rw [if_pos rfl] at h
        obtain ⟨v2, e2, h_1⟩ := lgI_some h
        obtain ⟨rfl, h_2⟩ := st0_some h_1
        clear h h_1
        have h := h_2
        try rw [callW_eq] at h
        exact WW.le (a := [some (.inr (.inr (16, 0))), some (.inl a1), some (.inl v2), none, none, none, none]) (by rw [hn]; rfl) (show _ = _ ∧ _ = _ ∧ _ = _ ∧ True from ⟨e0, e1, e2, trivial⟩) (sX12_layShares_7 G hn hC hr a1 N (fX12_layShares_22 N a1) v2 w h (fun w h => (sX12_layShares_22 G hn hC hr a1 w h)))
      rw [if_neg hj] at h
      cases h
    · exact (show _ = _ ∧ _ = _ ∧ True from ⟨rfl, rfl, trivial⟩)
-- MoorGuidesModel.sharedBy(II)I
def tX12_sharedBy : List EN := [
  (0, .bipush 63, 0, 0, 0, 63, 0, []), (2, .istore_n 3, 0, 0, 0, 0, 0, []), (3, .bipush (-2), 0, 0, 0, (-2), 0, []), (5, .istore 4, 0, 0, 0, 0, 0, []),
  (7, .iconst 0, 0, 0, 0, 0, 0, []), (8, .istore 5, 0, 0, 0, 0, 0, []), (10, .iload 5, 7, 0, 0, 0, 0, []), (12, .iload_n 1, 0, 0, 0, 0, 0, []),
  (13, .if_icmp .gt 147, 0, 88, 0, 0, 0, []), (16, .bipush (-2), 0, 0, 0, (-2), 0, []), (18, .istore 4, 0, 0, 0, 0, 0, []), (20, .iconst 0, 0, 0, 0, 0, 0, []),
  (21, .istore 6, 0, 0, 0, 0, 0, []), (23, .iload 6, 14, 0, 0, 0, 0, []), (25, .aload_n 0, 0, 0, 0, 0, 0, []), (26, .getfield 298, 0, 12, 13, 0, 0, []),
  (29, .if_icmp .ge 111, 0, 76, 0, 0, 0, []), (32, .iload 4, 0, 0, 0, 0, 0, []), (34, .ifCond .ge 106, 0, 76, 0, 0, 0, []), (37, .aload_n 0, 0, 0, 0, 0, 0, []),
  (38, .getfield 53, 0, 12, 42, 0, 0, []), (41, .iload 5, 0, 0, 0, 0, 0, []), (43, .iaload, 0, 0, 0, 0, 0, []), (44, .iload_n 2, 0, 0, 0, 0, 0, []),
  (45, .if_icmp .ne 95, 0, 76, 0, 0, 0, []), (48, .iload_n 3, 0, 0, 0, 0, 0, []), (49, .iload 6, 0, 0, 0, 0, 0, []), (51, .invokestatic 341, 0, 0, 2, 0, 0, []),
  (54, .ifCond .eq 63, 0, 66, 0, 0, 0, []), (57, .aload_n 0, 0, 0, 0, 0, 0, []), (58, .iload 6, 0, 0, 0, 0, 0, []), (60, .iload 5, 0, 0, 0, 0, 0, []),
  (62, .invokevirtual 555, 0, 1, 3, 0, 0, []), (65, .ifCond .eq 52, 0, 66, 0, 0, 0, []), (68, .aload_n 0, 0, 0, 0, 0, 0, []), (69, .getfield 56, 0, 12, 43, 0, 0, []),
  (72, .iload 5, 0, 0, 0, 0, 0, []), (74, .iaload, 0, 0, 0, 0, 0, []), (75, .aload_n 0, 0, 0, 0, 0, 0, []), (76, .getfield 151, 0, 12, 86, 0, 0, []),
  (79, .bipush 64, 0, 0, 0, 64, 0, []), (81, .iload 5, 0, 0, 0, 0, 0, []), (83, .imul, 0, 0, 0, 0, 0, []), (84, .bipush 64, 0, 0, 0, 64, 0, []),
  (86, .iadd, 0, 0, 0, 0, 0, []), (87, .iload_n 3, 0, 0, 0, 0, 0, []), (88, .iconst 1, 0, 0, 0, 1, 0, []), (89, .iload 6, 0, 0, 0, 0, 0, []),
  (91, .ishl, 0, 0, 0, 0, 0, []), (92, .iconst (-1), 0, 0, 0, (-1), 0, []), (93, .ixor, 0, 0, 0, 0, 0, []), (94, .iand, 0, 0, 0, 0, 0, []),
  (95, .iadd, 0, 0, 0, 0, 0, []), (96, .iaload, 0, 0, 0, 0, 0, []), (97, .iadd, 0, 0, 0, 0, 0, []), (98, .aload_n 0, 0, 0, 0, 0, 0, []),
  (99, .getfield 151, 0, 12, 86, 0, 0, []), (102, .bipush 64, 0, 0, 0, 64, 0, []), (104, .iload 5, 0, 0, 0, 0, 0, []), (106, .imul, 0, 0, 0, 0, 0, []),
  (107, .iload_n 3, 0, 0, 0, 0, 0, []), (108, .iadd, 0, 0, 0, 0, 0, []), (109, .iaload, 0, 0, 0, 0, 0, []), (110, .if_icmp .ne 7, 0, 66, 0, 0, 0, []),
  (113, .iconst 1, 0, 0, 0, 1, 0, []), (114, .goto 4, 0, 67, 0, 0, 0, []), (117, .iconst 0, 67, 0, 0, 0, 0, []), (118, .istore 7, 68, 0, 0, 0, 0, []),
  (120, .iload 7, 0, 0, 0, 0, 0, []), (122, .ifCond .eq 8, 0, 72, 0, 0, 0, []), (125, .iload 6, 0, 0, 0, 0, 0, []), (127, .goto 5, 0, 73, 0, 0, 0, []),
  (130, .iload 4, 0, 0, 0, 0, 0, []), (132, .istore 4, 0, 0, 0, 0, 0, []), (134, .iinc 6 1, 0, 0, 0, 1, 0, []), (137, .goto (-114), 0, 13, 0, 0, 0, []),
  (140, .iload 4, 77, 0, 0, 0, 0, []), (142, .ifCond .lt 12, 0, 86, 0, 0, 0, []), (145, .iload_n 3, 0, 0, 0, 0, 0, []), (146, .iconst 1, 0, 0, 0, 1, 0, []),
  (147, .iload 4, 0, 0, 0, 0, 0, []), (149, .ishl, 0, 0, 0, 0, 0, []), (150, .iconst (-1), 0, 0, 0, (-1), 0, []), (151, .ixor, 0, 0, 0, 0, 0, []),
  (152, .iand, 0, 0, 0, 0, 0, []), (153, .istore_n 3, 0, 0, 0, 0, 0, []), (154, .iinc 5 1, 0, 0, 0, 1, 0, []), (157, .goto (-147), 0, 6, 0, 0, 0, []),
  (160, .iload 4, 0, 0, 0, 0, 0, []), (162, .ireturn, 0, 0, 0, 0, 0, [])]
noncomputable def fX12_sharedBy_76 (N : Nat) (a1 : Int32) (a2 : Int32) (k6 : Int32 → Int32 → Int32 → Wd → Option (Int32 × Wd)) (v3 : Int32) (v4 : Int32) (v5 : Int32) (w : Wd) : Option (Int32 × Wd) :=
  if v4 < 0 then k6 v3 v4 (v5 + (1 : Int32)) w else
  k6 (v3 &&& (((1 : Int32) <<< (v4 &&& (31 : Int32))) ^^^ (-1 : Int32))) v4 (v5 + (1 : Int32)) w
noncomputable def fX12_sharedBy_67 (N : Nat) (a1 : Int32) (a2 : Int32) (k13 : Int32 → Int32 → Int32 → Int32 → Wd → Option (Int32 × Wd)) (v3 : Int32) (v4 : Int32) (v5 : Int32) (v6 : Int32) (s0 : Int32) (w : Wd) : Option (Int32 × Wd) :=
  if s0 = 0 then k13 v3 v4 v5 (v6 + (1 : Int32)) w else
  k13 v3 v6 v5 (v6 + (1 : Int32)) w
noncomputable def fX12_sharedBy_66 (N : Nat) (a1 : Int32) (a2 : Int32) (k13 : Int32 → Int32 → Int32 → Int32 → Wd → Option (Int32 × Wd)) (v3 : Int32) (v4 : Int32) (v5 : Int32) (v6 : Int32) (w : Wd) : Option (Int32 × Wd) :=
  callW (fX12_sharedBy_67 N a1 a2 k13 v3 v4 v5 v6 (0 : Int32)) w
noncomputable def fX12_sharedBy_13 (N : Nat) (a1 : Int32) (a2 : Int32) : Nat → (Int32 → Int32 → Int32 → Wd → Option (Int32 × Wd)) → Int32 → Int32 → Int32 → Int32 → Wd → Option (Int32 × Wd)
  | 0, _, _, _, _, _, _ => none
  | n + 1, k76, v3, v4, v5, v6, w =>
    if v6 < (gI w 16 0 13) then
      if v4 < 0 then
        (ldI w 86 0 v5 16).bind fun x1 =>
        if x1 = a2 then
          (callW (pX12_isOf N v3 v6) w).bind fun r2 =>
          if r2.1 = 0 then callW (fX12_sharedBy_66 N a1 a2 (fX12_sharedBy_13 N a1 a2 n k76) v3 v4 v5 v6) r2.2 else
          (callW (pX12_leads N v6 v5) r2.2).bind fun r3 =>
          if r3.1 = 0 then callW (fX12_sharedBy_66 N a1 a2 (fX12_sharedBy_13 N a1 a2 n k76) v3 v4 v5 v6) r3.2 else
          (ldI r3.2 87 0 v5 16).bind fun x4 =>
          (ldI r3.2 118 0 ((((64 : Int32) * v5) + (64 : Int32)) + (v3 &&& (((1 : Int32) <<< (v6 &&& (31 : Int32))) ^^^ (-1 : Int32)))) 576).bind fun x5 =>
          (ldI r3.2 118 0 (((64 : Int32) * v5) + v3) 576).bind fun x6 =>
          if (x4 + x5) = x6 then callW (fX12_sharedBy_67 N a1 a2 (fX12_sharedBy_13 N a1 a2 n k76) v3 v4 v5 v6 (1 : Int32)) r3.2 else
          callW (fX12_sharedBy_66 N a1 a2 (fX12_sharedBy_13 N a1 a2 n k76) v3 v4 v5 v6) r3.2
        else
        k76 v3 v4 v5 w
      else
      k76 v3 v4 v5 w
    else
    k76 v3 v4 v5 w
noncomputable def fX12_sharedBy_6 (N : Nat) (a1 : Int32) (a2 : Int32) : Nat → Int32 → Int32 → Int32 → Wd → Option (Int32 × Wd)
  | 0, _, _, _, _ => none
  | n + 1, v3, v4, v5, w =>
    if a1 < v5 then some (v4, w) else
    callW (fX12_sharedBy_13 N a1 a2 N (fX12_sharedBy_76 N a1 a2 (fX12_sharedBy_6 N a1 a2 n)) v3 (-2 : Int32) v5 (0 : Int32)) w
noncomputable def pX12_sharedBy (N : Nat) (a1 : Int32) (a2 : Int32) (w : Wd) : Option (Int32 × Wd) :=
  callW (fX12_sharedBy_6 N a1 a2 N (63 : Int32) (-2 : Int32) (0 : Int32)) w
noncomputable def mX12_sharedBy (N : Nat) (as : List AV) (w : Wd) : Option (Int32 × Wd) := xS1 16 as fun t => xI1 t fun a1 t => xI1 t fun a2 t => xN1 t (callW (pX12_sharedBy N a1 a2) w)
set_option maxRecDepth 100000 in
set_option maxHeartbeats 4000000 in
theorem kX12_sharedBy : TK cX12_sharedBy RX12 8 tX12_sharedBy := ⟨by decide +kernel, wok_of [1613, 1642, 1643, 1686, 1686] (by decide +kernel) (by decide +kernel)⟩
set_option maxRecDepth 100000 in
set_option maxHeartbeats 4000000 in
theorem sX12_sharedBy_76 {N : Nat} {X : XT} (G : GX X cX12_sharedBy RX12) (hn : xnL X = 8) (hC : CRs X tX12_sharedBy (oF [(mX12_isOf N), (mX12_leads N)]) (oF []) (oF [])) {r : Int32 × Wd} (hr : RTI X cX12_sharedBy r) (a1 : Int32) (a2 : Int32) : ∀ (k6 : Int32 → Int32 → Int32 → Wd → Option (Int32 × Wd)) (v3 : Int32) (v4 : Int32) (v5 : Int32) (w : Wd), fX12_sharedBy_76 N a1 a2 k6 v3 v4 v5 w = some r → (∀ (v3 : Int32) (v4 : Int32) (v5 : Int32) (w : Wd), k6 v3 v4 v5 w = some r → WW X (pcAt tX12_sharedBy 6) [some (.inr (.inr (16, 0))), some (.inl a1), some (.inl a2), some (.inl v3), some (.inl v4), some (.inl v5), none, none] [] w) → WW X (pcAt tX12_sharedBy 76) [some (.inr (.inr (16, 0))), some (.inl a1), some (.inl a2), some (.inl v3), some (.inl v4), some (.inl v5), none, none] [] w := by
  intro k6 v3 v4 v5 w h h6
  refine run_sound (r := r) (X := X) (cc := cX12_sharedBy) (own := RX12) (tab := tX12_sharedBy) G (by rw [hn]; exact kX12_sharedBy) (oI := (oF [(mX12_isOf N), (mX12_leads N)])) (oL := (oF [])) (oV := (oF [])) (rI := (fun x w => some (x, w))) (rL := (fun _ _ => none)) (rV := (fun _ => none))
    (K := (fun j ls st w => if j = 6 then (lgI ls 3 fun v3 => lgI ls 4 fun v4 => lgI ls 5 fun v5 => st0 st (k6 v3 v4 v5 w)) else none)) (fun x w pc ls hx hd => hr x w pc ls (Option.some.inj hx) hd) (fun _ _ _ _ hx => by cases hx) (fun _ _ _ hx => by cases hx) hC (fun ls => lsb [some (.inr (.inr (16, 0))), some (.inl a1), some (.inl a2), none, none, none, none, none] 0 ls) (keepsP_of rfl) ?_ 92 76 [some (.inr (.inr (16, 0))), some (.inl a1), some (.inl a2), some (.inl v3), some (.inl v4), some (.inl v5), none, none] [] w ?_ h
  · intro j ls st w hfx h
    obtain ⟨e0, e1, e2, -⟩ : _ = _ ∧ _ = _ ∧ _ = _ ∧ True := hfx
    try dsimp only at h
    by_cases hj : j = 6
    · subst hj
      rw [if_pos rfl] at h
      obtain ⟨v3, e3, h_1⟩ := lgI_some h
      obtain ⟨v4, e4, h_2⟩ := lgI_some h_1
      obtain ⟨v5, e5, h_3⟩ := lgI_some h_2
      obtain ⟨rfl, h_4⟩ := st0_some h_3
      clear h h_1 h_2 h_3
      have h := h_4
      try rw [callW_eq] at h
      exact WW.le (a := [some (.inr (.inr (16, 0))), some (.inl a1), some (.inl a2), some (.inl v3), some (.inl v4), some (.inl v5), none, none]) (by rw [hn]; rfl) (show _ = _ ∧ _ = _ ∧ _ = _ ∧ _ = _ ∧ _ = _ ∧ _ = _ ∧ True from ⟨e0, e1, e2, e3, e4, e5, trivial⟩) (h6 v3 v4 v5 w h)
    rw [if_neg hj] at h
    cases h
  · exact (show _ = _ ∧ _ = _ ∧ _ = _ ∧ True from ⟨rfl, rfl, rfl, trivial⟩)
set_option maxRecDepth 100000 in
set_option maxHeartbeats 4000000 in
theorem sX12_sharedBy_67 {N : Nat} {X : XT} (G : GX X cX12_sharedBy RX12) (hn : xnL X = 8) (hC : CRs X tX12_sharedBy (oF [(mX12_isOf N), (mX12_leads N)]) (oF []) (oF [])) {r : Int32 × Wd} (hr : RTI X cX12_sharedBy r) (a1 : Int32) (a2 : Int32) : ∀ (k13 : Int32 → Int32 → Int32 → Int32 → Wd → Option (Int32 × Wd)) (v3 : Int32) (v4 : Int32) (v5 : Int32) (v6 : Int32) (s0 : Int32) (w : Wd), fX12_sharedBy_67 N a1 a2 k13 v3 v4 v5 v6 s0 w = some r → (∀ (v3 : Int32) (v4 : Int32) (v5 : Int32) (v6 : Int32) (w : Wd), k13 v3 v4 v5 v6 w = some r → WW X (pcAt tX12_sharedBy 13) [some (.inr (.inr (16, 0))), some (.inl a1), some (.inl a2), some (.inl v3), some (.inl v4), some (.inl v5), some (.inl v6), none] [] w) → WW X (pcAt tX12_sharedBy 67) [some (.inr (.inr (16, 0))), some (.inl a1), some (.inl a2), some (.inl v3), some (.inl v4), some (.inl v5), some (.inl v6), none] [.inl s0] w := by
  intro k13 v3 v4 v5 v6 s0 w h h13
  refine run_sound (r := r) (X := X) (cc := cX12_sharedBy) (own := RX12) (tab := tX12_sharedBy) G (by rw [hn]; exact kX12_sharedBy) (oI := (oF [(mX12_isOf N), (mX12_leads N)])) (oL := (oF [])) (oV := (oF [])) (rI := (fun x w => some (x, w))) (rL := (fun _ _ => none)) (rV := (fun _ => none))
    (K := (fun j ls st w => if j = 13 then (lgI ls 3 fun v3 => lgI ls 4 fun v4 => lgI ls 5 fun v5 => lgI ls 6 fun v6 => st0 st (k13 v3 v4 v5 v6 w)) else none)) (fun x w pc ls hx hd => hr x w pc ls (Option.some.inj hx) hd) (fun _ _ _ _ hx => by cases hx) (fun _ _ _ hx => by cases hx) hC (fun ls => lsb [some (.inr (.inr (16, 0))), some (.inl a1), some (.inl a2), none, none, none, none, none] 0 ls) (keepsP_of rfl) ?_ 92 67 [some (.inr (.inr (16, 0))), some (.inl a1), some (.inl a2), some (.inl v3), some (.inl v4), some (.inl v5), some (.inl v6), none] [.inl s0] w ?_ h
  · intro j ls st w hfx h
    obtain ⟨e0, e1, e2, -⟩ : _ = _ ∧ _ = _ ∧ _ = _ ∧ True := hfx
    try dsimp only at h
    by_cases hj : j = 13
    · subst hj
      rw [if_pos rfl] at h
      obtain ⟨v3, e3, h_1⟩ := lgI_some h
      obtain ⟨v4, e4, h_2⟩ := lgI_some h_1
      obtain ⟨v5, e5, h_3⟩ := lgI_some h_2
      obtain ⟨v6, e6, h_4⟩ := lgI_some h_3
      obtain ⟨rfl, h_5⟩ := st0_some h_4
      clear h h_1 h_2 h_3 h_4
      have h := h_5
      try rw [callW_eq] at h
      exact WW.le (a := [some (.inr (.inr (16, 0))), some (.inl a1), some (.inl a2), some (.inl v3), some (.inl v4), some (.inl v5), some (.inl v6), none]) (by rw [hn]; rfl) (show _ = _ ∧ _ = _ ∧ _ = _ ∧ _ = _ ∧ _ = _ ∧ _ = _ ∧ _ = _ ∧ True from ⟨e0, e1, e2, e3, e4, e5, e6, trivial⟩) (h13 v3 v4 v5 v6 w h)
    rw [if_neg hj] at h
    cases h
  · exact (show _ = _ ∧ _ = _ ∧ _ = _ ∧ True from ⟨rfl, rfl, rfl, trivial⟩)
set_option maxRecDepth 100000 in
set_option maxHeartbeats 4000000 in
theorem sX12_sharedBy_66 {N : Nat} {X : XT} (G : GX X cX12_sharedBy RX12) (hn : xnL X = 8) (hC : CRs X tX12_sharedBy (oF [(mX12_isOf N), (mX12_leads N)]) (oF []) (oF [])) {r : Int32 × Wd} (hr : RTI X cX12_sharedBy r) (a1 : Int32) (a2 : Int32) : ∀ (k13 : Int32 → Int32 → Int32 → Int32 → Wd → Option (Int32 × Wd)) (v3 : Int32) (v4 : Int32) (v5 : Int32) (v6 : Int32) (w : Wd), fX12_sharedBy_66 N a1 a2 k13 v3 v4 v5 v6 w = some r → (∀ (v3 : Int32) (v4 : Int32) (v5 : Int32) (v6 : Int32) (w : Wd), k13 v3 v4 v5 v6 w = some r → WW X (pcAt tX12_sharedBy 13) [some (.inr (.inr (16, 0))), some (.inl a1), some (.inl a2), some (.inl v3), some (.inl v4), some (.inl v5), some (.inl v6), none] [] w) → WW X (pcAt tX12_sharedBy 66) [some (.inr (.inr (16, 0))), some (.inl a1), some (.inl a2), some (.inl v3), some (.inl v4), some (.inl v5), some (.inl v6), none] [] w := by
  intro k13 v3 v4 v5 v6 w h h13
  refine run_sound (r := r) (X := X) (cc := cX12_sharedBy) (own := RX12) (tab := tX12_sharedBy) G (by rw [hn]; exact kX12_sharedBy) (oI := (oF [(mX12_isOf N), (mX12_leads N)])) (oL := (oF [])) (oV := (oF [])) (rI := (fun x w => some (x, w))) (rL := (fun _ _ => none)) (rV := (fun _ => none))
    (K := (fun j ls st w => if j = 67 then (lgI ls 3 fun v3 => lgI ls 4 fun v4 => lgI ls 5 fun v5 => lgI ls 6 fun v6 => po1 st fun s0 st => st0 st (callW (fX12_sharedBy_67 N a1 a2 k13 v3 v4 v5 v6 s0) w)) else none)) (fun x w pc ls hx hd => hr x w pc ls (Option.some.inj hx) hd) (fun _ _ _ _ hx => by cases hx) (fun _ _ _ hx => by cases hx) hC (fun ls => lsb [some (.inr (.inr (16, 0))), some (.inl a1), some (.inl a2), none, none, none, none, none] 0 ls) (keepsP_of rfl) ?_ 92 66 [some (.inr (.inr (16, 0))), some (.inl a1), some (.inl a2), some (.inl v3), some (.inl v4), some (.inl v5), some (.inl v6), none] [] w ?_ h
  · intro j ls st w hfx h
    obtain ⟨e0, e1, e2, -⟩ : _ = _ ∧ _ = _ ∧ _ = _ ∧ True := hfx
    try dsimp only at h
    by_cases hj : j = 67
    · subst hj
      rw [if_pos rfl] at h
      obtain ⟨v3, e3, h_1⟩ := lgI_some h
      obtain ⟨v4, e4, h_2⟩ := lgI_some h_1
      obtain ⟨v5, e5, h_3⟩ := lgI_some h_2
      obtain ⟨v6, e6, h_4⟩ := lgI_some h_3
      obtain ⟨s0, st0, rfl, h_5⟩ := po1_some h_4
      obtain ⟨rfl, h_6⟩ := st0_some h_5
      clear h h_1 h_2 h_3 h_4 h_5
      have h := h_6
      try rw [callW_eq] at h
      exact WW.le (a := [some (.inr (.inr (16, 0))), some (.inl a1), some (.inl a2), some (.inl v3), some (.inl v4), some (.inl v5), some (.inl v6), none]) (by rw [hn]; rfl) (show _ = _ ∧ _ = _ ∧ _ = _ ∧ _ = _ ∧ _ = _ ∧ _ = _ ∧ _ = _ ∧ True from ⟨e0, e1, e2, e3, e4, e5, e6, trivial⟩) (sX12_sharedBy_67 G hn hC hr a1 a2 k13 v3 v4 v5 v6 s0 w h (fun v3 v4 v5 v6 w h => (h13 v3 v4 v5 v6 w h)))
    rw [if_neg hj] at h
    cases h
  · exact (show _ = _ ∧ _ = _ ∧ _ = _ ∧ True from ⟨rfl, rfl, rfl, trivial⟩)
set_option maxRecDepth 100000 in
set_option maxHeartbeats 4000000 in
theorem sX12_sharedBy_13 {N : Nat} {X : XT} (G : GX X cX12_sharedBy RX12) (hn : xnL X = 8) (hC : CRs X tX12_sharedBy (oF [(mX12_isOf N), (mX12_leads N)]) (oF []) (oF [])) {r : Int32 × Wd} (hr : RTI X cX12_sharedBy r) (a1 : Int32) (a2 : Int32) : ∀ (n : Nat) (k76 : Int32 → Int32 → Int32 → Wd → Option (Int32 × Wd)) (v3 : Int32) (v4 : Int32) (v5 : Int32) (v6 : Int32) (w : Wd), fX12_sharedBy_13 N a1 a2 n k76 v3 v4 v5 v6 w = some r → (∀ (v3 : Int32) (v4 : Int32) (v5 : Int32) (w : Wd), k76 v3 v4 v5 w = some r → WW X (pcAt tX12_sharedBy 76) [some (.inr (.inr (16, 0))), some (.inl a1), some (.inl a2), some (.inl v3), some (.inl v4), some (.inl v5), none, none] [] w) → WW X (pcAt tX12_sharedBy 13) [some (.inr (.inr (16, 0))), some (.inl a1), some (.inl a2), some (.inl v3), some (.inl v4), some (.inl v5), some (.inl v6), none] [] w := by
  intro n
  induction n with
  | zero => intro k76 v3 v4 v5 v6 w h h76; cases h
  | succ n ih =>
    intro k76 v3 v4 v5 v6 w h h76
    refine run_sound (r := r) (X := X) (cc := cX12_sharedBy) (own := RX12) (tab := tX12_sharedBy) G (by rw [hn]; exact kX12_sharedBy) (oI := (oF [(mX12_isOf N), (mX12_leads N)])) (oL := (oF [])) (oV := (oF [])) (rI := (fun x w => some (x, w))) (rL := (fun _ _ => none)) (rV := (fun _ => none))
      (K := (fun j ls st w => if j = 66 then (lgI ls 3 fun v3 => lgI ls 4 fun v4 => lgI ls 5 fun v5 => lgI ls 6 fun v6 => st0 st (callW (fX12_sharedBy_66 N a1 a2 (fX12_sharedBy_13 N a1 a2 n k76) v3 v4 v5 v6) w)) else if j = 67 then (lgI ls 3 fun v3 => lgI ls 4 fun v4 => lgI ls 5 fun v5 => lgI ls 6 fun v6 => po1 st fun s0 st => st0 st (callW (fX12_sharedBy_67 N a1 a2 (fX12_sharedBy_13 N a1 a2 n k76) v3 v4 v5 v6 s0) w)) else if j = 76 then (lgI ls 3 fun v3 => lgI ls 4 fun v4 => lgI ls 5 fun v5 => st0 st (k76 v3 v4 v5 w)) else none)) (fun x w pc ls hx hd => hr x w pc ls (Option.some.inj hx) hd) (fun _ _ _ _ hx => by cases hx) (fun _ _ _ hx => by cases hx) hC (fun ls => lsb [some (.inr (.inr (16, 0))), some (.inl a1), some (.inl a2), none, none, none, none, none] 0 ls) (keepsP_of rfl) ?_ 92 13 [some (.inr (.inr (16, 0))), some (.inl a1), some (.inl a2), some (.inl v3), some (.inl v4), some (.inl v5), some (.inl v6), none] [] w ?_ h
    · intro j ls st w hfx h
      obtain ⟨e0, e1, e2, -⟩ : _ = _ ∧ _ = _ ∧ _ = _ ∧ True := hfx
      try dsimp only at h
      by_cases hj : j = 66
      · subst hj
        rw [if_pos rfl] at h
        obtain ⟨v3, e3, h_1⟩ := lgI_some h
        obtain ⟨v4, e4, h_2⟩ := lgI_some h_1
        obtain ⟨v5, e5, h_3⟩ := lgI_some h_2
        obtain ⟨v6, e6, h_4⟩ := lgI_some h_3
        obtain ⟨rfl, h_5⟩ := st0_some h_4
        clear h h_1 h_2 h_3 h_4
        have h := h_5
        try rw [callW_eq] at h
        exact WW.le (a := [some (.inr (.inr (16, 0))), some (.inl a1), some (.inl a2), some (.inl v3), some (.inl v4), some (.inl v5), some (.inl v6), none]) (by rw [hn]; rfl) (show _ = _ ∧ _ = _ ∧ _ = _ ∧ _ = _ ∧ _ = _ ∧ _ = _ ∧ _ = _ ∧ True from ⟨e0, e1, e2, e3, e4, e5, e6, trivial⟩) (sX12_sharedBy_66 G hn hC hr a1 a2 (fX12_sharedBy_13 N a1 a2 n k76) v3 v4 v5 v6 w h (fun v3 v4 v5 v6 w h => (ih k76 v3 v4 v5 v6 w h h76)))
      rw [if_neg hj] at h
      by_cases hj : j = 67
      · subst hj
        rw [if_pos rfl] at h
        obtain ⟨v3, e3, h_1⟩ := lgI_some h
        obtain ⟨v4, e4, h_2⟩ := lgI_some h_1
        obtain ⟨v5, e5, h_3⟩ := lgI_some h_2
        obtain ⟨v6, e6, h_4⟩ := lgI_some h_3
        obtain ⟨s0, st0, rfl, h_5⟩ := po1_some h_4
        obtain ⟨rfl, h_6⟩ := st0_some h_5
        clear h h_1 h_2 h_3 h_4 h_5
        have h := h_6
        try rw [callW_eq] at h
        exact WW.le (a := [some (.inr (.inr (16, 0))), some (.inl a1), some (.inl a2), some (.inl v3), some (.inl v4), some (.inl v5), some (.inl v6), none]) (by rw [hn]; rfl) (show _ = _ ∧ _ = _ ∧ _ = _ ∧ _ = _ ∧ _ = _ ∧ _ = _ ∧ _ = _ ∧ True from ⟨e0, e1, e2, e3, e4, e5, e6, trivial⟩) (sX12_sharedBy_67 G hn hC hr a1 a2 (fX12_sharedBy_13 N a1 a2 n k76) v3 v4 v5 v6 s0 w h (fun v3 v4 v5 v6 w h => (ih k76 v3 v4 v5 v6 w h h76)))
      rw [if_neg hj] at h
      by_cases hj : j = 76
      · subst hj
        rw [if_pos rfl] at h
        obtain ⟨v3, e3, h_1⟩ := lgI_some h
        obtain ⟨v4, e4, h_2⟩ := lgI_some h_1
        obtain ⟨v5, e5, h_3⟩ := lgI_some h_2
        obtain ⟨rfl, h_4⟩ := st0_some h_3
        clear h h_1 h_2 h_3
        have h := h_4
        try rw [callW_eq] at h
        exact WW.le (a := [some (.inr (.inr (16, 0))), some (.inl a1), some (.inl a2), some (.inl v3), some (.inl v4), some (.inl v5), none, none]) (by rw [hn]; rfl) (show _ = _ ∧ _ = _ ∧ _ = _ ∧ _ = _ ∧ _ = _ ∧ _ = _ ∧ True from ⟨e0, e1, e2, e3, e4, e5, trivial⟩) (h76 v3 v4 v5 w h)
      rw [if_neg hj] at h
      cases h
    · exact (show _ = _ ∧ _ = _ ∧ _ = _ ∧ True from ⟨rfl, rfl, rfl, trivial⟩)
set_option maxRecDepth 100000 in
set_option maxHeartbeats 4000000 in
theorem sX12_sharedBy_6 {N : Nat} {X : XT} (G : GX X cX12_sharedBy RX12) (hn : xnL X = 8) (hC : CRs X tX12_sharedBy (oF [(mX12_isOf N), (mX12_leads N)]) (oF []) (oF [])) {r : Int32 × Wd} (hr : RTI X cX12_sharedBy r) (a1 : Int32) (a2 : Int32) : ∀ (n : Nat) (v3 : Int32) (v4 : Int32) (v5 : Int32) (w : Wd), fX12_sharedBy_6 N a1 a2 n v3 v4 v5 w = some r → WW X (pcAt tX12_sharedBy 6) [some (.inr (.inr (16, 0))), some (.inl a1), some (.inl a2), some (.inl v3), some (.inl v4), some (.inl v5), none, none] [] w := by
  intro n
  induction n with
  | zero => intro v3 v4 v5 w h; cases h
  | succ n ih =>
    intro v3 v4 v5 w h
    refine run_sound (r := r) (X := X) (cc := cX12_sharedBy) (own := RX12) (tab := tX12_sharedBy) G (by rw [hn]; exact kX12_sharedBy) (oI := (oF [(mX12_isOf N), (mX12_leads N)])) (oL := (oF [])) (oV := (oF [])) (rI := (fun x w => some (x, w))) (rL := (fun _ _ => none)) (rV := (fun _ => none))
      (K := (fun j ls st w => if j = 13 then (lgI ls 3 fun v3 => lgI ls 4 fun v4 => lgI ls 5 fun v5 => lgI ls 6 fun v6 => st0 st (callW (fX12_sharedBy_13 N a1 a2 N (fX12_sharedBy_76 N a1 a2 (fX12_sharedBy_6 N a1 a2 n)) v3 v4 v5 v6) w)) else none)) (fun x w pc ls hx hd => hr x w pc ls (Option.some.inj hx) hd) (fun _ _ _ _ hx => by cases hx) (fun _ _ _ hx => by cases hx) hC (fun ls => lsb [some (.inr (.inr (16, 0))), some (.inl a1), some (.inl a2), none, none, none, none, none] 0 ls) (keepsP_of rfl) ?_ 92 6 [some (.inr (.inr (16, 0))), some (.inl a1), some (.inl a2), some (.inl v3), some (.inl v4), some (.inl v5), none, none] [] w ?_ h
    · intro j ls st w hfx h
      obtain ⟨e0, e1, e2, -⟩ : _ = _ ∧ _ = _ ∧ _ = _ ∧ True := hfx
      try dsimp only at h
      by_cases hj : j = 13
      · subst hj
        rw [if_pos rfl] at h
        obtain ⟨v3, e3, h_1⟩ := lgI_some h
        obtain ⟨v4, e4, h_2⟩ := lgI_some h_1
        obtain ⟨v5, e5, h_3⟩ := lgI_some h_2
        obtain ⟨v6, e6, h_4⟩ := lgI_some h_3
        obtain ⟨rfl, h_5⟩ := st0_some h_4
        clear h h_1 h_2 h_3 h_4
        have h := h_5
        try rw [callW_eq] at h
        exact WW.le (a := [some (.inr (.inr (16, 0))), some (.inl a1), some (.inl a2), some (.inl v3), some (.inl v4), some (.inl v5), some (.inl v6), none]) (by rw [hn]; rfl) (show _ = _ ∧ _ = _ ∧ _ = _ ∧ _ = _ ∧ _ = _ ∧ _ = _ ∧ _ = _ ∧ True from ⟨e0, e1, e2, e3, e4, e5, e6, trivial⟩) (sX12_sharedBy_13 G hn hC hr a1 a2 N (fX12_sharedBy_76 N a1 a2 (fX12_sharedBy_6 N a1 a2 n)) v3 v4 v5 v6 w h (fun v3 v4 v5 w h => (sX12_sharedBy_76 G hn hC hr a1 a2 (fX12_sharedBy_6 N a1 a2 n) v3 v4 v5 w h (fun v3 v4 v5 w h => (ih v3 v4 v5 w h)))))
      rw [if_neg hj] at h
      cases h
    · exact (show _ = _ ∧ _ = _ ∧ _ = _ ∧ True from ⟨rfl, rfl, rfl, trivial⟩)
set_option maxRecDepth 100000 in
set_option maxHeartbeats 4000000 in
theorem crX12_sharedBy {N : Nat} {X : XT} (G : GX X cX12_sharedBy RX12) (hR : xR X = rmL 3) : CRs X tX12_sharedBy (oF [(mX12_isOf N), (mX12_leads N)]) (oF []) (oF []) := by
  have hl : tX12_sharedBy.filter isInv = [(51, .invokestatic 341, 0, 0, 2, 0, 0, []), (62, .invokevirtual 555, 0, 1, 3, 0, 0, [])] := rfl
  intro e he
  rw [hl] at he
  simp only [List.mem_cons, List.not_mem_nil, or_false] at he
  rcases he with rfl | rfl
  · exact crI_S (idx := 341) G (by decide +kernel) (MX12_isOf N) (cw_of (ps := [1589, 1590, 164, 1591]) (by decide +kernel) (by decide +kernel)) ⟨by decide +kernel, by decide +kernel, by decide +kernel⟩ (by unfold rmOk; rw [hR]; exact ⟨by decide, by decide⟩)
  · exact crI_V (idx := 555) G (by decide +kernel) (MX12_leads N) (cw_of (ps := [2241, 2243, 131, 164, 2244]) (by decide +kernel) (by decide +kernel)) ⟨by decide +kernel, by decide +kernel, by decide +kernel⟩ (by unfold rmOk; rw [hR]; exact ⟨by decide, by decide⟩)
set_option maxRecDepth 100000 in
set_option maxHeartbeats 4000000 in
theorem MX12_sharedBy (N : Nat) : SndI yX12_sharedBy cX12_sharedBy 8 (some .int) 3 3 true (mX12_sharedBy N) := by
  refine SndI.of tX12_sharedBy (by decide +kernel) rfl rfl ?_ ?_
  · intro as w x h
    obtain ⟨t1, rfl, h_1⟩ := xS1_some h
    obtain ⟨a1, t2, rfl, h_2⟩ := xI1_some h_1
    obtain ⟨a2, t3, rfl, h_3⟩ := xI1_some h_2
    obtain ⟨rfl, h_4⟩ := xN1_some h_3
    clear h h_1 h_2 h_3
    have h := h_4
    rw [callW_eq] at h
    exact ⟨fun _ => ⟨_, _, _, rfl, rfl, _, rfl, rfl⟩, rfl, Nat.le_of_ble_eq_true rfl⟩
  · intro X G hn hR as w r h hr
    have hC := crX12_sharedBy (N := N) G hR
    obtain ⟨t1, rfl, h_1⟩ := xS1_some h
    obtain ⟨a1, t2, rfl, h_2⟩ := xI1_some h_1
    obtain ⟨a2, t3, rfl, h_3⟩ := xI1_some h_2
    obtain ⟨rfl, h_4⟩ := xN1_some h_3
    clear h h_1 h_2 h_3
    have h := h_4
    rw [callW_eq] at h
    refine run_sound (r := r) (X := X) (cc := cX12_sharedBy) (own := RX12) (tab := tX12_sharedBy) G (by rw [hn]; exact kX12_sharedBy) (oI := (oF [(mX12_isOf N), (mX12_leads N)])) (oL := (oF [])) (oV := (oF [])) (rI := (fun x w => some (x, w))) (rL := (fun _ _ => none)) (rV := (fun _ => none))
      (K := (fun j ls st w => if j = 6 then (lgI ls 3 fun v3 => lgI ls 4 fun v4 => lgI ls 5 fun v5 => st0 st (callW (fX12_sharedBy_6 N a1 a2 N v3 v4 v5) w)) else none)) (fun x w pc ls hx hd => hr x w pc ls (Option.some.inj hx) hd) (fun _ _ _ _ hx => by cases hx) (fun _ _ _ hx => by cases hx) hC (fun ls => lsb [some (.inr (.inr (16, 0))), some (.inl a1), some (.inl a2), none, none, none, none, none] 0 ls) (keepsP_of rfl) ?_ 92 0 [some (.inr (.inr (16, 0))), some (.inl a1), some (.inl a2), none, none, none, none, none] [] w ?_ h
    · intro j ls st w hfx h
      obtain ⟨e0, e1, e2, -⟩ : _ = _ ∧ _ = _ ∧ _ = _ ∧ True := hfx
      try dsimp only at h
      by_cases hj : j = 6
      · subst hj
        rw [if_pos rfl] at h
        obtain ⟨v3, e3, h_1⟩ := lgI_some h
        obtain ⟨v4, e4, h_2⟩ := lgI_some h_1
        obtain ⟨v5, e5, h_3⟩ := lgI_some h_2
        obtain ⟨rfl, h_4⟩ := st0_some h_3
        clear h h_1 h_2 h_3
        have h := h_4
        try rw [callW_eq] at h
        exact WW.le (a := [some (.inr (.inr (16, 0))), some (.inl a1), some (.inl a2), some (.inl v3), some (.inl v4), some (.inl v5), none, none]) (by rw [hn]; rfl) (show _ = _ ∧ _ = _ ∧ _ = _ ∧ _ = _ ∧ _ = _ ∧ _ = _ ∧ True from ⟨e0, e1, e2, e3, e4, e5, trivial⟩) (sX12_sharedBy_6 G hn hC hr a1 a2 N v3 v4 v5 w h)
      rw [if_neg hj] at h
      cases h
    · exact (show _ = _ ∧ _ = _ ∧ _ = _ ∧ True from ⟨rfl, rfl, rfl, trivial⟩)
-- MoorGuidesModel.share(II)I
def tX12_share : List EN := [
  (0, .aload_n 0, 0, 0, 0, 0, 0, []), (1, .iconst 0, 0, 0, 0, 0, 0, []), (2, .putfield 196, 0, 12, 2, 0, 0, []), (5, .iload_n 1, 0, 0, 0, 0, 0, []),
  (6, .invokestatic 479, 0, 0, 1, 0, 0, []), (9, .ifCond .eq 16, 0, 13, 0, 0, 0, []), (12, .iload_n 2, 0, 0, 0, 0, 0, []), (13, .iconst (-1), 0, 0, 0, (-1), 0, []),
  (14, .if_icmp .lt 11, 0, 13, 0, 0, 0, []), (17, .iload_n 2, 0, 0, 0, 0, 0, []), (18, .aload_n 0, 0, 0, 0, 0, 0, []), (19, .getfield 301, 0, 12, 14, 0, 0, []),
  (22, .if_icmp .lt 5, 0, 15, 0, 0, 0, []), (25, .iconst (-1), 0, 0, 0, (-1), 0, []), (26, .ireturn, 0, 0, 0, 0, 0, []), (27, .aload_n 0, 0, 0, 0, 0, 0, []),
  (28, .iload_n 1, 0, 0, 0, 0, 0, []), (29, .invokevirtual 558, 0, 0, 2, 0, 0, [(0, 0), (0, 0)]), (32, .iload_n 2, 0, 0, 0, 0, 0, []), (33, .ifCond .ge 13, 0, 25, 0, 0, 0, []),
  (36, .aload_n 0, 0, 0, 0, 0, 0, []), (37, .getfield 151, 0, 12, 86, 0, 0, []), (40, .bipush 63, 0, 0, 0, 63, 0, []), (42, .iaload, 0, 0, 0, 0, 0, []),
  (43, .goto 9, 0, 29, 0, 0, 0, []), (46, .aload_n 0, 0, 0, 0, 0, 0, []), (47, .iload_n 2, 0, 0, 0, 0, 0, []), (48, .iload_n 1, 0, 0, 0, 0, 0, []),
  (49, .invokevirtual 561, 0, 1, 3, 0, 0, []), (52, .ireturn, 0, 0, 0, 0, 0, [])]
noncomputable def pX12_share (N : Nat) (a1 : Int32) (a2 : Int32) (w : Wd) : Option (Int32 × Wd) :=
  (callW (pX12_isNight N a1) (setI w 16 0 2 (0 : Int32))).bind fun r1 =>
  if r1.1 = 0 then some ((-1 : Int32), r1.2) else
  if a2 < (-1 : Int32) then some ((-1 : Int32), r1.2) else
  if a2 < (gI r1.2 16 0 14) then
    (callW (pX12_layShares N a1) r1.2).bind fun w2 =>
    if a2 < 0 then
      (ldI w2 118 0 (63 : Int32) 576).bind fun x3 =>
      some (x3, w2)
    else
    (callW (pX12_sharedBy N a2 a1) w2).bind fun r4 =>
    some (r4.1, r4.2)
  else
  some ((-1 : Int32), r1.2)
noncomputable def mX12_share (N : Nat) (as : List AV) (w : Wd) : Option (Int32 × Wd) := xS1 16 as fun t => xI1 t fun a1 t => xI1 t fun a2 t => xN1 t (callW (pX12_share N a1 a2) w)
set_option maxRecDepth 100000 in
set_option maxHeartbeats 4000000 in
theorem kX12_share : TK cX12_share RX12 3 tX12_share := ⟨by decide +kernel, wok_of [1602, 1614, 1686] (by decide +kernel) (by decide +kernel)⟩
set_option maxRecDepth 100000 in
set_option maxHeartbeats 4000000 in
theorem crX12_share {N : Nat} {X : XT} (G : GX X cX12_share RX12) (hR : xR X = rmL 6) : CRs X tX12_share (oF [(mX12_isNight N), (mX12_sharedBy N)]) (oF []) (oF [(mX12_layShares N)]) := by
  have hl : tX12_share.filter isInv = [(6, .invokestatic 479, 0, 0, 1, 0, 0, []), (29, .invokevirtual 558, 0, 0, 2, 0, 0, [(0, 0), (0, 0)]), (49, .invokevirtual 561, 0, 1, 3, 0, 0, [])] := rfl
  intro e he
  rw [hl] at he
  simp only [List.mem_cons, List.not_mem_nil, or_false] at he
  rcases he with rfl | rfl | rfl
  · exact crI_S (idx := 479) G (by decide +kernel) (MX12_isNight N) (cw_of (ps := [2116, 2117, 164, 2118]) (by decide +kernel) (by decide +kernel)) ⟨by decide +kernel, by decide +kernel, by decide +kernel⟩ (by unfold rmOk; rw [hR]; exact ⟨by decide, by decide⟩)
  · exact crV_V (idx := 558) G (by decide +kernel) (MX12_layShares N) (cw_of (ps := [2237, 2239, 130, 164, 2240]) (by decide +kernel) (by decide +kernel)) ⟨by decide +kernel, by decide +kernel, by decide +kernel⟩ (by unfold rmOk; rw [hR]; exact ⟨by decide, by decide⟩)
  · exact crI_V (idx := 561) G (by decide +kernel) (MX12_sharedBy N) (cw_of (ps := [2245, 2247, 132, 164, 2248]) (by decide +kernel) (by decide +kernel)) ⟨by decide +kernel, by decide +kernel, by decide +kernel⟩ (by unfold rmOk; rw [hR]; exact ⟨by decide, by decide⟩)
set_option maxRecDepth 100000 in
set_option maxHeartbeats 4000000 in
theorem MX12_share (N : Nat) : SndI yX12_share cX12_share 3 (some .int) 6 3 true (mX12_share N) := by
  refine SndI.of tX12_share (by decide +kernel) rfl rfl ?_ ?_
  · intro as w x h
    obtain ⟨t1, rfl, h_1⟩ := xS1_some h
    obtain ⟨a1, t2, rfl, h_2⟩ := xI1_some h_1
    obtain ⟨a2, t3, rfl, h_3⟩ := xI1_some h_2
    obtain ⟨rfl, h_4⟩ := xN1_some h_3
    clear h h_1 h_2 h_3
    have h := h_4
    rw [callW_eq] at h
    exact ⟨fun _ => ⟨_, _, _, rfl, rfl, _, rfl, rfl⟩, rfl, Nat.le_of_ble_eq_true rfl⟩
  · intro X G hn hR as w r h hr
    have hC := crX12_share (N := N) G hR
    obtain ⟨t1, rfl, h_1⟩ := xS1_some h
    obtain ⟨a1, t2, rfl, h_2⟩ := xI1_some h_1
    obtain ⟨a2, t3, rfl, h_3⟩ := xI1_some h_2
    obtain ⟨rfl, h_4⟩ := xN1_some h_3
    clear h h_1 h_2 h_3
    have h := h_4
    rw [callW_eq] at h
    refine run_sound (r := r) (X := X) (cc := cX12_share) (own := RX12) (tab := tX12_share) G (by rw [hn]; exact kX12_share) (oI := (oF [(mX12_isNight N), (mX12_sharedBy N)])) (oL := (oF [])) (oV := (oF [(mX12_layShares N)])) (rI := (fun x w => some (x, w))) (rL := (fun _ _ => none)) (rV := (fun _ => none))
      (K := (fun j ls st w => none)) (fun x w pc ls hx hd => hr x w pc ls (Option.some.inj hx) hd) (fun _ _ _ _ hx => by cases hx) (fun _ _ _ hx => by cases hx) hC (fun ls => lsb [some (.inr (.inr (16, 0))), some (.inl a1), some (.inl a2)] 0 ls) (keepsP_of rfl) ?_ 32 0 [some (.inr (.inr (16, 0))), some (.inl a1), some (.inl a2)] [] w ?_ h
    · intro j ls st w hfx h
      obtain ⟨e0, e1, e2, -⟩ : _ = _ ∧ _ = _ ∧ _ = _ ∧ True := hfx
      try dsimp only at h
      cases h
    · exact (show _ = _ ∧ _ = _ ∧ _ = _ ∧ True from ⟨rfl, rfl, rfl, trivial⟩)

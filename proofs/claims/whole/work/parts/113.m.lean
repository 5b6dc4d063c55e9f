-- MoorGuidesModel.look(II)I
def tX12_look : List EN := [
  (0, .aload_n 0, 0, 0, 0, 0, 0, []), (1, .iconst 0, 0, 0, 0, 0, 0, []), (2, .putfield 196, 0, 12, 2, 0, 0, []), (5, .aload_n 0, 0, 0, 0, 0, 0, []),
  (6, .iload_n 1, 0, 0, 0, 0, 0, []), (7, .invokevirtual 463, 0, 0, 2, 0, 0, []), (10, .ifCond .ne 9, 0, 11, 0, 0, 0, []), (13, .aload_n 0, 0, 0, 0, 0, 0, []),
  (14, .iconst 1, 0, 0, 0, 1, 0, []), (15, .invokevirtual 466, 0, 1, 2, 0, 0, []), (18, .ireturn, 0, 0, 0, 0, 0, []), (19, .iload_n 2, 0, 0, 0, 0, 0, []),
  (20, .tableswitch 106 0 5 #[40, 59, 74, 85, 92, 99], 0, 55, 40, 0, 0, [(0, 13), (1, 24), (2, 33), (3, 40), (4, 45), (5, 50)]), (60, .aload_n 0, 0, 0, 0, 0, 0, []), (61, .iconst 0, 0, 0, 0, 0, 0, []), (62, .iload_n 1, 0, 0, 0, 0, 0, []),
  (63, .aload_n 0, 0, 0, 0, 0, 0, []), (64, .getfield 438, 0, 12, 64, 0, 0, []), (67, .invokevirtual 456, 0, 2, 4, 0, 0, []), (70, .ifCond .eq 7, 0, 22, 0, 0, 0, []),
  (73, .iconst 1, 0, 0, 0, 1, 0, []), (74, .goto 4, 0, 23, 0, 0, 0, []), (77, .iconst 0, 0, 0, 0, 0, 0, []), (78, .ireturn, 0, 0, 0, 0, 0, []),
  (79, .aload_n 0, 0, 0, 0, 0, 0, []), (80, .getfield 106, 0, 12, 68, 0, 0, []), (83, .iload_n 1, 0, 0, 0, 0, 0, []), (84, .baload, 0, 0, 0, 0, 0, []),
  (85, .ifCond .eq 7, 0, 31, 0, 0, 0, []), (88, .iconst 1, 0, 0, 0, 1, 0, []), (89, .goto 4, 0, 32, 0, 0, 0, []), (92, .iconst 0, 0, 0, 0, 0, 0, []),
  (93, .ireturn, 0, 0, 0, 0, 0, []), (94, .aload_n 0, 0, 0, 0, 0, 0, []), (95, .iconst 0, 0, 0, 0, 0, 0, []), (96, .iload_n 1, 0, 0, 0, 0, 0, []),
  (97, .aload_n 0, 0, 0, 0, 0, 0, []), (98, .getfield 438, 0, 12, 64, 0, 0, []), (101, .invokevirtual 469, 0, 3, 4, 0, 0, []), (104, .ireturn, 0, 0, 0, 0, 0, []),
  (105, .aload_n 0, 0, 0, 0, 0, 0, []), (106, .getfield 109, 0, 12, 69, 0, 0, []), (109, .iload_n 1, 0, 0, 0, 0, 0, []), (110, .iaload, 0, 0, 0, 0, 0, []),
  (111, .ireturn, 0, 0, 0, 0, 0, []), (112, .aload_n 0, 0, 0, 0, 0, 0, []), (113, .getfield 35, 0, 12, 36, 0, 0, []), (116, .iload_n 1, 0, 0, 0, 0, 0, []),
  (117, .iaload, 0, 0, 0, 0, 0, []), (118, .ireturn, 0, 0, 0, 0, 0, []), (119, .aload_n 0, 0, 0, 0, 0, 0, []), (120, .getfield 112, 0, 12, 70, 0, 0, []),
  (123, .iload_n 1, 0, 0, 0, 0, 0, []), (124, .iaload, 0, 0, 0, 0, 0, []), (125, .ireturn, 0, 0, 0, 0, 0, []), (126, .aload_n 0, 0, 0, 0, 0, 0, []),
  (127, .iconst 2, 0, 0, 0, 2, 0, []), (128, .invokevirtual 466, 0, 1, 2, 0, 0, []), (131, .ireturn, 0, 0, 0, 0, 0, [])]
noncomputable def pX12_look (N : Nat) (a1 : Int32) (a2 : Int32) (w : Wd) : Option (Int32 × Wd) :=
  (callW (pX12_isPerson N a1) (setI w 16 0 2 (0 : Int32))).bind fun r1 =>
  if r1.1 = 0 then
    (callW (pX12_fails N (1 : Int32)) r1.2).bind fun r2 =>
    some (r2.1, r2.2)
  else
  if a2 = (0 : Int32) then
    (callW (pX12_isThere N (0 : Int32) a1 (gI r1.2 16 0 64)) r1.2).bind fun r3 =>
    if r3.1 = 0 then some ((0 : Int32), r3.2) else
    some ((1 : Int32), r3.2)
  else
  if a2 = (1 : Int32) then
    (ldI r1.2 103 0 a1 12).bind fun x4 =>
    if x4 = 0 then some ((0 : Int32), r1.2) else
    some ((1 : Int32), r1.2)
  else
  if a2 = (2 : Int32) then
    (callW (pX12_knownBy N (0 : Int32) a1 (gI r1.2 16 0 64)) r1.2).bind fun r5 =>
    some (r5.1, r5.2)
  else
  if a2 = (3 : Int32) then
    (ldI r1.2 104 0 a1 12).bind fun x6 =>
    some (x6, r1.2)
  else
  if a2 = (4 : Int32) then
    (ldI r1.2 80 0 a1 12).bind fun x7 =>
    some (x7, r1.2)
  else
  if a2 = (5 : Int32) then
    (ldI r1.2 105 0 a1 12).bind fun x8 =>
    some (x8, r1.2)
  else
  (callW (pX12_fails N (2 : Int32)) r1.2).bind fun r9 =>
  some (r9.1, r9.2)
noncomputable def mX12_look (N : Nat) (as : List AV) (w : Wd) : Option (Int32 × Wd) := xS1 16 as fun t => xI1 t fun a1 t => xI1 t fun a2 t => xN1 t (callW (pX12_look N a1 a2) w)
set_option maxRecDepth 100000 in
set_option maxHeartbeats 4000000 in
theorem kX12_look : TK cX12_look RX12 3 tX12_look := ⟨by decide +kernel, wok_of [1602, 1664, 1668, 1664, 1669, 1636, 1670] (by decide +kernel) (by decide +kernel)⟩
set_option maxRecDepth 100000 in
set_option maxHeartbeats 4000000 in
theorem crX12_look {N : Nat} {X : XT} (G : GX X cX12_look RX12) (hR : xR X = rmL 4) : CRs X tX12_look (oF [(mX12_isPerson N), (mX12_fails N), (mX12_isThere N), (mX12_knownBy N)]) (oF []) (oF []) := by
  have hl : tX12_look.filter isInv = [(7, .invokevirtual 463, 0, 0, 2, 0, 0, []), (15, .invokevirtual 466, 0, 1, 2, 0, 0, []), (67, .invokevirtual 456, 0, 2, 4, 0, 0, []), (101, .invokevirtual 469, 0, 3, 4, 0, 0, []), (128, .invokevirtual 466, 0, 1, 2, 0, 0, [])] := rfl
  intro e he
  rw [hl] at he
  simp only [List.mem_cons, List.not_mem_nil, or_false] at he
  rcases he with rfl | rfl | rfl | rfl | rfl
  · exact crI_V (idx := 463) G (by decide +kernel) (MX12_isPerson N) (cw_of (ps := [2080, 2082, 106, 164, 2083]) (by decide +kernel) (by decide +kernel)) ⟨by decide +kernel, by decide +kernel, by decide +kernel⟩ (by unfold rmOk; rw [hR]; exact ⟨by decide, by decide⟩)
  · exact crI_V (idx := 466) G (by decide +kernel) (MX12_fails N) (cw_of (ps := [2084, 2086, 107, 164, 2087]) (by decide +kernel) (by decide +kernel)) ⟨by decide +kernel, by decide +kernel, by decide +kernel⟩ (by unfold rmOk; rw [hR]; exact ⟨by decide, by decide⟩)
  · exact crI_V (idx := 456) G (by decide +kernel) (MX12_isThere N) (cw_of (ps := [2088, 2090, 108, 164, 2091]) (by decide +kernel) (by decide +kernel)) ⟨by decide +kernel, by decide +kernel, by decide +kernel⟩ (by unfold rmOk; rw [hR]; exact ⟨by decide, by decide⟩)
  · exact crI_V (idx := 469) G (by decide +kernel) (MX12_knownBy N) (cw_of (ps := [2092, 2094, 109, 164, 2095]) (by decide +kernel) (by decide +kernel)) ⟨by decide +kernel, by decide +kernel, by decide +kernel⟩ (by unfold rmOk; rw [hR]; exact ⟨by decide, by decide⟩)
  · exact crI_V (idx := 466) G (by decide +kernel) (MX12_fails N) (cw_of (ps := [2084, 2086, 107, 164, 2087]) (by decide +kernel) (by decide +kernel)) ⟨by decide +kernel, by decide +kernel, by decide +kernel⟩ (by unfold rmOk; rw [hR]; exact ⟨by decide, by decide⟩)
set_option maxRecDepth 100000 in
set_option maxHeartbeats 4000000 in
theorem MX12_look (N : Nat) : SndI yX12_look cX12_look 3 (some .int) 4 3 true (mX12_look N) := by
  refine SndI.of tX12_look (by decide +kernel) rfl rfl ?_ ?_
  · intro as w x h
    obtain ⟨t1, rfl, h_1⟩ := xS1_some h
    obtain ⟨a1, t2, rfl, h_2⟩ := xI1_some h_1
    obtain ⟨a2, t3, rfl, h_3⟩ := xI1_some h_2
    obtain ⟨rfl, h_4⟩ := xN1_some h_3
    clear h h_1 h_2 h_3
    have h := h_4
    rw [callW_eq] at h
    exact ⟨fun _ => ⟨_, _, _, rfl, rfl, _, rfl, rfl⟩, rfl, Nat.le_of_ble_eq_true rfl⟩
  · intro X G hn hR as w r h hr
    have hC := crX12_look (N := N) G hR
    obtain ⟨t1, rfl, h_1⟩ := xS1_some h
    obtain ⟨a1, t2, rfl, h_2⟩ := xI1_some h_1
    obtain ⟨a2, t3, rfl, h_3⟩ := xI1_some h_2
    obtain ⟨rfl, h_4⟩ := xN1_some h_3
    clear h h_1 h_2 h_3
    have h := h_4
    rw [callW_eq] at h
    refine run_sound (r := r) (X := X) (cc := cX12_look) (own := RX12) (tab := tX12_look) G (by rw [hn]; exact kX12_look) (oI := (oF [(mX12_isPerson N), (mX12_fails N), (mX12_isThere N), (mX12_knownBy N)])) (oL := (oF [])) (oV := (oF [])) (rI := (fun x w => some (x, w))) (rL := (fun _ _ => none)) (rV := (fun _ => none))
      (K := (fun j ls st w => none)) (fun x w pc ls hx hd => hr x w pc ls (Option.some.inj hx) hd) (fun _ _ _ _ hx => by cases hx) (fun _ _ _ hx => by cases hx) hC (fun ls => lsb [some (.inr (.inr (16, 0))), some (.inl a1), some (.inl a2)] 0 ls) (keepsP_of rfl) ?_ 61 0 [some (.inr (.inr (16, 0))), some (.inl a1), some (.inl a2)] [] w ?_ h
    · intro j ls st w hfx h
      obtain ⟨e0, e1, e2, -⟩ : _ = _ ∧ _ = _ ∧ _ = _ ∧ True := hfx
      try dsimp only at h
      cases h
    · exact (show _ = _ ∧ _ = _ ∧ _ = _ ∧ True from ⟨rfl, rfl, rfl, trivial⟩)
-- MoorGuidesModel.wantedOf(II)I
def tX12_wantedOf : List EN := [
  (0, .iconst 0, 0, 0, 0, 0, 0, []), (1, .istore_n 3, 0, 0, 0, 0, 0, []), (2, .iconst 0, 0, 0, 0, 0, 0, []), (3, .istore 4, 0, 0, 0, 0, 0, []),
  (5, .iload 4, 5, 0, 0, 0, 0, []), (7, .aload_n 0, 0, 0, 0, 0, 0, []), (8, .getfield 301, 0, 12, 14, 0, 0, []), (11, .if_icmp .ge 50, 0, 34, 0, 0, 0, []),
  (14, .iload_n 3, 0, 0, 0, 0, 0, []), (15, .aload_n 0, 0, 0, 0, 0, 0, []), (16, .getfield 53, 0, 12, 42, 0, 0, []), (19, .iload 4, 0, 0, 0, 0, 0, []),
  (21, .iaload, 0, 0, 0, 0, 0, []), (22, .iload_n 2, 0, 0, 0, 0, 0, []), (23, .if_icmp .lt 29, 0, 29, 0, 0, 0, []), (26, .aload_n 0, 0, 0, 0, 0, 0, []),
  (27, .getfield 47, 0, 12, 40, 0, 0, []), (30, .iload 4, 0, 0, 0, 0, 0, []), (32, .iaload, 0, 0, 0, 0, 0, []), (33, .iload_n 1, 0, 0, 0, 0, 0, []),
  (34, .if_icmp .eq 14, 0, 27, 0, 0, 0, []), (37, .aload_n 0, 0, 0, 0, 0, 0, []), (38, .getfield 50, 0, 12, 41, 0, 0, []), (41, .iload 4, 0, 0, 0, 0, 0, []),
  (43, .iaload, 0, 0, 0, 0, 0, []), (44, .iload_n 1, 0, 0, 0, 0, 0, []), (45, .if_icmp .ne 7, 0, 29, 0, 0, 0, []), (48, .iconst 1, 0, 0, 0, 1, 0, []),
  (49, .goto 4, 0, 30, 0, 0, 0, []), (52, .iconst 0, 0, 0, 0, 0, 0, []), (53, .iadd, 0, 0, 0, 0, 0, []), (54, .istore_n 3, 0, 0, 0, 0, 0, []),
  (55, .iinc 4 1, 0, 0, 0, 1, 0, []), (58, .goto (-53), 0, 4, 0, 0, 0, []), (61, .iload_n 3, 0, 0, 0, 0, 0, []), (62, .ireturn, 0, 0, 0, 0, 0, [])]
noncomputable def fX12_wantedOf_4 (N : Nat) (a1 : Int32) (a2 : Int32) : Nat → Int32 → Int32 → Wd → Option (Int32 × Wd)
  | 0, _, _, _ => none
  | n + 1, v3, v4, w =>
    if v4 < (gI w 16 0 14) then
      (ldI w 86 0 v4 16).bind fun x1 =>
      if x1 < a2 then callW (fX12_wantedOf_4 N a1 a2 n (v3 + (0 : Int32)) (v4 + (1 : Int32))) w else
      (ldI w 84 0 v4 16).bind fun x2 =>
      if x2 = a1 then callW (fX12_wantedOf_4 N a1 a2 n (v3 + (1 : Int32)) (v4 + (1 : Int32))) w else
      (ldI w 85 0 v4 16).bind fun x3 =>
      if x3 = a1 then callW (fX12_wantedOf_4 N a1 a2 n (v3 + (1 : Int32)) (v4 + (1 : Int32))) w else
      callW (fX12_wantedOf_4 N a1 a2 n (v3 + (0 : Int32)) (v4 + (1 : Int32))) w
    else
    some (v3, w)
noncomputable def pX12_wantedOf (N : Nat) (a1 : Int32) (a2 : Int32) (w : Wd) : Option (Int32 × Wd) :=
  callW (fX12_wantedOf_4 N a1 a2 N (0 : Int32) (0 : Int32)) w
noncomputable def mX12_wantedOf (N : Nat) (as : List AV) (w : Wd) : Option (Int32 × Wd) := xS1 16 as fun t => xI1 t fun a1 t => xI1 t fun a2 t => xN1 t (callW (pX12_wantedOf N a1 a2) w)
set_option maxRecDepth 100000 in
set_option maxHeartbeats 4000000 in
theorem kX12_wantedOf : TK cX12_wantedOf RX12 5 tX12_wantedOf := ⟨by decide +kernel, wok_of [1614, 1642, 1640, 1641] (by decide +kernel) (by decide +kernel)⟩
set_option maxRecDepth 100000 in
set_option maxHeartbeats 4000000 in
theorem sX12_wantedOf_4 {N : Nat} {X : XT} (G : GX X cX12_wantedOf RX12) (hn : xnL X = 5) (hC : CRs X tX12_wantedOf (oF []) (oF []) (oF [])) {r : Int32 × Wd} (hr : RTI X cX12_wantedOf r) (a1 : Int32) (a2 : Int32) : ∀ (n : Nat) (v3 : Int32) (v4 : Int32) (w : Wd), fX12_wantedOf_4 N a1 a2 n v3 v4 w = some r → WW X (pcAt tX12_wantedOf 4) [some (.inr (.inr (16, 0))), some (.inl a1), some (.inl a2), some (.inl v3), some (.inl v4)] [] w := by
  intro n
  induction n with
  | zero => intro v3 v4 w h; cases h
  | succ n ih =>
    intro v3 v4 w h
    refine run_sound (r := r) (X := X) (cc := cX12_wantedOf) (own := RX12) (tab := tX12_wantedOf) G (by rw [hn]; exact kX12_wantedOf) (oI := (oF [])) (oL := (oF [])) (oV := (oF [])) (rI := (fun x w => some (x, w))) (rL := (fun _ _ => none)) (rV := (fun _ => none))
      (K := (fun j ls st w => if j = 4 then (lgI ls 3 fun v3 => lgI ls 4 fun v4 => st0 st (callW (fX12_wantedOf_4 N a1 a2 n v3 v4) w)) else none)) (fun x w pc ls hx hd => hr x w pc ls (Option.some.inj hx) hd) (fun _ _ _ _ hx => by cases hx) (fun _ _ _ hx => by cases hx) hC (fun ls => lsb [some (.inr (.inr (16, 0))), some (.inl a1), some (.inl a2), none, none] 0 ls) (keepsP_of rfl) ?_ 38 4 [some (.inr (.inr (16, 0))), some (.inl a1), some (.inl a2), some (.inl v3), some (.inl v4)] [] w ?_ h
    · intro j ls st w hfx h
      obtain ⟨e0, e1, e2, -⟩ : _ = _ ∧ _ = _ ∧ _ = _ ∧ True := hfx
      try dsimp only at h
      by_cases hj : j = 4
      · subst hj
        rw [if_pos rfl] at h
        obtain ⟨v3, e3, h_1⟩ := lgI_some h
        obtain ⟨v4, e4, h_2⟩ := lgI_some h_1
        obtain ⟨rfl, h_3⟩ := st0_some h_2
        clear h h_1 h_2
        have h := h_3
        try rw [callW_eq] at h
        exact WW.le (a := [some (.inr (.inr (16, 0))), some (.inl a1), some (.inl a2), some (.inl v3), some (.inl v4)]) (by rw [hn]; rfl) (show _ = _ ∧ _ = _ ∧ _ = _ ∧ _ = _ ∧ _ = _ ∧ True from ⟨e0, e1, e2, e3, e4, trivial⟩) (ih v3 v4 w h)
      rw [if_neg hj] at h
      cases h
    · exact (show _ = _ ∧ _ = _ ∧ _ = _ ∧ True from ⟨rfl, rfl, rfl, trivial⟩)
set_option maxRecDepth 100000 in
set_option maxHeartbeats 4000000 in
theorem crX12_wantedOf {N : Nat} {X : XT} (G : GX X cX12_wantedOf RX12) (hR : xR X = rmL 1) : CRs X tX12_wantedOf (oF []) (oF []) (oF []) := by
  have hl : tX12_wantedOf.filter isInv = [] := rfl
  intro e he
  rw [hl] at he
  cases he
set_option maxRecDepth 100000 in
set_option maxHeartbeats 4000000 in
theorem MX12_wantedOf (N : Nat) : SndI yX12_wantedOf cX12_wantedOf 5 (some .int) 1 3 true (mX12_wantedOf N) := by
  refine SndI.of tX12_wantedOf (by decide +kernel) rfl rfl ?_ ?_
  · intro as w x h
    obtain ⟨t1, rfl, h_1⟩ := xS1_some h
    obtain ⟨a1, t2, rfl, h_2⟩ := xI1_some h_1
    obtain ⟨a2, t3, rfl, h_3⟩ := xI1_some h_2
    obtain ⟨rfl, h_4⟩ := xN1_some h_3
    clear h h_1 h_2 h_3
    have h := h_4
    rw [callW_eq] at h
    exact ⟨fun _ => ⟨_, _, _, rfl, rfl, _, rfl, rfl⟩, rfl, Nat.le_of_ble_eq_true rfl⟩
  · intro X G hn hR as w r h hr
    have hC := crX12_wantedOf (N := N) G hR
    obtain ⟨t1, rfl, h_1⟩ := xS1_some h
    obtain ⟨a1, t2, rfl, h_2⟩ := xI1_some h_1
    obtain ⟨a2, t3, rfl, h_3⟩ := xI1_some h_2
    obtain ⟨rfl, h_4⟩ := xN1_some h_3
    clear h h_1 h_2 h_3
    have h := h_4
    rw [callW_eq] at h
    refine run_sound (r := r) (X := X) (cc := cX12_wantedOf) (own := RX12) (tab := tX12_wantedOf) G (by rw [hn]; exact kX12_wantedOf) (oI := (oF [])) (oL := (oF [])) (oV := (oF [])) (rI := (fun x w => some (x, w))) (rL := (fun _ _ => none)) (rV := (fun _ => none))
      (K := (fun j ls st w => if j = 4 then (lgI ls 3 fun v3 => lgI ls 4 fun v4 => st0 st (callW (fX12_wantedOf_4 N a1 a2 N v3 v4) w)) else none)) (fun x w pc ls hx hd => hr x w pc ls (Option.some.inj hx) hd) (fun _ _ _ _ hx => by cases hx) (fun _ _ _ hx => by cases hx) hC (fun ls => lsb [some (.inr (.inr (16, 0))), some (.inl a1), some (.inl a2), none, none] 0 ls) (keepsP_of rfl) ?_ 38 0 [some (.inr (.inr (16, 0))), some (.inl a1), some (.inl a2), none, none] [] w ?_ h
    · intro j ls st w hfx h
      obtain ⟨e0, e1, e2, -⟩ : _ = _ ∧ _ = _ ∧ _ = _ ∧ True := hfx
      try dsimp only at h
      by_cases hj : j = 4
      · subst hj
        rw [if_pos rfl] at h
        obtain ⟨v3, e3, h_1⟩ := lgI_some h
        obtain ⟨v4, e4, h_2⟩ := lgI_some h_1
        obtain ⟨rfl, h_3⟩ := st0_some h_2
        clear h h_1 h_2
        have h := h_3
        try rw [callW_eq] at h
        exact WW.le (a := [some (.inr (.inr (16, 0))), some (.inl a1), some (.inl a2), some (.inl v3), some (.inl v4)]) (by rw [hn]; rfl) (show _ = _ ∧ _ = _ ∧ _ = _ ∧ _ = _ ∧ _ = _ ∧ True from ⟨e0, e1, e2, e3, e4, trivial⟩) (sX12_wantedOf_4 G hn hC hr a1 a2 N v3 v4 w h)
      rw [if_neg hj] at h
      cases h
    · exact (show _ = _ ∧ _ = _ ∧ _ = _ ∧ True from ⟨rfl, rfl, rfl, trivial⟩)
-- MoorGuidesModel.part(II)I
def tX12_part : List EN := [
  (0, .aload_n 0, 0, 0, 0, 0, 0, []), (1, .iconst 0, 0, 0, 0, 0, 0, []), (2, .putfield 196, 0, 12, 2, 0, 0, []), (5, .aload_n 0, 0, 0, 0, 0, 0, []),
  (6, .iload_n 1, 0, 0, 0, 0, 0, []), (7, .invokevirtual 473, 0, 0, 2, 0, 0, []), (10, .ifCond .ne 5, 0, 9, 0, 0, 0, []), (13, .iconst (-1), 0, 0, 0, (-1), 0, []),
  (14, .ireturn, 0, 0, 0, 0, 0, []), (15, .iconst 0, 0, 0, 0, 0, 0, []), (16, .istore_n 3, 0, 0, 0, 0, 0, []), (17, .iload_n 2, 0, 0, 0, 0, 0, []),
  (18, .tableswitch 97 0 3 #[30, 37, 44, 54], 0, 53, 30, 0, 0, [(0, 13), (1, 18), (2, 23), (3, 29)]), (48, .aload_n 0, 0, 0, 0, 0, 0, []), (49, .getfield 23, 0, 12, 32, 0, 0, []), (52, .iload_n 1, 0, 0, 0, 0, 0, []),
  (53, .iaload, 0, 0, 0, 0, 0, []), (54, .ireturn, 0, 0, 0, 0, 0, []), (55, .aload_n 0, 0, 0, 0, 0, 0, []), (56, .getfield 26, 0, 12, 33, 0, 0, []),
  (59, .iload_n 1, 0, 0, 0, 0, 0, []), (60, .iaload, 0, 0, 0, 0, 0, []), (61, .ireturn, 0, 0, 0, 0, 0, []), (62, .aload_n 0, 0, 0, 0, 0, 0, []),
  (63, .iload_n 1, 0, 0, 0, 0, 0, []), (64, .aload_n 0, 0, 0, 0, 0, 0, []), (65, .getfield 438, 0, 12, 64, 0, 0, []), (68, .invokevirtual 476, 0, 1, 3, 0, 0, []),
  (71, .ireturn, 0, 0, 0, 0, 0, []), (72, .iconst 0, 0, 0, 0, 0, 0, []), (73, .istore 4, 0, 0, 0, 0, 0, []), (75, .iload 4, 32, 0, 0, 0, 0, []),
  (77, .aload_n 0, 0, 0, 0, 0, 0, []), (78, .getfield 298, 0, 12, 13, 0, 0, []), (81, .if_icmp .ge 32, 0, 51, 0, 0, 0, []), (84, .iload_n 3, 0, 0, 0, 0, 0, []),
  (85, .aload_n 0, 0, 0, 0, 0, 0, []), (86, .iconst 0, 0, 0, 0, 0, 0, []), (87, .iload 4, 0, 0, 0, 0, 0, []), (89, .iload_n 1, 0, 0, 0, 0, 0, []),
  (90, .aload_n 0, 0, 0, 0, 0, 0, []), (91, .getfield 438, 0, 12, 64, 0, 0, []), (94, .invokevirtual 459, 0, 2, 5, 0, 0, []), (97, .ifCond .eq 7, 0, 46, 0, 0, 0, []),
  (100, .iconst 1, 0, 0, 0, 1, 0, []), (101, .goto 4, 0, 47, 0, 0, 0, []), (104, .iconst 0, 0, 0, 0, 0, 0, []), (105, .iadd, 0, 0, 0, 0, 0, []),
  (106, .istore_n 3, 0, 0, 0, 0, 0, []), (107, .iinc 4 1, 0, 0, 0, 1, 0, []), (110, .goto (-35), 0, 31, 0, 0, 0, []), (113, .iload_n 3, 0, 0, 0, 0, 0, []),
  (114, .ireturn, 0, 0, 0, 0, 0, []), (115, .iconst (-1), 0, 0, 0, (-1), 0, []), (116, .ireturn, 0, 0, 0, 0, 0, [])]
noncomputable def fX12_part_31 (N : Nat) (a1 : Int32) : Nat → Int32 → Int32 → Wd → Option (Int32 × Wd)
  | 0, _, _, _ => none
  | n + 1, v3, v4, w =>
    if v4 < (gI w 16 0 13) then
      (callW (pX12_hasKnown N (0 : Int32) v4 a1 (gI w 16 0 64)) w).bind fun r1 =>
      if r1.1 = 0 then callW (fX12_part_31 N a1 n (v3 + (0 : Int32)) (v4 + (1 : Int32))) r1.2 else
      callW (fX12_part_31 N a1 n (v3 + (1 : Int32)) (v4 + (1 : Int32))) r1.2
    else
    some (v3, w)
noncomputable def pX12_part (N : Nat) (a1 : Int32) (a2 : Int32) (w : Wd) : Option (Int32 × Wd) :=
  (callW (pX12_isPart N a1) (setI w 16 0 2 (0 : Int32))).bind fun r1 =>
  if r1.1 = 0 then some ((-1 : Int32), r1.2) else
  if a2 = (0 : Int32) then
    (ldI r1.2 76 0 a1 16).bind fun x2 =>
    some (x2, r1.2)
  else
  if a2 = (1 : Int32) then
    (ldI r1.2 77 0 a1 16).bind fun x3 =>
    some (x3, r1.2)
  else
  if a2 = (2 : Int32) then
    (callW (pX12_wantedOf N a1 (gI r1.2 16 0 64)) r1.2).bind fun r4 =>
    some (r4.1, r4.2)
  else
  if a2 = (3 : Int32) then callW (fX12_part_31 N a1 N (0 : Int32) (0 : Int32)) r1.2 else
  some ((-1 : Int32), r1.2)
noncomputable def mX12_part (N : Nat) (as : List AV) (w : Wd) : Option (Int32 × Wd) := xS1 16 as fun t => xI1 t fun a1 t => xI1 t fun a2 t => xN1 t (callW (pX12_part N a1 a2) w)
set_option maxRecDepth 100000 in
set_option maxHeartbeats 4000000 in
theorem kX12_part : TK cX12_part RX12 5 tX12_part := ⟨by decide +kernel, wok_of [1602, 1632, 1633, 1664, 1613, 1664] (by decide +kernel) (by decide +kernel)⟩
set_option maxRecDepth 100000 in
set_option maxHeartbeats 4000000 in
theorem sX12_part_31 {N : Nat} {X : XT} (G : GX X cX12_part RX12) (hn : xnL X = 5) (hC : CRs X tX12_part (oF [(mX12_isPart N), (mX12_wantedOf N), (mX12_hasKnown N)]) (oF []) (oF [])) {r : Int32 × Wd} (hr : RTI X cX12_part r) (a1 : Int32) (a2 : Int32) : ∀ (n : Nat) (v3 : Int32) (v4 : Int32) (w : Wd), fX12_part_31 N a1 n v3 v4 w = some r → WW X (pcAt tX12_part 31) [some (.inr (.inr (16, 0))), some (.inl a1), some (.inl a2), some (.inl v3), some (.inl v4)] [] w := by
  intro n
  induction n with
  | zero => intro v3 v4 w h; cases h
  | succ n ih =>
    intro v3 v4 w h
    refine run_sound (r := r) (X := X) (cc := cX12_part) (own := RX12) (tab := tX12_part) G (by rw [hn]; exact kX12_part) (oI := (oF [(mX12_isPart N), (mX12_wantedOf N), (mX12_hasKnown N)])) (oL := (oF [])) (oV := (oF [])) (rI := (fun x w => some (x, w))) (rL := (fun _ _ => none)) (rV := (fun _ => none))
      (K := (fun j ls st w => if j = 31 then (lgI ls 3 fun v3 => lgI ls 4 fun v4 => st0 st (callW (fX12_part_31 N a1 n v3 v4) w)) else none)) (fun x w pc ls hx hd => hr x w pc ls (Option.some.inj hx) hd) (fun _ _ _ _ hx => by cases hx) (fun _ _ _ hx => by cases hx) hC (fun ls => lsb [some (.inr (.inr (16, 0))), some (.inl a1), some (.inl a2), none, none] 0 ls) (keepsP_of rfl) ?_ 57 31 [some (.inr (.inr (16, 0))), some (.inl a1), some (.inl a2), some (.inl v3), some (.inl v4)] [] w ?_ h
    · intro j ls st w hfx h
      obtain ⟨e0, e1, e2, -⟩ : _ = _ ∧ _ = _ ∧ _ = _ ∧ True := hfx
      try dsimp only at h
      by_cases hj : j = 31
      · subst hj
        rw [if_pos rfl] at h
        obtain ⟨v3, e3, h_1⟩ := lgI_some h
        obtain ⟨v4, e4, h_2⟩ := lgI_some h_1
        obtain ⟨rfl, h_3⟩ := st0_some h_2
        clear h h_1 h_2
        have h := h_3
        try rw [callW_eq] at h
        exact WW.le (a := [some (.inr (.inr (16, 0))), some (.inl a1), some (.inl a2), some (.inl v3), some (.inl v4)]) (by rw [hn]; rfl) (show _ = _ ∧ _ = _ ∧ _ = _ ∧ _ = _ ∧ _ = _ ∧ True from ⟨e0, e1, e2, e3, e4, trivial⟩) (ih v3 v4 w h)
      rw [if_neg hj] at h
      cases h
    · exact (show _ = _ ∧ _ = _ ∧ _ = _ ∧ True from ⟨rfl, rfl, rfl, trivial⟩)
set_option maxRecDepth 100000 in
set_option maxHeartbeats 4000000 in
theorem crX12_part {N : Nat} {X : XT} (G : GX X cX12_part RX12) (hR : xR X = rmL 3) : CRs X tX12_part (oF [(mX12_isPart N), (mX12_wantedOf N), (mX12_hasKnown N)]) (oF []) (oF []) := by
  have hl : tX12_part.filter isInv = [(7, .invokevirtual 473, 0, 0, 2, 0, 0, []), (68, .invokevirtual 476, 0, 1, 3, 0, 0, []), (94, .invokevirtual 459, 0, 2, 5, 0, 0, [])] := rfl
  intro e he
  rw [hl] at he
  simp only [List.mem_cons, List.not_mem_nil, or_false] at he
  rcases he with rfl | rfl | rfl
  · exact crI_V (idx := 473) G (by decide +kernel) (MX12_isPart N) (cw_of (ps := [2104, 2106, 111, 164, 2107]) (by decide +kernel) (by decide +kernel)) ⟨by decide +kernel, by decide +kernel, by decide +kernel⟩ (by unfold rmOk; rw [hR]; exact ⟨by decide, by decide⟩)
  · exact crI_V (idx := 476) G (by decide +kernel) (MX12_wantedOf N) (cw_of (ps := [2108, 2110, 112, 164, 2111]) (by decide +kernel) (by decide +kernel)) ⟨by decide +kernel, by decide +kernel, by decide +kernel⟩ (by unfold rmOk; rw [hR]; exact ⟨by decide, by decide⟩)
  · exact crI_V (idx := 459) G (by decide +kernel) (MX12_hasKnown N) (cw_of (ps := [2096, 2098, 110, 164, 2099]) (by decide +kernel) (by decide +kernel)) ⟨by decide +kernel, by decide +kernel, by decide +kernel⟩ (by unfold rmOk; rw [hR]; exact ⟨by decide, by decide⟩)
set_option maxRecDepth 100000 in
set_option maxHeartbeats 4000000 in
theorem MX12_part (N : Nat) : SndI yX12_part cX12_part 5 (some .int) 3 3 true (mX12_part N) := by
  refine SndI.of tX12_part (by decide +kernel) rfl rfl ?_ ?_
  · intro as w x h
    obtain ⟨t1, rfl, h_1⟩ := xS1_some h
    obtain ⟨a1, t2, rfl, h_2⟩ := xI1_some h_1
    obtain ⟨a2, t3, rfl, h_3⟩ := xI1_some h_2
    obtain ⟨rfl, h_4⟩ := xN1_some h_3
    clear h h_1 h_2 h_3
    have h := h_4
    rw [callW_eq] at h
    exact ⟨fun _ => ⟨_, _, _, rfl, rfl, _, rfl, rfl⟩, rfl, Nat.le_of_ble_eq_true rfl⟩
  · intro X G hn hR as w r h hr
    have hC := crX12_part (N := N) G hR
    obtain ⟨t1, rfl, h_1⟩ := xS1_some h
    obtain ⟨a1, t2, rfl, h_2⟩ := xI1_some h_1
    obtain ⟨a2, t3, rfl, h_3⟩ := xI1_some h_2
    obtain ⟨rfl, h_4⟩ := xN1_some h_3
    clear h h_1 h_2 h_3
    have h := h_4
    rw [callW_eq] at h
    refine run_sound (r := r) (X := X) (cc := cX12_part) (own := RX12) (tab := tX12_part) G (by rw [hn]; exact kX12_part) (oI := (oF [(mX12_isPart N), (mX12_wantedOf N), (mX12_hasKnown N)])) (oL := (oF [])) (oV := (oF [])) (rI := (fun x w => some (x, w))) (rL := (fun _ _ => none)) (rV := (fun _ => none))
      (K := (fun j ls st w => if j = 31 then (lgI ls 3 fun v3 => lgI ls 4 fun v4 => st0 st (callW (fX12_part_31 N a1 N v3 v4) w)) else none)) (fun x w pc ls hx hd => hr x w pc ls (Option.some.inj hx) hd) (fun _ _ _ _ hx => by cases hx) (fun _ _ _ hx => by cases hx) hC (fun ls => lsb [some (.inr (.inr (16, 0))), some (.inl a1), some (.inl a2), none, none] 0 ls) (keepsP_of rfl) ?_ 57 0 [some (.inr (.inr (16, 0))), some (.inl a1), some (.inl a2), none, none] [] w ?_ h
    · intro j ls st w hfx h
      obtain ⟨e0, e1, e2, -⟩ : _ = _ ∧ _ = _ ∧ _ = _ ∧ True := hfx
      try dsimp only at h
      by_cases hj : j = 31
      · subst hj
        rw [if_pos rfl] at h
        obtain ⟨v3, e3, h_1⟩ := lgI_some h
        obtain ⟨v4, e4, h_2⟩ := lgI_some h_1
        obtain ⟨rfl, h_3⟩ := st0_some h_2
        clear h h_1 h_2
        have h := h_3
        try rw [callW_eq] at h
        exact WW.le (a := [some (.inr (.inr (16, 0))), some (.inl a1), some (.inl a2), some (.inl v3), some (.inl v4)]) (by rw [hn]; rfl) (show _ = _ ∧ _ = _ ∧ _ = _ ∧ _ = _ ∧ _ = _ ∧ True from ⟨e0, e1, e2, e3, e4, trivial⟩) (sX12_part_31 G hn hC hr a1 a2 N v3 v4 w h)
      rw [if_neg hj] at h
      cases h
    · exact (show _ = _ ∧ _ = _ ∧ _ = _ ∧ True from ⟨rfl, rfl, rfl, trivial⟩)
-- MoorGuidesModel.knows(III)I
def tX12_knows : List EN := [
  (0, .aload_n 0, 0, 0, 0, 0, 0, []), (1, .iconst 0, 0, 0, 0, 0, 0, []), (2, .putfield 196, 0, 12, 2, 0, 0, []), (5, .aload_n 0, 0, 0, 0, 0, 0, []),
  (6, .iload_n 1, 0, 0, 0, 0, 0, []), (7, .invokevirtual 463, 0, 0, 2, 0, 0, []), (10, .ifCond .eq 18, 0, 14, 0, 0, 0, []), (13, .aload_n 0, 0, 0, 0, 0, 0, []),
  (14, .iload_n 2, 0, 0, 0, 0, 0, []), (15, .invokevirtual 473, 0, 1, 2, 0, 0, []), (18, .ifCond .eq 10, 0, 14, 0, 0, 0, []), (21, .iload_n 3, 0, 0, 0, 0, 0, []),
  (22, .invokestatic 479, 0, 2, 1, 0, 0, []), (25, .ifCond .ne 7, 0, 16, 0, 0, 0, []), (28, .iconst (-1), 0, 0, 0, (-1), 0, []), (29, .goto 19, 0, 26, 0, 0, 0, []),
  (32, .aload_n 0, 0, 0, 0, 0, 0, []), (33, .iconst 0, 0, 0, 0, 0, 0, []), (34, .iload_n 1, 0, 0, 0, 0, 0, []), (35, .iload_n 2, 0, 0, 0, 0, 0, []),
  (36, .iload_n 3, 0, 0, 0, 0, 0, []), (37, .invokevirtual 459, 0, 3, 5, 0, 0, []), (40, .ifCond .eq 7, 0, 25, 0, 0, 0, []), (43, .iconst 1, 0, 0, 0, 1, 0, []),
  (44, .goto 4, 0, 26, 0, 0, 0, []), (47, .iconst 0, 0, 0, 0, 0, 0, []), (48, .ireturn, 0, 0, 0, 0, 0, [])]
noncomputable def pX12_knows (N : Nat) (a1 : Int32) (a2 : Int32) (a3 : Int32) (w : Wd) : Option (Int32 × Wd) :=
  (callW (pX12_isPerson N a1) (setI w 16 0 2 (0 : Int32))).bind fun r1 =>
  if r1.1 = 0 then some ((-1 : Int32), r1.2) else
  (callW (pX12_isPart N a2) r1.2).bind fun r2 =>
  if r2.1 = 0 then some ((-1 : Int32), r2.2) else
  (callW (pX12_isNight N a3) r2.2).bind fun r3 =>
  if r3.1 = 0 then some ((-1 : Int32), r3.2) else
  (callW (pX12_hasKnown N (0 : Int32) a1 a2 a3) r3.2).bind fun r4 =>
  if r4.1 = 0 then some ((0 : Int32), r4.2) else
  some ((1 : Int32), r4.2)
noncomputable def mX12_knows (N : Nat) (as : List AV) (w : Wd) : Option (Int32 × Wd) := xS1 16 as fun t => xI1 t fun a1 t => xI1 t fun a2 t => xI1 t fun a3 t => xN1 t (callW (pX12_knows N a1 a2 a3) w)
set_option maxRecDepth 100000 in
set_option maxHeartbeats 4000000 in
theorem kX12_knows : TK cX12_knows RX12 4 tX12_knows := ⟨by decide +kernel, wok_of [1602] (by decide +kernel) (by decide +kernel)⟩
set_option maxRecDepth 100000 in
set_option maxHeartbeats 4000000 in
theorem crX12_knows {N : Nat} {X : XT} (G : GX X cX12_knows RX12) (hR : xR X = rmL 3) : CRs X tX12_knows (oF [(mX12_isPerson N), (mX12_isPart N), (mX12_isNight N), (mX12_hasKnown N)]) (oF []) (oF []) := by
  have hl : tX12_knows.filter isInv = [(7, .invokevirtual 463, 0, 0, 2, 0, 0, []), (15, .invokevirtual 473, 0, 1, 2, 0, 0, []), (22, .invokestatic 479, 0, 2, 1, 0, 0, []), (37, .invokevirtual 459, 0, 3, 5, 0, 0, [])] := rfl
  intro e he
  rw [hl] at he
  simp only [List.mem_cons, List.not_mem_nil, or_false] at he
  rcases he with rfl | rfl | rfl | rfl
  · exact crI_V (idx := 463) G (by decide +kernel) (MX12_isPerson N) (cw_of (ps := [2080, 2082, 106, 164, 2083]) (by decide +kernel) (by decide +kernel)) ⟨by decide +kernel, by decide +kernel, by decide +kernel⟩ (by unfold rmOk; rw [hR]; exact ⟨by decide, by decide⟩)
  · exact crI_V (idx := 473) G (by decide +kernel) (MX12_isPart N) (cw_of (ps := [2104, 2106, 111, 164, 2107]) (by decide +kernel) (by decide +kernel)) ⟨by decide +kernel, by decide +kernel, by decide +kernel⟩ (by unfold rmOk; rw [hR]; exact ⟨by decide, by decide⟩)
  · exact crI_S (idx := 479) G (by decide +kernel) (MX12_isNight N) (cw_of (ps := [2116, 2117, 164, 2118]) (by decide +kernel) (by decide +kernel)) ⟨by decide +kernel, by decide +kernel, by decide +kernel⟩ (by unfold rmOk; rw [hR]; exact ⟨by decide, by decide⟩)
  · exact crI_V (idx := 459) G (by decide +kernel) (MX12_hasKnown N) (cw_of (ps := [2096, 2098, 110, 164, 2099]) (by decide +kernel) (by decide +kernel)) ⟨by decide +kernel, by decide +kernel, by decide +kernel⟩ (by unfold rmOk; rw [hR]; exact ⟨by decide, by decide⟩)
set_option maxRecDepth 100000 in
set_option maxHeartbeats 4000000 in
theorem MX12_knows (N : Nat) : SndI yX12_knows cX12_knows 4 (some .int) 3 4 true (mX12_knows N) := by
  refine SndI.of tX12_knows (by decide +kernel) rfl rfl ?_ ?_
  · intro as w x h
    obtain ⟨t1, rfl, h_1⟩ := xS1_some h
    obtain ⟨a1, t2, rfl, h_2⟩ := xI1_some h_1
    obtain ⟨a2, t3, rfl, h_3⟩ := xI1_some h_2
    obtain ⟨a3, t4, rfl, h_4⟩ := xI1_some h_3
    obtain ⟨rfl, h_5⟩ := xN1_some h_4
    clear h h_1 h_2 h_3 h_4
    have h := h_5
    rw [callW_eq] at h
    exact ⟨fun _ => ⟨_, _, _, rfl, rfl, _, rfl, rfl⟩, rfl, Nat.le_of_ble_eq_true rfl⟩
  · intro X G hn hR as w r h hr
    have hC := crX12_knows (N := N) G hR
    obtain ⟨t1, rfl, h_1⟩ := xS1_some h
    obtain ⟨a1, t2, rfl, h_2⟩ := xI1_some h_1
    obtain ⟨a2, t3, rfl, h_3⟩ := xI1_some h_2
    obtain ⟨a3, t4, rfl, h_4⟩ := xI1_some h_3
    obtain ⟨rfl, h_5⟩ := xN1_some h_4
    clear h h_1 h_2 h_3 h_4
    have h := h_5
    rw [callW_eq] at h
    refine run_sound (r := r) (X := X) (cc := cX12_knows) (own := RX12) (tab := tX12_knows) G (by rw [hn]; exact kX12_knows) (oI := (oF [(mX12_isPerson N), (mX12_isPart N), (mX12_isNight N), (mX12_hasKnown N)])) (oL := (oF [])) (oV := (oF [])) (rI := (fun x w => some (x, w))) (rL := (fun _ _ => none)) (rV := (fun _ => none))
      (K := (fun j ls st w => none)) (fun x w pc ls hx hd => hr x w pc ls (Option.some.inj hx) hd) (fun _ _ _ _ hx => by cases hx) (fun _ _ _ hx => by cases hx) hC (fun ls => lsb [some (.inr (.inr (16, 0))), some (.inl a1), some (.inl a2), some (.inl a3)] 0 ls) (keepsP_of rfl) ?_ 29 0 [some (.inr (.inr (16, 0))), some (.inl a1), some (.inl a2), some (.inl a3)] [] w ?_ h
    · intro j ls st w hfx h
      obtain ⟨e0, e1, e2, e3, -⟩ : _ = _ ∧ _ = _ ∧ _ = _ ∧ _ = _ ∧ True := hfx
      try dsimp only at h
      cases h
    · exact (show _ = _ ∧ _ = _ ∧ _ = _ ∧ _ = _ ∧ True from ⟨rfl, rfl, rfl, rfl, trivial⟩)
-- MoorGuidesModel.steps(II)I
def tX12_steps : List EN := [
  (0, .aload_n 0, 0, 0, 0, 0, 0, []), (1, .iconst 0, 0, 0, 0, 0, 0, []), (2, .putfield 196, 0, 12, 2, 0, 0, []), (5, .aload_n 0, 0, 0, 0, 0, 0, []),
  (6, .iload_n 1, 0, 0, 0, 0, 0, []), (7, .invokevirtual 473, 0, 0, 2, 0, 0, []), (10, .ifCond .eq 11, 0, 11, 0, 0, 0, []), (13, .aload_n 0, 0, 0, 0, 0, 0, []),
  (14, .iload_n 2, 0, 0, 0, 0, 0, []), (15, .invokevirtual 473, 0, 0, 2, 0, 0, []), (18, .ifCond .ne 7, 0, 13, 0, 0, 0, []), (21, .iconst (-1), 0, 0, 0, (-1), 0, []),
  (22, .goto 35, 0, 33, 0, 0, 0, []), (25, .aload_n 0, 0, 0, 0, 0, 0, []), (26, .getfield 118, 0, 12, 72, 0, 0, []), (29, .bipush 8, 0, 0, 0, 8, 0, []),
  (31, .iload_n 1, 0, 0, 0, 0, 0, []), (32, .imul, 0, 0, 0, 0, 0, []), (33, .iload_n 2, 0, 0, 0, 0, 0, []), (34, .iadd, 0, 0, 0, 0, 0, []),
  (35, .iaload, 0, 0, 0, 0, 0, []), (36, .bipush 99, 0, 0, 0, 99, 0, []), (38, .if_icmp .lt 8, 0, 25, 0, 0, 0, []), (41, .bipush (-2), 0, 0, 0, (-2), 0, []),
  (43, .goto 14, 0, 33, 0, 0, 0, []), (46, .aload_n 0, 0, 0, 0, 0, 0, []), (47, .getfield 118, 0, 12, 72, 0, 0, []), (50, .bipush 8, 0, 0, 0, 8, 0, []),
  (52, .iload_n 1, 0, 0, 0, 0, 0, []), (53, .imul, 0, 0, 0, 0, 0, []), (54, .iload_n 2, 0, 0, 0, 0, 0, []), (55, .iadd, 0, 0, 0, 0, 0, []),
  (56, .iaload, 0, 0, 0, 0, 0, []), (57, .ireturn, 0, 0, 0, 0, 0, [])]
noncomputable def pX12_steps (N : Nat) (a1 : Int32) (a2 : Int32) (w : Wd) : Option (Int32 × Wd) :=
  (callW (pX12_isPart N a1) (setI w 16 0 2 (0 : Int32))).bind fun r1 =>
  if r1.1 = 0 then some ((-1 : Int32), r1.2) else
  (callW (pX12_isPart N a2) r1.2).bind fun r2 =>
  if r2.1 = 0 then some ((-1 : Int32), r2.2) else
  (ldI r2.2 107 0 (((8 : Int32) * a1) + a2) 64).bind fun x3 =>
  if x3 < (99 : Int32) then
    (ldI r2.2 107 0 (((8 : Int32) * a1) + a2) 64).bind fun x4 =>
    some (x4, r2.2)
  else
  some ((-2 : Int32), r2.2)
noncomputable def mX12_steps (N : Nat) (as : List AV) (w : Wd) : Option (Int32 × Wd) := xS1 16 as fun t => xI1 t fun a1 t => xI1 t fun a2 t => xN1 t (callW (pX12_steps N a1 a2) w)
set_option maxRecDepth 100000 in
set_option maxHeartbeats 4000000 in
theorem kX12_steps : TK cX12_steps RX12 3 tX12_steps := ⟨by decide +kernel, wok_of [1602, 1672, 1672] (by decide +kernel) (by decide +kernel)⟩
set_option maxRecDepth 100000 in
set_option maxHeartbeats 4000000 in
theorem crX12_steps {N : Nat} {X : XT} (G : GX X cX12_steps RX12) (hR : xR X = rmL 2) : CRs X tX12_steps (oF [(mX12_isPart N)]) (oF []) (oF []) := by
  have hl : tX12_steps.filter isInv = [(7, .invokevirtual 473, 0, 0, 2, 0, 0, []), (15, .invokevirtual 473, 0, 0, 2, 0, 0, [])] := rfl
  intro e he
  rw [hl] at he
  simp only [List.mem_cons, List.not_mem_nil, or_false] at he
  rcases he with rfl | rfl
  · exact crI_V (idx := 473) G (by decide +kernel) (MX12_isPart N) (cw_of (ps := [2104, 2106, 111, 164, 2107]) (by decide +kernel) (by decide +kernel)) ⟨by decide +kernel, by decide +kernel, by decide +kernel⟩ (by unfold rmOk; rw [hR]; exact ⟨by decide, by decide⟩)
  · exact crI_V (idx := 473) G (by decide +kernel) (MX12_isPart N) (cw_of (ps := [2104, 2106, 111, 164, 2107]) (by decide +kernel) (by decide +kernel)) ⟨by decide +kernel, by decide +kernel, by decide +kernel⟩ (by unfold rmOk; rw [hR]; exact ⟨by decide, by decide⟩)
set_option maxRecDepth 100000 in
set_option maxHeartbeats 4000000 in
theorem MX12_steps (N : Nat) : SndI yX12_steps cX12_steps 3 (some .int) 2 3 true (mX12_steps N) := by
  refine SndI.of tX12_steps (by decide +kernel) rfl rfl ?_ ?_
  · intro as w x h
    obtain ⟨t1, rfl, h_1⟩ := xS1_some h
    obtain ⟨a1, t2, rfl, h_2⟩ := xI1_some h_1
    obtain ⟨a2, t3, rfl, h_3⟩ := xI1_some h_2
    obtain ⟨rfl, h_4⟩ := xN1_some h_3
    clear h h_1 h_2 h_3
    have h := h_4
    rw [callW_eq] at h
    exact ⟨fun _ => ⟨_, _, _, rfl, rfl, _, rfl, rfl⟩, rfl, Nat.le_of_ble_eq_true rfl⟩
  · intro X G hn hR as w r h hr
    have hC := crX12_steps (N := N) G hR
    obtain ⟨t1, rfl, h_1⟩ := xS1_some h
    obtain ⟨a1, t2, rfl, h_2⟩ := xI1_some h_1
    obtain ⟨a2, t3, rfl, h_3⟩ := xI1_some h_2
    obtain ⟨rfl, h_4⟩ := xN1_some h_3
    clear h h_1 h_2 h_3
    have h := h_4
    rw [callW_eq] at h
    refine run_sound (r := r) (X := X) (cc := cX12_steps) (own := RX12) (tab := tX12_steps) G (by rw [hn]; exact kX12_steps) (oI := (oF [(mX12_isPart N)])) (oL := (oF [])) (oV := (oF [])) (rI := (fun x w => some (x, w))) (rL := (fun _ _ => none)) (rV := (fun _ => none))
      (K := (fun j ls st w => none)) (fun x w pc ls hx hd => hr x w pc ls (Option.some.inj hx) hd) (fun _ _ _ _ hx => by cases hx) (fun _ _ _ hx => by cases hx) hC (fun ls => lsb [some (.inr (.inr (16, 0))), some (.inl a1), some (.inl a2)] 0 ls) (keepsP_of rfl) ?_ 36 0 [some (.inr (.inr (16, 0))), some (.inl a1), some (.inl a2)] [] w ?_ h
    · intro j ls st w hfx h
      obtain ⟨e0, e1, e2, -⟩ : _ = _ ∧ _ = _ ∧ _ = _ ∧ True := hfx
      try dsimp only at h
      cases h
    · exact (show _ = _ ∧ _ = _ ∧ _ = _ ∧ True from ⟨rfl, rfl, rfl, trivial⟩)
-- MoorGuidesModel.manyOf(I)I
def tX12_manyOf : List EN := [
  (0, .iconst 0, 0, 0, 0, 0, 0, []), (1, .istore_n 1, 0, 0, 0, 0, 0, []), (2, .iconst 0, 0, 0, 0, 0, 0, []), (3, .istore_n 2, 0, 0, 0, 0, 0, []),
  (4, .iload_n 2, 5, 0, 0, 0, 0, []), (5, .bipush 12, 0, 0, 0, 12, 0, []), (7, .if_icmp .ge 17, 0, 17, 0, 0, 0, []), (10, .iload_n 1, 0, 0, 0, 0, 0, []),
  (11, .iload_n 0, 0, 0, 0, 0, 0, []), (12, .iload_n 2, 0, 0, 0, 0, 0, []), (13, .ishr, 0, 0, 0, 0, 0, []), (14, .iconst 1, 0, 0, 0, 1, 0, []),
  (15, .iand, 0, 0, 0, 0, 0, []), (16, .iadd, 0, 0, 0, 0, 0, []), (17, .istore_n 1, 0, 0, 0, 0, 0, []), (18, .iinc 2 1, 0, 0, 0, 1, 0, []),
  (21, .goto (-17), 0, 4, 0, 0, 0, []), (24, .iload_n 1, 0, 0, 0, 0, 0, []), (25, .ireturn, 0, 0, 0, 0, 0, [])]
noncomputable def fX12_manyOf_4 (N : Nat) (a0 : Int32) : Nat → Int32 → Int32 → Wd → Option (Int32 × Wd)
  | 0, _, _, _ => none
  | n + 1, v1, v2, w =>
    if v2 < (12 : Int32) then
      callW (fX12_manyOf_4 N a0 n (v1 + ((a0 >>> (v2 &&& (31 : Int32))) &&& (1 : Int32))) (v2 + (1 : Int32))) w
    else
    some (v1, w)
noncomputable def pX12_manyOf (N : Nat) (a0 : Int32) (w : Wd) : Option (Int32 × Wd) :=
  callW (fX12_manyOf_4 N a0 N (0 : Int32) (0 : Int32)) w
noncomputable def mX12_manyOf (N : Nat) (as : List AV) (w : Wd) : Option (Int32 × Wd) := xI1 as fun a0 t => xN1 t (callW (pX12_manyOf N a0) w)
set_option maxRecDepth 100000 in
set_option maxHeartbeats 4000000 in
theorem kX12_manyOf : TK cX12_manyOf RX12 3 tX12_manyOf := ⟨by decide +kernel, wok_of [] (by decide +kernel) (by decide +kernel)⟩
set_option maxRecDepth 100000 in
set_option maxHeartbeats 4000000 in
theorem sX12_manyOf_4 {N : Nat} {X : XT} (G : GX X cX12_manyOf RX12) (hn : xnL X = 3) (hC : CRs X tX12_manyOf (oF []) (oF []) (oF [])) {r : Int32 × Wd} (hr : RTI X cX12_manyOf r) (a0 : Int32) : ∀ (n : Nat) (v1 : Int32) (v2 : Int32) (w : Wd), fX12_manyOf_4 N a0 n v1 v2 w = some r → WW X (pcAt tX12_manyOf 4) [some (.inl a0), some (.inl v1), some (.inl v2)] [] w := by
  intro n
  induction n with
  | zero => intro v1 v2 w h; cases h
  | succ n ih =>
    intro v1 v2 w h
    refine run_sound (r := r) (X := X) (cc := cX12_manyOf) (own := RX12) (tab := tX12_manyOf) G (by rw [hn]; exact kX12_manyOf) (oI := (oF [])) (oL := (oF [])) (oV := (oF [])) (rI := (fun x w => some (x, w))) (rL := (fun _ _ => none)) (rV := (fun _ => none))
      (K := (fun j ls st w => if j = 4 then (lgI ls 1 fun v1 => lgI ls 2 fun v2 => st0 st (callW (fX12_manyOf_4 N a0 n v1 v2) w)) else none)) (fun x w pc ls hx hd => hr x w pc ls (Option.some.inj hx) hd) (fun _ _ _ _ hx => by cases hx) (fun _ _ _ hx => by cases hx) hC (fun ls => lsb [some (.inl a0), none, none] 0 ls) (keepsP_of rfl) ?_ 21 4 [some (.inl a0), some (.inl v1), some (.inl v2)] [] w ?_ h
    · intro j ls st w hfx h
      obtain ⟨e0, -⟩ : _ = _ ∧ True := hfx
      try dsimp only at h
      by_cases hj : j = 4
      · subst hj
        rw [if_pos rfl] at h
        obtain ⟨v1, e1, h_1⟩ := lgI_some h
        obtain ⟨v2, e2, h_2⟩ := lgI_some h_1
        obtain ⟨rfl, h_3⟩ := st0_some h_2
        clear h h_1 h_2
        have h := h_3
        try rw [callW_eq] at h
        exact WW.le (a := [some (.inl a0), some (.inl v1), some (.inl v2)]) (by rw [hn]; rfl) (show _ = _ ∧ _ = _ ∧ _ = _ ∧ True from ⟨e0, e1, e2, trivial⟩) (ih v1 v2 w h)
      rw [if_neg hj] at h
      cases h
    · exact (show _ = _ ∧ True from ⟨rfl, trivial⟩)
set_option maxRecDepth 100000 in
set_option maxHeartbeats 4000000 in
theorem crX12_manyOf {N : Nat} {X : XT} (G : GX X cX12_manyOf RX12) (hR : xR X = rmL 1) : CRs X tX12_manyOf (oF []) (oF []) (oF []) := by
  have hl : tX12_manyOf.filter isInv = [] := rfl
  intro e he
  rw [hl] at he
  cases he
set_option maxRecDepth 100000 in
set_option maxHeartbeats 4000000 in
theorem MX12_manyOf (N : Nat) : SndI yX12_manyOf cX12_manyOf 3 (some .int) 1 1 false (mX12_manyOf N) := by
  refine SndI.of tX12_manyOf (by decide +kernel) rfl rfl ?_ ?_
  · intro as w x h
    obtain ⟨a0, t1, rfl, h_1⟩ := xI1_some h
    obtain ⟨rfl, h_2⟩ := xN1_some h_1
    clear h h_1
    have h := h_2
    rw [callW_eq] at h
    exact ⟨(fun z => by cases z), rfl, Nat.le_of_ble_eq_true rfl⟩
  · intro X G hn hR as w r h hr
    have hC := crX12_manyOf (N := N) G hR
    obtain ⟨a0, t1, rfl, h_1⟩ := xI1_some h
    obtain ⟨rfl, h_2⟩ := xN1_some h_1
    clear h h_1
    have h := h_2
    rw [callW_eq] at h
    refine run_sound (r := r) (X := X) (cc := cX12_manyOf) (own := RX12) (tab := tX12_manyOf) G (by rw [hn]; exact kX12_manyOf) (oI := (oF [])) (oL := (oF [])) (oV := (oF [])) (rI := (fun x w => some (x, w))) (rL := (fun _ _ => none)) (rV := (fun _ => none))
      (K := (fun j ls st w => if j = 4 then (lgI ls 1 fun v1 => lgI ls 2 fun v2 => st0 st (callW (fX12_manyOf_4 N a0 N v1 v2) w)) else none)) (fun x w pc ls hx hd => hr x w pc ls (Option.some.inj hx) hd) (fun _ _ _ _ hx => by cases hx) (fun _ _ _ hx => by cases hx) hC (fun ls => lsb [some (.inl a0), none, none] 0 ls) (keepsP_of rfl) ?_ 21 0 [some (.inl a0), none, none] [] w ?_ h
    · intro j ls st w hfx h
      obtain ⟨e0, -⟩ : _ = _ ∧ True := hfx
      try dsimp only at h
      by_cases hj : j = 4
      · subst hj
        rw [if_pos rfl] at h
        obtain ⟨v1, e1, h_1⟩ := lgI_some h
        obtain ⟨v2, e2, h_2⟩ := lgI_some h_1
        obtain ⟨rfl, h_3⟩ := st0_some h_2
        clear h h_1 h_2
        have h := h_3
        try rw [callW_eq] at h
        exact WW.le (a := [some (.inl a0), some (.inl v1), some (.inl v2)]) (by rw [hn]; rfl) (show _ = _ ∧ _ = _ ∧ _ = _ ∧ True from ⟨e0, e1, e2, trivial⟩) (sX12_manyOf_4 G hn hC hr a0 N v1 v2 w h)
      rw [if_neg hj] at h
      cases h
    · exact (show _ = _ ∧ True from ⟨rfl, trivial⟩)
-- MoorGuidesModel.lawOf(IIIII)J
def tX12_lawOf : List EN := [
  (0, .aload_n 0, 0, 0, 0, 0, 0, []), (1, .getfield 93, 0, 12, 61, 0, 0, []), (4, .iconst 0, 0, 0, 0, 0, 0, []), (5, .aload_n 0, 0, 0, 0, 0, 0, []),
  (6, .getfield 23, 0, 12, 32, 0, 0, []), (9, .iload 4, 0, 0, 0, 0, 0, []), (11, .iaload, 0, 0, 0, 0, 0, []), (12, .i2l, 0, 0, 0, 0, 0, []),
  (13, .lastore, 0, 0, 0, 0, 0, []), (14, .aload_n 0, 0, 0, 0, 0, 0, []), (15, .getfield 93, 0, 12, 61, 0, 0, []), (18, .iconst 1, 0, 0, 0, 1, 0, []),
  (19, .aload_n 0, 0, 0, 0, 0, 0, []), (20, .iload_n 2, 0, 0, 0, 0, 0, []), (21, .iload_n 3, 0, 0, 0, 0, 0, []), (22, .iload 5, 0, 0, 0, 0, 0, []),
  (24, .invokevirtual 469, 0, 0, 4, 0, 0, []), (27, .aload_n 0, 0, 0, 0, 0, 0, []), (28, .getfield 26, 0, 12, 33, 0, 0, []), (31, .iload 4, 0, 0, 0, 0, 0, []),
  (33, .iaload, 0, 0, 0, 0, 0, []), (34, .iand, 0, 0, 0, 0, 0, []), (35, .invokestatic 485, 0, 1, 1, 0, 0, []), (38, .i2l, 0, 0, 0, 0, 0, []),
  (39, .lastore, 0, 0, 0, 0, 0, []), (40, .aload_n 0, 0, 0, 0, 0, 0, []), (41, .getfield 93, 0, 12, 61, 0, 0, []), (44, .iconst 2, 0, 0, 0, 2, 0, []),
  (45, .aload_n 0, 0, 0, 0, 0, 0, []), (46, .getfield 304, 0, 12, 15, 0, 0, []), (49, .ifCond .ne 7, 0, 33, 0, 0, 0, []), (52, .lconst 0, 0, 0, 0, 0, 0, []),
  (53, .goto 16, 0, 41, 0, 0, 0, []), (56, .aload_n 0, 0, 0, 0, 0, 0, []), (57, .getfield 59, 0, 12, 44, 0, 0, []), (60, .iload 5, 0, 0, 0, 0, 0, []),
  (62, .aload_n 0, 0, 0, 0, 0, 0, []), (63, .getfield 304, 0, 12, 15, 0, 0, []), (66, .irem, 0, 0, 0, 0, 0, []), (67, .iaload, 0, 0, 0, 0, 0, []),
  (68, .i2l, 0, 0, 0, 0, 0, []), (69, .lastore, 42, 0, 0, 0, 0, []), (70, .aload_n 0, 0, 0, 0, 0, 0, []), (71, .getfield 93, 0, 12, 61, 0, 0, []),
  (74, .iconst 3, 0, 0, 0, 3, 0, []), (75, .aload_n 0, 0, 0, 0, 0, 0, []), (76, .getfield 109, 0, 12, 69, 0, 0, []), (79, .bipush 6, 0, 0, 0, 6, 0, []),
  (81, .iload_n 2, 0, 0, 0, 0, 0, []), (82, .imul, 0, 0, 0, 0, 0, []), (83, .iload_n 3, 0, 0, 0, 0, 0, []), (84, .iadd, 0, 0, 0, 0, 0, []),
  (85, .iaload, 0, 0, 0, 0, 0, []), (86, .i2l, 0, 0, 0, 0, 0, []), (87, .lastore, 0, 0, 0, 0, 0, []), (88, .aload_n 0, 0, 0, 0, 0, 0, []),
  (89, .getfield 93, 0, 12, 61, 0, 0, []), (92, .iconst 4, 0, 0, 0, 4, 0, []), (93, .aload_n 0, 0, 0, 0, 0, 0, []), (94, .iload 4, 0, 0, 0, 0, 0, []),
  (96, .iload 5, 0, 0, 0, 0, 0, []), (98, .invokevirtual 476, 0, 2, 3, 0, 0, []), (101, .i2l, 0, 0, 0, 0, 0, []), (102, .lastore, 0, 0, 0, 0, 0, []),
  (103, .aload_n 0, 0, 0, 0, 0, 0, []), (104, .getfield 93, 0, 12, 61, 0, 0, []), (107, .iconst 5, 0, 0, 0, 5, 0, []), (108, .aload_n 0, 0, 0, 0, 0, 0, []),
  (109, .getfield 35, 0, 12, 36, 0, 0, []), (112, .iload_n 3, 0, 0, 0, 0, 0, []), (113, .iaload, 0, 0, 0, 0, 0, []), (114, .i2l, 0, 0, 0, 0, 0, []),
  (115, .lastore, 0, 0, 0, 0, 0, []), (116, .aload_n 0, 0, 0, 0, 0, 0, []), (117, .getfield 93, 0, 12, 61, 0, 0, []), (120, .bipush 6, 0, 0, 0, 6, 0, []),
  (122, .iload 5, 0, 0, 0, 0, 0, []), (124, .i2l, 0, 0, 0, 0, 0, []), (125, .lastore, 0, 0, 0, 0, 0, []), (126, .aload_n 0, 0, 0, 0, 0, 0, []),
  (127, .iconst 0, 0, 0, 0, 0, 0, []), (128, .putfield 420, 0, 12, 63, 0, 0, [(0, 0)]), (131, .aload_n 0, 0, 0, 0, 0, 0, []), (132, .getfield 72, 0, 12, 48, 0, 0, []),
  (135, .iload_n 1, 0, 0, 0, 0, 0, []), (136, .iaload, 0, 0, 0, 0, 0, []), (137, .istore 6, 0, 0, 0, 0, 0, []), (139, .iload 6, 88, 0, 0, 0, 0, []),
  (141, .aload_n 0, 0, 0, 0, 0, 0, []), (142, .getfield 75, 0, 12, 49, 0, 0, []), (145, .iload_n 1, 0, 0, 0, 0, 0, []), (146, .iaload, 0, 0, 0, 0, 0, []),
  (147, .if_icmp .ge 22, 0, 102, 0, 0, 0, []), (150, .aload_n 0, 0, 0, 0, 0, 0, []), (151, .getfield 97, 0, 12, 62, 0, 0, []), (154, .iload 6, 0, 0, 0, 0, 0, []),
  (156, .aload_n 0, 0, 0, 0, 0, 0, []), (157, .iload 6, 0, 0, 0, 0, 0, []), (159, .invokevirtual 488, 0, 0, 2, 0, 0, [(0, 0)]), (162, .lastore, 0, 0, 0, 0, 0, []),
  (163, .iinc 6 1, 0, 0, 0, 1, 0, []), (166, .goto (-27), 0, 87, 0, 0, 0, []), (169, .aload_n 0, 103, 0, 0, 0, 0, []), (170, .getfield 420, 0, 12, 63, 0, 0, []),
  (173, .ifCond .eq 7, 0, 107, 0, 0, 0, []), (176, .lconst 0, 0, 0, 0, 0, 0, []), (177, .goto 16, 0, 116, 0, 0, 0, []), (180, .aload_n 0, 0, 0, 0, 0, 0, []),
  (181, .getfield 97, 0, 12, 62, 0, 0, []), (184, .aload_n 0, 0, 0, 0, 0, 0, []), (185, .getfield 75, 0, 12, 49, 0, 0, []), (188, .iload_n 1, 0, 0, 0, 0, 0, []),
  (189, .iaload, 0, 0, 0, 0, 0, []), (190, .iconst 1, 0, 0, 0, 1, 0, []), (191, .isub, 0, 0, 0, 0, 0, []), (192, .laload, 0, 0, 0, 0, 0, []),
  (193, .lreturn, 0, 0, 0, 0, 0, [])]
noncomputable def fX12_lawOf_102 (N : Nat) (a1 : Int32) (w : Wd) : Option (Int64 × Wd) :=
  if (gI w 16 0 63) = 0 then
    (ldI w 93 0 a1 4).bind fun x1 =>
    (ldL w 100 0 (x1 - (1 : Int32)) 64).bind fun x2 =>
    some (x2, w)
  else
  some ((0 : Int64), w)
noncomputable def fX12_lawOf_87 (N : Nat) (a1 : Int32) : Nat → (Wd → Option (Int64 × Wd)) → Int32 → Wd → Option (Int64 × Wd)
  | 0, _, _, _ => none
  | n + 1, k102, v6, w =>
    (ldI w 93 0 a1 4).bind fun x1 =>
    if v6 < x1 then
      (callW (pX12_valueOf N v6) w).bind fun r2 =>
      (stL r2.2 100 0 v6 64 r2.1).bind fun w3 =>
      callW (fX12_lawOf_87 N a1 n k102 (v6 + (1 : Int32))) w3
    else
    k102 w
noncomputable def fX12_lawOf_41 (N : Nat) (a1 : Int32) (a2 : Int32) (a3 : Int32) (a4 : Int32) (a5 : Int32) (s0 : Int64) (s1 : Int32) (s2 : Nat) (w : Wd) : Option (Int64 × Wd) :=
  (stL w 99 s2 s1 7 s0).bind fun w1 =>
  (ldI w1 104 0 (((6 : Int32) * a2) + a3) 12).bind fun x2 =>
  (stL w1 99 0 (3 : Int32) 7 x2.toInt64).bind fun w3 =>
  (callW (pX12_wantedOf N a4 a5) w3).bind fun r4 =>
  (stL r4.2 99 0 (4 : Int32) 7 r4.1.toInt64).bind fun w5 =>
  (ldI w5 80 0 a3 12).bind fun x6 =>
  (stL w5 99 0 (5 : Int32) 7 x6.toInt64).bind fun w7 =>
  (stL w7 99 0 (6 : Int32) 7 a5.toInt64).bind fun w8 =>
  (ldI (setI w8 16 0 63 (0 : Int32)) 92 0 a1 4).bind fun x9 =>
  callW (fX12_lawOf_87 N a1 N (fX12_lawOf_102 N a1) x9) (setI w8 16 0 63 (0 : Int32))
noncomputable def pX12_lawOf (N : Nat) (a1 : Int32) (a2 : Int32) (a3 : Int32) (a4 : Int32) (a5 : Int32) (w : Wd) : Option (Int64 × Wd) :=
  (ldI w 76 0 a4 16).bind fun x1 =>
  (stL w 99 0 (0 : Int32) 7 x1.toInt64).bind fun w2 =>
  (callW (pX12_knownBy N a2 a3 a5) w2).bind fun r3 =>
  (ldI r3.2 77 0 a4 16).bind fun x4 =>
  (callW (pX12_manyOf N (r3.1 &&& x4)) r3.2).bind fun r5 =>
  (stL r5.2 99 0 (1 : Int32) 7 r5.1.toInt64).bind fun w6 =>
  if (gI w6 16 0 15) = 0 then callW (fX12_lawOf_41 N a1 a2 a3 a4 a5 (0 : Int64) (2 : Int32) 0) w6 else
  if (gI w6 16 0 15) = 0 then none else
  (ldI w6 88 0 (a5 - a5 / (gI w6 16 0 15) * (gI w6 16 0 15)) 28).bind fun x7 =>
  callW (fX12_lawOf_41 N a1 a2 a3 a4 a5 x7.toInt64 (2 : Int32) 0) w6
noncomputable def mX12_lawOf (N : Nat) (as : List AV) (w : Wd) : Option (Int64 × Wd) := xS1 16 as fun t => xI1 t fun a1 t => xI1 t fun a2 t => xI1 t fun a3 t => xI1 t fun a4 t => xI1 t fun a5 t => xN1 t (callW (pX12_lawOf N a1 a2 a3 a4 a5) w)
set_option maxRecDepth 100000 in
set_option maxHeartbeats 4000000 in
theorem kX12_lawOf : TK cX12_lawOf RX12 7 tX12_lawOf := ⟨by decide +kernel, wok_of [1661, 1632, 1661, 1633, 1661, 1615, 1644, 1615, 1661, 1669, 1661, 1661, 1636, 1661, 1663, 1648, 1649, 1662, 1663, 1662, 1649] (by decide +kernel) (by decide +kernel)⟩
set_option maxRecDepth 100000 in
set_option maxHeartbeats 4000000 in
theorem sX12_lawOf_102 {N : Nat} {X : XT} (G : GX X cX12_lawOf RX12) (hn : xnL X = 7) (hC : CRs X tX12_lawOf (oF [(mX12_knownBy N), (mX12_manyOf N), (mX12_wantedOf N)]) (oF [(mX12_valueOf N)]) (oF [])) {r : Int64 × Wd} (hr : RTL X cX12_lawOf r) (a1 : Int32) (a2 : Int32) (a3 : Int32) (a4 : Int32) (a5 : Int32) : ∀ (w : Wd), fX12_lawOf_102 N a1 w = some r → WW X (pcAt tX12_lawOf 102) [some (.inr (.inr (16, 0))), some (.inl a1), some (.inl a2), some (.inl a3), some (.inl a4), some (.inl a5), none] [] w := by
  intro w h
  refine run_sound (r := r) (X := X) (cc := cX12_lawOf) (own := RX12) (tab := tX12_lawOf) G (by rw [hn]; exact kX12_lawOf) (oI := (oF [(mX12_knownBy N), (mX12_manyOf N), (mX12_wantedOf N)])) (oL := (oF [(mX12_valueOf N)])) (oV := (oF [])) (rI := (fun _ _ => none)) (rL := (fun x w => some (x, w))) (rV := (fun _ => none))
    (K := (fun j ls st w => none)) (fun _ _ _ _ hx => by cases hx) (fun x w pc ls hx hd => hr x w pc ls (Option.some.inj hx) hd) (fun _ _ _ hx => by cases hx) hC (fun ls => lsb [some (.inr (.inr (16, 0))), some (.inl a1), some (.inl a2), some (.inl a3), some (.inl a4), some (.inl a5), none] 0 ls) (keepsP_of rfl) ?_ 119 102 [some (.inr (.inr (16, 0))), some (.inl a1), some (.inl a2), some (.inl a3), some (.inl a4), some (.inl a5), none] [] w ?_ h
  · intro j ls st w hfx h
    obtain ⟨e0, e1, e2, e3, e4, e5, -⟩ : _ = _ ∧ _ = _ ∧ _ = _ ∧ _ = _ ∧ _ = _ ∧ _ = _ ∧ True := hfx
    try dsimp only at h
    cases h
  · exact (show _ = _ ∧ _ = _ ∧ _ = _ ∧ _ = _ ∧ _ = _ ∧ _ = _ ∧ True from ⟨rfl, rfl, rfl, rfl, rfl, rfl, trivial⟩)
set_option maxRecDepth 100000 in
set_option maxHeartbeats 4000000 in
theorem sX12_lawOf_87 {N : Nat} {X : XT} (G : GX X cX12_lawOf RX12) (hn : xnL X = 7) (hC : CRs X tX12_lawOf (oF [(mX12_knownBy N), (mX12_manyOf N), (mX12_wantedOf N)]) (oF [(mX12_valueOf N)]) (oF [])) {r : Int64 × Wd} (hr : RTL X cX12_lawOf r) (a1 : Int32) (a2 : Int32) (a3 : Int32) (a4 : Int32) (a5 : Int32) : ∀ (n : Nat) (k102 : Wd → Option (Int64 × Wd)) (v6 : Int32) (w : Wd), fX12_lawOf_87 N a1 n k102 v6 w = some r → (∀ (w : Wd), k102 w = some r → WW X (pcAt tX12_lawOf 102) [some (.inr (.inr (16, 0))), some (.inl a1), some (.inl a2), some (.inl a3), some (.inl a4), some (.inl a5), none] [] w) → WW X (pcAt tX12_lawOf 87) [some (.inr (.inr (16, 0))), some (.inl a1), some (.inl a2), some (.inl a3), some (.inl a4), some (.inl a5), some (.inl v6)] [] w := by
  intro n
  induction n with
  | zero => intro k102 v6 w h h102; cases h
  | succ n ih =>
    intro k102 v6 w h h102
    refine run_sound (r := r) (X := X) (cc := cX12_lawOf) (own := RX12) (tab := tX12_lawOf) G (by rw [hn]; exact kX12_lawOf) (oI := (oF [(mX12_knownBy N), (mX12_manyOf N), (mX12_wantedOf N)])) (oL := (oF [(mX12_valueOf N)])) (oV := (oF [])) (rI := (fun _ _ => none)) (rL := (fun x w => some (x, w))) (rV := (fun _ => none))
      (K := (fun j ls st w => if j = 87 then (lgI ls 6 fun v6 => st0 st (callW (fX12_lawOf_87 N a1 n k102 v6) w)) else if j = 102 then (st0 st (k102 w)) else none)) (fun _ _ _ _ hx => by cases hx) (fun x w pc ls hx hd => hr x w pc ls (Option.some.inj hx) hd) (fun _ _ _ hx => by cases hx) hC (fun ls => lsb [some (.inr (.inr (16, 0))), some (.inl a1), some (.inl a2), some (.inl a3), some (.inl a4), some (.inl a5), none] 0 ls) (keepsP_of rfl) ?_ 119 87 [some (.inr (.inr (16, 0))), some (.inl a1), some (.inl a2), some (.inl a3), some (.inl a4), some (.inl a5), some (.inl v6)] [] w ?_ h
    · intro j ls st w hfx h
      obtain ⟨e0, e1, e2, e3, e4, e5, -⟩ : _ = _ ∧ _ = _ ∧ _ = _ ∧ _ = _ ∧ _ = _ ∧ _ = _ ∧ True := hfx
      try dsimp only at h
      by_cases hj : j = 87
      · subst hj
        rw [if_pos rfl] at h
        obtain ⟨v6, e6, h_1⟩ := lgI_some h
        obtain ⟨rfl, h_2⟩ := st0_some h_1
        clear h h_1
        have h := h_2
        try rw [callW_eq] at h
        exact WW.le (a := [some (.inr (.inr (16, 0))), some (.inl a1), some (.inl a2), some (.inl a3), some (.inl a4), some (.inl a5), some (.inl v6)]) (by rw [hn]; rfl) (show _ = _ ∧ _ = _ ∧ _ = _ ∧ _ = _ ∧ _ = _ ∧ _ = _ ∧ _ = _ ∧ True from ⟨e0, e1, e2, e3, e4, e5, e6, trivial⟩) (ih k102 v6 w h h102)
      rw [if_neg hj] at h
      by_cases hj : j = 102
      · subst hj
        rw [if_pos rfl] at h
        obtain ⟨rfl, h_1⟩ := st0_some h
        clear h
        have h := h_1
        try rw [callW_eq] at h
        exact WW.le (a := [some (.inr (.inr (16, 0))), some (.inl a1), some (.inl a2), some (.inl a3), some (.inl a4), some (.inl a5), none]) (by rw [hn]; rfl) (show _ = _ ∧ _ = _ ∧ _ = _ ∧ _ = _ ∧ _ = _ ∧ _ = _ ∧ True from ⟨e0, e1, e2, e3, e4, e5, trivial⟩) (h102 w h)
      rw [if_neg hj] at h
      cases h
    · exact (show _ = _ ∧ _ = _ ∧ _ = _ ∧ _ = _ ∧ _ = _ ∧ _ = _ ∧ True from ⟨rfl, rfl, rfl, rfl, rfl, rfl, trivial⟩)
set_option maxRecDepth 100000 in
set_option maxHeartbeats 4000000 in
theorem sX12_lawOf_41 {N : Nat} {X : XT} (G : GX X cX12_lawOf RX12) (hn : xnL X = 7) (hC : CRs X tX12_lawOf (oF [(mX12_knownBy N), (mX12_manyOf N), (mX12_wantedOf N)]) (oF [(mX12_valueOf N)]) (oF [])) {r : Int64 × Wd} (hr : RTL X cX12_lawOf r) (a1 : Int32) (a2 : Int32) (a3 : Int32) (a4 : Int32) (a5 : Int32) : ∀ (s0 : Int64) (s1 : Int32) (s2 : Nat) (w : Wd), fX12_lawOf_41 N a1 a2 a3 a4 a5 s0 s1 s2 w = some r → WW X (pcAt tX12_lawOf 41) [some (.inr (.inr (16, 0))), some (.inl a1), some (.inl a2), some (.inl a3), some (.inl a4), some (.inl a5), none] [.inr (.inl s0), .inl s1, .inr (.inr (99, s2))] w := by
  intro s0 s1 s2 w h
  refine run_sound (r := r) (X := X) (cc := cX12_lawOf) (own := RX12) (tab := tX12_lawOf) G (by rw [hn]; exact kX12_lawOf) (oI := (oF [(mX12_knownBy N), (mX12_manyOf N), (mX12_wantedOf N)])) (oL := (oF [(mX12_valueOf N)])) (oV := (oF [])) (rI := (fun _ _ => none)) (rL := (fun x w => some (x, w))) (rV := (fun _ => none))
    (K := (fun j ls st w => if j = 87 then (lgI ls 6 fun v6 => st0 st (callW (fX12_lawOf_87 N a1 N (fX12_lawOf_102 N a1) v6) w)) else none)) (fun _ _ _ _ hx => by cases hx) (fun x w pc ls hx hd => hr x w pc ls (Option.some.inj hx) hd) (fun _ _ _ hx => by cases hx) hC (fun ls => lsb [some (.inr (.inr (16, 0))), some (.inl a1), some (.inl a2), some (.inl a3), some (.inl a4), some (.inl a5), none] 0 ls) (keepsP_of rfl) ?_ 119 41 [some (.inr (.inr (16, 0))), some (.inl a1), some (.inl a2), some (.inl a3), some (.inl a4), some (.inl a5), none] [.inr (.inl s0), .inl s1, .inr (.inr (99, s2))] w ?_ h
  · intro j ls st w hfx h
    obtain ⟨e0, e1, e2, e3, e4, e5, -⟩ : _ = _ ∧ _ = _ ∧ _ = _ ∧ _ = _ ∧ _ = _ ∧ _ = _ ∧ True := hfx
    try dsimp only at h
    by_cases hj : j = 87
    · subst hj
      rw [if_pos rfl] at h
      obtain ⟨v6, e6, h_1⟩ := lgI_some h
      obtain ⟨rfl, h_2⟩ := st0_some h_1
      clear h h_1
      have h := h_2
      try rw [callW_eq] at h
      exact WW.le (a := [some (.inr (.inr (16, 0))), some (.inl a1), some (.inl a2), some (.inl a3), some (.inl a4), some (.inl a5), some (.inl v6)]) (by rw [hn]; rfl) (show _ = _ ∧ _ = _ ∧ _ = _ ∧ _ = _ ∧ _ = _ ∧ _ = _ ∧ _ = _ ∧ True from ⟨e0, e1, e2, e3, e4, e5, e6, trivial⟩) (sX12_lawOf_87 G hn hC hr a1 a2 a3 a4 a5 N (fX12_lawOf_102 N a1) v6 w h (fun w h => (sX12_lawOf_102 G hn hC hr a1 a2 a3 a4 a5 w h)))
    rw [if_neg hj] at h
    cases h
  · exact (show _ = _ ∧ _ = _ ∧ _ = _ ∧ _ = _ ∧ _ = _ ∧ _ = _ ∧ True from ⟨rfl, rfl, rfl, rfl, rfl, rfl, trivial⟩)
set_option maxRecDepth 100000 in
set_option maxHeartbeats 4000000 in
theorem crX12_lawOf {N : Nat} {X : XT} (G : GX X cX12_lawOf RX12) (hR : xR X = rmL 4) : CRs X tX12_lawOf (oF [(mX12_knownBy N), (mX12_manyOf N), (mX12_wantedOf N)]) (oF [(mX12_valueOf N)]) (oF []) := by
  have hl : tX12_lawOf.filter isInv = [(24, .invokevirtual 469, 0, 0, 4, 0, 0, []), (35, .invokestatic 485, 0, 1, 1, 0, 0, []), (98, .invokevirtual 476, 0, 2, 3, 0, 0, []), (159, .invokevirtual 488, 0, 0, 2, 0, 0, [(0, 0)])] := rfl
  intro e he
  rw [hl] at he
  simp only [List.mem_cons, List.not_mem_nil, or_false] at he
  rcases he with rfl | rfl | rfl | rfl
  · exact crI_V (idx := 469) G (by decide +kernel) (MX12_knownBy N) (cw_of (ps := [2092, 2094, 109, 164, 2095]) (by decide +kernel) (by decide +kernel)) ⟨by decide +kernel, by decide +kernel, by decide +kernel⟩ (by unfold rmOk; rw [hR]; exact ⟨by decide, by decide⟩)
  · exact crI_S (idx := 485) G (by decide +kernel) (MX12_manyOf N) (cw_of (ps := [2135, 2136, 164, 2137]) (by decide +kernel) (by decide +kernel)) ⟨by decide +kernel, by decide +kernel, by decide +kernel⟩ (by unfold rmOk; rw [hR]; exact ⟨by decide, by decide⟩)
  · exact crI_V (idx := 476) G (by decide +kernel) (MX12_wantedOf N) (cw_of (ps := [2108, 2110, 112, 164, 2111]) (by decide +kernel) (by decide +kernel)) ⟨by decide +kernel, by decide +kernel, by decide +kernel⟩ (by unfold rmOk; rw [hR]; exact ⟨by decide, by decide⟩)
  · exact crL_V (idx := 488) G (by decide +kernel) (MX12_valueOf N) (cw_of (ps := [2138, 2140, 115, 164, 2141]) (by decide +kernel) (by decide +kernel)) ⟨by decide +kernel, by decide +kernel, by decide +kernel⟩ (by unfold rmOk; rw [hR]; exact ⟨by decide, by decide⟩)
set_option maxRecDepth 100000 in
set_option maxHeartbeats 4000000 in
theorem MX12_lawOf (N : Nat) : SndL yX12_lawOf cX12_lawOf 7 (some .long) 4 6 true (mX12_lawOf N) := by
  refine SndL.of tX12_lawOf (by decide +kernel) rfl rfl ?_ ?_
  · intro as w x h
    obtain ⟨t1, rfl, h_1⟩ := xS1_some h
    obtain ⟨a1, t2, rfl, h_2⟩ := xI1_some h_1
    obtain ⟨a2, t3, rfl, h_3⟩ := xI1_some h_2
    obtain ⟨a3, t4, rfl, h_4⟩ := xI1_some h_3
    obtain ⟨a4, t5, rfl, h_5⟩ := xI1_some h_4
    obtain ⟨a5, t6, rfl, h_6⟩ := xI1_some h_5
    obtain ⟨rfl, h_7⟩ := xN1_some h_6
    clear h h_1 h_2 h_3 h_4 h_5 h_6
    have h := h_7
    rw [callW_eq] at h
    exact ⟨fun _ => ⟨_, _, _, rfl, rfl, _, rfl, rfl⟩, rfl, Nat.le_of_ble_eq_true rfl⟩
  · intro X G hn hR as w r h hr
    have hC := crX12_lawOf (N := N) G hR
    obtain ⟨t1, rfl, h_1⟩ := xS1_some h
    obtain ⟨a1, t2, rfl, h_2⟩ := xI1_some h_1
    obtain ⟨a2, t3, rfl, h_3⟩ := xI1_some h_2
    obtain ⟨a3, t4, rfl, h_4⟩ := xI1_some h_3
    obtain ⟨a4, t5, rfl, h_5⟩ := xI1_some h_4
    obtain ⟨a5, t6, rfl, h_6⟩ := xI1_some h_5
    obtain ⟨rfl, h_7⟩ := xN1_some h_6
    clear h h_1 h_2 h_3 h_4 h_5 h_6
    have h := h_7
    rw [callW_eq] at h
    refine run_sound (r := r) (X := X) (cc := cX12_lawOf) (own := RX12) (tab := tX12_lawOf) G (by rw [hn]; exact kX12_lawOf) (oI := (oF [(mX12_knownBy N), (mX12_manyOf N), (mX12_wantedOf N)])) (oL := (oF [(mX12_valueOf N)])) (oV := (oF [])) (rI := (fun _ _ => none)) (rL := (fun x w => some (x, w))) (rV := (fun _ => none))
      (K := (fun j ls st w => if j = 41 then (pl1 st fun s0 st => po1 st fun s1 st => pr1 st fun kk s2 st => if kk = 99 then st0 st (callW (fX12_lawOf_41 N a1 a2 a3 a4 a5 s0 s1 s2) w) else none) else none)) (fun _ _ _ _ hx => by cases hx) (fun x w pc ls hx hd => hr x w pc ls (Option.some.inj hx) hd) (fun _ _ _ hx => by cases hx) hC (fun ls => lsb [some (.inr (.inr (16, 0))), some (.inl a1), some (.inl a2), some (.inl a3), some (.inl a4), some (.inl a5), none] 0 ls) (keepsP_of rfl) ?_ 119 0 [some (.inr (.inr (16, 0))), some (.inl a1), some (.inl a2), some (.inl a3), some (.inl a4), some (.inl a5), none] [] w ?_ h
    · intro j ls st w hfx h
      obtain ⟨e0, e1, e2, e3, e4, e5, -⟩ : _ = _ ∧ _ = _ ∧ _ = _ ∧ _ = _ ∧ _ = _ ∧ _ = _ ∧ True := hfx
      try dsimp only at h
      by_cases hj : j = 41
      · subst hj
        rw [if_pos rfl] at h
        obtain ⟨s0, st0, rfl, h_1⟩ := pl1_some h
        obtain ⟨s1, st1, rfl, h_2⟩ := po1_some h_1
        obtain ⟨kkk2, s2, st2, rfl, h_3⟩ := pr1_some h_2
        obtain ⟨rfl, h_4⟩ := if_some _ h_3
        obtain ⟨rfl, h_5⟩ := st0_some h_4
        clear h h_1 h_2 h_3 h_4
        have h := h_5
        try rw [callW_eq] at h
        exact WW.le (a := [some (.inr (.inr (16, 0))), some (.inl a1), some (.inl a2), some (.inl a3), some (.inl a4), some (.inl a5), none]) (by rw [hn]; rfl) (show _ = _ ∧ _ = _ ∧ _ = _ ∧ _ = _ ∧ _ = _ ∧ _ = _ ∧ True from ⟨e0, e1, e2, e3, e4, e5, trivial⟩) (sX12_lawOf_41 G hn hC hr a1 a2 a3 a4 a5 s0 s1 s2 w h)
      rw [if_neg hj] at h
      cases h
    · exact (show _ = _ ∧ _ = _ ∧ _ = _ ∧ _ = _ ∧ _ = _ ∧ _ = _ ∧ True from ⟨rfl, rfl, rfl, rfl, rfl, rfl, trivial⟩)
-- MoorGuidesModel.chanceOf(IIII)I
def tX12_chanceOf : List EN := [
  (0, .aload_n 0, 0, 0, 0, 0, 0, []), (1, .getfield 68, 0, 12, 47, 0, 0, []), (4, .iconst 0, 0, 0, 0, 0, 0, []), (5, .baload, 0, 0, 0, 0, 0, []),
  (6, .ifCond .ne 10, 0, 10, 0, 0, 0, []), (9, .aload_n 0, 0, 0, 0, 0, 0, []), (10, .getfield 23, 0, 12, 32, 0, 0, []), (13, .iload_n 3, 0, 0, 0, 0, 0, []),
  (14, .iaload, 0, 0, 0, 0, 0, []), (15, .ireturn, 0, 0, 0, 0, 0, []), (16, .aload_n 0, 0, 0, 0, 0, 0, []), (17, .iconst 0, 0, 0, 0, 0, 0, []),
  (18, .iload_n 1, 0, 0, 0, 0, 0, []), (19, .iload_n 2, 0, 0, 0, 0, 0, []), (20, .iload_n 3, 0, 0, 0, 0, 0, []), (21, .iload 4, 0, 0, 0, 0, 0, []),
  (23, .invokevirtual 492, 0, 0, 6, 0, 0, [(0, 0)]), (26, .lstore 5, 0, 0, 0, 0, 0, []), (28, .aload_n 0, 0, 0, 0, 0, 0, []), (29, .getfield 420, 0, 12, 63, 0, 0, []),
  (32, .ifCond .eq 10, 0, 26, 0, 0, 0, []), (35, .aload_n 0, 0, 0, 0, 0, 0, []), (36, .getfield 23, 0, 12, 32, 0, 0, []), (39, .iload_n 3, 0, 0, 0, 0, 0, []),
  (40, .iaload, 0, 0, 0, 0, 0, []), (41, .ireturn, 0, 0, 0, 0, 0, []), (42, .lload 5, 0, 0, 0, 0, 0, []), (44, .lconst 0, 0, 0, 0, 0, 0, []),
  (45, .lcmp, 0, 0, 0, 0, 0, []), (46, .ifCond .ge 7, 0, 32, 0, 0, 0, []), (49, .iconst 0, 0, 0, 0, 0, 0, []), (50, .goto 20, 0, 40, 0, 0, 0, []),
  (53, .lload 5, 0, 0, 0, 0, 0, []), (55, .ldc2_w 496, 0, 0, 0, 0, 100, []), (58, .lcmp, 0, 0, 0, 0, 0, []), (59, .ifCond .le 8, 0, 38, 0, 0, 0, []),
  (62, .bipush 100, 0, 0, 0, 100, 0, []), (64, .goto 6, 0, 40, 0, 0, 0, []), (67, .lload 5, 0, 0, 0, 0, 0, []), (69, .l2i, 0, 0, 0, 0, 0, []),
  (70, .ireturn, 0, 0, 0, 0, 0, [])]
noncomputable def pX12_chanceOf (N : Nat) (a1 : Int32) (a2 : Int32) (a3 : Int32) (a4 : Int32) (w : Wd) : Option (Int32 × Wd) :=
  (ldI w 91 0 (0 : Int32) 4).bind fun x1 =>
  if x1 = 0 then
    (ldI w 76 0 a3 16).bind fun x2 =>
    some (x2, w)
  else
  (callW (pX12_lawOf N (0 : Int32) a1 a2 a3 a4) w).bind fun r3 =>
  if (gI r3.2 16 0 63) = 0 then
    if (lg_cmp r3.1 (0 : Int64)) < 0 then some ((0 : Int32), r3.2) else
    if 0 < (lg_cmp r3.1 (100 : Int64)) then some ((100 : Int32), r3.2) else
    some (r3.1.toInt32, r3.2)
  else
  (ldI r3.2 76 0 a3 16).bind fun x4 =>
  some (x4, r3.2)
noncomputable def mX12_chanceOf (N : Nat) (as : List AV) (w : Wd) : Option (Int32 × Wd) := xS1 16 as fun t => xI1 t fun a1 t => xI1 t fun a2 t => xI1 t fun a3 t => xI1 t fun a4 t => xN1 t (callW (pX12_chanceOf N a1 a2 a3 a4) w)
set_option maxRecDepth 100000 in
set_option maxHeartbeats 4000000 in
theorem kX12_chanceOf : TK cX12_chanceOf RX12 7 tX12_chanceOf := ⟨by decide +kernel, wok_of [1647, 1632, 1663, 1632, 2155] (by decide +kernel) (by decide +kernel)⟩
set_option maxRecDepth 100000 in
set_option maxHeartbeats 4000000 in
theorem crX12_chanceOf {N : Nat} {X : XT} (G : GX X cX12_chanceOf RX12) (hR : xR X = rmL 5) : CRs X tX12_chanceOf (oF []) (oF [(mX12_lawOf N)]) (oF []) := by
  have hl : tX12_chanceOf.filter isInv = [(23, .invokevirtual 492, 0, 0, 6, 0, 0, [(0, 0)])] := rfl
  intro e he
  rw [hl] at he
  simp only [List.mem_cons, List.not_mem_nil, or_false] at he
  rcases he with rfl
  · exact crL_V (idx := 492) G (by decide +kernel) (MX12_lawOf N) (cw_of (ps := [2131, 2133, 114, 164, 2134]) (by decide +kernel) (by decide +kernel)) ⟨by decide +kernel, by decide +kernel, by decide +kernel⟩ (by unfold rmOk; rw [hR]; exact ⟨by decide, by decide⟩)
set_option maxRecDepth 100000 in
set_option maxHeartbeats 4000000 in
theorem MX12_chanceOf (N : Nat) : SndI yX12_chanceOf cX12_chanceOf 7 (some .int) 5 5 true (mX12_chanceOf N) := by
  refine SndI.of tX12_chanceOf (by decide +kernel) rfl rfl ?_ ?_
  · intro as w x h
    obtain ⟨t1, rfl, h_1⟩ := xS1_some h
    obtain ⟨a1, t2, rfl, h_2⟩ := xI1_some h_1
    obtain ⟨a2, t3, rfl, h_3⟩ := xI1_some h_2
    obtain ⟨a3, t4, rfl, h_4⟩ := xI1_some h_3
    obtain ⟨a4, t5, rfl, h_5⟩ := xI1_some h_4
    obtain ⟨rfl, h_6⟩ := xN1_some h_5
    clear h h_1 h_2 h_3 h_4 h_5
    have h := h_6
    rw [callW_eq] at h
    exact ⟨fun _ => ⟨_, _, _, rfl, rfl, _, rfl, rfl⟩, rfl, Nat.le_of_ble_eq_true rfl⟩
  · intro X G hn hR as w r h hr
    have hC := crX12_chanceOf (N := N) G hR
    obtain ⟨t1, rfl, h_1⟩ := xS1_some h
    obtain ⟨a1, t2, rfl, h_2⟩ := xI1_some h_1
    obtain ⟨a2, t3, rfl, h_3⟩ := xI1_some h_2
    obtain ⟨a3, t4, rfl, h_4⟩ := xI1_some h_3
    obtain ⟨a4, t5, rfl, h_5⟩ := xI1_some h_4
    obtain ⟨rfl, h_6⟩ := xN1_some h_5
    clear h h_1 h_2 h_3 h_4 h_5
    have h := h_6
    rw [callW_eq] at h
    refine run_sound (r := r) (X := X) (cc := cX12_chanceOf) (own := RX12) (tab := tX12_chanceOf) G (by rw [hn]; exact kX12_chanceOf) (oI := (oF [])) (oL := (oF [(mX12_lawOf N)])) (oV := (oF [])) (rI := (fun x w => some (x, w))) (rL := (fun _ _ => none)) (rV := (fun _ => none))
      (K := (fun j ls st w => none)) (fun x w pc ls hx hd => hr x w pc ls (Option.some.inj hx) hd) (fun _ _ _ _ hx => by cases hx) (fun _ _ _ hx => by cases hx) hC (fun ls => lsb [some (.inr (.inr (16, 0))), some (.inl a1), some (.inl a2), some (.inl a3), some (.inl a4), none, none] 0 ls) (keepsP_of rfl) ?_ 43 0 [some (.inr (.inr (16, 0))), some (.inl a1), some (.inl a2), some (.inl a3), some (.inl a4), none, none] [] w ?_ h
    · intro j ls st w hfx h
      obtain ⟨e0, e1, e2, e3, e4, -⟩ : _ = _ ∧ _ = _ ∧ _ = _ ∧ _ = _ ∧ _ = _ ∧ True := hfx
      try dsimp only at h
      cases h
    · exact (show _ = _ ∧ _ = _ ∧ _ = _ ∧ _ = _ ∧ _ = _ ∧ True from ⟨rfl, rfl, rfl, rfl, rfl, trivial⟩)
-- MoorGuidesModel.chance(II)I
def tX12_chance : List EN := [
  (0, .aload_n 0, 0, 0, 0, 0, 0, []), (1, .iconst 0, 0, 0, 0, 0, 0, []), (2, .putfield 196, 0, 12, 2, 0, 0, []), (5, .aload_n 0, 0, 0, 0, 0, 0, []),
  (6, .iload_n 1, 0, 0, 0, 0, 0, []), (7, .invokevirtual 463, 0, 0, 2, 0, 0, []), (10, .ifCond .eq 38, 0, 26, 0, 0, 0, []), (13, .aload_n 0, 0, 0, 0, 0, 0, []),
  (14, .iload_n 2, 0, 0, 0, 0, 0, []), (15, .invokevirtual 473, 0, 1, 2, 0, 0, []), (18, .ifCond .eq 30, 0, 26, 0, 0, 0, []), (21, .aload_n 0, 0, 0, 0, 0, 0, []),
  (22, .iconst 0, 0, 0, 0, 0, 0, []), (23, .iload_n 1, 0, 0, 0, 0, 0, []), (24, .aload_n 0, 0, 0, 0, 0, 0, []), (25, .getfield 438, 0, 12, 64, 0, 0, []),
  (28, .invokevirtual 456, 0, 2, 4, 0, 0, []), (31, .ifCond .eq 17, 0, 26, 0, 0, 0, []), (34, .aload_n 0, 0, 0, 0, 0, 0, []), (35, .iconst 0, 0, 0, 0, 0, 0, []),
  (36, .iload_n 1, 0, 0, 0, 0, 0, []), (37, .iload_n 2, 0, 0, 0, 0, 0, []), (38, .aload_n 0, 0, 0, 0, 0, 0, []), (39, .getfield 438, 0, 12, 64, 0, 0, []),
  (42, .invokevirtual 498, 0, 3, 5, 0, 0, []), (45, .goto 4, 0, 27, 0, 0, 0, []), (48, .iconst (-1), 0, 0, 0, (-1), 0, []), (49, .ireturn, 0, 0, 0, 0, 0, [])]
noncomputable def pX12_chance (N : Nat) (a1 : Int32) (a2 : Int32) (w : Wd) : Option (Int32 × Wd) :=
  (callW (pX12_isPerson N a1) (setI w 16 0 2 (0 : Int32))).bind fun r1 =>
  if r1.1 = 0 then some ((-1 : Int32), r1.2) else
  (callW (pX12_isPart N a2) r1.2).bind fun r2 =>
  if r2.1 = 0 then some ((-1 : Int32), r2.2) else
  (callW (pX12_isThere N (0 : Int32) a1 (gI r2.2 16 0 64)) r2.2).bind fun r3 =>
  if r3.1 = 0 then some ((-1 : Int32), r3.2) else
  (callW (pX12_chanceOf N (0 : Int32) a1 a2 (gI r3.2 16 0 64)) r3.2).bind fun r4 =>
  some (r4.1, r4.2)
noncomputable def mX12_chance (N : Nat) (as : List AV) (w : Wd) : Option (Int32 × Wd) := xS1 16 as fun t => xI1 t fun a1 t => xI1 t fun a2 t => xN1 t (callW (pX12_chance N a1 a2) w)
set_option maxRecDepth 100000 in
set_option maxHeartbeats 4000000 in
theorem kX12_chance : TK cX12_chance RX12 3 tX12_chance := ⟨by decide +kernel, wok_of [1602, 1664, 1664] (by decide +kernel) (by decide +kernel)⟩
set_option maxRecDepth 100000 in
set_option maxHeartbeats 4000000 in
theorem crX12_chance {N : Nat} {X : XT} (G : GX X cX12_chance RX12) (hR : xR X = rmL 6) : CRs X tX12_chance (oF [(mX12_isPerson N), (mX12_isPart N), (mX12_isThere N), (mX12_chanceOf N)]) (oF []) (oF []) := by
  have hl : tX12_chance.filter isInv = [(7, .invokevirtual 463, 0, 0, 2, 0, 0, []), (15, .invokevirtual 473, 0, 1, 2, 0, 0, []), (28, .invokevirtual 456, 0, 2, 4, 0, 0, []), (42, .invokevirtual 498, 0, 3, 5, 0, 0, [])] := rfl
  intro e he
  rw [hl] at he
  simp only [List.mem_cons, List.not_mem_nil, or_false] at he
  rcases he with rfl | rfl | rfl | rfl
  · exact crI_V (idx := 463) G (by decide +kernel) (MX12_isPerson N) (cw_of (ps := [2080, 2082, 106, 164, 2083]) (by decide +kernel) (by decide +kernel)) ⟨by decide +kernel, by decide +kernel, by decide +kernel⟩ (by unfold rmOk; rw [hR]; exact ⟨by decide, by decide⟩)
  · exact crI_V (idx := 473) G (by decide +kernel) (MX12_isPart N) (cw_of (ps := [2104, 2106, 111, 164, 2107]) (by decide +kernel) (by decide +kernel)) ⟨by decide +kernel, by decide +kernel, by decide +kernel⟩ (by unfold rmOk; rw [hR]; exact ⟨by decide, by decide⟩)
  · exact crI_V (idx := 456) G (by decide +kernel) (MX12_isThere N) (cw_of (ps := [2088, 2090, 108, 164, 2091]) (by decide +kernel) (by decide +kernel)) ⟨by decide +kernel, by decide +kernel, by decide +kernel⟩ (by unfold rmOk; rw [hR]; exact ⟨by decide, by decide⟩)
  · exact crI_V (idx := 498) G (by decide +kernel) (MX12_chanceOf N) (cw_of (ps := [2127, 2129, 113, 164, 2130]) (by decide +kernel) (by decide +kernel)) ⟨by decide +kernel, by decide +kernel, by decide +kernel⟩ (by unfold rmOk; rw [hR]; exact ⟨by decide, by decide⟩)
set_option maxRecDepth 100000 in
set_option maxHeartbeats 4000000 in
theorem MX12_chance (N : Nat) : SndI yX12_chance cX12_chance 3 (some .int) 6 3 true (mX12_chance N) := by
  refine SndI.of tX12_chance (by decide +kernel) rfl rfl ?_ ?_
  · intro as w x h
    obtain ⟨t1, rfl, h_1⟩ := xS1_some h
    obtain ⟨a1, t2, rfl, h_2⟩ := xI1_some h_1
    obtain ⟨a2, t3, rfl, h_3⟩ := xI1_some h_2
    obtain ⟨rfl, h_4⟩ := xN1_some h_3
    clear h h_1 h_2 h_3
    have h := h_4
    rw [callW_eq] at h
    exact ⟨fun _ => ⟨_, _, _, rfl, rfl, _, rfl, rfl⟩, rfl, Nat.le_of_ble_eq_true rfl⟩
  · intro X G hn hR as w r h hr
    have hC := crX12_chance (N := N) G hR
    obtain ⟨t1, rfl, h_1⟩ := xS1_some h
    obtain ⟨a1, t2, rfl, h_2⟩ := xI1_some h_1
    obtain ⟨a2, t3, rfl, h_3⟩ := xI1_some h_2
    obtain ⟨rfl, h_4⟩ := xN1_some h_3
    clear h h_1 h_2 h_3
    have h := h_4
    rw [callW_eq] at h
    refine run_sound (r := r) (X := X) (cc := cX12_chance) (own := RX12) (tab := tX12_chance) G (by rw [hn]; exact kX12_chance) (oI := (oF [(mX12_isPerson N), (mX12_isPart N), (mX12_isThere N), (mX12_chanceOf N)])) (oL := (oF [])) (oV := (oF [])) (rI := (fun x w => some (x, w))) (rL := (fun _ _ => none)) (rV := (fun _ => none))
      (K := (fun j ls st w => none)) (fun x w pc ls hx hd => hr x w pc ls (Option.some.inj hx) hd) (fun _ _ _ _ hx => by cases hx) (fun _ _ _ hx => by cases hx) hC (fun ls => lsb [some (.inr (.inr (16, 0))), some (.inl a1), some (.inl a2)] 0 ls) (keepsP_of rfl) ?_ 30 0 [some (.inr (.inr (16, 0))), some (.inl a1), some (.inl a2)] [] w ?_ h
    · intro j ls st w hfx h
      obtain ⟨e0, e1, e2, -⟩ : _ = _ ∧ _ = _ ∧ _ = _ ∧ True := hfx
      try dsimp only at h
      cases h
    · exact (show _ = _ ∧ _ = _ ∧ _ = _ ∧ True from ⟨rfl, rfl, rfl, trivial⟩)
-- MoorGuidesModel.law(III)J
def tX12_law : List EN := [
  (0, .aload_n 0, 0, 0, 0, 0, 0, []), (1, .iconst 0, 0, 0, 0, 0, 0, []), (2, .putfield 196, 0, 12, 2, 0, 0, []), (5, .iload_n 1, 0, 0, 0, 0, 0, []),
  (6, .iconst 0, 0, 0, 0, 0, 0, []), (7, .iconst 1, 0, 0, 0, 1, 0, []), (8, .invokestatic 241, 0, 0, 3, 0, 0, []), (11, .ifCond .eq 41, 0, 28, 0, 0, 0, []),
  (14, .aload_n 0, 0, 0, 0, 0, 0, []), (15, .getfield 68, 0, 12, 47, 0, 0, []), (18, .iload_n 1, 0, 0, 0, 0, 0, []), (19, .baload, 0, 0, 0, 0, 0, []),
  (20, .ifCond .eq 32, 0, 28, 0, 0, 0, []), (23, .aload_n 0, 0, 0, 0, 0, 0, []), (24, .iload_n 2, 0, 0, 0, 0, 0, []), (25, .invokevirtual 463, 0, 1, 2, 0, 0, []),
  (28, .ifCond .eq 24, 0, 28, 0, 0, 0, []), (31, .aload_n 0, 0, 0, 0, 0, 0, []), (32, .iload_n 3, 0, 0, 0, 0, 0, []), (33, .invokevirtual 473, 0, 2, 2, 0, 0, []),
  (36, .ifCond .eq 16, 0, 28, 0, 0, 0, []), (39, .aload_n 0, 0, 0, 0, 0, 0, []), (40, .iconst 0, 0, 0, 0, 0, 0, []), (41, .iload_n 2, 0, 0, 0, 0, 0, []),
  (42, .aload_n 0, 0, 0, 0, 0, 0, []), (43, .getfield 438, 0, 12, 64, 0, 0, []), (46, .invokevirtual 456, 0, 3, 4, 0, 0, []), (49, .ifCond .ne 7, 0, 30, 0, 0, 0, []),
  (52, .ldc2_w 502, 0, 0, 0, 0, (-9223372036854775808), []), (55, .lreturn, 0, 0, 0, 0, 0, []), (56, .aload_n 0, 0, 0, 0, 0, 0, []), (57, .iload_n 1, 0, 0, 0, 0, 0, []),
  (58, .iconst 0, 0, 0, 0, 0, 0, []), (59, .iload_n 2, 0, 0, 0, 0, 0, []), (60, .iload_n 3, 0, 0, 0, 0, 0, []), (61, .aload_n 0, 0, 0, 0, 0, 0, []),
  (62, .getfield 438, 0, 12, 64, 0, 0, []), (65, .invokevirtual 492, 0, 0, 6, 0, 0, [(0, 0)]), (68, .lstore 4, 0, 0, 0, 0, 0, []), (70, .aload_n 0, 0, 0, 0, 0, 0, []),
  (71, .getfield 420, 0, 12, 63, 0, 0, []), (74, .ifCond .eq 9, 0, 44, 0, 0, 0, []), (77, .ldc2_w 502, 0, 0, 0, 0, (-9223372036854775808), []), (80, .goto 5, 0, 45, 0, 0, 0, []),
  (83, .lload 4, 0, 0, 0, 0, 0, []), (85, .lreturn, 0, 0, 0, 0, 0, [])]
noncomputable def pX12_law (N : Nat) (a1 : Int32) (a2 : Int32) (a3 : Int32) (w : Wd) : Option (Int64 × Wd) :=
  (callW (pX12_isIn N a1 (0 : Int32) (1 : Int32)) (setI w 16 0 2 (0 : Int32))).bind fun r1 =>
  if r1.1 = 0 then some ((-9223372036854775808 : Int64), r1.2) else
  (ldI r1.2 91 0 a1 4).bind fun x2 =>
  if x2 = 0 then some ((-9223372036854775808 : Int64), r1.2) else
  (callW (pX12_isPerson N a2) r1.2).bind fun r3 =>
  if r3.1 = 0 then some ((-9223372036854775808 : Int64), r3.2) else
  (callW (pX12_isPart N a3) r3.2).bind fun r4 =>
  if r4.1 = 0 then some ((-9223372036854775808 : Int64), r4.2) else
  (callW (pX12_isThere N (0 : Int32) a2 (gI r4.2 16 0 64)) r4.2).bind fun r5 =>
  if r5.1 = 0 then some ((-9223372036854775808 : Int64), r5.2) else
  (callW (pX12_lawOf N a1 (0 : Int32) a2 a3 (gI r5.2 16 0 64)) r5.2).bind fun r6 =>
  if (gI r6.2 16 0 63) = 0 then some (r6.1, r6.2) else
  some ((-9223372036854775808 : Int64), r6.2)
noncomputable def mX12_law (N : Nat) (as : List AV) (w : Wd) : Option (Int64 × Wd) := xS1 16 as fun t => xI1 t fun a1 t => xI1 t fun a2 t => xI1 t fun a3 t => xN1 t (callW (pX12_law N a1 a2 a3) w)
set_option maxRecDepth 100000 in
set_option maxHeartbeats 4000000 in
theorem kX12_law : TK cX12_law RX12 6 tX12_law := ⟨by decide +kernel, wok_of [1602, 1647, 1664, 2160, 1664, 1663, 2160] (by decide +kernel) (by decide +kernel)⟩
set_option maxRecDepth 100000 in
set_option maxHeartbeats 4000000 in
theorem crX12_law {N : Nat} {X : XT} (G : GX X cX12_law RX12) (hR : xR X = rmL 5) : CRs X tX12_law (oF [(mX12_isIn N), (mX12_isPerson N), (mX12_isPart N), (mX12_isThere N)]) (oF [(mX12_lawOf N)]) (oF []) := by
  have hl : tX12_law.filter isInv = [(8, .invokestatic 241, 0, 0, 3, 0, 0, []), (25, .invokevirtual 463, 0, 1, 2, 0, 0, []), (33, .invokevirtual 473, 0, 2, 2, 0, 0, []), (46, .invokevirtual 456, 0, 3, 4, 0, 0, []), (65, .invokevirtual 492, 0, 0, 6, 0, 0, [(0, 0)])] := rfl
  intro e he
  rw [hl] at he
  simp only [List.mem_cons, List.not_mem_nil, or_false] at he
  rcases he with rfl | rfl | rfl | rfl | rfl
  · exact crI_S (idx := 241) G (by decide +kernel) (MX12_isIn N) (cw_of (ps := [1986, 1987, 164, 1988]) (by decide +kernel) (by decide +kernel)) ⟨by decide +kernel, by decide +kernel, by decide +kernel⟩ (by unfold rmOk; rw [hR]; exact ⟨by decide, by decide⟩)
  · exact crI_V (idx := 463) G (by decide +kernel) (MX12_isPerson N) (cw_of (ps := [2080, 2082, 106, 164, 2083]) (by decide +kernel) (by decide +kernel)) ⟨by decide +kernel, by decide +kernel, by decide +kernel⟩ (by unfold rmOk; rw [hR]; exact ⟨by decide, by decide⟩)
  · exact crI_V (idx := 473) G (by decide +kernel) (MX12_isPart N) (cw_of (ps := [2104, 2106, 111, 164, 2107]) (by decide +kernel) (by decide +kernel)) ⟨by decide +kernel, by decide +kernel, by decide +kernel⟩ (by unfold rmOk; rw [hR]; exact ⟨by decide, by decide⟩)
  · exact crI_V (idx := 456) G (by decide +kernel) (MX12_isThere N) (cw_of (ps := [2088, 2090, 108, 164, 2091]) (by decide +kernel) (by decide +kernel)) ⟨by decide +kernel, by decide +kernel, by decide +kernel⟩ (by unfold rmOk; rw [hR]; exact ⟨by decide, by decide⟩)
  · exact crL_V (idx := 492) G (by decide +kernel) (MX12_lawOf N) (cw_of (ps := [2131, 2133, 114, 164, 2134]) (by decide +kernel) (by decide +kernel)) ⟨by decide +kernel, by decide +kernel, by decide +kernel⟩ (by unfold rmOk; rw [hR]; exact ⟨by decide, by decide⟩)
set_option maxRecDepth 100000 in
set_option maxHeartbeats 4000000 in
theorem MX12_law (N : Nat) : SndL yX12_law cX12_law 6 (some .long) 5 4 true (mX12_law N) := by
  refine SndL.of tX12_law (by decide +kernel) rfl rfl ?_ ?_
  · intro as w x h
    obtain ⟨t1, rfl, h_1⟩ := xS1_some h
    obtain ⟨a1, t2, rfl, h_2⟩ := xI1_some h_1
    obtain ⟨a2, t3, rfl, h_3⟩ := xI1_some h_2
    obtain ⟨a3, t4, rfl, h_4⟩ := xI1_some h_3
    obtain ⟨rfl, h_5⟩ := xN1_some h_4
    clear h h_1 h_2 h_3 h_4
    have h := h_5
    rw [callW_eq] at h
    exact ⟨fun _ => ⟨_, _, _, rfl, rfl, _, rfl, rfl⟩, rfl, Nat.le_of_ble_eq_true rfl⟩
  · intro X G hn hR as w r h hr
    have hC := crX12_law (N := N) G hR
    obtain ⟨t1, rfl, h_1⟩ := xS1_some h
    obtain ⟨a1, t2, rfl, h_2⟩ := xI1_some h_1
    obtain ⟨a2, t3, rfl, h_3⟩ := xI1_some h_2
    obtain ⟨a3, t4, rfl, h_4⟩ := xI1_some h_3
    obtain ⟨rfl, h_5⟩ := xN1_some h_4
    clear h h_1 h_2 h_3 h_4
    have h := h_5
    rw [callW_eq] at h
    refine run_sound (r := r) (X := X) (cc := cX12_law) (own := RX12) (tab := tX12_law) G (by rw [hn]; exact kX12_law) (oI := (oF [(mX12_isIn N), (mX12_isPerson N), (mX12_isPart N), (mX12_isThere N)])) (oL := (oF [(mX12_lawOf N)])) (oV := (oF [])) (rI := (fun _ _ => none)) (rL := (fun x w => some (x, w))) (rV := (fun _ => none))
      (K := (fun j ls st w => none)) (fun _ _ _ _ hx => by cases hx) (fun x w pc ls hx hd => hr x w pc ls (Option.some.inj hx) hd) (fun _ _ _ hx => by cases hx) hC (fun ls => lsb [some (.inr (.inr (16, 0))), some (.inl a1), some (.inl a2), some (.inl a3), none, none] 0 ls) (keepsP_of rfl) ?_ 48 0 [some (.inr (.inr (16, 0))), some (.inl a1), some (.inl a2), some (.inl a3), none, none] [] w ?_ h
    · intro j ls st w hfx h
      obtain ⟨e0, e1, e2, e3, -⟩ : _ = _ ∧ _ = _ ∧ _ = _ ∧ _ = _ ∧ True := hfx
      try dsimp only at h
      cases h
    · exact (show _ = _ ∧ _ = _ ∧ _ = _ ∧ _ = _ ∧ True from ⟨rfl, rfl, rfl, rfl, trivial⟩)
-- MoorGuidesModel.remember(III)V
def tX12_remember : List EN := [
  (0, .aload_n 0, 0, 0, 0, 0, 0, []), (1, .getfield 447, 0, 12, 74, 0, 0, []), (4, .bipush 20, 0, 0, 0, 20, 0, []), (6, .if_icmp .ne 45, 0, 27, 0, 0, 0, []),
  (9, .iconst 0, 0, 0, 0, 0, 0, []), (10, .istore 4, 0, 0, 0, 0, 0, []), (12, .iload 4, 7, 0, 0, 0, 0, []), (14, .bipush 57, 0, 0, 0, 57, 0, []),
  (16, .if_icmp .ge 25, 0, 21, 0, 0, 0, []), (19, .aload_n 0, 0, 0, 0, 0, 0, []), (20, .getfield 124, 0, 12, 75, 0, 0, []), (23, .iload 4, 0, 0, 0, 0, 0, []),
  (25, .aload_n 0, 0, 0, 0, 0, 0, []), (26, .getfield 124, 0, 12, 75, 0, 0, []), (29, .iload 4, 0, 0, 0, 0, 0, []), (31, .iconst 3, 0, 0, 0, 3, 0, []),
  (32, .iadd, 0, 0, 0, 0, 0, []), (33, .iaload, 0, 0, 0, 0, 0, []), (34, .iastore, 0, 0, 0, 0, 0, []), (35, .iinc 4 1, 0, 0, 0, 1, 0, []),
  (38, .goto (-26), 0, 6, 0, 0, 0, []), (41, .aload_n 0, 22, 0, 0, 0, 0, []), (42, .dup, 0, 0, 0, 0, 0, []), (43, .getfield 447, 0, 12, 74, 0, 0, []),
  (46, .iconst 1, 0, 0, 0, 1, 0, []), (47, .isub, 0, 0, 0, 0, 0, []), (48, .putfield 447, 0, 12, 74, 0, 0, []), (51, .aload_n 0, 28, 0, 0, 0, 0, []),
  (52, .getfield 124, 0, 12, 75, 0, 0, []), (55, .iconst 3, 0, 0, 0, 3, 0, []), (56, .aload_n 0, 0, 0, 0, 0, 0, []), (57, .getfield 447, 0, 12, 74, 0, 0, []),
  (60, .imul, 0, 0, 0, 0, 0, []), (61, .iload_n 1, 0, 0, 0, 0, 0, []), (62, .iastore, 0, 0, 0, 0, 0, []), (63, .aload_n 0, 0, 0, 0, 0, 0, []),
  (64, .getfield 124, 0, 12, 75, 0, 0, []), (67, .iconst 3, 0, 0, 0, 3, 0, []), (68, .aload_n 0, 0, 0, 0, 0, 0, []), (69, .getfield 447, 0, 12, 74, 0, 0, []),
  (72, .imul, 0, 0, 0, 0, 0, []), (73, .iconst 1, 0, 0, 0, 1, 0, []), (74, .iadd, 0, 0, 0, 0, 0, []), (75, .iload_n 2, 0, 0, 0, 0, 0, []),
  (76, .iastore, 0, 0, 0, 0, 0, []), (77, .aload_n 0, 0, 0, 0, 0, 0, []), (78, .getfield 124, 0, 12, 75, 0, 0, []), (81, .iconst 3, 0, 0, 0, 3, 0, []),
  (82, .aload_n 0, 0, 0, 0, 0, 0, []), (83, .getfield 447, 0, 12, 74, 0, 0, []), (86, .imul, 0, 0, 0, 0, 0, []), (87, .iconst 2, 0, 0, 0, 2, 0, []),
  (88, .iadd, 0, 0, 0, 0, 0, []), (89, .iload_n 3, 0, 0, 0, 0, 0, []), (90, .iastore, 0, 0, 0, 0, 0, []), (91, .aload_n 0, 0, 0, 0, 0, 0, []),
  (92, .dup, 0, 0, 0, 0, 0, []), (93, .getfield 447, 0, 12, 74, 0, 0, []), (96, .iconst 1, 0, 0, 0, 1, 0, []), (97, .iadd, 0, 0, 0, 0, 0, []),
  (98, .putfield 447, 0, 12, 74, 0, 0, []), (101, .return_, 0, 0, 0, 0, 0, [])]
noncomputable def fX12_remember_27 (N : Nat) (a1 : Int32) (a2 : Int32) (a3 : Int32) (w : Wd) : Option (Wd) :=
  (stI w 109 0 ((3 : Int32) * (gI w 16 0 74)) 60 a1).bind fun w1 =>
  (stI w1 109 0 (((3 : Int32) * (gI w1 16 0 74)) + (1 : Int32)) 60 a2).bind fun w2 =>
  (stI w2 109 0 (((3 : Int32) * (gI w2 16 0 74)) + (2 : Int32)) 60 a3).bind fun w3 =>
  some (setI w3 16 0 74 ((gI w3 16 0 74) + (1 : Int32)))
noncomputable def fX12_remember_21 (N : Nat) (a1 : Int32) (a2 : Int32) (a3 : Int32) (w : Wd) : Option (Wd) :=
  callW (fX12_remember_27 N a1 a2 a3) (setI w 16 0 74 ((gI w 16 0 74) - (1 : Int32)))
noncomputable def fX12_remember_6 (N : Nat) (a1 : Int32) (a2 : Int32) (a3 : Int32) : Nat → (Wd → Option (Wd)) → Int32 → Wd → Option (Wd)
  | 0, _, _, _ => none
  | n + 1, k21, v4, w =>
    if v4 < (57 : Int32) then
      (ldI w 109 0 (v4 + (3 : Int32)) 60).bind fun x1 =>
      (stI w 109 0 v4 60 x1).bind fun w2 =>
      callW (fX12_remember_6 N a1 a2 a3 n k21 (v4 + (1 : Int32))) w2
    else
    k21 w
noncomputable def pX12_remember (N : Nat) (a1 : Int32) (a2 : Int32) (a3 : Int32) (w : Wd) : Option (Wd) :=
  if (gI w 16 0 74) = (20 : Int32) then callW (fX12_remember_6 N a1 a2 a3 N (fX12_remember_21 N a1 a2 a3) (0 : Int32)) w else
  callW (fX12_remember_27 N a1 a2 a3) w
noncomputable def mX12_remember (N : Nat) (as : List AV) (w : Wd) : Option (Wd) := xS1 16 as fun t => xI1 t fun a1 t => xI1 t fun a2 t => xI1 t fun a3 t => xN1 t (callW (pX12_remember N a1 a2 a3) w)
set_option maxRecDepth 100000 in
set_option maxHeartbeats 4000000 in
theorem kX12_remember : TK cX12_remember RX12 5 tX12_remember := ⟨by decide +kernel, wok_of [1674, 1675, 1675, 1674, 1674, 1675, 1674, 1675, 1674, 1675, 1674, 1674, 1674] (by decide +kernel) (by decide +kernel)⟩
set_option maxRecDepth 100000 in
set_option maxHeartbeats 4000000 in
theorem sX12_remember_27 {N : Nat} {X : XT} (G : GX X cX12_remember RX12) (hn : xnL X = 5) (hC : CRs X tX12_remember (oF []) (oF []) (oF [])) {r : Wd} (hr : RTV X cX12_remember r) (a1 : Int32) (a2 : Int32) (a3 : Int32) : ∀ (w : Wd), fX12_remember_27 N a1 a2 a3 w = some r → WW X (pcAt tX12_remember 27) [some (.inr (.inr (16, 0))), some (.inl a1), some (.inl a2), some (.inl a3), none] [] w := by
  intro w h
  refine run_sound (r := r) (X := X) (cc := cX12_remember) (own := RX12) (tab := tX12_remember) G (by rw [hn]; exact kX12_remember) (oI := (oF [])) (oL := (oF [])) (oV := (oF [])) (rI := (fun _ _ => none)) (rL := (fun _ _ => none)) (rV := (fun w => some w))
    (K := (fun j ls st w => none)) (fun _ _ _ _ hx => by cases hx) (fun _ _ _ _ hx => by cases hx) (fun w pc ls hx hd => hr w pc ls (Option.some.inj hx) hd) hC (fun ls => lsb [some (.inr (.inr (16, 0))), some (.inl a1), some (.inl a2), some (.inl a3), none] 0 ls) (keepsP_of rfl) ?_ 64 27 [some (.inr (.inr (16, 0))), some (.inl a1), some (.inl a2), some (.inl a3), none] [] w ?_ h
  · intro j ls st w hfx h
    obtain ⟨e0, e1, e2, e3, -⟩ : _ = _ ∧ _ = _ ∧ _ = _ ∧ _ = _ ∧ True := hfx
    try dsimp only at h
    cases h
  · exact (show _ = _ ∧ _ = _ ∧ _ = _ ∧ _ = _ ∧ True from ⟨rfl, rfl, rfl, rfl, trivial⟩)
set_option maxRecDepth 100000 in
set_option maxHeartbeats 4000000 in
theorem sX12_remember_21 {N : Nat} {X : XT} (G : GX X cX12_remember RX12) (hn : xnL X = 5) (hC : CRs X tX12_remember (oF []) (oF []) (oF [])) {r : Wd} (hr : RTV X cX12_remember r) (a1 : Int32) (a2 : Int32) (a3 : Int32) : ∀ (w : Wd), fX12_remember_21 N a1 a2 a3 w = some r → WW X (pcAt tX12_remember 21) [some (.inr (.inr (16, 0))), some (.inl a1), some (.inl a2), some (.inl a3), none] [] w := by
  intro w h
  refine run_sound (r := r) (X := X) (cc := cX12_remember) (own := RX12) (tab := tX12_remember) G (by rw [hn]; exact kX12_remember) (oI := (oF [])) (oL := (oF [])) (oV := (oF [])) (rI := (fun _ _ => none)) (rL := (fun _ _ => none)) (rV := (fun w => some w))
    (K := (fun j ls st w => if j = 27 then (st0 st (callW (fX12_remember_27 N a1 a2 a3) w)) else none)) (fun _ _ _ _ hx => by cases hx) (fun _ _ _ _ hx => by cases hx) (fun w pc ls hx hd => hr w pc ls (Option.some.inj hx) hd) hC (fun ls => lsb [some (.inr (.inr (16, 0))), some (.inl a1), some (.inl a2), some (.inl a3), none] 0 ls) (keepsP_of rfl) ?_ 64 21 [some (.inr (.inr (16, 0))), some (.inl a1), some (.inl a2), some (.inl a3), none] [] w ?_ h
  · intro j ls st w hfx h
    obtain ⟨e0, e1, e2, e3, -⟩ : _ = _ ∧ _ = _ ∧ _ = _ ∧ _ = _ ∧ True := hfx
    try dsimp only at h
    by_cases hj : j = 27
    · subst hj
      rw [if_pos rfl] at h
      obtain ⟨rfl, h_1⟩ := st0_some h
      clear h
      have h := h_1
      try rw [callW_eq] at h
      exact WW.le (a := [some (.inr (.inr (16, 0))), some (.inl a1), some (.inl a2), some (.inl a3), none]) (by rw [hn]; rfl) (show _ = _ ∧ _ = _ ∧ _ = _ ∧ _ = _ ∧ True from ⟨e0, e1, e2, e3, trivial⟩) (sX12_remember_27 G hn hC hr a1 a2 a3 w h)
    rw [if_neg hj] at h
    cases h
  · exact (show _ = _ ∧ _ = _ ∧ _ = _ ∧ _ = _ ∧ True from ⟨rfl, rfl, rfl, rfl, trivial⟩)
set_option maxRecDepth 100000 in
set_option maxHeartbeats 4000000 in
theorem sX12_remember_6 {N : Nat} {X : XT} (G : GX X cX12_remember RX12) (hn : xnL X = 5) (hC : CRs X tX12_remember (oF []) (oF []) (oF [])) {r : Wd} (hr : RTV X cX12_remember r) (a1 : Int32) (a2 : Int32) (a3 : Int32) : ∀ (n : Nat) (k21 : Wd → Option (Wd)) (v4 : Int32) (w : Wd), fX12_remember_6 N a1 a2 a3 n k21 v4 w = some r → (∀ (w : Wd), k21 w = some r → WW X (pcAt tX12_remember 21) [some (.inr (.inr (16, 0))), some (.inl a1), some (.inl a2), some (.inl a3), none] [] w) → WW X (pcAt tX12_remember 6) [some (.inr (.inr (16, 0))), some (.inl a1), some (.inl a2), some (.inl a3), some (.inl v4)] [] w := by
  intro n
  induction n with
  | zero => intro k21 v4 w h h21; cases h
  | succ n ih =>
    intro k21 v4 w h h21
    refine run_sound (r := r) (X := X) (cc := cX12_remember) (own := RX12) (tab := tX12_remember) G (by rw [hn]; exact kX12_remember) (oI := (oF [])) (oL := (oF [])) (oV := (oF [])) (rI := (fun _ _ => none)) (rL := (fun _ _ => none)) (rV := (fun w => some w))
      (K := (fun j ls st w => if j = 6 then (lgI ls 4 fun v4 => st0 st (callW (fX12_remember_6 N a1 a2 a3 n k21 v4) w)) else if j = 21 then (st0 st (k21 w)) else none)) (fun _ _ _ _ hx => by cases hx) (fun _ _ _ _ hx => by cases hx) (fun w pc ls hx hd => hr w pc ls (Option.some.inj hx) hd) hC (fun ls => lsb [some (.inr (.inr (16, 0))), some (.inl a1), some (.inl a2), some (.inl a3), none] 0 ls) (keepsP_of rfl) ?_ 64 6 [some (.inr (.inr (16, 0))), some (.inl a1), some (.inl a2), some (.inl a3), some (.inl v4)] [] w ?_ h
    · intro j ls st w hfx h
      obtain ⟨e0, e1, e2, e3, -⟩ : _ = _ ∧ _ = _ ∧ _ = _ ∧ _ = _ ∧ True := hfx
      try dsimp only at h
      by_cases hj : j = 6
      · subst hj
        rw [if_pos rfl] at h
        obtain ⟨v4, e4, h_1⟩ := lgI_some h
        obtain ⟨rfl, h_2⟩ := st0_some h_1
        clear h h_1
        have h := h_2
        try rw [callW_eq] at h
        exact WW.le (a := [some (.inr (.inr (16, 0))), some (.inl a1), some (.inl a2), some (.inl a3), some (.inl v4)]) (by rw [hn]; rfl) (show _ = _ ∧ _ = _ ∧ _ = _ ∧ _ = _ ∧ _ = _ ∧ True from ⟨e0, e1, e2, e3, e4, trivial⟩) (ih k21 v4 w h h21)
      rw [if_neg hj] at h
      by_cases hj : j = 21
      · subst hj
        rw [if_pos rfl] at h
        obtain ⟨rfl, h_1⟩ := st0_some h
        clear h
        have h := h_1
        try rw [callW_eq] at h
        exact WW.le (a := [some (.inr (.inr (16, 0))), some (.inl a1), some (.inl a2), some (.inl a3), none]) (by rw [hn]; rfl) (show _ = _ ∧ _ = _ ∧ _ = _ ∧ _ = _ ∧ True from ⟨e0, e1, e2, e3, trivial⟩) (h21 w h)
      rw [if_neg hj] at h
      cases h
    · exact (show _ = _ ∧ _ = _ ∧ _ = _ ∧ _ = _ ∧ True from ⟨rfl, rfl, rfl, rfl, trivial⟩)
set_option maxRecDepth 100000 in
set_option maxHeartbeats 4000000 in
theorem crX12_remember {N : Nat} {X : XT} (G : GX X cX12_remember RX12) (hR : xR X = rmL 1) : CRs X tX12_remember (oF []) (oF []) (oF []) := by
  have hl : tX12_remember.filter isInv = [] := rfl
  intro e he
  rw [hl] at he
  cases he
set_option maxRecDepth 100000 in
set_option maxHeartbeats 4000000 in
theorem MX12_remember (N : Nat) : SndV yX12_remember cX12_remember 5 none 1 4 true (mX12_remember N) := by
  refine SndV.of tX12_remember (by decide +kernel) rfl rfl ?_ ?_
  · intro as w x h
    obtain ⟨t1, rfl, h_1⟩ := xS1_some h
    obtain ⟨a1, t2, rfl, h_2⟩ := xI1_some h_1
    obtain ⟨a2, t3, rfl, h_3⟩ := xI1_some h_2
    obtain ⟨a3, t4, rfl, h_4⟩ := xI1_some h_3
    obtain ⟨rfl, h_5⟩ := xN1_some h_4
    clear h h_1 h_2 h_3 h_4
    have h := h_5
    rw [callW_eq] at h
    exact ⟨fun _ => ⟨_, _, _, rfl, rfl, _, rfl, rfl⟩, rfl, Nat.le_of_ble_eq_true rfl⟩
  · intro X G hn hR as w r h hr
    have hC := crX12_remember (N := N) G hR
    obtain ⟨t1, rfl, h_1⟩ := xS1_some h
    obtain ⟨a1, t2, rfl, h_2⟩ := xI1_some h_1
    obtain ⟨a2, t3, rfl, h_3⟩ := xI1_some h_2
    obtain ⟨a3, t4, rfl, h_4⟩ := xI1_some h_3
    obtain ⟨rfl, h_5⟩ := xN1_some h_4
    clear h h_1 h_2 h_3 h_4
    have h := h_5
    rw [callW_eq] at h
    refine run_sound (r := r) (X := X) (cc := cX12_remember) (own := RX12) (tab := tX12_remember) G (by rw [hn]; exact kX12_remember) (oI := (oF [])) (oL := (oF [])) (oV := (oF [])) (rI := (fun _ _ => none)) (rL := (fun _ _ => none)) (rV := (fun w => some w))
      (K := (fun j ls st w => if j = 6 then (lgI ls 4 fun v4 => st0 st (callW (fX12_remember_6 N a1 a2 a3 N (fX12_remember_21 N a1 a2 a3) v4) w)) else if j = 27 then (st0 st (callW (fX12_remember_27 N a1 a2 a3) w)) else none)) (fun _ _ _ _ hx => by cases hx) (fun _ _ _ _ hx => by cases hx) (fun w pc ls hx hd => hr w pc ls (Option.some.inj hx) hd) hC (fun ls => lsb [some (.inr (.inr (16, 0))), some (.inl a1), some (.inl a2), some (.inl a3), none] 0 ls) (keepsP_of rfl) ?_ 64 0 [some (.inr (.inr (16, 0))), some (.inl a1), some (.inl a2), some (.inl a3), none] [] w ?_ h
    · intro j ls st w hfx h
      obtain ⟨e0, e1, e2, e3, -⟩ : _ = _ ∧ _ = _ ∧ _ = _ ∧ _ = _ ∧ True := hfx
      try dsimp only at h
      by_cases hj : j = 6
      · subst hj
        rw [if_pos rfl] at h
        obtain ⟨v4, e4, h_1⟩ := lgI_some h
        obtain ⟨rfl, h_2⟩ := st0_some h_1
        clear h h_1
        have h := h_2
        try rw [callW_eq] at h
        exact WW.le (a := [some (.inr (.inr (16, 0))), some (.inl a1), some (.inl a2), some (.inl a3), some (.inl v4)]) (by rw [hn]; rfl) (show _ = _ ∧ _ = _ ∧ _ = _ ∧ _ = _ ∧ _ = _ ∧ True from ⟨e0, e1, e2, e3, e4, trivial⟩) (sX12_remember_6 G hn hC hr a1 a2 a3 N (fX12_remember_21 N a1 a2 a3) v4 w h (fun w h => (sX12_remember_21 G hn hC hr a1 a2 a3 w h)))
      rw [if_neg hj] at h
      by_cases hj : j = 27
      · subst hj
        rw [if_pos rfl] at h
        obtain ⟨rfl, h_1⟩ := st0_some h
        clear h
        have h := h_1
        try rw [callW_eq] at h
        exact WW.le (a := [some (.inr (.inr (16, 0))), some (.inl a1), some (.inl a2), some (.inl a3), none]) (by rw [hn]; rfl) (show _ = _ ∧ _ = _ ∧ _ = _ ∧ _ = _ ∧ True from ⟨e0, e1, e2, e3, trivial⟩) (sX12_remember_27 G hn hC hr a1 a2 a3 w h)
      rw [if_neg hj] at h
      cases h
    · exact (show _ = _ ∧ _ = _ ∧ _ = _ ∧ _ = _ ∧ True from ⟨rfl, rfl, rfl, rfl, trivial⟩)
-- MoorGuidesModel.lose(II)Z
def tX12_lose : List EN := [
  (0, .aload_n 0, 0, 0, 0, 0, 0, []), (1, .iconst 0, 0, 0, 0, 0, 0, []), (2, .putfield 196, 0, 12, 2, 0, 0, []), (5, .aload_n 0, 0, 0, 0, 0, 0, []),
  (6, .iload_n 1, 0, 0, 0, 0, 0, []), (7, .invokevirtual 463, 0, 0, 2, 0, 0, []), (10, .ifCond .eq 29, 0, 21, 0, 0, 0, []), (13, .iload_n 2, 0, 0, 0, 0, 0, []),
  (14, .iconst (-1), 0, 0, 0, (-1), 0, []), (15, .if_icmp .eq 11, 0, 14, 0, 0, 0, []), (18, .aload_n 0, 0, 0, 0, 0, 0, []), (19, .iload_n 2, 0, 0, 0, 0, 0, []),
  (20, .invokevirtual 473, 0, 1, 2, 0, 0, []), (23, .ifCond .eq 16, 0, 21, 0, 0, 0, []), (26, .aload_n 0, 15, 0, 0, 0, 0, []), (27, .iconst 0, 0, 0, 0, 0, 0, []),
  (28, .iload_n 1, 0, 0, 0, 0, 0, []), (29, .aload_n 0, 0, 0, 0, 0, 0, []), (30, .getfield 438, 0, 12, 64, 0, 0, []), (33, .invokevirtual 456, 0, 2, 4, 0, 0, []),
  (36, .ifCond .ne 5, 0, 23, 0, 0, 0, []), (39, .iconst 0, 0, 0, 0, 0, 0, []), (40, .ireturn, 0, 0, 0, 0, 0, []), (41, .aload_n 0, 0, 0, 0, 0, 0, []),
  (42, .iconst 0, 0, 0, 0, 0, 0, []), (43, .iload_n 1, 0, 0, 0, 0, 0, []), (44, .aload_n 0, 0, 0, 0, 0, 0, []), (45, .getfield 112, 0, 12, 70, 0, 0, []),
  (48, .iload_n 1, 0, 0, 0, 0, 0, []), (49, .iaload, 0, 0, 0, 0, 0, []), (50, .invokevirtual 504, 0, 0, 4, 0, 0, [(0, 0), (0, 0)]), (53, .aload_n 0, 0, 0, 0, 0, 0, []),
  (54, .getfield 112, 0, 12, 70, 0, 0, []), (57, .iload_n 1, 0, 0, 0, 0, 0, []), (58, .iload_n 2, 0, 0, 0, 0, 0, []), (59, .iastore, 0, 0, 0, 0, 0, []),
  (60, .iconst 1, 0, 0, 0, 1, 0, []), (61, .ireturn, 0, 0, 0, 0, 0, [])]
noncomputable def fX12_lose_14 (N : Nat) (a1 : Int32) (a2 : Int32) (w : Wd) : Option (Int32 × Wd) :=
  (callW (pX12_isThere N (0 : Int32) a1 (gI w 16 0 64)) w).bind fun r1 =>
  if r1.1 = 0 then some ((0 : Int32), r1.2) else
  (ldI r1.2 105 0 a1 12).bind fun x2 =>
  (callW (pX12_remember N (0 : Int32) a1 x2) r1.2).bind fun w3 =>
  (stI w3 105 0 a1 12 a2).bind fun w4 =>
  some ((1 : Int32), w4)
noncomputable def pX12_lose (N : Nat) (a1 : Int32) (a2 : Int32) (w : Wd) : Option (Int32 × Wd) :=
  (callW (pX12_isPerson N a1) (setI w 16 0 2 (0 : Int32))).bind fun r1 =>
  if r1.1 = 0 then some ((0 : Int32), r1.2) else
  if a2 = (-1 : Int32) then callW (fX12_lose_14 N a1 a2) r1.2 else
  (callW (pX12_isPart N a2) r1.2).bind fun r2 =>
  if r2.1 = 0 then some ((0 : Int32), r2.2) else
  callW (fX12_lose_14 N a1 a2) r2.2
noncomputable def mX12_lose (N : Nat) (as : List AV) (w : Wd) : Option (Int32 × Wd) := xS1 16 as fun t => xI1 t fun a1 t => xI1 t fun a2 t => xN1 t (callW (pX12_lose N a1 a2) w)
set_option maxRecDepth 100000 in
set_option maxHeartbeats 4000000 in
theorem kX12_lose : TK cX12_lose RX12 3 tX12_lose := ⟨by decide +kernel, wok_of [1602, 1664, 1670, 1670] (by decide +kernel) (by decide +kernel)⟩
set_option maxRecDepth 100000 in
set_option maxHeartbeats 4000000 in
theorem sX12_lose_14 {N : Nat} {X : XT} (G : GX X cX12_lose RX12) (hn : xnL X = 3) (hC : CRs X tX12_lose (oF [(mX12_isPerson N), (mX12_isPart N), (mX12_isThere N)]) (oF []) (oF [(mX12_remember N)])) {r : Int32 × Wd} (hr : RTZ X cX12_lose r) (a1 : Int32) (a2 : Int32) : ∀ (w : Wd), fX12_lose_14 N a1 a2 w = some r → WW X (pcAt tX12_lose 14) [some (.inr (.inr (16, 0))), some (.inl a1), some (.inl a2)] [] w := by
  intro w h
  refine run_sound (r := r) (X := X) (cc := cX12_lose) (own := RX12) (tab := tX12_lose) G (by rw [hn]; exact kX12_lose) (oI := (oF [(mX12_isPerson N), (mX12_isPart N), (mX12_isThere N)])) (oL := (oF [])) (oV := (oF [(mX12_remember N)])) (rI := retZ) (rL := (fun _ _ => none)) (rV := (fun _ => none))
    (K := (fun j ls st w => none)) hr (fun _ _ _ _ hx => by cases hx) (fun _ _ _ hx => by cases hx) hC (fun ls => lsb [some (.inr (.inr (16, 0))), some (.inl a1), some (.inl a2)] 0 ls) (keepsP_of rfl) ?_ 40 14 [some (.inr (.inr (16, 0))), some (.inl a1), some (.inl a2)] [] w ?_ h
  · intro j ls st w hfx h
    obtain ⟨e0, e1, e2, -⟩ : _ = _ ∧ _ = _ ∧ _ = _ ∧ True := hfx
    try dsimp only at h
    cases h
  · exact (show _ = _ ∧ _ = _ ∧ _ = _ ∧ True from ⟨rfl, rfl, rfl, trivial⟩)
set_option maxRecDepth 100000 in
set_option maxHeartbeats 4000000 in
theorem crX12_lose {N : Nat} {X : XT} (G : GX X cX12_lose RX12) (hR : xR X = rmL 2) : CRs X tX12_lose (oF [(mX12_isPerson N), (mX12_isPart N), (mX12_isThere N)]) (oF []) (oF [(mX12_remember N)]) := by
  have hl : tX12_lose.filter isInv = [(7, .invokevirtual 463, 0, 0, 2, 0, 0, []), (20, .invokevirtual 473, 0, 1, 2, 0, 0, []), (33, .invokevirtual 456, 0, 2, 4, 0, 0, []), (50, .invokevirtual 504, 0, 0, 4, 0, 0, [(0, 0), (0, 0)])] := rfl
  intro e he
  rw [hl] at he
  simp only [List.mem_cons, List.not_mem_nil, or_false] at he
  rcases he with rfl | rfl | rfl | rfl
  · exact crI_V (idx := 463) G (by decide +kernel) (MX12_isPerson N) (cw_of (ps := [2080, 2082, 106, 164, 2083]) (by decide +kernel) (by decide +kernel)) ⟨by decide +kernel, by decide +kernel, by decide +kernel⟩ (by unfold rmOk; rw [hR]; exact ⟨by decide, by decide⟩)
  · exact crI_V (idx := 473) G (by decide +kernel) (MX12_isPart N) (cw_of (ps := [2104, 2106, 111, 164, 2107]) (by decide +kernel) (by decide +kernel)) ⟨by decide +kernel, by decide +kernel, by decide +kernel⟩ (by unfold rmOk; rw [hR]; exact ⟨by decide, by decide⟩)
  · exact crI_V (idx := 456) G (by decide +kernel) (MX12_isThere N) (cw_of (ps := [2088, 2090, 108, 164, 2091]) (by decide +kernel) (by decide +kernel)) ⟨by decide +kernel, by decide +kernel, by decide +kernel⟩ (by unfold rmOk; rw [hR]; exact ⟨by decide, by decide⟩)
  · exact crV_V (idx := 504) G (by decide +kernel) (MX12_remember N) (cw_of (ps := [2165, 2167, 118, 164, 2168]) (by decide +kernel) (by decide +kernel)) ⟨by decide +kernel, by decide +kernel, by decide +kernel⟩ (by unfold rmOk; rw [hR]; exact ⟨by decide, by decide⟩)
set_option maxRecDepth 100000 in
set_option maxHeartbeats 4000000 in
theorem MX12_lose (N : Nat) : SndI yX12_lose cX12_lose 3 (some .boolean) 2 3 true (mX12_lose N) := by
  refine SndI.ofZ tX12_lose (by decide +kernel) rfl rfl ?_ ?_
  · intro as w x h
    obtain ⟨t1, rfl, h_1⟩ := xS1_some h
    obtain ⟨a1, t2, rfl, h_2⟩ := xI1_some h_1
    obtain ⟨a2, t3, rfl, h_3⟩ := xI1_some h_2
    obtain ⟨rfl, h_4⟩ := xN1_some h_3
    clear h h_1 h_2 h_3
    have h := h_4
    rw [callW_eq] at h
    exact ⟨fun _ => ⟨_, _, _, rfl, rfl, _, rfl, rfl⟩, rfl, Nat.le_of_ble_eq_true rfl⟩
  · intro X G hn hR as w r h hr
    have hC := crX12_lose (N := N) G hR
    obtain ⟨t1, rfl, h_1⟩ := xS1_some h
    obtain ⟨a1, t2, rfl, h_2⟩ := xI1_some h_1
    obtain ⟨a2, t3, rfl, h_3⟩ := xI1_some h_2
    obtain ⟨rfl, h_4⟩ := xN1_some h_3
    clear h h_1 h_2 h_3
    have h := h_4
    rw [callW_eq] at h
    refine run_sound (r := r) (X := X) (cc := cX12_lose) (own := RX12) (tab := tX12_lose) G (by rw [hn]; exact kX12_lose) (oI := (oF [(mX12_isPerson N), (mX12_isPart N), (mX12_isThere N)])) (oL := (oF [])) (oV := (oF [(mX12_remember N)])) (rI := retZ) (rL := (fun _ _ => none)) (rV := (fun _ => none))
      (K := (fun j ls st w => if j = 14 then (st0 st (callW (fX12_lose_14 N a1 a2) w)) else none)) hr (fun _ _ _ _ hx => by cases hx) (fun _ _ _ hx => by cases hx) hC (fun ls => lsb [some (.inr (.inr (16, 0))), some (.inl a1), some (.inl a2)] 0 ls) (keepsP_of rfl) ?_ 40 0 [some (.inr (.inr (16, 0))), some (.inl a1), some (.inl a2)] [] w ?_ h
    · intro j ls st w hfx h
      obtain ⟨e0, e1, e2, -⟩ : _ = _ ∧ _ = _ ∧ _ = _ ∧ True := hfx
      try dsimp only at h
      by_cases hj : j = 14
      · subst hj
        rw [if_pos rfl] at h
        obtain ⟨rfl, h_1⟩ := st0_some h
        clear h
        have h := h_1
        try rw [callW_eq] at h
        exact WW.le (a := [some (.inr (.inr (16, 0))), some (.inl a1), some (.inl a2)]) (by rw [hn]; rfl) (show _ = _ ∧ _ = _ ∧ _ = _ ∧ True from ⟨e0, e1, e2, trivial⟩) (sX12_lose_14 G hn hC hr a1 a2 w h)
      rw [if_neg hj] at h
      cases h
    · exact (show _ = _ ∧ _ = _ ∧ _ = _ ∧ True from ⟨rfl, rfl, rfl, trivial⟩)
-- MoorGuidesModel.isSpoilt(II)Z
def tX12_isSpoilt : List EN := [
  (0, .iconst 0, 0, 0, 0, 0, 0, []), (1, .istore_n 3, 0, 0, 0, 0, 0, []), (2, .iload_n 3, 3, 0, 0, 0, 0, []), (3, .aload_n 0, 0, 0, 0, 0, 0, []),
  (4, .getfield 298, 0, 12, 13, 0, 0, []), (7, .if_icmp .ge 68, 0, 47, 0, 0, 0, []), (10, .iload_n 3, 0, 0, 0, 0, 0, []), (11, .iload_n 2, 0, 0, 0, 0, 0, []),
  (12, .if_icmp .eq 57, 0, 45, 0, 0, 0, []), (15, .aload_n 0, 0, 0, 0, 0, 0, []), (16, .getfield 112, 0, 12, 70, 0, 0, []), (19, .bipush 6, 0, 0, 0, 6, 0, []),
  (21, .iload_n 1, 0, 0, 0, 0, 0, []), (22, .imul, 0, 0, 0, 0, 0, []), (23, .iload_n 3, 0, 0, 0, 0, 0, []), (24, .iadd, 0, 0, 0, 0, 0, []),
  (25, .iaload, 0, 0, 0, 0, 0, []), (26, .ifCond .lt 43, 0, 45, 0, 0, 0, []), (29, .aload_n 0, 0, 0, 0, 0, 0, []), (30, .getfield 118, 0, 12, 72, 0, 0, []),
  (33, .bipush 8, 0, 0, 0, 8, 0, []), (35, .aload_n 0, 0, 0, 0, 0, 0, []), (36, .getfield 112, 0, 12, 70, 0, 0, []), (39, .bipush 6, 0, 0, 0, 6, 0, []),
  (41, .iload_n 1, 0, 0, 0, 0, 0, []), (42, .imul, 0, 0, 0, 0, 0, []), (43, .iload_n 2, 0, 0, 0, 0, 0, []), (44, .iadd, 0, 0, 0, 0, 0, []),
  (45, .iaload, 0, 0, 0, 0, 0, []), (46, .imul, 0, 0, 0, 0, 0, []), (47, .aload_n 0, 0, 0, 0, 0, 0, []), (48, .getfield 112, 0, 12, 70, 0, 0, []),
  (51, .bipush 6, 0, 0, 0, 6, 0, []), (53, .iload_n 1, 0, 0, 0, 0, 0, []), (54, .imul, 0, 0, 0, 0, 0, []), (55, .iload_n 3, 0, 0, 0, 0, 0, []),
  (56, .iadd, 0, 0, 0, 0, 0, []), (57, .iaload, 0, 0, 0, 0, 0, []), (58, .iadd, 0, 0, 0, 0, 0, []), (59, .iaload, 0, 0, 0, 0, 0, []),
  (60, .aload_n 0, 0, 0, 0, 0, 0, []), (61, .getfield 310, 0, 12, 17, 0, 0, []), (64, .if_icmp .gt 5, 0, 45, 0, 0, 0, []), (67, .iconst 1, 0, 0, 0, 1, 0, []),
  (68, .ireturn, 0, 0, 0, 0, 0, []), (69, .iinc 3 1, 0, 0, 0, 1, 0, []), (72, .goto (-70), 0, 2, 0, 0, 0, []), (75, .iconst 0, 0, 0, 0, 0, 0, []),
  (76, .ireturn, 0, 0, 0, 0, 0, [])]
noncomputable def fX12_isSpoilt_2 (N : Nat) (a1 : Int32) (a2 : Int32) : Nat → Int32 → Wd → Option (Int32 × Wd)
  | 0, _, _ => none
  | n + 1, v3, w =>
    if v3 < (gI w 16 0 13) then
      if v3 = a2 then callW (fX12_isSpoilt_2 N a1 a2 n (v3 + (1 : Int32))) w else
      (ldI w 105 0 (((6 : Int32) * a1) + v3) 12).bind fun x1 =>
      if x1 < 0 then callW (fX12_isSpoilt_2 N a1 a2 n (v3 + (1 : Int32))) w else
      (ldI w 105 0 (((6 : Int32) * a1) + a2) 12).bind fun x2 =>
      (ldI w 105 0 (((6 : Int32) * a1) + v3) 12).bind fun x3 =>
      (ldI w 107 0 (((8 : Int32) * x2) + x3) 64).bind fun x4 =>
      if (gI w 16 0 17) < x4 then callW (fX12_isSpoilt_2 N a1 a2 n (v3 + (1 : Int32))) w else
      some ((1 : Int32), w)
    else
    some ((0 : Int32), w)
noncomputable def pX12_isSpoilt (N : Nat) (a1 : Int32) (a2 : Int32) (w : Wd) : Option (Int32 × Wd) :=
  callW (fX12_isSpoilt_2 N a1 a2 N (0 : Int32)) w
noncomputable def mX12_isSpoilt (N : Nat) (as : List AV) (w : Wd) : Option (Int32 × Wd) := xS1 16 as fun t => xI1 t fun a1 t => xI1 t fun a2 t => xN1 t (callW (pX12_isSpoilt N a1 a2) w)
set_option maxRecDepth 100000 in
set_option maxHeartbeats 4000000 in
theorem kX12_isSpoilt : TK cX12_isSpoilt RX12 4 tX12_isSpoilt := ⟨by decide +kernel, wok_of [1613, 1670, 1672, 1670, 1670, 1617] (by decide +kernel) (by decide +kernel)⟩
set_option maxRecDepth 100000 in
set_option maxHeartbeats 4000000 in
theorem sX12_isSpoilt_2 {N : Nat} {X : XT} (G : GX X cX12_isSpoilt RX12) (hn : xnL X = 4) (hC : CRs X tX12_isSpoilt (oF []) (oF []) (oF [])) {r : Int32 × Wd} (hr : RTZ X cX12_isSpoilt r) (a1 : Int32) (a2 : Int32) : ∀ (n : Nat) (v3 : Int32) (w : Wd), fX12_isSpoilt_2 N a1 a2 n v3 w = some r → WW X (pcAt tX12_isSpoilt 2) [some (.inr (.inr (16, 0))), some (.inl a1), some (.inl a2), some (.inl v3)] [] w := by
  intro n
  induction n with
  | zero => intro v3 w h; cases h
  | succ n ih =>
    intro v3 w h
    refine run_sound (r := r) (X := X) (cc := cX12_isSpoilt) (own := RX12) (tab := tX12_isSpoilt) G (by rw [hn]; exact kX12_isSpoilt) (oI := (oF [])) (oL := (oF [])) (oV := (oF [])) (rI := retZ) (rL := (fun _ _ => none)) (rV := (fun _ => none))
      (K := (fun j ls st w => if j = 2 then (lgI ls 3 fun v3 => st0 st (callW (fX12_isSpoilt_2 N a1 a2 n v3) w)) else none)) hr (fun _ _ _ _ hx => by cases hx) (fun _ _ _ hx => by cases hx) hC (fun ls => lsb [some (.inr (.inr (16, 0))), some (.inl a1), some (.inl a2), none] 0 ls) (keepsP_of rfl) ?_ 51 2 [some (.inr (.inr (16, 0))), some (.inl a1), some (.inl a2), some (.inl v3)] [] w ?_ h
    · intro j ls st w hfx h
      obtain ⟨e0, e1, e2, -⟩ : _ = _ ∧ _ = _ ∧ _ = _ ∧ True := hfx
      try dsimp only at h
      by_cases hj : j = 2
      · subst hj
        rw [if_pos rfl] at h
        obtain ⟨v3, e3, h_1⟩ := lgI_some h
        obtain ⟨rfl, h_2⟩ := st0_some h_1
        clear h h_1
        have h := h_2
        try rw [callW_eq] at h
        exact WW.le (a := [some (.inr (.inr (16, 0))), some (.inl a1), some (.inl a2), some (.inl v3)]) (by rw [hn]; rfl) (show _ = _ ∧ _ = _ ∧ _ = _ ∧ _ = _ ∧ True from ⟨e0, e1, e2, e3, trivial⟩) (ih v3 w h)
      rw [if_neg hj] at h
      cases h
    · exact (show _ = _ ∧ _ = _ ∧ _ = _ ∧ True from ⟨rfl, rfl, rfl, trivial⟩)
set_option maxRecDepth 100000 in
set_option maxHeartbeats 4000000 in
theorem crX12_isSpoilt {N : Nat} {X : XT} (G : GX X cX12_isSpoilt RX12) (hR : xR X = rmL 1) : CRs X tX12_isSpoilt (oF []) (oF []) (oF []) := by
  have hl : tX12_isSpoilt.filter isInv = [] := rfl
  intro e he
  rw [hl] at he
  cases he
set_option maxRecDepth 100000 in
set_option maxHeartbeats 4000000 in
theorem MX12_isSpoilt (N : Nat) : SndI yX12_isSpoilt cX12_isSpoilt 4 (some .boolean) 1 3 true (mX12_isSpoilt N) := by
  refine SndI.ofZ tX12_isSpoilt (by decide +kernel) rfl rfl ?_ ?_
  · intro as w x h
    obtain ⟨t1, rfl, h_1⟩ := xS1_some h
    obtain ⟨a1, t2, rfl, h_2⟩ := xI1_some h_1
    obtain ⟨a2, t3, rfl, h_3⟩ := xI1_some h_2
    obtain ⟨rfl, h_4⟩ := xN1_some h_3
    clear h h_1 h_2 h_3
    have h := h_4
    rw [callW_eq] at h
    exact ⟨fun _ => ⟨_, _, _, rfl, rfl, _, rfl, rfl⟩, rfl, Nat.le_of_ble_eq_true rfl⟩
  · intro X G hn hR as w r h hr
    have hC := crX12_isSpoilt (N := N) G hR
    obtain ⟨t1, rfl, h_1⟩ := xS1_some h
    obtain ⟨a1, t2, rfl, h_2⟩ := xI1_some h_1
    obtain ⟨a2, t3, rfl, h_3⟩ := xI1_some h_2
    obtain ⟨rfl, h_4⟩ := xN1_some h_3
    clear h h_1 h_2 h_3
    have h := h_4
    rw [callW_eq] at h
    refine run_sound (r := r) (X := X) (cc := cX12_isSpoilt) (own := RX12) (tab := tX12_isSpoilt) G (by rw [hn]; exact kX12_isSpoilt) (oI := (oF [])) (oL := (oF [])) (oV := (oF [])) (rI := retZ) (rL := (fun _ _ => none)) (rV := (fun _ => none))
      (K := (fun j ls st w => if j = 2 then (lgI ls 3 fun v3 => st0 st (callW (fX12_isSpoilt_2 N a1 a2 N v3) w)) else none)) hr (fun _ _ _ _ hx => by cases hx) (fun _ _ _ hx => by cases hx) hC (fun ls => lsb [some (.inr (.inr (16, 0))), some (.inl a1), some (.inl a2), none] 0 ls) (keepsP_of rfl) ?_ 51 0 [some (.inr (.inr (16, 0))), some (.inl a1), some (.inl a2), none] [] w ?_ h
    · intro j ls st w hfx h
      obtain ⟨e0, e1, e2, -⟩ : _ = _ ∧ _ = _ ∧ _ = _ ∧ True := hfx
      try dsimp only at h
      by_cases hj : j = 2
      · subst hj
        rw [if_pos rfl] at h
        obtain ⟨v3, e3, h_1⟩ := lgI_some h
        obtain ⟨rfl, h_2⟩ := st0_some h_1
        clear h h_1
        have h := h_2
        try rw [callW_eq] at h
        exact WW.le (a := [some (.inr (.inr (16, 0))), some (.inl a1), some (.inl a2), some (.inl v3)]) (by rw [hn]; rfl) (show _ = _ ∧ _ = _ ∧ _ = _ ∧ _ = _ ∧ True from ⟨e0, e1, e2, e3, trivial⟩) (sX12_isSpoilt_2 G hn hC hr a1 a2 N v3 w h)
      rw [if_neg hj] at h
      cases h
    · exact (show _ = _ ∧ _ = _ ∧ _ = _ ∧ True from ⟨rfl, rfl, rfl, trivial⟩)

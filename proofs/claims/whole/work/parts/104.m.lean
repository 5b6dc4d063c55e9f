-- MoorGuides$Ordering.goOn(IIJ)V
def tX5_goOn : List EN := [
  (0, .iload_n 1, 0, 0, 0, 0, 0, []), (1, .aload_n 0, 0, 0, 0, 0, 0, []), (2, .getfield 59, 0, 5, 12, 0, 0, []), (5, .if_icmp .lt 26, 0, 17, 0, 0, 0, []),
  (8, .aload_n 0, 0, 0, 0, 0, 0, []), (9, .lload_n 3, 0, 0, 0, 0, 0, []), (10, .putfield 75, 0, 5, 10, 0, 0, []), (13, .aload_n 0, 0, 0, 0, 0, 0, []),
  (14, .getfield 34, 0, 5, 9, 0, 0, []), (17, .iconst 0, 0, 0, 0, 0, 0, []), (18, .aload_n 0, 0, 0, 0, 0, 0, []), (19, .getfield 37, 0, 5, 11, 0, 0, []),
  (22, .iconst 0, 0, 0, 0, 0, 0, []), (23, .aload_n 0, 0, 0, 0, 0, 0, []), (24, .getfield 59, 0, 5, 12, 0, 0, []), (27, .invokestatic 134, 0, 0, 5, 0, 0, [(0, 0), (0, 0), (0, 0)]),
  (30, .return_, 0, 0, 0, 0, 0, []), (31, .aload_n 0, 0, 0, 0, 0, 0, []), (32, .iload_n 1, 0, 0, 0, 0, 0, []), (33, .iload_n 2, 0, 0, 0, 0, 0, []),
  (34, .invokevirtual 140, 0, 0, 3, 0, 0, []), (37, .istore 5, 0, 0, 0, 0, 0, []), (39, .iconst 0, 0, 0, 0, 0, 0, []), (40, .istore 6, 0, 0, 0, 0, 0, []),
  (42, .iload 6, 25, 0, 0, 0, 0, []), (44, .aload_n 0, 0, 0, 0, 0, 0, []), (45, .getfield 40, 0, 5, 0, 0, 0, []), (48, .getfield 91, 0, 9, 0, 0, 0, []),
  (51, .getfield 95, 0, 4, 0, 0, 0, []), (54, .if_icmp .ge 109, 0, 92, 0, 0, 0, []), (57, .aload_n 0, 0, 0, 0, 0, 0, []), (58, .getfield 44, 0, 5, 2, 0, 0, []),
  (61, .iload_n 2, 0, 0, 0, 0, 0, []), (62, .iconst (-1), 0, 0, 0, (-1), 0, []), (63, .ixor, 0, 0, 0, 0, 0, []), (64, .iand, 0, 0, 0, 0, 0, []),
  (65, .iconst 1, 0, 0, 0, 1, 0, []), (66, .iload 6, 0, 0, 0, 0, 0, []), (68, .ishl, 0, 0, 0, 0, 0, []), (69, .iand, 0, 0, 0, 0, 0, []),
  (70, .ifCond .eq 87, 0, 90, 0, 0, 0, []), (73, .aload_n 0, 0, 0, 0, 0, 0, []), (74, .getfield 40, 0, 5, 0, 0, 0, []), (77, .getfield 91, 0, 9, 0, 0, 0, []),
  (80, .getfield 111, 0, 4, 3, 0, 0, []), (83, .iload 6, 0, 0, 0, 0, 0, []), (85, .iaload, 0, 0, 0, 0, 0, []), (86, .iload 5, 0, 0, 0, 0, 0, []),
  (88, .iand, 0, 0, 0, 0, 0, []), (89, .invokestatic 47, 0, 1, 1, 0, 0, []), (92, .istore 7, 0, 0, 0, 0, 0, []), (94, .lload_n 3, 0, 0, 0, 0, 0, []),
  (95, .aload_n 0, 0, 0, 0, 0, 0, []), (96, .getfield 15, 0, 5, 3, 0, 0, []), (99, .iload_n 1, 0, 0, 0, 0, 0, []), (100, .iload 6, 0, 0, 0, 0, 0, []),
  (102, .iload 7, 0, 0, 0, 0, 0, []), (104, .invokestatic 114, 0, 2, 3, 0, 0, []), (107, .iaload, 0, 0, 0, 0, 0, []), (108, .i2l, 0, 0, 0, 0, 0, []),
  (109, .lmul, 0, 0, 0, 0, 0, []), (110, .lstore 8, 0, 0, 0, 0, 0, []), (112, .iload_n 2, 0, 0, 0, 0, 0, []), (113, .iconst 1, 0, 0, 0, 1, 0, []),
  (114, .iload 6, 0, 0, 0, 0, 0, []), (116, .ishl, 0, 0, 0, 0, 0, []), (117, .ior, 0, 0, 0, 0, 0, []), (118, .istore 10, 0, 0, 0, 0, 0, []),
  (120, .lload 8, 0, 0, 0, 0, 0, []), (122, .aload_n 0, 0, 0, 0, 0, 0, []), (123, .getfield 30, 0, 5, 8, 0, 0, []), (126, .iload 10, 0, 0, 0, 0, 0, []),
  (128, .laload, 0, 0, 0, 0, 0, []), (129, .lmul, 0, 0, 0, 0, 0, []), (130, .aload_n 0, 0, 0, 0, 0, 0, []), (131, .getfield 75, 0, 5, 10, 0, 0, []),
  (134, .lcmp, 0, 0, 0, 0, 0, []), (135, .ifCond .le 22, 0, 90, 0, 0, 0, []), (138, .aload_n 0, 0, 0, 0, 0, 0, []), (139, .getfield 34, 0, 5, 9, 0, 0, []),
  (142, .iload_n 1, 0, 0, 0, 0, 0, []), (143, .iload 6, 0, 0, 0, 0, 0, []), (145, .iastore, 0, 0, 0, 0, 0, []), (146, .aload_n 0, 0, 0, 0, 0, 0, []),
  (147, .iload_n 1, 0, 0, 0, 0, 0, []), (148, .iconst 1, 0, 0, 0, 1, 0, []), (149, .iadd, 0, 0, 0, 0, 0, []), (150, .iload 10, 0, 0, 0, 0, 0, []),
  (152, .lload 8, 0, 0, 0, 0, 0, []), (154, .invokevirtual 79, 0, 0, 4, 0, 0, [(0, 0), (0, 0)]), (157, .iinc 6 1, 0, 0, 0, 1, 0, []), (160, .goto (-118), 0, 24, 0, 0, 0, []),
  (163, .return_, 0, 0, 0, 0, 0, [])]
noncomputable def fX5_goOn_24 (N : Nat) (rec : Int32 → Int32 → Int64 → Wd → Option Wd) (a1 : Int32) (a2 : Int32) (a3 : Int64) : Nat → Int32 → Int32 → Wd → Option (Wd)
  | 0, _, _, _ => none
  | n + 1, v5, v6, w =>
    if v6 < (gI w 8 (gR w 13 0 0) 0) then
      if (((gI w 9 0 2) &&& (a2 ^^^ (-1 : Int32))) &&& ((1 : Int32) <<< (v6 &&& (31 : Int32)))) = 0 then callW (fX5_goOn_24 N rec a1 a2 a3 n v5 (v6 + (1 : Int32))) w else
      (ldI w 32 (gR w 13 0 0) v6 8).bind fun x1 =>
      (callW (pJ6_bitCount_0f7a4 N (x1 &&& v5)) w).bind fun r2 =>
      (callW (pX5_slot N a1 v6 r2.1) r2.2).bind fun r3 =>
      (ldI r3.2 40 0 r3.1 576).bind fun x4 =>
      (ldL r3.2 45 0 (a2 ||| ((1 : Int32) <<< (v6 &&& (31 : Int32)))) 256).bind fun x5 =>
      if 0 < (lg_cmp ((a3 * x4.toInt64) * x5) (gL r3.2 9 0 10)) then
        (stI r3.2 46 0 a1 8 v6).bind fun w6 =>
        (callW (rec (a1 + (1 : Int32)) (a2 ||| ((1 : Int32) <<< (v6 &&& (31 : Int32)))) (a3 * x4.toInt64)) w6).bind fun w7 =>
        callW (fX5_goOn_24 N rec a1 a2 a3 n v5 (v6 + (1 : Int32))) w7
      else
      callW (fX5_goOn_24 N rec a1 a2 a3 n v5 (v6 + (1 : Int32))) r3.2
    else
    some w
noncomputable def pX5_goOnB (N : Nat) (rec : Int32 → Int32 → Int64 → Wd → Option Wd) (a1 : Int32) (a2 : Int32) (a3 : Int64) (w : Wd) : Option (Wd) :=
  if a1 < (gI w 9 0 12) then
    (callW (pX5_knownAt N a1 a2) w).bind fun r1 =>
    callW (fX5_goOn_24 N rec a1 a2 a3 N r1.1 (0 : Int32)) r1.2
  else
  (cpI (setL w 9 0 10 a3) 46 0 (0 : Int32) 8 47 0 (0 : Int32) 8 (gI (setL w 9 0 10 a3) 9 0 12)).bind fun w2 =>
  some w2
noncomputable def mX5_goOnR (rec : Int32 → Int32 → Int64 → Wd → Option Wd) (as : List AV) (w : Wd) : Option Wd := xS1 9 as fun t => xI1 t fun a1 t => xI1 t fun a2 t => xL1 t fun a3 t => xN1 t (callW (rec a1 a2 a3) w)
noncomputable def pX5_goOn (N : Nat) : Nat → Int32 → Int32 → Int64 → Wd → Option Wd
  | 0 => fun _ _ _ _ => none
  | d + 1 => pX5_goOnB N (pX5_goOn N d)
noncomputable def mX5_goOn (N d : Nat) : List AV → Wd → Option Wd := mX5_goOnR (pX5_goOn N d)
set_option maxRecDepth 100000 in
set_option maxHeartbeats 4000000 in
theorem kX5_goOn : TK cX5_goOn RX5 11 tX5_goOn := ⟨by decide +kernel, wok_of [649, 646, 645, 647, 649, 1346, 1127, 1126, 172, 636, 520, 260, 638, 636, 520, 272, 639, 644, 646, 645] (by decide +kernel) (by decide +kernel)⟩
set_option maxRecDepth 100000 in
set_option maxHeartbeats 4000000 in
theorem sX5_goOn_24 {N : Nat} {rec : Int32 → Int32 → Int64 → Wd → Option Wd} {X : XT} (G : GX X cX5_goOn RX5) (hn : xnL X = 11) (hC : CRs X tX5_goOn (oF [(mX5_knownAt N), (mJ6_bitCount_0f7a4 N), (mX5_slot N)]) (oF []) (oF [(mX5_goOnR rec)])) {r : Wd} (hr : RTV X cX5_goOn r) (a1 : Int32) (a2 : Int32) (a3 : Int64) : ∀ (n : Nat) (v5 : Int32) (v6 : Int32) (w : Wd), fX5_goOn_24 N rec a1 a2 a3 n v5 v6 w = some r → WW X (pcAt tX5_goOn 24) [some (.inr (.inr (9, 0))), some (.inl a1), some (.inl a2), some (.inr (.inl a3)), none, some (.inl v5), some (.inl v6), none, none, none, none] [] w := by
  intro n
  induction n with
  | zero => intro v5 v6 w h; cases h
  | succ n ih =>
    intro v5 v6 w h
    refine run_sound (r := r) (X := X) (cc := cX5_goOn) (own := RX5) (tab := tX5_goOn) G (by rw [hn]; exact kX5_goOn) (oI := (oF [(mX5_knownAt N), (mJ6_bitCount_0f7a4 N), (mX5_slot N)])) (oL := (oF [])) (oV := (oF [(mX5_goOnR rec)])) (rI := (fun _ _ => none)) (rL := (fun _ _ => none)) (rV := (fun w => some w))
      (K := (fun j ls st w => if j = 24 then (lgI ls 5 fun v5 => lgI ls 6 fun v6 => st0 st (callW (fX5_goOn_24 N rec a1 a2 a3 n v5 v6) w)) else none)) (fun _ _ _ _ hx => by cases hx) (fun _ _ _ _ hx => by cases hx) (fun w pc ls hx hd => hr w pc ls (Option.some.inj hx) hd) hC (fun ls => lsb [some (.inr (.inr (9, 0))), some (.inl a1), some (.inl a2), some (.inr (.inl a3)), none, none, none, none, none, none, none] 0 ls) (keepsP_of rfl) ?_ 95 24 [some (.inr (.inr (9, 0))), some (.inl a1), some (.inl a2), some (.inr (.inl a3)), none, some (.inl v5), some (.inl v6), none, none, none, none] [] w ?_ h
    · intro j ls st w hfx h
      obtain ⟨e0, e1, e2, e3, -⟩ : _ = _ ∧ _ = _ ∧ _ = _ ∧ _ = _ ∧ True := hfx
      try dsimp only at h
      by_cases hj : j = 24
      · subst hj
        rw [if_pos rfl] at h
        obtain ⟨v5, e5, h_1⟩ := lgI_some h
        obtain ⟨v6, e6, h_2⟩ := lgI_some h_1
        obtain ⟨rfl, h_3⟩ := st0_some h_2
        clear h h_1 h_2
        have h := h_3
        try rw [callW_eq] at h
        exact WW.le (a := [some (.inr (.inr (9, 0))), some (.inl a1), some (.inl a2), some (.inr (.inl a3)), none, some (.inl v5), some (.inl v6), none, none, none, none]) (by rw [hn]; rfl) (show _ = _ ∧ _ = _ ∧ _ = _ ∧ _ = _ ∧ _ = _ ∧ _ = _ ∧ True from ⟨e0, e1, e2, e3, e5, e6, trivial⟩) (ih v5 v6 w h)
      rw [if_neg hj] at h
      cases h
    · exact (show _ = _ ∧ _ = _ ∧ _ = _ ∧ _ = _ ∧ True from ⟨rfl, rfl, rfl, rfl, trivial⟩)
set_option maxRecDepth 100000 in
set_option maxHeartbeats 4000000 in
theorem crX5_goOn {N d : Nat} {rec : Int32 → Int32 → Int64 → Wd → Option Wd} {X : XT} (hS : SndV yX5_goOn cX5_goOn 11 none (2 + d) 4 true (mX5_goOnR rec)) (G : GX X cX5_goOn RX5) (hR : xR X = rmL (2 + d + 1)) : CRs X tX5_goOn (oF [(mX5_knownAt N), (mJ6_bitCount_0f7a4 N), (mX5_slot N)]) (oF []) (oF [(mX5_goOnR rec)]) := by
  have hl : tX5_goOn.filter isInv = [(27, .invokestatic 134, 0, 0, 5, 0, 0, [(0, 0), (0, 0), (0, 0)]), (34, .invokevirtual 140, 0, 0, 3, 0, 0, []), (89, .invokestatic 47, 0, 1, 1, 0, 0, []), (104, .invokestatic 114, 0, 2, 3, 0, 0, []), (154, .invokevirtual 79, 0, 0, 4, 0, 0, [(0, 0), (0, 0)])] := rfl
  intro e he
  rw [hl] at he
  simp only [List.mem_cons, List.not_mem_nil, or_false] at he
  rcases he with rfl | rfl | rfl | rfl | rfl
  · trivial
  · exact crI_V (idx := 140) G (by decide +kernel) (MX5_knownAt N) (cw_of (ps := [1347, 1349, 64, 161, 1350]) (by decide +kernel) (by decide +kernel)) ⟨by decide +kernel, by decide +kernel, by decide +kernel⟩ (by unfold rmOk; rw [hR]; simp only [rmL]; omega)
  · exact crI_S (idx := 47) G (by decide +kernel) (MJ6_bitCount_0f7a4 N) (cw_of (ps := [1305, 1071, 171, 1072]) (by decide +kernel) (by decide +kernel)) ⟨by decide +kernel, by decide +kernel, by decide +kernel⟩ (by unfold rmOk; rw [hR]; simp only [rmL]; omega)
  · exact crI_S (idx := 114) G (by decide +kernel) (MX5_slot N) (cw_of (ps := [1322, 1323, 161, 1324]) (by decide +kernel) (by decide +kernel)) ⟨by decide +kernel, by decide +kernel, by decide +kernel⟩ (by unfold rmOk; rw [hR]; simp only [rmL]; omega)
  · exact crV_V (idx := 79) G (by decide +kernel) hS (cw_of (ps := [1342, 1344, 63, 161, 1345]) (by decide +kernel) (by decide +kernel)) ⟨by decide +kernel, by decide +kernel, by decide +kernel⟩ (by unfold rmOk; rw [hR]; simp only [rmL]; omega)
set_option maxRecDepth 100000 in
set_option maxHeartbeats 4000000 in
theorem MX5_goOnB {N d : Nat} {rec : Int32 → Int32 → Int64 → Wd → Option Wd} (hS : SndV yX5_goOn cX5_goOn 11 none (2 + d) 4 true (mX5_goOnR rec)) : SndV yX5_goOn cX5_goOn 11 none (2 + d + 1) 4 true (mX5_goOnR (pX5_goOnB N rec)) := by
  refine SndV.of tX5_goOn (by decide +kernel) rfl rfl ?_ ?_
  · intro as w x h
    obtain ⟨t1, rfl, h_1⟩ := xS1_some h
    obtain ⟨a1, t2, rfl, h_2⟩ := xI1_some h_1
    obtain ⟨a2, t3, rfl, h_3⟩ := xI1_some h_2
    obtain ⟨a3, t4, rfl, h_4⟩ := xL1_some h_3
    obtain ⟨rfl, h_5⟩ := xN1_some h_4
    clear h h_1 h_2 h_3 h_4
    have h := h_5
    rw [callW_eq] at h
    exact ⟨fun _ => ⟨_, _, _, rfl, rfl, _, rfl, rfl⟩, rfl, Nat.le_of_ble_eq_true rfl⟩
  · intro X G hn hR as w r h hr
    have hC := crX5_goOn (N := N) hS G hR
    obtain ⟨t1, rfl, h_1⟩ := xS1_some h
    obtain ⟨a1, t2, rfl, h_2⟩ := xI1_some h_1
    obtain ⟨a2, t3, rfl, h_3⟩ := xI1_some h_2
    obtain ⟨a3, t4, rfl, h_4⟩ := xL1_some h_3
    obtain ⟨rfl, h_5⟩ := xN1_some h_4
    clear h h_1 h_2 h_3 h_4
    have h := h_5
    rw [callW_eq] at h
    refine run_sound (r := r) (X := X) (cc := cX5_goOn) (own := RX5) (tab := tX5_goOn) G (by rw [hn]; exact kX5_goOn) (oI := (oF [(mX5_knownAt N), (mJ6_bitCount_0f7a4 N), (mX5_slot N)])) (oL := (oF [])) (oV := (oF [(mX5_goOnR rec)])) (rI := (fun _ _ => none)) (rL := (fun _ _ => none)) (rV := (fun w => some w))
      (K := (fun j ls st w => if j = 24 then (lgI ls 5 fun v5 => lgI ls 6 fun v6 => st0 st (callW (fX5_goOn_24 N rec a1 a2 a3 N v5 v6) w)) else none)) (fun _ _ _ _ hx => by cases hx) (fun _ _ _ _ hx => by cases hx) (fun w pc ls hx hd => hr w pc ls (Option.some.inj hx) hd) hC (fun ls => lsb [some (.inr (.inr (9, 0))), some (.inl a1), some (.inl a2), some (.inr (.inl a3)), none, none, none, none, none, none, none] 0 ls) (keepsP_of rfl) ?_ 95 0 [some (.inr (.inr (9, 0))), some (.inl a1), some (.inl a2), some (.inr (.inl a3)), none, none, none, none, none, none, none] [] w ?_ h
    · intro j ls st w hfx h
      obtain ⟨e0, e1, e2, e3, -⟩ : _ = _ ∧ _ = _ ∧ _ = _ ∧ _ = _ ∧ True := hfx
      try dsimp only at h
      by_cases hj : j = 24
      · subst hj
        rw [if_pos rfl] at h
        obtain ⟨v5, e5, h_1⟩ := lgI_some h
        obtain ⟨v6, e6, h_2⟩ := lgI_some h_1
        obtain ⟨rfl, h_3⟩ := st0_some h_2
        clear h h_1 h_2
        have h := h_3
        try rw [callW_eq] at h
        exact WW.le (a := [some (.inr (.inr (9, 0))), some (.inl a1), some (.inl a2), some (.inr (.inl a3)), none, some (.inl v5), some (.inl v6), none, none, none, none]) (by rw [hn]; rfl) (show _ = _ ∧ _ = _ ∧ _ = _ ∧ _ = _ ∧ _ = _ ∧ _ = _ ∧ True from ⟨e0, e1, e2, e3, e5, e6, trivial⟩) (sX5_goOn_24 G hn hC hr a1 a2 a3 N v5 v6 w h)
      rw [if_neg hj] at h
      cases h
    · exact (show _ = _ ∧ _ = _ ∧ _ = _ ∧ _ = _ ∧ True from ⟨rfl, rfl, rfl, rfl, trivial⟩)
set_option maxRecDepth 100000 in
set_option maxHeartbeats 4000000 in
theorem MX5_goOn (N : Nat) : ∀ d, SndV yX5_goOn cX5_goOn 11 none (2 + d) 4 true (mX5_goOn N d)
  | 0 => by
    intro l cs ρ D aC sz as w x _ _ _ _ hf
    obtain ⟨t1, rfl, hf1⟩ := xS1_some hf
    obtain ⟨a1, t2, rfl, hf2⟩ := xI1_some hf1
    obtain ⟨a2, t3, rfl, hf3⟩ := xI1_some hf2
    obtain ⟨a3, t4, rfl, hf4⟩ := xL1_some hf3
    obtain ⟨rfl, hf5⟩ := xN1_some hf4
    rw [callW_eq] at hf5
    cases hf5
  | d + 1 => MX5_goOnB (MX5_goOn N d)
-- MoorGuides$Ordering.find(II)V
def tX5_find : List EN := [
  (0, .iload_n 1, 0, 0, 0, 0, 0, []), (1, .aload_n 0, 0, 0, 0, 0, 0, []), (2, .getfield 9, 0, 5, 1, 0, 0, []), (5, .if_icmp .ne 12, 0, 9, 0, 0, 0, []),
  (8, .iload_n 2, 0, 0, 0, 0, 0, []), (9, .aload_n 0, 0, 0, 0, 0, 0, []), (10, .getfield 44, 0, 5, 2, 0, 0, []), (13, .if_icmp .ne 4, 0, 9, 0, 0, 0, []),
  (16, .return_, 0, 0, 0, 0, 0, []), (17, .aload_n 0, 10, 0, 0, 0, 0, []), (18, .iload_n 1, 0, 0, 0, 0, 0, []), (19, .putfield 9, 0, 5, 1, 0, 0, []),
  (22, .aload_n 0, 0, 0, 0, 0, 0, []), (23, .iload_n 2, 0, 0, 0, 0, 0, []), (24, .putfield 44, 0, 5, 2, 0, 0, []), (27, .aload_n 0, 0, 0, 0, 0, 0, []),
  (28, .iload_n 2, 0, 0, 0, 0, 0, []), (29, .invokestatic 47, 0, 0, 1, 0, 0, []), (32, .bipush 8, 0, 0, 0, 8, 0, []), (34, .invokestatic 53, 0, 1, 2, 0, 0, []),
  (37, .putfield 59, 0, 5, 12, 0, 0, []), (40, .aload_n 0, 0, 0, 0, 0, 0, []), (41, .iload_n 2, 0, 0, 0, 0, 0, []), (42, .putfield 62, 0, 5, 7, 0, 0, []),
  (45, .iconst 0, 0, 0, 0, 0, 0, []), (46, .istore_n 3, 0, 0, 0, 0, 0, []), (47, .iload_n 3, 27, 0, 0, 0, 0, []), (48, .aload_n 0, 0, 0, 0, 0, 0, []),
  (49, .getfield 59, 0, 5, 12, 0, 0, []), (52, .if_icmp .ge 14, 0, 35, 0, 0, 0, []), (55, .aload_n 0, 0, 0, 0, 0, 0, []), (56, .iload_n 3, 0, 0, 0, 0, 0, []),
  (57, .invokevirtual 65, 0, 0, 2, 0, 0, [(0, 0), (0, 0)]), (60, .iinc 3 1, 0, 0, 0, 1, 0, []), (63, .goto (-16), 0, 26, 0, 0, 0, []), (66, .aload_n 0, 36, 0, 0, 0, 0, []),
  (67, .getfield 30, 0, 5, 8, 0, 0, []), (70, .arraylength, 0, 0, 0, 0, 0, []), (71, .iconst 1, 0, 0, 0, 1, 0, []), (72, .isub, 0, 0, 0, 0, 0, []),
  (73, .istore_n 3, 0, 0, 0, 0, 0, []), (74, .iload_n 3, 42, 0, 0, 0, 0, []), (75, .ifCond .lt 31, 0, 59, 0, 0, 0, []), (78, .iload_n 3, 0, 0, 0, 0, 0, []),
  (79, .aload_n 0, 0, 0, 0, 0, 0, []), (80, .getfield 44, 0, 5, 2, 0, 0, []), (83, .iconst (-1), 0, 0, 0, (-1), 0, []), (84, .ixor, 0, 0, 0, 0, 0, []),
  (85, .iand, 0, 0, 0, 0, 0, []), (86, .ifCond .ne 14, 0, 57, 0, 0, 0, []), (89, .aload_n 0, 0, 0, 0, 0, 0, []), (90, .getfield 30, 0, 5, 8, 0, 0, []),
  (93, .iload_n 3, 0, 0, 0, 0, 0, []), (94, .aload_n 0, 0, 0, 0, 0, 0, []), (95, .iload_n 3, 0, 0, 0, 0, 0, []), (96, .invokevirtual 69, 0, 0, 2, 0, 0, [(0, 0)]),
  (99, .lastore, 0, 0, 0, 0, 0, []), (100, .iinc 3 (-1), 0, 0, 0, (-1), 0, []), (103, .goto (-29), 0, 41, 0, 0, 0, []), (106, .aload_n 0, 60, 0, 0, 0, 0, []),
  (107, .ldc2_w 73, 0, 0, 0, 0, (-1), []), (110, .putfield 75, 0, 5, 10, 0, 0, []), (113, .aload_n 0, 0, 0, 0, 0, 0, []), (114, .iconst 0, 0, 0, 0, 0, 0, []),
  (115, .iconst 0, 0, 0, 0, 0, 0, []), (116, .lconst 1, 0, 0, 0, 0, 1, []), (117, .invokevirtual 79, 0, 1, 4, 0, 0, [(0, 0), (0, 0)]), (120, .return_, 0, 0, 0, 0, 0, [])]
noncomputable def fX5_find_59 (N : Nat) (w : Wd) : Option (Wd) :=
  (callW (pX5_goOn N 10 (0 : Int32) (0 : Int32) (1 : Int64)) (setL w 9 0 10 (-1 : Int64))).bind fun w1 =>
  some w1
noncomputable def fX5_find_41 (N : Nat) : Nat → (Wd → Option (Wd)) → Int32 → Wd → Option (Wd)
  | 0, _, _, _ => none
  | n + 1, k59, v3, w =>
    if v3 < 0 then k59 w else
    if (v3 &&& ((gI w 9 0 2) ^^^ (-1 : Int32))) = 0 then
      (callW (pX5_mostFrom N v3) w).bind fun r1 =>
      (stL r1.2 45 0 v3 256 r1.1).bind fun w2 =>
      callW (fX5_find_41 N n k59 (v3 + (-1 : Int32))) w2
    else
    callW (fX5_find_41 N n k59 (v3 + (-1 : Int32))) w
noncomputable def fX5_find_35 (N : Nat) (w : Wd) : Option (Wd) :=
  callW (fX5_find_41 N N (fX5_find_59 N) ((Int32.ofNat 256) - (1 : Int32))) w
noncomputable def fX5_find_26 (N : Nat) : Nat → (Wd → Option (Wd)) → Int32 → Wd → Option (Wd)
  | 0, _, _, _ => none
  | n + 1, k35, v3, w =>
    if v3 < (gI w 9 0 12) then
      (callW (pX5_prepare N v3) w).bind fun w1 =>
      callW (fX5_find_26 N n k35 (v3 + (1 : Int32))) w1
    else
    k35 w
noncomputable def fX5_find_9 (N : Nat) (a1 : Int32) (a2 : Int32) (w : Wd) : Option (Wd) :=
  (callW (pJ6_bitCount_0f7a4 N a2) (setI (setI w 9 0 1 a1) 9 0 2 a2)).bind fun r1 =>
  (callW (pJ9_min_7cf53 N r1.1 (8 : Int32)) r1.2).bind fun r2 =>
  callW (fX5_find_26 N N (fX5_find_35 N) (0 : Int32)) (setI (setI r2.2 9 0 12 r2.1) 9 0 7 a2)
noncomputable def pX5_find (N : Nat) (a1 : Int32) (a2 : Int32) (w : Wd) : Option (Wd) :=
  if a1 = (gI w 9 0 1) then
    if a2 = (gI w 9 0 2) then some w else
    callW (fX5_find_9 N a1 a2) w
  else
  callW (fX5_find_9 N a1 a2) w
noncomputable def mX5_find (N : Nat) (as : List AV) (w : Wd) : Option (Wd) := xS1 9 as fun t => xI1 t fun a1 t => xI1 t fun a2 t => xN1 t (callW (pX5_find N a1 a2) w)
set_option maxRecDepth 100000 in
set_option maxHeartbeats 4000000 in
theorem kX5_find : TK cX5_find RX5 4 tX5_find := ⟨by decide +kernel, wok_of [637, 638, 637, 638, 649, 643, 649, 644, 638, 644, 1341, 646] (by decide +kernel) (by decide +kernel)⟩
set_option maxRecDepth 100000 in
set_option maxHeartbeats 4000000 in
theorem sX5_find_59 {N : Nat} {X : XT} (G : GX X cX5_find RX5) (hn : xnL X = 4) (hC : CRs X tX5_find (oF [(mJ6_bitCount_0f7a4 N), (mJ9_min_7cf53 N)]) (oF [(mX5_mostFrom N)]) (oF [(mX5_prepare N), (mX5_goOn N 10)])) {r : Wd} (hr : RTV X cX5_find r) (a1 : Int32) (a2 : Int32) : ∀ (w : Wd), fX5_find_59 N w = some r → WW X (pcAt tX5_find 59) [some (.inr (.inr (9, 0))), some (.inl a1), some (.inl a2), none] [] w := by
  intro w h
  refine run_sound (r := r) (X := X) (cc := cX5_find) (own := RX5) (tab := tX5_find) G (by rw [hn]; exact kX5_find) (oI := (oF [(mJ6_bitCount_0f7a4 N), (mJ9_min_7cf53 N)])) (oL := (oF [(mX5_mostFrom N)])) (oV := (oF [(mX5_prepare N), (mX5_goOn N 10)])) (rI := (fun _ _ => none)) (rL := (fun _ _ => none)) (rV := (fun w => some w))
    (K := (fun j ls st w => none)) (fun _ _ _ _ hx => by cases hx) (fun _ _ _ _ hx => by cases hx) (fun w pc ls hx hd => hr w pc ls (Option.some.inj hx) hd) hC (fun ls => lsb [some (.inr (.inr (9, 0))), some (.inl a1), some (.inl a2), none] 0 ls) (keepsP_of rfl) ?_ 70 59 [some (.inr (.inr (9, 0))), some (.inl a1), some (.inl a2), none] [] w ?_ h
  · intro j ls st w hfx h
    obtain ⟨e0, e1, e2, -⟩ : _ = _ ∧ _ = _ ∧ _ = _ ∧ True := hfx
    try dsimp only at h
    cases h
  · exact (show _ = _ ∧ _ = _ ∧ _ = _ ∧ True from ⟨rfl, rfl, rfl, trivial⟩)
set_option maxRecDepth 100000 in
set_option maxHeartbeats 4000000 in
theorem sX5_find_41 {N : Nat} {X : XT} (G : GX X cX5_find RX5) (hn : xnL X = 4) (hC : CRs X tX5_find (oF [(mJ6_bitCount_0f7a4 N), (mJ9_min_7cf53 N)]) (oF [(mX5_mostFrom N)]) (oF [(mX5_prepare N), (mX5_goOn N 10)])) {r : Wd} (hr : RTV X cX5_find r) (a1 : Int32) (a2 : Int32) : ∀ (n : Nat) (k59 : Wd → Option (Wd)) (v3 : Int32) (w : Wd), fX5_find_41 N n k59 v3 w = some r → (∀ (w : Wd), k59 w = some r → WW X (pcAt tX5_find 59) [some (.inr (.inr (9, 0))), some (.inl a1), some (.inl a2), none] [] w) → WW X (pcAt tX5_find 41) [some (.inr (.inr (9, 0))), some (.inl a1), some (.inl a2), some (.inl v3)] [] w := by
  intro n
  induction n with
  | zero => intro k59 v3 w h h59; cases h
  | succ n ih =>
    intro k59 v3 w h h59
    refine run_sound (r := r) (X := X) (cc := cX5_find) (own := RX5) (tab := tX5_find) G (by rw [hn]; exact kX5_find) (oI := (oF [(mJ6_bitCount_0f7a4 N), (mJ9_min_7cf53 N)])) (oL := (oF [(mX5_mostFrom N)])) (oV := (oF [(mX5_prepare N), (mX5_goOn N 10)])) (rI := (fun _ _ => none)) (rL := (fun _ _ => none)) (rV := (fun w => some w))
      (K := (fun j ls st w => if j = 41 then (lgI ls 3 fun v3 => st0 st (callW (fX5_find_41 N n k59 v3) w)) else if j = 59 then (st0 st (k59 w)) else none)) (fun _ _ _ _ hx => by cases hx) (fun _ _ _ _ hx => by cases hx) (fun w pc ls hx hd => hr w pc ls (Option.some.inj hx) hd) hC (fun ls => lsb [some (.inr (.inr (9, 0))), some (.inl a1), some (.inl a2), none] 0 ls) (keepsP_of rfl) ?_ 70 41 [some (.inr (.inr (9, 0))), some (.inl a1), some (.inl a2), some (.inl v3)] [] w ?_ h
    · intro j ls st w hfx h
      obtain ⟨e0, e1, e2, -⟩ : _ = _ ∧ _ = _ ∧ _ = _ ∧ True := hfx
      try dsimp only at h
      by_cases hj : j = 41
      · subst hj
        rw [if_pos rfl] at h
        obtain ⟨v3, e3, h_1⟩ := lgI_some h
        obtain ⟨rfl, h_2⟩ := st0_some h_1
        clear h h_1
        have h := h_2
        try rw [callW_eq] at h
        exact WW.le (a := [some (.inr (.inr (9, 0))), some (.inl a1), some (.inl a2), some (.inl v3)]) (by rw [hn]; rfl) (show _ = _ ∧ _ = _ ∧ _ = _ ∧ _ = _ ∧ True from ⟨e0, e1, e2, e3, trivial⟩) (ih k59 v3 w h h59)
      rw [if_neg hj] at h
      by_cases hj : j = 59
      · subst hj
        rw [if_pos rfl] at h
        obtain ⟨rfl, h_1⟩ := st0_some h
        clear h
        have h := h_1
        try rw [callW_eq] at h
        exact WW.le (a := [some (.inr (.inr (9, 0))), some (.inl a1), some (.inl a2), none]) (by rw [hn]; rfl) (show _ = _ ∧ _ = _ ∧ _ = _ ∧ True from ⟨e0, e1, e2, trivial⟩) (h59 w h)
      rw [if_neg hj] at h
      cases h
    · exact (show _ = _ ∧ _ = _ ∧ _ = _ ∧ True from ⟨rfl, rfl, rfl, trivial⟩)
set_option maxRecDepth 100000 in
set_option maxHeartbeats 4000000 in
theorem sX5_find_35 {N : Nat} {X : XT} (G : GX X cX5_find RX5) (hn : xnL X = 4) (hC : CRs X tX5_find (oF [(mJ6_bitCount_0f7a4 N), (mJ9_min_7cf53 N)]) (oF [(mX5_mostFrom N)]) (oF [(mX5_prepare N), (mX5_goOn N 10)])) {r : Wd} (hr : RTV X cX5_find r) (a1 : Int32) (a2 : Int32) : ∀ (w : Wd), fX5_find_35 N w = some r → WW X (pcAt tX5_find 35) [some (.inr (.inr (9, 0))), some (.inl a1), some (.inl a2), none] [] w := by
  intro w h
  refine run_sound (r := r) (X := X) (cc := cX5_find) (own := RX5) (tab := tX5_find) G (by rw [hn]; exact kX5_find) (oI := (oF [(mJ6_bitCount_0f7a4 N), (mJ9_min_7cf53 N)])) (oL := (oF [(mX5_mostFrom N)])) (oV := (oF [(mX5_prepare N), (mX5_goOn N 10)])) (rI := (fun _ _ => none)) (rL := (fun _ _ => none)) (rV := (fun w => some w))
    (K := (fun j ls st w => if j = 41 then (lgI ls 3 fun v3 => st0 st (callW (fX5_find_41 N N (fX5_find_59 N) v3) w)) else none)) (fun _ _ _ _ hx => by cases hx) (fun _ _ _ _ hx => by cases hx) (fun w pc ls hx hd => hr w pc ls (Option.some.inj hx) hd) hC (fun ls => lsb [some (.inr (.inr (9, 0))), some (.inl a1), some (.inl a2), none] 0 ls) (keepsP_of rfl) ?_ 70 35 [some (.inr (.inr (9, 0))), some (.inl a1), some (.inl a2), none] [] w ?_ h
  · intro j ls st w hfx h
    obtain ⟨e0, e1, e2, -⟩ : _ = _ ∧ _ = _ ∧ _ = _ ∧ True := hfx
    try dsimp only at h
    by_cases hj : j = 41
    · subst hj
      rw [if_pos rfl] at h
      obtain ⟨v3, e3, h_1⟩ := lgI_some h
      obtain ⟨rfl, h_2⟩ := st0_some h_1
      clear h h_1
      have h := h_2
      try rw [callW_eq] at h
      exact WW.le (a := [some (.inr (.inr (9, 0))), some (.inl a1), some (.inl a2), some (.inl v3)]) (by rw [hn]; rfl) (show _ = _ ∧ _ = _ ∧ _ = _ ∧ _ = _ ∧ True from ⟨e0, e1, e2, e3, trivial⟩) (sX5_find_41 G hn hC hr a1 a2 N (fX5_find_59 N) v3 w h (fun w h => (sX5_find_59 G hn hC hr a1 a2 w h)))
    rw [if_neg hj] at h
    cases h
  · exact (show _ = _ ∧ _ = _ ∧ _ = _ ∧ True from ⟨rfl, rfl, rfl, trivial⟩)
set_option maxRecDepth 100000 in
set_option maxHeartbeats 4000000 in
theorem sX5_find_26 {N : Nat} {X : XT} (G : GX X cX5_find RX5) (hn : xnL X = 4) (hC : CRs X tX5_find (oF [(mJ6_bitCount_0f7a4 N), (mJ9_min_7cf53 N)]) (oF [(mX5_mostFrom N)]) (oF [(mX5_prepare N), (mX5_goOn N 10)])) {r : Wd} (hr : RTV X cX5_find r) (a1 : Int32) (a2 : Int32) : ∀ (n : Nat) (k35 : Wd → Option (Wd)) (v3 : Int32) (w : Wd), fX5_find_26 N n k35 v3 w = some r → (∀ (w : Wd), k35 w = some r → WW X (pcAt tX5_find 35) [some (.inr (.inr (9, 0))), some (.inl a1), some (.inl a2), none] [] w) → WW X (pcAt tX5_find 26) [some (.inr (.inr (9, 0))), some (.inl a1), some (.inl a2), some (.inl v3)] [] w := by
  intro n
  induction n with
  | zero => intro k35 v3 w h h35; cases h
  | succ n ih =>
    intro k35 v3 w h h35
    refine run_sound (r := r) (X := X) (cc := cX5_find) (own := RX5) (tab := tX5_find) G (by rw [hn]; exact kX5_find) (oI := (oF [(mJ6_bitCount_0f7a4 N), (mJ9_min_7cf53 N)])) (oL := (oF [(mX5_mostFrom N)])) (oV := (oF [(mX5_prepare N), (mX5_goOn N 10)])) (rI := (fun _ _ => none)) (rL := (fun _ _ => none)) (rV := (fun w => some w))
      (K := (fun j ls st w => if j = 26 then (lgI ls 3 fun v3 => st0 st (callW (fX5_find_26 N n k35 v3) w)) else if j = 35 then (st0 st (k35 w)) else none)) (fun _ _ _ _ hx => by cases hx) (fun _ _ _ _ hx => by cases hx) (fun w pc ls hx hd => hr w pc ls (Option.some.inj hx) hd) hC (fun ls => lsb [some (.inr (.inr (9, 0))), some (.inl a1), some (.inl a2), none] 0 ls) (keepsP_of rfl) ?_ 70 26 [some (.inr (.inr (9, 0))), some (.inl a1), some (.inl a2), some (.inl v3)] [] w ?_ h
    · intro j ls st w hfx h
      obtain ⟨e0, e1, e2, -⟩ : _ = _ ∧ _ = _ ∧ _ = _ ∧ True := hfx
      try dsimp only at h
      by_cases hj : j = 26
      · subst hj
        rw [if_pos rfl] at h
        obtain ⟨v3, e3, h_1⟩ := lgI_some h
        obtain ⟨rfl, h_2⟩ := st0_some h_1
        clear h h_1
        have h := h_2
        try rw [callW_eq] at h
        exact WW.le (a := [some (.inr (.inr (9, 0))), some (.inl a1), some (.inl a2), some (.inl v3)]) (by rw [hn]; rfl) (show _ = _ ∧ _ = _ ∧ _ = _ ∧ _ = _ ∧ True from ⟨e0, e1, e2, e3, trivial⟩) (ih k35 v3 w h h35)
      rw [if_neg hj] at h
      by_cases hj : j = 35
      · subst hj
        rw [if_pos rfl] at h
        obtain ⟨rfl, h_1⟩ := st0_some h
        clear h
        have h := h_1
        try rw [callW_eq] at h
        exact WW.le (a := [some (.inr (.inr (9, 0))), some (.inl a1), some (.inl a2), none]) (by rw [hn]; rfl) (show _ = _ ∧ _ = _ ∧ _ = _ ∧ True from ⟨e0, e1, e2, trivial⟩) (h35 w h)
      rw [if_neg hj] at h
      cases h
    · exact (show _ = _ ∧ _ = _ ∧ _ = _ ∧ True from ⟨rfl, rfl, rfl, trivial⟩)
set_option maxRecDepth 100000 in
set_option maxHeartbeats 4000000 in
theorem sX5_find_9 {N : Nat} {X : XT} (G : GX X cX5_find RX5) (hn : xnL X = 4) (hC : CRs X tX5_find (oF [(mJ6_bitCount_0f7a4 N), (mJ9_min_7cf53 N)]) (oF [(mX5_mostFrom N)]) (oF [(mX5_prepare N), (mX5_goOn N 10)])) {r : Wd} (hr : RTV X cX5_find r) (a1 : Int32) (a2 : Int32) : ∀ (w : Wd), fX5_find_9 N a1 a2 w = some r → WW X (pcAt tX5_find 9) [some (.inr (.inr (9, 0))), some (.inl a1), some (.inl a2), none] [] w := by
  intro w h
  refine run_sound (r := r) (X := X) (cc := cX5_find) (own := RX5) (tab := tX5_find) G (by rw [hn]; exact kX5_find) (oI := (oF [(mJ6_bitCount_0f7a4 N), (mJ9_min_7cf53 N)])) (oL := (oF [(mX5_mostFrom N)])) (oV := (oF [(mX5_prepare N), (mX5_goOn N 10)])) (rI := (fun _ _ => none)) (rL := (fun _ _ => none)) (rV := (fun w => some w))
    (K := (fun j ls st w => if j = 26 then (lgI ls 3 fun v3 => st0 st (callW (fX5_find_26 N N (fX5_find_35 N) v3) w)) else none)) (fun _ _ _ _ hx => by cases hx) (fun _ _ _ _ hx => by cases hx) (fun w pc ls hx hd => hr w pc ls (Option.some.inj hx) hd) hC (fun ls => lsb [some (.inr (.inr (9, 0))), some (.inl a1), some (.inl a2), none] 0 ls) (keepsP_of rfl) ?_ 70 9 [some (.inr (.inr (9, 0))), some (.inl a1), some (.inl a2), none] [] w ?_ h
  · intro j ls st w hfx h
    obtain ⟨e0, e1, e2, -⟩ : _ = _ ∧ _ = _ ∧ _ = _ ∧ True := hfx
    try dsimp only at h
    by_cases hj : j = 26
    · subst hj
      rw [if_pos rfl] at h
      obtain ⟨v3, e3, h_1⟩ := lgI_some h
      obtain ⟨rfl, h_2⟩ := st0_some h_1
      clear h h_1
      have h := h_2
      try rw [callW_eq] at h
      exact WW.le (a := [some (.inr (.inr (9, 0))), some (.inl a1), some (.inl a2), some (.inl v3)]) (by rw [hn]; rfl) (show _ = _ ∧ _ = _ ∧ _ = _ ∧ _ = _ ∧ True from ⟨e0, e1, e2, e3, trivial⟩) (sX5_find_26 G hn hC hr a1 a2 N (fX5_find_35 N) v3 w h (fun w h => (sX5_find_35 G hn hC hr a1 a2 w h)))
    rw [if_neg hj] at h
    cases h
  · exact (show _ = _ ∧ _ = _ ∧ _ = _ ∧ True from ⟨rfl, rfl, rfl, trivial⟩)
set_option maxRecDepth 100000 in
set_option maxHeartbeats 4000000 in
theorem crX5_find {N : Nat} {X : XT} (G : GX X cX5_find RX5) (hR : xR X = rmL 13) : CRs X tX5_find (oF [(mJ6_bitCount_0f7a4 N), (mJ9_min_7cf53 N)]) (oF [(mX5_mostFrom N)]) (oF [(mX5_prepare N), (mX5_goOn N 10)]) := by
  have hl : tX5_find.filter isInv = [(29, .invokestatic 47, 0, 0, 1, 0, 0, []), (34, .invokestatic 53, 0, 1, 2, 0, 0, []), (57, .invokevirtual 65, 0, 0, 2, 0, 0, [(0, 0), (0, 0)]), (96, .invokevirtual 69, 0, 0, 2, 0, 0, [(0, 0)]), (117, .invokevirtual 79, 0, 1, 4, 0, 0, [(0, 0), (0, 0)])] := rfl
  intro e he
  rw [hl] at he
  simp only [List.mem_cons, List.not_mem_nil, or_false] at he
  rcases he with rfl | rfl | rfl | rfl | rfl
  · exact crI_S (idx := 47) G (by decide +kernel) (MJ6_bitCount_0f7a4 N) (cw_of (ps := [1305, 1071, 171, 1072]) (by decide +kernel) (by decide +kernel)) ⟨by decide +kernel, by decide +kernel, by decide +kernel⟩ (by unfold rmOk; rw [hR]; exact ⟨by decide, by decide⟩)
  · exact crI_S (idx := 53) G (by decide +kernel) (MJ9_min_7cf53 N) (cw_of (ps := [1306, 808, 165, 809]) (by decide +kernel) (by decide +kernel)) ⟨by decide +kernel, by decide +kernel, by decide +kernel⟩ (by unfold rmOk; rw [hR]; exact ⟨by decide, by decide⟩)
  · exact crV_V (idx := 65) G (by decide +kernel) (MX5_prepare N) (cw_of (ps := [1307, 1309, 58, 161, 1310]) (by decide +kernel) (by decide +kernel)) ⟨by decide +kernel, by decide +kernel, by decide +kernel⟩ (by unfold rmOk; rw [hR]; exact ⟨by decide, by decide⟩)
  · exact crL_V (idx := 69) G (by decide +kernel) (MX5_mostFrom N) (cw_of (ps := [1326, 1328, 60, 161, 1329]) (by decide +kernel) (by decide +kernel)) ⟨by decide +kernel, by decide +kernel, by decide +kernel⟩ (by unfold rmOk; rw [hR]; exact ⟨by decide, by decide⟩)
  · exact crV_V (idx := 79) G (by decide +kernel) (MX5_goOn N 10) (cw_of (ps := [1342, 1344, 63, 161, 1345]) (by decide +kernel) (by decide +kernel)) ⟨by decide +kernel, by decide +kernel, by decide +kernel⟩ (by unfold rmOk; rw [hR]; exact ⟨by decide, by decide⟩)
set_option maxRecDepth 100000 in
set_option maxHeartbeats 4000000 in
theorem MX5_find (N : Nat) : SndV yX5_find cX5_find 4 none 13 3 true (mX5_find N) := by
  refine SndV.of tX5_find (by decide +kernel) rfl rfl ?_ ?_
  · intro as w x h
    obtain ⟨t1, rfl, h_1⟩ := xS1_some h
    obtain ⟨a1, t2, rfl, h_2⟩ := xI1_some h_1
    obtain ⟨a2, t3, rfl, h_3⟩ := xI1_some h_2
    obtain ⟨rfl, h_4⟩ := xN1_some h_3
    clear h h_1 h_2 h_3
    have h := h_4
    rw [callW_eq] at h
    exact ⟨fun _ => ⟨_, _, _, rfl, rfl, _, rfl, rfl⟩, rfl, Nat.le_of_ble_eq_true rfl⟩
  · intro X G hn hR as w r h hr
    have hC := crX5_find (N := N) G hR
    obtain ⟨t1, rfl, h_1⟩ := xS1_some h
    obtain ⟨a1, t2, rfl, h_2⟩ := xI1_some h_1
    obtain ⟨a2, t3, rfl, h_3⟩ := xI1_some h_2
    obtain ⟨rfl, h_4⟩ := xN1_some h_3
    clear h h_1 h_2 h_3
    have h := h_4
    rw [callW_eq] at h
    refine run_sound (r := r) (X := X) (cc := cX5_find) (own := RX5) (tab := tX5_find) G (by rw [hn]; exact kX5_find) (oI := (oF [(mJ6_bitCount_0f7a4 N), (mJ9_min_7cf53 N)])) (oL := (oF [(mX5_mostFrom N)])) (oV := (oF [(mX5_prepare N), (mX5_goOn N 10)])) (rI := (fun _ _ => none)) (rL := (fun _ _ => none)) (rV := (fun w => some w))
      (K := (fun j ls st w => if j = 9 then (st0 st (callW (fX5_find_9 N a1 a2) w)) else none)) (fun _ _ _ _ hx => by cases hx) (fun _ _ _ _ hx => by cases hx) (fun w pc ls hx hd => hr w pc ls (Option.some.inj hx) hd) hC (fun ls => lsb [some (.inr (.inr (9, 0))), some (.inl a1), some (.inl a2), none] 0 ls) (keepsP_of rfl) ?_ 70 0 [some (.inr (.inr (9, 0))), some (.inl a1), some (.inl a2), none] [] w ?_ h
    · intro j ls st w hfx h
      obtain ⟨e0, e1, e2, -⟩ : _ = _ ∧ _ = _ ∧ _ = _ ∧ True := hfx
      try dsimp only at h
      by_cases hj : j = 9
      · subst hj
        rw [if_pos rfl] at h
        obtain ⟨rfl, h_1⟩ := st0_some h
        clear h
        have h := h_1
        try rw [callW_eq] at h
        exact WW.le (a := [some (.inr (.inr (9, 0))), some (.inl a1), some (.inl a2), none]) (by rw [hn]; rfl) (show _ = _ ∧ _ = _ ∧ _ = _ ∧ True from ⟨e0, e1, e2, trivial⟩) (sX5_find_9 G hn hC hr a1 a2 w h)
      rw [if_neg hj] at h
      cases h
    · exact (show _ = _ ∧ _ = _ ∧ _ = _ ∧ True from ⟨rfl, rfl, rfl, trivial⟩)
-- MoorGuides$Ordering.hundreds()J
def tX5_hundreds : List EN := [
  (0, .lconst 1, 0, 0, 0, 0, 1, []), (1, .lstore_n 1, 0, 0, 0, 0, 0, []), (2, .iconst 0, 0, 0, 0, 0, 0, []), (3, .istore_n 3, 0, 0, 0, 0, 0, []),
  (4, .iload_n 3, 5, 0, 0, 0, 0, []), (5, .aload_n 0, 0, 0, 0, 0, 0, []), (6, .getfield 59, 0, 5, 12, 0, 0, []), (9, .if_icmp .ge 15, 0, 14, 0, 0, 0, []),
  (12, .lload_n 1, 0, 0, 0, 0, 0, []), (13, .ldc2_w 150, 0, 0, 0, 0, 100, []), (16, .lmul, 0, 0, 0, 0, 0, []), (17, .lstore_n 1, 0, 0, 0, 0, 0, []),
  (18, .iinc 3 1, 0, 0, 0, 1, 0, []), (21, .goto (-17), 0, 4, 0, 0, 0, []), (24, .lload_n 1, 0, 0, 0, 0, 0, []), (25, .lreturn, 0, 0, 0, 0, 0, [])]
noncomputable def fX5_hundreds_4 (N : Nat) : Nat → Int64 → Int32 → Wd → Option (Int64 × Wd)
  | 0, _, _, _ => none
  | n + 1, v1, v3, w =>
    if v3 < (gI w 9 0 12) then callW (fX5_hundreds_4 N n (v1 * (100 : Int64)) (v3 + (1 : Int32))) w else
    some (v1, w)
noncomputable def pX5_hundreds (N : Nat) (w : Wd) : Option (Int64 × Wd) :=
  callW (fX5_hundreds_4 N N (1 : Int64) (0 : Int32)) w
noncomputable def mX5_hundreds (N : Nat) (as : List AV) (w : Wd) : Option (Int64 × Wd) := xS1 9 as fun t => xN1 t (callW (pX5_hundreds N) w)
set_option maxRecDepth 100000 in
set_option maxHeartbeats 4000000 in
theorem kX5_hundreds : TK cX5_hundreds RX5 4 tX5_hundreds := ⟨by decide +kernel, wok_of [649, 1363] (by decide +kernel) (by decide +kernel)⟩
set_option maxRecDepth 100000 in
set_option maxHeartbeats 4000000 in
theorem sX5_hundreds_4 {N : Nat} {X : XT} (G : GX X cX5_hundreds RX5) (hn : xnL X = 4) (hC : CRs X tX5_hundreds (oF []) (oF []) (oF [])) {r : Int64 × Wd} (hr : RTL X cX5_hundreds r)  : ∀ (n : Nat) (v1 : Int64) (v3 : Int32) (w : Wd), fX5_hundreds_4 N n v1 v3 w = some r → WW X (pcAt tX5_hundreds 4) [some (.inr (.inr (9, 0))), some (.inr (.inl v1)), none, some (.inl v3)] [] w := by
  intro n
  induction n with
  | zero => intro v1 v3 w h; cases h
  | succ n ih =>
    intro v1 v3 w h
    refine run_sound (r := r) (X := X) (cc := cX5_hundreds) (own := RX5) (tab := tX5_hundreds) G (by rw [hn]; exact kX5_hundreds) (oI := (oF [])) (oL := (oF [])) (oV := (oF [])) (rI := (fun _ _ => none)) (rL := (fun x w => some (x, w))) (rV := (fun _ => none))
      (K := (fun j ls st w => if j = 4 then (lgL ls 1 fun v1 => lgI ls 3 fun v3 => st0 st (callW (fX5_hundreds_4 N n v1 v3) w)) else none)) (fun _ _ _ _ hx => by cases hx) (fun x w pc ls hx hd => hr x w pc ls (Option.some.inj hx) hd) (fun _ _ _ hx => by cases hx) hC (fun ls => lsb [some (.inr (.inr (9, 0))), none, none, none] 0 ls) (keepsP_of rfl) ?_ 18 4 [some (.inr (.inr (9, 0))), some (.inr (.inl v1)), none, some (.inl v3)] [] w ?_ h
    · intro j ls st w hfx h
      obtain ⟨e0, -⟩ : _ = _ ∧ True := hfx
      try dsimp only at h
      by_cases hj : j = 4
      · subst hj
        rw [if_pos rfl] at h
        obtain ⟨v1, e1, h_1⟩ := lgL_some h
        obtain ⟨v3, e3, h_2⟩ := lgI_some h_1
        obtain ⟨rfl, h_3⟩ := st0_some h_2
        clear h h_1 h_2
        have h := h_3
        try rw [callW_eq] at h
        exact WW.le (a := [some (.inr (.inr (9, 0))), some (.inr (.inl v1)), none, some (.inl v3)]) (by rw [hn]; rfl) (show _ = _ ∧ _ = _ ∧ _ = _ ∧ True from ⟨e0, e1, e3, trivial⟩) (ih v1 v3 w h)
      rw [if_neg hj] at h
      cases h
    · exact (show _ = _ ∧ True from ⟨rfl, trivial⟩)
set_option maxRecDepth 100000 in
set_option maxHeartbeats 4000000 in
theorem crX5_hundreds {N : Nat} {X : XT} (G : GX X cX5_hundreds RX5) (hR : xR X = rmL 1) : CRs X tX5_hundreds (oF []) (oF []) (oF []) := by
  have hl : tX5_hundreds.filter isInv = [] := rfl
  intro e he
  rw [hl] at he
  cases he
set_option maxRecDepth 100000 in
set_option maxHeartbeats 4000000 in
theorem MX5_hundreds (N : Nat) : SndL yX5_hundreds cX5_hundreds 4 (some .long) 1 1 true (mX5_hundreds N) := by
  refine SndL.of tX5_hundreds (by decide +kernel) rfl rfl ?_ ?_
  · intro as w x h
    obtain ⟨t1, rfl, h_1⟩ := xS1_some h
    obtain ⟨rfl, h_2⟩ := xN1_some h_1
    clear h h_1
    have h := h_2
    rw [callW_eq] at h
    exact ⟨fun _ => ⟨_, _, _, rfl, rfl, _, rfl, rfl⟩, rfl, Nat.le_of_ble_eq_true rfl⟩
  · intro X G hn hR as w r h hr
    have hC := crX5_hundreds (N := N) G hR
    obtain ⟨t1, rfl, h_1⟩ := xS1_some h
    obtain ⟨rfl, h_2⟩ := xN1_some h_1
    clear h h_1
    have h := h_2
    rw [callW_eq] at h
    refine run_sound (r := r) (X := X) (cc := cX5_hundreds) (own := RX5) (tab := tX5_hundreds) G (by rw [hn]; exact kX5_hundreds) (oI := (oF [])) (oL := (oF [])) (oV := (oF [])) (rI := (fun _ _ => none)) (rL := (fun x w => some (x, w))) (rV := (fun _ => none))
      (K := (fun j ls st w => if j = 4 then (lgL ls 1 fun v1 => lgI ls 3 fun v3 => st0 st (callW (fX5_hundreds_4 N N v1 v3) w)) else none)) (fun _ _ _ _ hx => by cases hx) (fun x w pc ls hx hd => hr x w pc ls (Option.some.inj hx) hd) (fun _ _ _ hx => by cases hx) hC (fun ls => lsb [some (.inr (.inr (9, 0))), none, none, none] 0 ls) (keepsP_of rfl) ?_ 18 0 [some (.inr (.inr (9, 0))), none, none, none] [] w ?_ h
    · intro j ls st w hfx h
      obtain ⟨e0, -⟩ : _ = _ ∧ True := hfx
      try dsimp only at h
      by_cases hj : j = 4
      · subst hj
        rw [if_pos rfl] at h
        obtain ⟨v1, e1, h_1⟩ := lgL_some h
        obtain ⟨v3, e3, h_2⟩ := lgI_some h_1
        obtain ⟨rfl, h_3⟩ := st0_some h_2
        clear h h_1 h_2
        have h := h_3
        try rw [callW_eq] at h
        exact WW.le (a := [some (.inr (.inr (9, 0))), some (.inr (.inl v1)), none, some (.inl v3)]) (by rw [hn]; rfl) (show _ = _ ∧ _ = _ ∧ _ = _ ∧ True from ⟨e0, e1, e3, trivial⟩) (sX5_hundreds_4 G hn hC hr N v1 v3 w h)
      rw [if_neg hj] at h
      cases h
    · exact (show _ = _ ∧ True from ⟨rfl, trivial⟩)
-- MoorGuides$Ordering.divisor()J
def tX5_divisor : List EN := [
  (0, .aload_n 0, 0, 0, 0, 0, 0, []), (1, .invokevirtual 147, 0, 0, 1, 0, 0, [(0, 0)]), (4, .lstore_n 1, 0, 0, 0, 0, 0, []), (5, .lconst 0, 0, 0, 0, 0, 0, []),
  (6, .aload_n 0, 0, 0, 0, 0, 0, []), (7, .getfield 75, 0, 5, 10, 0, 0, []), (10, .invokestatic 131, 0, 1, 2, 0, 0, [(0, 0)]), (13, .lstore_n 3, 0, 0, 0, 0, 0, []),
  (14, .iconst 0, 0, 0, 0, 0, 0, []), (15, .istore 5, 0, 0, 0, 0, 0, []), (17, .iload 5, 11, 0, 0, 0, 0, []), (19, .bipush 100, 0, 0, 0, 100, 0, []),
  (21, .if_icmp .ge 25, 0, 27, 0, 0, 0, []), (24, .lload_n 3, 0, 0, 0, 0, 0, []), (25, .lconst 0, 0, 0, 0, 0, 0, []), (26, .lcmp, 0, 0, 0, 0, 0, []),
  (27, .ifCond .eq 19, 0, 27, 0, 0, 0, []), (30, .lload_n 1, 0, 0, 0, 0, 0, []), (31, .lload_n 3, 0, 0, 0, 0, 0, []), (32, .lrem, 0, 0, 0, 0, 0, []),
  (33, .lstore 6, 0, 0, 0, 0, 0, []), (35, .lload_n 3, 0, 0, 0, 0, 0, []), (36, .lstore_n 1, 0, 0, 0, 0, 0, []), (37, .lload 6, 0, 0, 0, 0, 0, []),
  (39, .lstore_n 3, 0, 0, 0, 0, 0, []), (40, .iinc 5 1, 0, 0, 0, 1, 0, []), (43, .goto (-26), 0, 10, 0, 0, 0, []), (46, .lconst 1, 28, 0, 0, 0, 1, []),
  (47, .lload_n 1, 0, 0, 0, 0, 0, []), (48, .invokestatic 131, 0, 1, 2, 0, 0, [(0, 0)]), (51, .lreturn, 0, 0, 0, 0, 0, [])]
noncomputable def fX5_divisor_27 (N : Nat) (v1 : Int64) (w : Wd) : Option (Int64 × Wd) :=
  (callW (pJ9_max_f86c9 N (1 : Int64) v1) w).bind fun r1 =>
  some (r1.1, r1.2)
noncomputable def fX5_divisor_10 (N : Nat) : Nat → (Int64 → Wd → Option (Int64 × Wd)) → Int64 → Int64 → Int32 → Wd → Option (Int64 × Wd)
  | 0, _, _, _, _, _ => none
  | n + 1, k27, v1, v3, v5, w =>
    if v5 < (100 : Int32) then
      if (lg_cmp v3 (0 : Int64)) = 0 then k27 v1 w else
      if v3 = 0 then none else
      callW (fX5_divisor_10 N n k27 v3 (v1 - v1 / v3 * v3) (v5 + (1 : Int32))) w
    else
    k27 v1 w
noncomputable def pX5_divisor (N : Nat) (w : Wd) : Option (Int64 × Wd) :=
  (callW (pX5_hundreds N) w).bind fun r1 =>
  (callW (pJ9_max_f86c9 N (0 : Int64) (gL r1.2 9 0 10)) r1.2).bind fun r2 =>
  callW (fX5_divisor_10 N N (fX5_divisor_27 N) r1.1 r2.1 (0 : Int32)) r2.2
noncomputable def mX5_divisor (N : Nat) (as : List AV) (w : Wd) : Option (Int64 × Wd) := xS1 9 as fun t => xN1 t (callW (pX5_divisor N) w)
set_option maxRecDepth 100000 in
set_option maxHeartbeats 4000000 in
theorem kX5_divisor : TK cX5_divisor RX5 8 tX5_divisor := ⟨by decide +kernel, wok_of [646] (by decide +kernel) (by decide +kernel)⟩
set_option maxRecDepth 100000 in
set_option maxHeartbeats 4000000 in
theorem sX5_divisor_27 {N : Nat} {X : XT} (G : GX X cX5_divisor RX5) (hn : xnL X = 8) (hC : CRs X tX5_divisor (oF []) (oF [(mX5_hundreds N), (mJ9_max_f86c9 N)]) (oF [])) {r : Int64 × Wd} (hr : RTL X cX5_divisor r)  : ∀ (v1 : Int64) (w : Wd), fX5_divisor_27 N v1 w = some r → WW X (pcAt tX5_divisor 27) [some (.inr (.inr (9, 0))), some (.inr (.inl v1)), none, none, none, none, none, none] [] w := by
  intro v1 w h
  refine run_sound (r := r) (X := X) (cc := cX5_divisor) (own := RX5) (tab := tX5_divisor) G (by rw [hn]; exact kX5_divisor) (oI := (oF [])) (oL := (oF [(mX5_hundreds N), (mJ9_max_f86c9 N)])) (oV := (oF [])) (rI := (fun _ _ => none)) (rL := (fun x w => some (x, w))) (rV := (fun _ => none))
    (K := (fun j ls st w => none)) (fun _ _ _ _ hx => by cases hx) (fun x w pc ls hx hd => hr x w pc ls (Option.some.inj hx) hd) (fun _ _ _ hx => by cases hx) hC (fun ls => lsb [some (.inr (.inr (9, 0))), none, none, none, none, none, none, none] 0 ls) (keepsP_of rfl) ?_ 33 27 [some (.inr (.inr (9, 0))), some (.inr (.inl v1)), none, none, none, none, none, none] [] w ?_ h
  · intro j ls st w hfx h
    obtain ⟨e0, -⟩ : _ = _ ∧ True := hfx
    try dsimp only at h
    cases h
  · exact (show _ = _ ∧ True from ⟨rfl, trivial⟩)
set_option maxRecDepth 100000 in
set_option maxHeartbeats 4000000 in
theorem sX5_divisor_10 {N : Nat} {X : XT} (G : GX X cX5_divisor RX5) (hn : xnL X = 8) (hC : CRs X tX5_divisor (oF []) (oF [(mX5_hundreds N), (mJ9_max_f86c9 N)]) (oF [])) {r : Int64 × Wd} (hr : RTL X cX5_divisor r)  : ∀ (n : Nat) (k27 : Int64 → Wd → Option (Int64 × Wd)) (v1 : Int64) (v3 : Int64) (v5 : Int32) (w : Wd), fX5_divisor_10 N n k27 v1 v3 v5 w = some r → (∀ (v1 : Int64) (w : Wd), k27 v1 w = some r → WW X (pcAt tX5_divisor 27) [some (.inr (.inr (9, 0))), some (.inr (.inl v1)), none, none, none, none, none, none] [] w) → WW X (pcAt tX5_divisor 10) [some (.inr (.inr (9, 0))), some (.inr (.inl v1)), none, some (.inr (.inl v3)), none, some (.inl v5), none, none] [] w := by
  intro n
  induction n with
  | zero => intro k27 v1 v3 v5 w h h27; cases h
  | succ n ih =>
    intro k27 v1 v3 v5 w h h27
    refine run_sound (r := r) (X := X) (cc := cX5_divisor) (own := RX5) (tab := tX5_divisor) G (by rw [hn]; exact kX5_divisor) (oI := (oF [])) (oL := (oF [(mX5_hundreds N), (mJ9_max_f86c9 N)])) (oV := (oF [])) (rI := (fun _ _ => none)) (rL := (fun x w => some (x, w))) (rV := (fun _ => none))
      (K := (fun j ls st w => if j = 10 then (lgL ls 1 fun v1 => lgL ls 3 fun v3 => lgI ls 5 fun v5 => st0 st (callW (fX5_divisor_10 N n k27 v1 v3 v5) w)) else if j = 27 then (lgL ls 1 fun v1 => st0 st (k27 v1 w)) else none)) (fun _ _ _ _ hx => by cases hx) (fun x w pc ls hx hd => hr x w pc ls (Option.some.inj hx) hd) (fun _ _ _ hx => by cases hx) hC (fun ls => lsb [some (.inr (.inr (9, 0))), none, none, none, none, none, none, none] 0 ls) (keepsP_of rfl) ?_ 33 10 [some (.inr (.inr (9, 0))), some (.inr (.inl v1)), none, some (.inr (.inl v3)), none, some (.inl v5), none, none] [] w ?_ h
    · intro j ls st w hfx h
      obtain ⟨e0, -⟩ : _ = _ ∧ True := hfx
      try dsimp only at h
      by_cases hj : j = 10
      · subst hj
        rw [if_pos rfl] at h
        obtain ⟨v1, e1, h_1⟩ := lgL_some h
        obtain ⟨v3, e3, h_2⟩ := lgL_some h_1
        obtain ⟨v5, e5, h_3⟩ := lgI_some h_2
        obtain ⟨rfl, h_4⟩ := st0_some h_3
        clear h h_1 h_2 h_3
        have h := h_4
        try rw [callW_eq] at h
        exact WW.le (a := [some (.inr (.inr (9, 0))), some (.inr (.inl v1)), none, some (.inr (.inl v3)), none, some (.inl v5), none, none]) (by rw [hn]; rfl) (show _ = _ ∧ _ = _ ∧ _ = _ ∧ _ = _ ∧ True from ⟨e0, e1, e3, e5, trivial⟩) (ih k27 v1 v3 v5 w h h27)
      rw [if_neg hj] at h
      by_cases hj : j = 27
      · subst hj
        rw [if_pos rfl] at h
        obtain ⟨v1, e1, h_1⟩ := lgL_some h
        obtain ⟨rfl, h_2⟩ := st0_some h_1
        clear h h_1
        have h := h_2
        try rw [callW_eq] at h
        exact WW.le (a := [some (.inr (.inr (9, 0))), some (.inr (.inl v1)), none, none, none, none, none, none]) (by rw [hn]; rfl) (show _ = _ ∧ _ = _ ∧ True from ⟨e0, e1, trivial⟩) (h27 v1 w h)
      rw [if_neg hj] at h
      cases h
    · exact (show _ = _ ∧ True from ⟨rfl, trivial⟩)
set_option maxRecDepth 100000 in
set_option maxHeartbeats 4000000 in
theorem crX5_divisor {N : Nat} {X : XT} (G : GX X cX5_divisor RX5) (hR : xR X = rmL 2) : CRs X tX5_divisor (oF []) (oF [(mX5_hundreds N), (mJ9_max_f86c9 N)]) (oF []) := by
  have hl : tX5_divisor.filter isInv = [(1, .invokevirtual 147, 0, 0, 1, 0, 0, [(0, 0)]), (10, .invokestatic 131, 0, 1, 2, 0, 0, [(0, 0)]), (48, .invokestatic 131, 0, 1, 2, 0, 0, [(0, 0)])] := rfl
  intro e he
  rw [hl] at he
  simp only [List.mem_cons, List.not_mem_nil, or_false] at he
  rcases he with rfl | rfl | rfl
  · exact crL_V (idx := 147) G (by decide +kernel) (MX5_hundreds N) (cw_of (ps := [1359, 1361, 66, 161, 1362]) (by decide +kernel) (by decide +kernel)) ⟨by decide +kernel, by decide +kernel, by decide +kernel⟩ (by unfold rmOk; rw [hR]; exact ⟨by decide, by decide⟩)
  · exact crL_S (idx := 131) G (by decide +kernel) (MJ9_max_f86c9 N) (cw_of (ps := [1338, 1339, 165, 1340]) (by decide +kernel) (by decide +kernel)) ⟨by decide +kernel, by decide +kernel, by decide +kernel⟩ (by unfold rmOk; rw [hR]; exact ⟨by decide, by decide⟩)
  · exact crL_S (idx := 131) G (by decide +kernel) (MJ9_max_f86c9 N) (cw_of (ps := [1338, 1339, 165, 1340]) (by decide +kernel) (by decide +kernel)) ⟨by decide +kernel, by decide +kernel, by decide +kernel⟩ (by unfold rmOk; rw [hR]; exact ⟨by decide, by decide⟩)
set_option maxRecDepth 100000 in
set_option maxHeartbeats 4000000 in
theorem MX5_divisor (N : Nat) : SndL yX5_divisor cX5_divisor 8 (some .long) 2 1 true (mX5_divisor N) := by
  refine SndL.of tX5_divisor (by decide +kernel) rfl rfl ?_ ?_
  · intro as w x h
    obtain ⟨t1, rfl, h_1⟩ := xS1_some h
    obtain ⟨rfl, h_2⟩ := xN1_some h_1
    clear h h_1
    have h := h_2
    rw [callW_eq] at h
    exact ⟨fun _ => ⟨_, _, _, rfl, rfl, _, rfl, rfl⟩, rfl, Nat.le_of_ble_eq_true rfl⟩
  · intro X G hn hR as w r h hr
    have hC := crX5_divisor (N := N) G hR
    obtain ⟨t1, rfl, h_1⟩ := xS1_some h
    obtain ⟨rfl, h_2⟩ := xN1_some h_1
    clear h h_1
    have h := h_2
    rw [callW_eq] at h
    refine run_sound (r := r) (X := X) (cc := cX5_divisor) (own := RX5) (tab := tX5_divisor) G (by rw [hn]; exact kX5_divisor) (oI := (oF [])) (oL := (oF [(mX5_hundreds N), (mJ9_max_f86c9 N)])) (oV := (oF [])) (rI := (fun _ _ => none)) (rL := (fun x w => some (x, w))) (rV := (fun _ => none))
      (K := (fun j ls st w => if j = 10 then (lgL ls 1 fun v1 => lgL ls 3 fun v3 => lgI ls 5 fun v5 => st0 st (callW (fX5_divisor_10 N N (fX5_divisor_27 N) v1 v3 v5) w)) else none)) (fun _ _ _ _ hx => by cases hx) (fun x w pc ls hx hd => hr x w pc ls (Option.some.inj hx) hd) (fun _ _ _ hx => by cases hx) hC (fun ls => lsb [some (.inr (.inr (9, 0))), none, none, none, none, none, none, none] 0 ls) (keepsP_of rfl) ?_ 33 0 [some (.inr (.inr (9, 0))), none, none, none, none, none, none, none] [] w ?_ h
    · intro j ls st w hfx h
      obtain ⟨e0, -⟩ : _ = _ ∧ True := hfx
      try dsimp only at h
      by_cases hj : j = 10
      · subst hj
        rw [if_pos rfl] at h
        obtain ⟨v1, e1, h_1⟩ := lgL_some h
        obtain ⟨v3, e3, h_2⟩ := lgL_some h_1
        obtain ⟨v5, e5, h_3⟩ := lgI_some h_2
        obtain ⟨rfl, h_4⟩ := st0_some h_3
        clear h h_1 h_2 h_3
        have h := h_4
        try rw [callW_eq] at h
        exact WW.le (a := [some (.inr (.inr (9, 0))), some (.inr (.inl v1)), none, some (.inr (.inl v3)), none, some (.inl v5), none, none]) (by rw [hn]; rfl) (show _ = _ ∧ _ = _ ∧ _ = _ ∧ _ = _ ∧ True from ⟨e0, e1, e3, e5, trivial⟩) (sX5_divisor_10 G hn hC hr N (fX5_divisor_27 N) v1 v3 v5 w h (fun v1 w h => (sX5_divisor_27 G hn hC hr v1 w h)))
      rw [if_neg hj] at h
      cases h
    · exact (show _ = _ ∧ True from ⟨rfl, trivial⟩)
-- MoorGuides$Ordering.above()J
def tX5_above : List EN := [
  (0, .aload_n 0, 0, 0, 0, 0, 0, []), (1, .getfield 75, 0, 5, 10, 0, 0, []), (4, .aload_n 0, 0, 0, 0, 0, 0, []), (5, .invokevirtual 143, 0, 0, 1, 0, 0, [(0, 0)]),
  (8, .ldiv, 0, 0, 0, 0, 0, []), (9, .lreturn, 0, 0, 0, 0, 0, [])]
noncomputable def pX5_above (N : Nat) (w : Wd) : Option (Int64 × Wd) :=
  (callW (pX5_divisor N) w).bind fun r1 =>
  if r1.1 = 0 then none else
  some (((gL w 9 0 10) / r1.1), r1.2)
noncomputable def mX5_above (N : Nat) (as : List AV) (w : Wd) : Option (Int64 × Wd) := xS1 9 as fun t => xN1 t (callW (pX5_above N) w)
set_option maxRecDepth 100000 in
set_option maxHeartbeats 4000000 in
theorem kX5_above : TK cX5_above RX5 1 tX5_above := ⟨by decide +kernel, wok_of [646] (by decide +kernel) (by decide +kernel)⟩
set_option maxRecDepth 100000 in
set_option maxHeartbeats 4000000 in
theorem crX5_above {N : Nat} {X : XT} (G : GX X cX5_above RX5) (hR : xR X = rmL 3) : CRs X tX5_above (oF []) (oF [(mX5_divisor N)]) (oF []) := by
  have hl : tX5_above.filter isInv = [(5, .invokevirtual 143, 0, 0, 1, 0, 0, [(0, 0)])] := rfl
  intro e he
  rw [hl] at he
  simp only [List.mem_cons, List.not_mem_nil, or_false] at he
  rcases he with rfl
  · exact crL_V (idx := 143) G (by decide +kernel) (MX5_divisor N) (cw_of (ps := [1355, 1357, 65, 161, 1358]) (by decide +kernel) (by decide +kernel)) ⟨by decide +kernel, by decide +kernel, by decide +kernel⟩ (by unfold rmOk; rw [hR]; exact ⟨by decide, by decide⟩)
set_option maxRecDepth 100000 in
set_option maxHeartbeats 4000000 in
theorem MX5_above (N : Nat) : SndL yX5_above cX5_above 1 (some .long) 3 1 true (mX5_above N) := by
  refine SndL.of tX5_above (by decide +kernel) rfl rfl ?_ ?_
  · intro as w x h
    obtain ⟨t1, rfl, h_1⟩ := xS1_some h
    obtain ⟨rfl, h_2⟩ := xN1_some h_1
    clear h h_1
    have h := h_2
    rw [callW_eq] at h
    exact ⟨fun _ => ⟨_, _, _, rfl, rfl, _, rfl, rfl⟩, rfl, Nat.le_of_ble_eq_true rfl⟩
  · intro X G hn hR as w r h hr
    have hC := crX5_above (N := N) G hR
    obtain ⟨t1, rfl, h_1⟩ := xS1_some h
    obtain ⟨rfl, h_2⟩ := xN1_some h_1
    clear h h_1
    have h := h_2
    rw [callW_eq] at h
    refine run_sound (r := r) (X := X) (cc := cX5_above) (own := RX5) (tab := tX5_above) G (by rw [hn]; exact kX5_above) (oI := (oF [])) (oL := (oF [(mX5_divisor N)])) (oV := (oF [])) (rI := (fun _ _ => none)) (rL := (fun x w => some (x, w))) (rV := (fun _ => none))
      (K := (fun j ls st w => none)) (fun _ _ _ _ hx => by cases hx) (fun x w pc ls hx hd => hr x w pc ls (Option.some.inj hx) hd) (fun _ _ _ hx => by cases hx) hC (fun ls => lsb [some (.inr (.inr (9, 0)))] 0 ls) (keepsP_of rfl) ?_ 8 0 [some (.inr (.inr (9, 0)))] [] w ?_ h
    · intro j ls st w hfx h
      obtain ⟨e0, -⟩ : _ = _ ∧ True := hfx
      try dsimp only at h
      cases h
    · exact (show _ = _ ∧ True from ⟨rfl, trivial⟩)
-- MoorGuides$Ordering.below()J
def tX5_below : List EN := [
  (0, .aload_n 0, 0, 0, 0, 0, 0, []), (1, .invokevirtual 147, 0, 0, 1, 0, 0, [(0, 0)]), (4, .aload_n 0, 0, 0, 0, 0, 0, []), (5, .invokevirtual 143, 0, 1, 1, 0, 0, [(0, 0)]),
  (8, .ldiv, 0, 0, 0, 0, 0, []), (9, .lreturn, 0, 0, 0, 0, 0, [])]
noncomputable def pX5_below (N : Nat) (w : Wd) : Option (Int64 × Wd) :=
  (callW (pX5_hundreds N) w).bind fun r1 =>
  (callW (pX5_divisor N) r1.2).bind fun r2 =>
  if r2.1 = 0 then none else
  some ((r1.1 / r2.1), r2.2)
noncomputable def mX5_below (N : Nat) (as : List AV) (w : Wd) : Option (Int64 × Wd) := xS1 9 as fun t => xN1 t (callW (pX5_below N) w)
set_option maxRecDepth 100000 in
set_option maxHeartbeats 4000000 in
theorem kX5_below : TK cX5_below RX5 1 tX5_below := ⟨by decide +kernel, wok_of [] (by decide +kernel) (by decide +kernel)⟩
set_option maxRecDepth 100000 in
set_option maxHeartbeats 4000000 in
theorem crX5_below {N : Nat} {X : XT} (G : GX X cX5_below RX5) (hR : xR X = rmL 3) : CRs X tX5_below (oF []) (oF [(mX5_hundreds N), (mX5_divisor N)]) (oF []) := by
  have hl : tX5_below.filter isInv = [(1, .invokevirtual 147, 0, 0, 1, 0, 0, [(0, 0)]), (5, .invokevirtual 143, 0, 1, 1, 0, 0, [(0, 0)])] := rfl
  intro e he
  rw [hl] at he
  simp only [List.mem_cons, List.not_mem_nil, or_false] at he
  rcases he with rfl | rfl
  · exact crL_V (idx := 147) G (by decide +kernel) (MX5_hundreds N) (cw_of (ps := [1359, 1361, 66, 161, 1362]) (by decide +kernel) (by decide +kernel)) ⟨by decide +kernel, by decide +kernel, by decide +kernel⟩ (by unfold rmOk; rw [hR]; exact ⟨by decide, by decide⟩)
  · exact crL_V (idx := 143) G (by decide +kernel) (MX5_divisor N) (cw_of (ps := [1355, 1357, 65, 161, 1358]) (by decide +kernel) (by decide +kernel)) ⟨by decide +kernel, by decide +kernel, by decide +kernel⟩ (by unfold rmOk; rw [hR]; exact ⟨by decide, by decide⟩)
set_option maxRecDepth 100000 in
set_option maxHeartbeats 4000000 in
theorem MX5_below (N : Nat) : SndL yX5_below cX5_below 1 (some .long) 3 1 true (mX5_below N) := by
  refine SndL.of tX5_below (by decide +kernel) rfl rfl ?_ ?_
  · intro as w x h
    obtain ⟨t1, rfl, h_1⟩ := xS1_some h
    obtain ⟨rfl, h_2⟩ := xN1_some h_1
    clear h h_1
    have h := h_2
    rw [callW_eq] at h
    exact ⟨fun _ => ⟨_, _, _, rfl, rfl, _, rfl, rfl⟩, rfl, Nat.le_of_ble_eq_true rfl⟩
  · intro X G hn hR as w r h hr
    have hC := crX5_below (N := N) G hR
    obtain ⟨t1, rfl, h_1⟩ := xS1_some h
    obtain ⟨rfl, h_2⟩ := xN1_some h_1
    clear h h_1
    have h := h_2
    rw [callW_eq] at h
    refine run_sound (r := r) (X := X) (cc := cX5_below) (own := RX5) (tab := tX5_below) G (by rw [hn]; exact kX5_below) (oI := (oF [])) (oL := (oF [(mX5_hundreds N), (mX5_divisor N)])) (oV := (oF [])) (rI := (fun _ _ => none)) (rL := (fun x w => some (x, w))) (rV := (fun _ => none))
      (K := (fun j ls st w => none)) (fun _ _ _ _ hx => by cases hx) (fun x w pc ls hx hd => hr x w pc ls (Option.some.inj hx) hd) (fun _ _ _ hx => by cases hx) hC (fun ls => lsb [some (.inr (.inr (9, 0)))] 0 ls) (keepsP_of rfl) ?_ 8 0 [some (.inr (.inr (9, 0)))] [] w ?_ h
    · intro j ls st w hfx h
      obtain ⟨e0, -⟩ : _ = _ ∧ True := hfx
      try dsimp only at h
      cases h
    · exact (show _ = _ ∧ True from ⟨rfl, trivial⟩)
-- MoorGuides$Reader.fail(I)Z
def tX7_fail : List EN := [
  (0, .aload_n 0, 0, 0, 0, 0, 0, []), (1, .iload_n 1, 0, 0, 0, 0, 0, []), (2, .putfield 33, 0, 7, 8, 0, 0, []), (5, .aload_n 0, 0, 0, 0, 0, 0, []),
  (6, .aload_n 0, 0, 0, 0, 0, 0, []), (7, .getfield 12, 0, 7, 0, 0, 0, []), (10, .getfield 58, 0, 10, 9, 0, 0, []), (13, .putfield 22, 0, 7, 9, 0, 0, []),
  (16, .iconst 0, 0, 0, 0, 0, 0, []), (17, .ireturn, 0, 0, 0, 0, 0, [])]
noncomputable def pX7_fail (N : Nat) (a1 : Int32) (w : Wd) : Option (Int32 × Wd) :=
  some ((0 : Int32), (setI (setI w 11 0 8 a1) 11 0 9 (gI (setI w 11 0 8 a1) 14 0 9)))
noncomputable def mX7_fail (N : Nat) (as : List AV) (w : Wd) : Option (Int32 × Wd) := xS1 11 as fun t => xI1 t fun a1 t => xN1 t (callW (pX7_fail N a1) w)
set_option maxRecDepth 100000 in
set_option maxHeartbeats 4000000 in
theorem kX7_fail : TK cX7_fail RX7 2 tX7_fail := ⟨by decide +kernel, wok_of [475, 466, 439, 477] (by decide +kernel) (by decide +kernel)⟩
set_option maxRecDepth 100000 in
set_option maxHeartbeats 4000000 in
theorem crX7_fail {N : Nat} {X : XT} (G : GX X cX7_fail RX7) (hR : xR X = rmL 1) : CRs X tX7_fail (oF []) (oF []) (oF []) := by
  have hl : tX7_fail.filter isInv = [] := rfl
  intro e he
  rw [hl] at he
  cases he
set_option maxRecDepth 100000 in
set_option maxHeartbeats 4000000 in
theorem MX7_fail (N : Nat) : SndI yX7_fail cX7_fail 2 (some .boolean) 1 2 true (mX7_fail N) := by
  refine SndI.ofZ tX7_fail (by decide +kernel) rfl rfl ?_ ?_
  · intro as w x h
    obtain ⟨t1, rfl, h_1⟩ := xS1_some h
    obtain ⟨a1, t2, rfl, h_2⟩ := xI1_some h_1
    obtain ⟨rfl, h_3⟩ := xN1_some h_2
    clear h h_1 h_2
    have h := h_3
    rw [callW_eq] at h
    exact ⟨fun _ => ⟨_, _, _, rfl, rfl, _, rfl, rfl⟩, rfl, Nat.le_of_ble_eq_true rfl⟩
  · intro X G hn hR as w r h hr
    have hC := crX7_fail (N := N) G hR
    obtain ⟨t1, rfl, h_1⟩ := xS1_some h
    obtain ⟨a1, t2, rfl, h_2⟩ := xI1_some h_1
    obtain ⟨rfl, h_3⟩ := xN1_some h_2
    clear h h_1 h_2
    have h := h_3
    rw [callW_eq] at h
    refine run_sound (r := r) (X := X) (cc := cX7_fail) (own := RX7) (tab := tX7_fail) G (by rw [hn]; exact kX7_fail) (oI := (oF [])) (oL := (oF [])) (oV := (oF [])) (rI := retZ) (rL := (fun _ _ => none)) (rV := (fun _ => none))
      (K := (fun j ls st w => none)) hr (fun _ _ _ _ hx => by cases hx) (fun _ _ _ hx => by cases hx) hC (fun ls => lsb [some (.inr (.inr (11, 0))), some (.inl a1)] 0 ls) (keepsP_of rfl) ?_ 12 0 [some (.inr (.inr (11, 0))), some (.inl a1)] [] w ?_ h
    · intro j ls st w hfx h
      obtain ⟨e0, e1, -⟩ : _ = _ ∧ _ = _ ∧ True := hfx
      try dsimp only at h
      cases h
    · exact (show _ = _ ∧ _ = _ ∧ True from ⟨rfl, rfl, trivial⟩)
-- MoorGuides$Tokens.advance()V
def tX10_advance : List EN := [
  (0, .aload_n 0, 0, 0, 0, 0, 0, []), (1, .getfield 61, 0, 10, 5, 0, 0, []), (4, .aload_n 0, 0, 0, 0, 0, 0, []), (5, .getfield 50, 0, 10, 4, 0, 0, []),
  (8, .if_icmp .ge 52, 0, 32, 0, 0, 0, []), (11, .aload_n 0, 0, 0, 0, 0, 0, []), (12, .aload_n 0, 0, 0, 0, 0, 0, []), (13, .getfield 15, 0, 10, 1, 0, 0, []),
  (16, .aload_n 0, 0, 0, 0, 0, 0, []), (17, .getfield 61, 0, 10, 5, 0, 0, []), (20, .iaload, 0, 0, 0, 0, 0, []), (21, .putfield 67, 0, 10, 8, 0, 0, []),
  (24, .aload_n 0, 0, 0, 0, 0, 0, []), (25, .aload_n 0, 0, 0, 0, 0, 0, []), (26, .getfield 19, 0, 10, 2, 0, 0, []), (29, .aload_n 0, 0, 0, 0, 0, 0, []),
  (30, .getfield 61, 0, 10, 5, 0, 0, []), (33, .iaload, 0, 0, 0, 0, 0, []), (34, .putfield 70, 0, 10, 9, 0, 0, []), (37, .aload_n 0, 0, 0, 0, 0, 0, []),
  (38, .aload_n 0, 0, 0, 0, 0, 0, []), (39, .getfield 22, 0, 10, 3, 0, 0, []), (42, .aload_n 0, 0, 0, 0, 0, 0, []), (43, .getfield 61, 0, 10, 5, 0, 0, []),
  (46, .iaload, 0, 0, 0, 0, 0, []), (47, .putfield 73, 0, 10, 10, 0, 0, []), (50, .aload_n 0, 0, 0, 0, 0, 0, []), (51, .dup, 0, 0, 0, 0, 0, []),
  (52, .getfield 61, 0, 10, 5, 0, 0, []), (55, .iconst 1, 0, 0, 0, 1, 0, []), (56, .iadd, 0, 0, 0, 0, 0, []), (57, .putfield 61, 0, 10, 5, 0, 0, []),
  (60, .return_, 0, 0, 0, 0, 0, [])]
noncomputable def pX10_advance (N : Nat) (w : Wd) : Option (Wd) :=
  if (gI w 14 0 5) < (gI w 14 0 4) then
    (ldI w 68 0 (gI w 14 0 5) 901).bind fun x1 =>
    (ldI (setI w 14 0 8 x1) 69 0 (gI (setI w 14 0 8 x1) 14 0 5) 901).bind fun x2 =>
    (ldI (setI (setI w 14 0 8 x1) 14 0 9 x2) 70 0 (gI (setI (setI w 14 0 8 x1) 14 0 9 x2) 14 0 5) 901).bind fun x3 =>
    some (setI (setI (setI (setI w 14 0 8 x1) 14 0 9 x2) 14 0 10 x3) 14 0 5 ((gI (setI (setI (setI w 14 0 8 x1) 14 0 9 x2) 14 0 10 x3) 14 0 5) + (1 : Int32)))
  else
  some w
noncomputable def mX10_advance (N : Nat) (as : List AV) (w : Wd) : Option (Wd) := xS1 14 as fun t => xN1 t (callW (pX10_advance N) w)
set_option maxRecDepth 100000 in
set_option maxHeartbeats 4000000 in
theorem kX10_advance : TK cX10_advance RX10 1 tX10_advance := ⟨by decide +kernel, wok_of [434, 433, 430, 434, 438, 431, 434, 440, 432, 434, 441, 434, 434] (by decide +kernel) (by decide +kernel)⟩
set_option maxRecDepth 100000 in
set_option maxHeartbeats 4000000 in
theorem crX10_advance {N : Nat} {X : XT} (G : GX X cX10_advance RX10) (hR : xR X = rmL 1) : CRs X tX10_advance (oF []) (oF []) (oF []) := by
  have hl : tX10_advance.filter isInv = [] := rfl
  intro e he
  rw [hl] at he
  cases he
set_option maxRecDepth 100000 in
set_option maxHeartbeats 4000000 in
theorem MX10_advance (N : Nat) : SndV yX10_advance cX10_advance 1 none 1 1 true (mX10_advance N) := by
  refine SndV.of tX10_advance (by decide +kernel) rfl rfl ?_ ?_
  · intro as w x h
    obtain ⟨t1, rfl, h_1⟩ := xS1_some h
    obtain ⟨rfl, h_2⟩ := xN1_some h_1
    clear h h_1
    have h := h_2
    rw [callW_eq] at h
    exact ⟨fun _ => ⟨_, _, _, rfl, rfl, _, rfl, rfl⟩, rfl, Nat.le_of_ble_eq_true rfl⟩
  · intro X G hn hR as w r h hr
    have hC := crX10_advance (N := N) G hR
    obtain ⟨t1, rfl, h_1⟩ := xS1_some h
    obtain ⟨rfl, h_2⟩ := xN1_some h_1
    clear h h_1
    have h := h_2
    rw [callW_eq] at h
    refine run_sound (r := r) (X := X) (cc := cX10_advance) (own := RX10) (tab := tX10_advance) G (by rw [hn]; exact kX10_advance) (oI := (oF [])) (oL := (oF [])) (oV := (oF [])) (rI := (fun _ _ => none)) (rL := (fun _ _ => none)) (rV := (fun w => some w))
      (K := (fun j ls st w => none)) (fun _ _ _ _ hx => by cases hx) (fun _ _ _ _ hx => by cases hx) (fun w pc ls hx hd => hr w pc ls (Option.some.inj hx) hd) hC (fun ls => lsb [some (.inr (.inr (14, 0)))] 0 ls) (keepsP_of rfl) ?_ 35 0 [some (.inr (.inr (14, 0)))] [] w ?_ h
    · intro j ls st w hfx h
      obtain ⟨e0, -⟩ : _ = _ ∧ True := hfx
      try dsimp only at h
      cases h
    · exact (show _ = _ ∧ True from ⟨rfl, trivial⟩)
-- MoorGuides$Reader.passUnless(ZI)Z
def tX7_passUnless : List EN := [
  (0, .iload_n 1, 0, 0, 0, 0, 0, []), (1, .ifCond .eq 9, 0, 6, 0, 0, 0, []), (4, .aload_n 0, 0, 0, 0, 0, 0, []), (5, .iload_n 2, 0, 0, 0, 0, 0, []),
  (6, .invokevirtual 59, 0, 0, 2, 0, 0, []), (9, .ireturn, 0, 0, 0, 0, 0, []), (10, .aload_n 0, 0, 0, 0, 0, 0, []), (11, .getfield 12, 0, 7, 0, 0, 0, []),
  (14, .invokevirtual 62, 0, 0, 1, 0, 0, [(0, 0), (0, 0)]), (17, .iconst 1, 0, 0, 0, 1, 0, []), (18, .ireturn, 0, 0, 0, 0, 0, [])]
noncomputable def pX7_passUnless (N : Nat) (a1 : Int32) (a2 : Int32) (w : Wd) : Option (Int32 × Wd) :=
  if a1 = 0 then
    (callW (pX10_advance N) w).bind fun w1 =>
    some ((1 : Int32), w1)
  else
  (callW (pX7_fail N a2) w).bind fun r2 =>
  retZ r2.1 r2.2
noncomputable def mX7_passUnless (N : Nat) (as : List AV) (w : Wd) : Option (Int32 × Wd) := xS1 11 as fun t => xI1 t fun a1 t => xI1 t fun a2 t => xN1 t (callW (pX7_passUnless N a1 a2) w)
set_option maxRecDepth 100000 in
set_option maxHeartbeats 4000000 in
theorem kX7_passUnless : TK cX7_passUnless RX7 3 tX7_passUnless := ⟨by decide +kernel, wok_of [466] (by decide +kernel) (by decide +kernel)⟩
set_option maxRecDepth 100000 in
set_option maxHeartbeats 4000000 in
theorem crX7_passUnless {N : Nat} {X : XT} (G : GX X cX7_passUnless RX7) (hR : xR X = rmL 2) : CRs X tX7_passUnless (oF [(mX7_fail N)]) (oF []) (oF [(mX10_advance N)]) := by
  have hl : tX7_passUnless.filter isInv = [(6, .invokevirtual 59, 0, 0, 2, 0, 0, []), (14, .invokevirtual 62, 0, 0, 1, 0, 0, [(0, 0), (0, 0)])] := rfl
  intro e he
  rw [hl] at he
  simp only [List.mem_cons, List.not_mem_nil, or_false] at he
  rcases he with rfl | rfl
  · exact crI_V (idx := 59) G (by decide +kernel) (MX7_fail N) (cw_of (ps := [858, 860, 10, 152, 861]) (by decide +kernel) (by decide +kernel)) ⟨by decide +kernel, by decide +kernel, by decide +kernel⟩ (by unfold rmOk; rw [hR]; exact ⟨by decide, by decide⟩)
  · exact crV_V (idx := 62) G (by decide +kernel) (MX10_advance N) (cw_of (ps := [862, 847, 848, 153, 849]) (by decide +kernel) (by decide +kernel)) ⟨by decide +kernel, by decide +kernel, by decide +kernel⟩ (by unfold rmOk; rw [hR]; exact ⟨by decide, by decide⟩)
set_option maxRecDepth 100000 in
set_option maxHeartbeats 4000000 in
theorem MX7_passUnless (N : Nat) : SndI yX7_passUnless cX7_passUnless 3 (some .boolean) 2 3 true (mX7_passUnless N) := by
  refine SndI.ofZ tX7_passUnless (by decide +kernel) rfl rfl ?_ ?_
  · intro as w x h
    obtain ⟨t1, rfl, h_1⟩ := xS1_some h
    obtain ⟨a1, t2, rfl, h_2⟩ := xI1_some h_1
    obtain ⟨a2, t3, rfl, h_3⟩ := xI1_some h_2
    obtain ⟨rfl, h_4⟩ := xN1_some h_3
    clear h h_1 h_2 h_3
    have h := h_4
    rw [callW_eq] at h
    exact ⟨fun _ => ⟨_, _, _, rfl, rfl, _, rfl, rfl⟩, rfl, Nat.le_of_ble_eq_true rfl⟩
  · intro X G hn hR as w r h hr
    have hC := crX7_passUnless (N := N) G hR
    obtain ⟨t1, rfl, h_1⟩ := xS1_some h
    obtain ⟨a1, t2, rfl, h_2⟩ := xI1_some h_1
    obtain ⟨a2, t3, rfl, h_3⟩ := xI1_some h_2
    obtain ⟨rfl, h_4⟩ := xN1_some h_3
    clear h h_1 h_2 h_3
    have h := h_4
    rw [callW_eq] at h
    refine run_sound (r := r) (X := X) (cc := cX7_passUnless) (own := RX7) (tab := tX7_passUnless) G (by rw [hn]; exact kX7_passUnless) (oI := (oF [(mX7_fail N)])) (oL := (oF [])) (oV := (oF [(mX10_advance N)])) (rI := retZ) (rL := (fun _ _ => none)) (rV := (fun _ => none))
      (K := (fun j ls st w => none)) hr (fun _ _ _ _ hx => by cases hx) (fun _ _ _ hx => by cases hx) hC (fun ls => lsb [some (.inr (.inr (11, 0))), some (.inl a1), some (.inl a2)] 0 ls) (keepsP_of rfl) ?_ 13 0 [some (.inr (.inr (11, 0))), some (.inl a1), some (.inl a2)] [] w ?_ h
    · intro j ls st w hfx h
      obtain ⟨e0, e1, e2, -⟩ : _ = _ ∧ _ = _ ∧ _ = _ ∧ True := hfx
      try dsimp only at h
      cases h
    · exact (show _ = _ ∧ _ = _ ∧ _ = _ ∧ True from ⟨rfl, rfl, rfl, trivial⟩)
-- MoorGuides.indexOf([III)I
def tX11_indexOf : List EN := [
  (0, .iconst 0, 0, 0, 0, 0, 0, []), (1, .istore_n 3, 0, 0, 0, 0, 0, []), (2, .iload_n 3, 3, 0, 0, 0, 0, []), (3, .iload_n 1, 0, 0, 0, 0, 0, []),
  (4, .if_icmp .ge 24, 0, 18, 0, 0, 0, []), (7, .iload_n 3, 0, 0, 0, 0, 0, []), (8, .aload_n 0, 0, 0, 0, 0, 0, []), (9, .arraylength, 0, 0, 0, 0, 0, []),
  (10, .if_icmp .ge 18, 0, 18, 0, 0, 0, []), (13, .aload_n 0, 0, 0, 0, 0, 0, []), (14, .iload_n 3, 0, 0, 0, 0, 0, []), (15, .iaload, 0, 0, 0, 0, 0, []),
  (16, .iload_n 2, 0, 0, 0, 0, 0, []), (17, .if_icmp .ne 5, 0, 16, 0, 0, 0, []), (20, .iload_n 3, 0, 0, 0, 0, 0, []), (21, .ireturn, 0, 0, 0, 0, 0, []),
  (22, .iinc 3 1, 0, 0, 0, 1, 0, []), (25, .goto (-23), 0, 2, 0, 0, 0, []), (28, .iconst (-1), 0, 0, 0, (-1), 0, []), (29, .ireturn, 0, 0, 0, 0, 0, [])]
noncomputable def fX11_indexOf_2 (N : Nat) (k0 : Nat) (i0 : Nat) (a1 : Int32) (a2 : Int32) : Nat → Int32 → Wd → Option (Int32 × Wd)
  | 0, _, _ => none
  | n + 1, v3, w =>
    if v3 < a1 then
      if v3 < (Int32.ofNat (ln k0 i0)) then
        (ldI w k0 i0 v3 (ln k0 i0)).bind fun x1 =>
        if x1 = a2 then some (v3, w) else
        callW (fX11_indexOf_2 N k0 i0 a1 a2 n (v3 + (1 : Int32))) w
      else
      some ((-1 : Int32), w)
    else
    some ((-1 : Int32), w)
noncomputable def pX11_indexOf (N : Nat) (k0 : Nat) (i0 : Nat) (a1 : Int32) (a2 : Int32) (w : Wd) : Option (Int32 × Wd) :=
  callW (fX11_indexOf_2 N k0 i0 a1 a2 N (0 : Int32)) w
noncomputable def mX11_indexOf (N : Nat) (as : List AV) (w : Wd) : Option (Int32 × Wd) := xA1 [30, 48] as fun k0 i0 t => xI1 t fun a1 t => xI1 t fun a2 t => xN1 t (callW (pX11_indexOf N k0 i0 a1 a2) w)
set_option maxRecDepth 100000 in
set_option maxHeartbeats 4000000 in
theorem kX11_indexOf : TK cX11_indexOf RX11 4 tX11_indexOf := ⟨by decide +kernel, wok_of [] (by decide +kernel) (by decide +kernel)⟩
set_option maxRecDepth 100000 in
set_option maxHeartbeats 4000000 in
theorem sX11_indexOf_2_k30 {N : Nat} {X : XT} (G : GX X cX11_indexOf RX11) (hn : xnL X = 4) (hC : CRs X tX11_indexOf (oF []) (oF []) (oF [])) {r : Int32 × Wd} (hr : RTI X cX11_indexOf r) (i0 : Nat) (a1 : Int32) (a2 : Int32) : ∀ (n : Nat) (v3 : Int32) (w : Wd), fX11_indexOf_2 N 30 i0 a1 a2 n v3 w = some r → WW X (pcAt tX11_indexOf 2) [some (.inr (.inr (30, i0))), some (.inl a1), some (.inl a2), some (.inl v3)] [] w := by
  intro n
  induction n with
  | zero => intro v3 w h; cases h
  | succ n ih =>
    intro v3 w h
    refine run_sound (r := r) (X := X) (cc := cX11_indexOf) (own := RX11) (tab := tX11_indexOf) G (by rw [hn]; exact kX11_indexOf) (oI := (oF [])) (oL := (oF [])) (oV := (oF [])) (rI := (fun x w => some (x, w))) (rL := (fun _ _ => none)) (rV := (fun _ => none))
      (K := (fun j ls st w => if j = 2 then (lgI ls 3 fun v3 => st0 st (callW (fX11_indexOf_2 N 30 i0 a1 a2 n v3) w)) else none)) (fun x w pc ls hx hd => hr x w pc ls (Option.some.inj hx) hd) (fun _ _ _ _ hx => by cases hx) (fun _ _ _ hx => by cases hx) hC (fun ls => lsb [some (.inr (.inr (30, i0))), some (.inl a1), some (.inl a2), none] 0 ls) (keepsP_of rfl) ?_ 22 2 [some (.inr (.inr (30, i0))), some (.inl a1), some (.inl a2), some (.inl v3)] [] w ?_ h
    · intro j ls st w hfx h
      obtain ⟨e0, e1, e2, -⟩ : _ = _ ∧ _ = _ ∧ _ = _ ∧ True := hfx
      try dsimp only at h
      by_cases hj : j = 2
      · subst hj
        rw [if_pos rfl] at h
        obtain ⟨v3, e3, h_1⟩ := lgI_some h
        obtain ⟨rfl, h_2⟩ := st0_some h_1
        clear h h_1
        have h := h_2
        try rw [callW_eq] at h
        exact WW.le (a := [some (.inr (.inr (30, i0))), some (.inl a1), some (.inl a2), some (.inl v3)]) (by rw [hn]; rfl) (show _ = _ ∧ _ = _ ∧ _ = _ ∧ _ = _ ∧ True from ⟨e0, e1, e2, e3, trivial⟩) (ih v3 w h)
      rw [if_neg hj] at h
      cases h
    · exact (show _ = _ ∧ _ = _ ∧ _ = _ ∧ True from ⟨rfl, rfl, rfl, trivial⟩)
set_option maxRecDepth 100000 in
set_option maxHeartbeats 4000000 in
theorem sX11_indexOf_2_k48 {N : Nat} {X : XT} (G : GX X cX11_indexOf RX11) (hn : xnL X = 4) (hC : CRs X tX11_indexOf (oF []) (oF []) (oF [])) {r : Int32 × Wd} (hr : RTI X cX11_indexOf r) (i0 : Nat) (a1 : Int32) (a2 : Int32) : ∀ (n : Nat) (v3 : Int32) (w : Wd), fX11_indexOf_2 N 48 i0 a1 a2 n v3 w = some r → WW X (pcAt tX11_indexOf 2) [some (.inr (.inr (48, i0))), some (.inl a1), some (.inl a2), some (.inl v3)] [] w := by
  intro n
  induction n with
  | zero => intro v3 w h; cases h
  | succ n ih =>
    intro v3 w h
    refine run_sound (r := r) (X := X) (cc := cX11_indexOf) (own := RX11) (tab := tX11_indexOf) G (by rw [hn]; exact kX11_indexOf) (oI := (oF [])) (oL := (oF [])) (oV := (oF [])) (rI := (fun x w => some (x, w))) (rL := (fun _ _ => none)) (rV := (fun _ => none))
      (K := (fun j ls st w => if j = 2 then (lgI ls 3 fun v3 => st0 st (callW (fX11_indexOf_2 N 48 i0 a1 a2 n v3) w)) else none)) (fun x w pc ls hx hd => hr x w pc ls (Option.some.inj hx) hd) (fun _ _ _ _ hx => by cases hx) (fun _ _ _ hx => by cases hx) hC (fun ls => lsb [some (.inr (.inr (48, i0))), some (.inl a1), some (.inl a2), none] 0 ls) (keepsP_of rfl) ?_ 22 2 [some (.inr (.inr (48, i0))), some (.inl a1), some (.inl a2), some (.inl v3)] [] w ?_ h
    · intro j ls st w hfx h
      obtain ⟨e0, e1, e2, -⟩ : _ = _ ∧ _ = _ ∧ _ = _ ∧ True := hfx
      try dsimp only at h
      by_cases hj : j = 2
      · subst hj
        rw [if_pos rfl] at h
        obtain ⟨v3, e3, h_1⟩ := lgI_some h
        obtain ⟨rfl, h_2⟩ := st0_some h_1
        clear h h_1
        have h := h_2
        try rw [callW_eq] at h
        exact WW.le (a := [some (.inr (.inr (48, i0))), some (.inl a1), some (.inl a2), some (.inl v3)]) (by rw [hn]; rfl) (show _ = _ ∧ _ = _ ∧ _ = _ ∧ _ = _ ∧ True from ⟨e0, e1, e2, e3, trivial⟩) (ih v3 w h)
      rw [if_neg hj] at h
      cases h
    · exact (show _ = _ ∧ _ = _ ∧ _ = _ ∧ True from ⟨rfl, rfl, rfl, trivial⟩)
set_option maxRecDepth 100000 in
set_option maxHeartbeats 4000000 in
theorem crX11_indexOf {N : Nat} {X : XT} (G : GX X cX11_indexOf RX11) (hR : xR X = rmL 1) : CRs X tX11_indexOf (oF []) (oF []) (oF []) := by
  have hl : tX11_indexOf.filter isInv = [] := rfl
  intro e he
  rw [hl] at he
  cases he
set_option maxRecDepth 100000 in
set_option maxHeartbeats 4000000 in
theorem MX11_indexOf (N : Nat) : SndI yX11_indexOf cX11_indexOf 4 (some .int) 1 3 false (mX11_indexOf N) := by
  refine SndI.of tX11_indexOf (by decide +kernel) rfl rfl ?_ ?_
  · intro as w x h
    obtain ⟨k0, i0, t1, rfl, hk, h_1⟩ := xA1_some h
    obtain ⟨a1, t2, rfl, h_2⟩ := xI1_some h_1
    obtain ⟨a2, t3, rfl, h_3⟩ := xI1_some h_2
    obtain ⟨rfl, h_4⟩ := xN1_some h_3
    clear h h_1 h_2 h_3
    have h := h_4
    rw [callW_eq] at h
    exact ⟨(fun z => by cases z), rfl, Nat.le_of_ble_eq_true rfl⟩
  · intro X G hn hR as w r h hr
    have hC := crX11_indexOf (N := N) G hR
    obtain ⟨k0, i0, t1, rfl, hk, h_1⟩ := xA1_some h
    obtain ⟨a1, t2, rfl, h_2⟩ := xI1_some h_1
    obtain ⟨a2, t3, rfl, h_3⟩ := xI1_some h_2
    obtain ⟨rfl, h_4⟩ := xN1_some h_3
    clear h h_1 h_2 h_3
    have h := h_4
    rw [callW_eq] at h
    have hk : k0 = 30 ∨ k0 = 48 := by simpa using hk
    rcases hk with rfl | rfl
    · refine run_sound (r := r) (X := X) (cc := cX11_indexOf) (own := RX11) (tab := tX11_indexOf) G (by rw [hn]; exact kX11_indexOf) (oI := (oF [])) (oL := (oF [])) (oV := (oF [])) (rI := (fun x w => some (x, w))) (rL := (fun _ _ => none)) (rV := (fun _ => none))
        (K := (fun j ls st w => if j = 2 then (lgI ls 3 fun v3 => st0 st (callW (fX11_indexOf_2 N 30 i0 a1 a2 N v3) w)) else none)) (fun x w pc ls hx hd => hr x w pc ls (Option.some.inj hx) hd) (fun _ _ _ _ hx => by cases hx) (fun _ _ _ hx => by cases hx) hC (fun ls => lsb [some (.inr (.inr (30, i0))), some (.inl a1), some (.inl a2), none] 0 ls) (keepsP_of rfl) ?_ 22 0 [some (.inr (.inr (30, i0))), some (.inl a1), some (.inl a2), none] [] w ?_ h
      · intro j ls st w hfx h
        obtain ⟨e0, e1, e2, -⟩ : _ = _ ∧ _ = _ ∧ _ = _ ∧ True := hfx
        try dsimp only at h
        by_cases hj : j = 2
        · subst hj
          rw [if_pos rfl] at h
          obtain ⟨v3, e3, h_1⟩ := lgI_some h
          obtain ⟨rfl, h_2⟩ := st0_some h_1
          clear h h_1
          have h := h_2
          try rw [callW_eq] at h
          exact WW.le (a := [some (.inr (.inr (30, i0))), some (.inl a1), some (.inl a2), some (.inl v3)]) (by rw [hn]; rfl) (show _ = _ ∧ _ = _ ∧ _ = _ ∧ _ = _ ∧ True from ⟨e0, e1, e2, e3, trivial⟩) (sX11_indexOf_2_k30 G hn hC hr i0 a1 a2 N v3 w h)
        rw [if_neg hj] at h
        cases h
      · exact (show _ = _ ∧ _ = _ ∧ _ = _ ∧ True from ⟨rfl, rfl, rfl, trivial⟩)
    · refine run_sound (r := r) (X := X) (cc := cX11_indexOf) (own := RX11) (tab := tX11_indexOf) G (by rw [hn]; exact kX11_indexOf) (oI := (oF [])) (oL := (oF [])) (oV := (oF [])) (rI := (fun x w => some (x, w))) (rL := (fun _ _ => none)) (rV := (fun _ => none))
        (K := (fun j ls st w => if j = 2 then (lgI ls 3 fun v3 => st0 st (callW (fX11_indexOf_2 N 48 i0 a1 a2 N v3) w)) else none)) (fun x w pc ls hx hd => hr x w pc ls (Option.some.inj hx) hd) (fun _ _ _ _ hx => by cases hx) (fun _ _ _ hx => by cases hx) hC (fun ls => lsb [some (.inr (.inr (48, i0))), some (.inl a1), some (.inl a2), none] 0 ls) (keepsP_of rfl) ?_ 22 0 [some (.inr (.inr (48, i0))), some (.inl a1), some (.inl a2), none] [] w ?_ h
      · intro j ls st w hfx h
        obtain ⟨e0, e1, e2, -⟩ : _ = _ ∧ _ = _ ∧ _ = _ ∧ True := hfx
        try dsimp only at h
        by_cases hj : j = 2
        · subst hj
          rw [if_pos rfl] at h
          obtain ⟨v3, e3, h_1⟩ := lgI_some h
          obtain ⟨rfl, h_2⟩ := st0_some h_1
          clear h h_1
          have h := h_2
          try rw [callW_eq] at h
          exact WW.le (a := [some (.inr (.inr (48, i0))), some (.inl a1), some (.inl a2), some (.inl v3)]) (by rw [hn]; rfl) (show _ = _ ∧ _ = _ ∧ _ = _ ∧ _ = _ ∧ True from ⟨e0, e1, e2, e3, trivial⟩) (sX11_indexOf_2_k48 G hn hC hr i0 a1 a2 N v3 w h)
        rw [if_neg hj] at h
        cases h
      · exact (show _ = _ ∧ _ = _ ∧ _ = _ ∧ True from ⟨rfl, rfl, rfl, trivial⟩)
-- MoorGuides$Reader.readNewName([II)Z
def tX7_readNewName : List EN := [
  (0, .aload_n 0, 0, 0, 0, 0, 0, []), (1, .getfield 12, 0, 7, 0, 0, 0, []), (4, .getfield 47, 0, 10, 8, 0, 0, []), (7, .bipush (-4), 0, 0, 0, (-4), 0, []),
  (9, .if_icmp .eq 9, 0, 9, 0, 0, 0, []), (12, .aload_n 0, 0, 0, 0, 0, 0, []), (13, .iconst 1, 0, 0, 0, 1, 0, []), (14, .invokevirtual 59, 0, 0, 2, 0, 0, []),
  (17, .ireturn, 0, 0, 0, 0, 0, []), (18, .aload_n 1, 0, 0, 0, 0, 0, []), (19, .iload_n 2, 0, 0, 0, 0, 0, []), (20, .aload_n 0, 0, 0, 0, 0, 0, []),
  (21, .getfield 12, 0, 7, 0, 0, 0, []), (24, .getfield 192, 0, 10, 10, 0, 0, []), (27, .invokestatic 195, 0, 1, 3, 0, 0, []), (30, .iconst (-1), 0, 0, 0, (-1), 0, []),
  (31, .if_icmp .eq 9, 0, 21, 0, 0, 0, []), (34, .aload_n 0, 0, 0, 0, 0, 0, []), (35, .iconst 3, 0, 0, 0, 3, 0, []), (36, .invokevirtual 59, 0, 0, 2, 0, 0, []),
  (39, .ireturn, 0, 0, 0, 0, 0, []), (40, .iload_n 2, 0, 0, 0, 0, 0, []), (41, .aload_n 1, 0, 0, 0, 0, 0, []), (42, .arraylength, 0, 0, 0, 0, 0, []),
  (43, .if_icmp .ge 13, 0, 31, 0, 0, 0, []), (46, .aload_n 1, 0, 0, 0, 0, 0, []), (47, .iload_n 2, 0, 0, 0, 0, 0, []), (48, .aload_n 0, 0, 0, 0, 0, 0, []),
  (49, .getfield 12, 0, 7, 0, 0, 0, []), (52, .getfield 192, 0, 10, 10, 0, 0, []), (55, .iastore, 0, 0, 0, 0, 0, []), (56, .aload_n 0, 0, 0, 0, 0, 0, []),
  (57, .getfield 12, 0, 7, 0, 0, 0, []), (60, .invokevirtual 62, 0, 0, 1, 0, 0, [(0, 0), (0, 0)]), (63, .iconst 1, 0, 0, 0, 1, 0, []), (64, .ireturn, 0, 0, 0, 0, 0, [])]
noncomputable def pX7_readNewName (N : Nat) (k1 : Nat) (i1 : Nat) (a2 : Int32) (w : Wd) : Option (Int32 × Wd) :=
  if (gI w 14 0 8) = (-4 : Int32) then
    (callW (pX11_indexOf N k1 i1 a2 (gI w 14 0 10)) w).bind fun r1 =>
    if r1.1 = (-1 : Int32) then
      if a2 < (Int32.ofNat (ln k1 i1)) then
        (stI r1.2 k1 i1 a2 (ln k1 i1) (gI r1.2 14 0 10)).bind fun w2 =>
        (callW (pX10_advance N) w2).bind fun w3 =>
        some ((1 : Int32), w3)
      else
      (callW (pX10_advance N) r1.2).bind fun w4 =>
      some ((1 : Int32), w4)
    else
    (callW (pX7_fail N (3 : Int32)) r1.2).bind fun r5 =>
    retZ r5.1 r5.2
  else
  (callW (pX7_fail N (1 : Int32)) w).bind fun r6 =>
  retZ r6.1 r6.2
noncomputable def mX7_readNewName (N : Nat) (as : List AV) (w : Wd) : Option (Int32 × Wd) := xS1 11 as fun t => xA1 [30, 48] t fun k1 i1 t => xI1 t fun a2 t => xN1 t (callW (pX7_readNewName N k1 i1 a2) w)
set_option maxRecDepth 100000 in
set_option maxHeartbeats 4000000 in
theorem kX7_readNewName : TK cX7_readNewName RX7 3 tX7_readNewName := ⟨by decide +kernel, wok_of [466, 437, 466, 442, 466, 442, 466] (by decide +kernel) (by decide +kernel)⟩
set_option maxRecDepth 100000 in
set_option maxHeartbeats 4000000 in
theorem crX7_readNewName {N : Nat} {X : XT} (G : GX X cX7_readNewName RX7) (hR : xR X = rmL 2) : CRs X tX7_readNewName (oF [(mX7_fail N), (mX11_indexOf N)]) (oF []) (oF [(mX10_advance N)]) := by
  have hl : tX7_readNewName.filter isInv = [(14, .invokevirtual 59, 0, 0, 2, 0, 0, []), (27, .invokestatic 195, 0, 1, 3, 0, 0, []), (36, .invokevirtual 59, 0, 0, 2, 0, 0, []), (60, .invokevirtual 62, 0, 0, 1, 0, 0, [(0, 0), (0, 0)])] := rfl
  intro e he
  rw [hl] at he
  simp only [List.mem_cons, List.not_mem_nil, or_false] at he
  rcases he with rfl | rfl | rfl | rfl
  · exact crI_V (idx := 59) G (by decide +kernel) (MX7_fail N) (cw_of (ps := [858, 860, 10, 152, 861]) (by decide +kernel) (by decide +kernel)) ⟨by decide +kernel, by decide +kernel, by decide +kernel⟩ (by unfold rmOk; rw [hR]; exact ⟨by decide, by decide⟩)
  · exact crI_N G (by decide +kernel) (MX11_indexOf N) (cw_of (ps := [872, 148, 873]) (by decide +kernel) (by decide +kernel)) ⟨by decide +kernel, by decide +kernel, by decide +kernel⟩ (by unfold rmOk; rw [hR]; exact ⟨by decide, by decide⟩)
  · exact crI_V (idx := 59) G (by decide +kernel) (MX7_fail N) (cw_of (ps := [858, 860, 10, 152, 861]) (by decide +kernel) (by decide +kernel)) ⟨by decide +kernel, by decide +kernel, by decide +kernel⟩ (by unfold rmOk; rw [hR]; exact ⟨by decide, by decide⟩)
  · exact crV_V (idx := 62) G (by decide +kernel) (MX10_advance N) (cw_of (ps := [862, 847, 848, 153, 849]) (by decide +kernel) (by decide +kernel)) ⟨by decide +kernel, by decide +kernel, by decide +kernel⟩ (by unfold rmOk; rw [hR]; exact ⟨by decide, by decide⟩)
set_option maxRecDepth 100000 in
set_option maxHeartbeats 4000000 in
theorem MX7_readNewName (N : Nat) : SndI yX7_readNewName cX7_readNewName 3 (some .boolean) 2 3 true (mX7_readNewName N) := by
  refine SndI.ofZ tX7_readNewName (by decide +kernel) rfl rfl ?_ ?_
  · intro as w x h
    obtain ⟨t1, rfl, h_1⟩ := xS1_some h
    obtain ⟨k1, i1, t2, rfl, hk, h_2⟩ := xA1_some h_1
    obtain ⟨a2, t3, rfl, h_3⟩ := xI1_some h_2
    obtain ⟨rfl, h_4⟩ := xN1_some h_3
    clear h h_1 h_2 h_3
    have h := h_4
    rw [callW_eq] at h
    exact ⟨fun _ => ⟨_, _, _, rfl, rfl, _, rfl, rfl⟩, rfl, Nat.le_of_ble_eq_true rfl⟩
  · intro X G hn hR as w r h hr
    have hC := crX7_readNewName (N := N) G hR
    obtain ⟨t1, rfl, h_1⟩ := xS1_some h
    obtain ⟨k1, i1, t2, rfl, hk, h_2⟩ := xA1_some h_1
    obtain ⟨a2, t3, rfl, h_3⟩ := xI1_some h_2
    obtain ⟨rfl, h_4⟩ := xN1_some h_3
    clear h h_1 h_2 h_3
    have h := h_4
    rw [callW_eq] at h
    have hk : k1 = 30 ∨ k1 = 48 := by simpa using hk
    rcases hk with rfl | rfl
    · refine run_sound (r := r) (X := X) (cc := cX7_readNewName) (own := RX7) (tab := tX7_readNewName) G (by rw [hn]; exact kX7_readNewName) (oI := (oF [(mX7_fail N), (mX11_indexOf N)])) (oL := (oF [])) (oV := (oF [(mX10_advance N)])) (rI := retZ) (rL := (fun _ _ => none)) (rV := (fun _ => none))
        (K := (fun j ls st w => none)) hr (fun _ _ _ _ hx => by cases hx) (fun _ _ _ hx => by cases hx) hC (fun ls => lsb [some (.inr (.inr (11, 0))), some (.inr (.inr (30, i1))), some (.inl a2)] 0 ls) (keepsP_of rfl) ?_ 38 0 [some (.inr (.inr (11, 0))), some (.inr (.inr (30, i1))), some (.inl a2)] [] w ?_ h
      · intro j ls st w hfx h
        obtain ⟨e0, e1, e2, -⟩ : _ = _ ∧ _ = _ ∧ _ = _ ∧ True := hfx
        try dsimp only at h
        cases h
      · exact (show _ = _ ∧ _ = _ ∧ _ = _ ∧ True from ⟨rfl, rfl, rfl, trivial⟩)
    · refine run_sound (r := r) (X := X) (cc := cX7_readNewName) (own := RX7) (tab := tX7_readNewName) G (by rw [hn]; exact kX7_readNewName) (oI := (oF [(mX7_fail N), (mX11_indexOf N)])) (oL := (oF [])) (oV := (oF [(mX10_advance N)])) (rI := retZ) (rL := (fun _ _ => none)) (rV := (fun _ => none))
        (K := (fun j ls st w => none)) hr (fun _ _ _ _ hx => by cases hx) (fun _ _ _ hx => by cases hx) hC (fun ls => lsb [some (.inr (.inr (11, 0))), some (.inr (.inr (48, i1))), some (.inl a2)] 0 ls) (keepsP_of rfl) ?_ 38 0 [some (.inr (.inr (11, 0))), some (.inr (.inr (48, i1))), some (.inl a2)] [] w ?_ h
      · intro j ls st w hfx h
        obtain ⟨e0, e1, e2, -⟩ : _ = _ ∧ _ = _ ∧ _ = _ ∧ True := hfx
        try dsimp only at h
        cases h
      · exact (show _ = _ ∧ _ = _ ∧ _ = _ ∧ True from ⟨rfl, rfl, rfl, trivial⟩)
-- MoorGuides$Reader.readNumber(II)I
def tX7_readNumber : List EN := [
  (0, .aload_n 0, 0, 0, 0, 0, 0, []), (1, .getfield 12, 0, 7, 0, 0, 0, []), (4, .getfield 47, 0, 10, 8, 0, 0, []), (7, .bipush (-3), 0, 0, 0, (-3), 0, []),
  (9, .if_icmp .eq 11, 0, 11, 0, 0, 0, []), (12, .aload_n 0, 0, 0, 0, 0, 0, []), (13, .iconst 1, 0, 0, 0, 1, 0, []), (14, .invokevirtual 59, 0, 0, 2, 0, 0, []),
  (17, .pop, 0, 0, 0, 0, 0, []), (18, .iconst (-1), 0, 0, 0, (-1), 0, []), (19, .ireturn, 0, 0, 0, 0, 0, []), (20, .aload_n 0, 0, 0, 0, 0, 0, []),
  (21, .getfield 12, 0, 7, 0, 0, 0, []), (24, .getfield 192, 0, 10, 10, 0, 0, []), (27, .istore_n 3, 0, 0, 0, 0, 0, []), (28, .iload_n 3, 0, 0, 0, 0, 0, []),
  (29, .iload_n 1, 0, 0, 0, 0, 0, []), (30, .if_icmp .lt 8, 0, 21, 0, 0, 0, []), (33, .iload_n 3, 0, 0, 0, 0, 0, []), (34, .iload_n 2, 0, 0, 0, 0, 0, []),
  (35, .if_icmp .le 11, 0, 27, 0, 0, 0, []), (38, .aload_n 0, 22, 0, 0, 0, 0, []), (39, .iconst 2, 0, 0, 0, 2, 0, []), (40, .invokevirtual 59, 0, 0, 2, 0, 0, []),
  (43, .pop, 0, 0, 0, 0, 0, []), (44, .iconst (-1), 0, 0, 0, (-1), 0, []), (45, .ireturn, 0, 0, 0, 0, 0, []), (46, .aload_n 0, 0, 0, 0, 0, 0, []),
  (47, .getfield 12, 0, 7, 0, 0, 0, []), (50, .invokevirtual 62, 0, 0, 1, 0, 0, [(0, 0), (0, 0)]), (53, .iload_n 3, 0, 0, 0, 0, 0, []), (54, .ireturn, 0, 0, 0, 0, 0, [])]
noncomputable def fX7_readNumber_21 (N : Nat) (w : Wd) : Option (Int32 × Wd) :=
  (callW (pX7_fail N (2 : Int32)) w).bind fun r1 =>
  some ((-1 : Int32), r1.2)
noncomputable def pX7_readNumber (N : Nat) (a1 : Int32) (a2 : Int32) (w : Wd) : Option (Int32 × Wd) :=
  if (gI w 14 0 8) = (-3 : Int32) then
    if (gI w 14 0 10) < a1 then callW (fX7_readNumber_21 N) w else
    if a2 < (gI w 14 0 10) then callW (fX7_readNumber_21 N) w else
    (callW (pX10_advance N) w).bind fun w1 =>
    some ((gI w 14 0 10), w1)
  else
  (callW (pX7_fail N (1 : Int32)) w).bind fun r2 =>
  some ((-1 : Int32), r2.2)
noncomputable def mX7_readNumber (N : Nat) (as : List AV) (w : Wd) : Option (Int32 × Wd) := xS1 11 as fun t => xI1 t fun a1 t => xI1 t fun a2 t => xN1 t (callW (pX7_readNumber N a1 a2) w)
set_option maxRecDepth 100000 in
set_option maxHeartbeats 4000000 in
theorem kX7_readNumber : TK cX7_readNumber RX7 4 tX7_readNumber := ⟨by decide +kernel, wok_of [466, 437, 466, 442, 466] (by decide +kernel) (by decide +kernel)⟩
set_option maxRecDepth 100000 in
set_option maxHeartbeats 4000000 in
theorem sX7_readNumber_21 {N : Nat} {X : XT} (G : GX X cX7_readNumber RX7) (hn : xnL X = 4) (hC : CRs X tX7_readNumber (oF [(mX7_fail N)]) (oF []) (oF [(mX10_advance N)])) {r : Int32 × Wd} (hr : RTI X cX7_readNumber r) (a1 : Int32) (a2 : Int32) : ∀ (w : Wd), fX7_readNumber_21 N w = some r → WW X (pcAt tX7_readNumber 21) [some (.inr (.inr (11, 0))), some (.inl a1), some (.inl a2), none] [] w := by
  intro w h
  refine run_sound (r := r) (X := X) (cc := cX7_readNumber) (own := RX7) (tab := tX7_readNumber) G (by rw [hn]; exact kX7_readNumber) (oI := (oF [(mX7_fail N)])) (oL := (oF [])) (oV := (oF [(mX10_advance N)])) (rI := (fun x w => some (x, w))) (rL := (fun _ _ => none)) (rV := (fun _ => none))
    (K := (fun j ls st w => none)) (fun x w pc ls hx hd => hr x w pc ls (Option.some.inj hx) hd) (fun _ _ _ _ hx => by cases hx) (fun _ _ _ hx => by cases hx) hC (fun ls => lsb [some (.inr (.inr (11, 0))), some (.inl a1), some (.inl a2), none] 0 ls) (keepsP_of rfl) ?_ 34 21 [some (.inr (.inr (11, 0))), some (.inl a1), some (.inl a2), none] [] w ?_ h
  · intro j ls st w hfx h
    obtain ⟨e0, e1, e2, -⟩ : _ = _ ∧ _ = _ ∧ _ = _ ∧ True := hfx
    try dsimp only at h
    cases h
  · exact (show _ = _ ∧ _ = _ ∧ _ = _ ∧ True from ⟨rfl, rfl, rfl, trivial⟩)
set_option maxRecDepth 100000 in
set_option maxHeartbeats 4000000 in
theorem crX7_readNumber {N : Nat} {X : XT} (G : GX X cX7_readNumber RX7) (hR : xR X = rmL 2) : CRs X tX7_readNumber (oF [(mX7_fail N)]) (oF []) (oF [(mX10_advance N)]) := by
  have hl : tX7_readNumber.filter isInv = [(14, .invokevirtual 59, 0, 0, 2, 0, 0, []), (40, .invokevirtual 59, 0, 0, 2, 0, 0, []), (50, .invokevirtual 62, 0, 0, 1, 0, 0, [(0, 0), (0, 0)])] := rfl
  intro e he
  rw [hl] at he
  simp only [List.mem_cons, List.not_mem_nil, or_false] at he
  rcases he with rfl | rfl | rfl
  · exact crI_V (idx := 59) G (by decide +kernel) (MX7_fail N) (cw_of (ps := [858, 860, 10, 152, 861]) (by decide +kernel) (by decide +kernel)) ⟨by decide +kernel, by decide +kernel, by decide +kernel⟩ (by unfold rmOk; rw [hR]; exact ⟨by decide, by decide⟩)
  · exact crI_V (idx := 59) G (by decide +kernel) (MX7_fail N) (cw_of (ps := [858, 860, 10, 152, 861]) (by decide +kernel) (by decide +kernel)) ⟨by decide +kernel, by decide +kernel, by decide +kernel⟩ (by unfold rmOk; rw [hR]; exact ⟨by decide, by decide⟩)
  · exact crV_V (idx := 62) G (by decide +kernel) (MX10_advance N) (cw_of (ps := [862, 847, 848, 153, 849]) (by decide +kernel) (by decide +kernel)) ⟨by decide +kernel, by decide +kernel, by decide +kernel⟩ (by unfold rmOk; rw [hR]; exact ⟨by decide, by decide⟩)
set_option maxRecDepth 100000 in
set_option maxHeartbeats 4000000 in
theorem MX7_readNumber (N : Nat) : SndI yX7_readNumber cX7_readNumber 4 (some .int) 2 3 true (mX7_readNumber N) := by
  refine SndI.of tX7_readNumber (by decide +kernel) rfl rfl ?_ ?_
  · intro as w x h
    obtain ⟨t1, rfl, h_1⟩ := xS1_some h
    obtain ⟨a1, t2, rfl, h_2⟩ := xI1_some h_1
    obtain ⟨a2, t3, rfl, h_3⟩ := xI1_some h_2
    obtain ⟨rfl, h_4⟩ := xN1_some h_3
    clear h h_1 h_2 h_3
    have h := h_4
    rw [callW_eq] at h
    exact ⟨fun _ => ⟨_, _, _, rfl, rfl, _, rfl, rfl⟩, rfl, Nat.le_of_ble_eq_true rfl⟩
  · intro X G hn hR as w r h hr
    have hC := crX7_readNumber (N := N) G hR
    obtain ⟨t1, rfl, h_1⟩ := xS1_some h
    obtain ⟨a1, t2, rfl, h_2⟩ := xI1_some h_1
    obtain ⟨a2, t3, rfl, h_3⟩ := xI1_some h_2
    obtain ⟨rfl, h_4⟩ := xN1_some h_3
    clear h h_1 h_2 h_3
    have h := h_4
    rw [callW_eq] at h
    refine run_sound (r := r) (X := X) (cc := cX7_readNumber) (own := RX7) (tab := tX7_readNumber) G (by rw [hn]; exact kX7_readNumber) (oI := (oF [(mX7_fail N)])) (oL := (oF [])) (oV := (oF [(mX10_advance N)])) (rI := (fun x w => some (x, w))) (rL := (fun _ _ => none)) (rV := (fun _ => none))
      (K := (fun j ls st w => if j = 21 then (st0 st (callW (fX7_readNumber_21 N) w)) else none)) (fun x w pc ls hx hd => hr x w pc ls (Option.some.inj hx) hd) (fun _ _ _ _ hx => by cases hx) (fun _ _ _ hx => by cases hx) hC (fun ls => lsb [some (.inr (.inr (11, 0))), some (.inl a1), some (.inl a2), none] 0 ls) (keepsP_of rfl) ?_ 34 0 [some (.inr (.inr (11, 0))), some (.inl a1), some (.inl a2), none] [] w ?_ h
    · intro j ls st w hfx h
      obtain ⟨e0, e1, e2, -⟩ : _ = _ ∧ _ = _ ∧ _ = _ ∧ True := hfx
      try dsimp only at h
      by_cases hj : j = 21
      · subst hj
        rw [if_pos rfl] at h
        obtain ⟨rfl, h_1⟩ := st0_some h
        clear h
        have h := h_1
        try rw [callW_eq] at h
        exact WW.le (a := [some (.inr (.inr (11, 0))), some (.inl a1), some (.inl a2), none]) (by rw [hn]; rfl) (show _ = _ ∧ _ = _ ∧ _ = _ ∧ True from ⟨e0, e1, e2, trivial⟩) (sX7_readNumber_21 G hn hC hr a1 a2 w h)
      rw [if_neg hj] at h
      cases h
    · exact (show _ = _ ∧ _ = _ ∧ _ = _ ∧ True from ⟨rfl, rfl, rfl, trivial⟩)
-- MoorGuides$Reader.toldPart()I
def tX7_toldPart : List EN := [
  (0, .aload_n 0, 0, 0, 0, 0, 0, []), (1, .getfield 12, 0, 7, 0, 0, 0, []), (4, .getfield 47, 0, 10, 8, 0, 0, []), (7, .bipush (-4), 0, 0, 0, (-4), 0, []),
  (9, .if_icmp .eq 11, 0, 11, 0, 0, 0, []), (12, .aload_n 0, 0, 0, 0, 0, 0, []), (13, .iconst 1, 0, 0, 0, 1, 0, []), (14, .invokevirtual 59, 0, 0, 2, 0, 0, []),
  (17, .pop, 0, 0, 0, 0, 0, []), (18, .iconst (-1), 0, 0, 0, (-1), 0, []), (19, .ireturn, 0, 0, 0, 0, 0, []), (20, .aload_n 0, 0, 0, 0, 0, 0, []),
  (21, .getfield 26, 0, 7, 1, 0, 0, []), (24, .getfield 116, 0, 4, 1, 0, 0, []), (27, .aload_n 0, 0, 0, 0, 0, 0, []), (28, .getfield 26, 0, 7, 1, 0, 0, []),
  (31, .getfield 65, 0, 4, 0, 0, 0, []), (34, .aload_n 0, 0, 0, 0, 0, 0, []), (35, .getfield 12, 0, 7, 0, 0, 0, []), (38, .getfield 192, 0, 10, 10, 0, 0, []),
  (41, .invokestatic 195, 0, 1, 3, 0, 0, []), (44, .istore_n 1, 0, 0, 0, 0, 0, []), (45, .iload_n 1, 0, 0, 0, 0, 0, []), (46, .iconst (-1), 0, 0, 0, (-1), 0, []),
  (47, .if_icmp .ne 9, 0, 29, 0, 0, 0, []), (50, .aload_n 0, 0, 0, 0, 0, 0, []), (51, .iconst 4, 0, 0, 0, 4, 0, []), (52, .invokevirtual 59, 0, 0, 2, 0, 0, []),
  (55, .pop, 0, 0, 0, 0, 0, []), (56, .iload_n 1, 0, 0, 0, 0, 0, []), (57, .ireturn, 0, 0, 0, 0, 0, [])]
noncomputable def pX7_toldPart (N : Nat) (w : Wd) : Option (Int32 × Wd) :=
  if (gI w 14 0 8) = (-4 : Int32) then
    (callW (pX11_indexOf N 30 (gR w 11 0 1) (gI w 8 (gR w 11 0 1) 0) (gI w 14 0 10)) w).bind fun r1 =>
    if r1.1 = (-1 : Int32) then
      (callW (pX7_fail N (4 : Int32)) r1.2).bind fun r2 =>
      some (r1.1, r2.2)
    else
    some (r1.1, r1.2)
  else
  (callW (pX7_fail N (1 : Int32)) w).bind fun r3 =>
  some ((-1 : Int32), r3.2)
noncomputable def mX7_toldPart (N : Nat) (as : List AV) (w : Wd) : Option (Int32 × Wd) := xS1 11 as fun t => xN1 t (callW (pX7_toldPart N) w)
set_option maxRecDepth 100000 in
set_option maxHeartbeats 4000000 in
theorem kX7_toldPart : TK cX7_toldPart RX7 2 tX7_toldPart := ⟨by decide +kernel, wok_of [466, 437, 467, 266, 467, 263, 466, 442] (by decide +kernel) (by decide +kernel)⟩
set_option maxRecDepth 100000 in
set_option maxHeartbeats 4000000 in
theorem crX7_toldPart {N : Nat} {X : XT} (G : GX X cX7_toldPart RX7) (hR : xR X = rmL 2) : CRs X tX7_toldPart (oF [(mX7_fail N), (mX11_indexOf N)]) (oF []) (oF []) := by
  have hl : tX7_toldPart.filter isInv = [(14, .invokevirtual 59, 0, 0, 2, 0, 0, []), (41, .invokestatic 195, 0, 1, 3, 0, 0, []), (52, .invokevirtual 59, 0, 0, 2, 0, 0, [])] := rfl
  intro e he
  rw [hl] at he
  simp only [List.mem_cons, List.not_mem_nil, or_false] at he
  rcases he with rfl | rfl | rfl
  · exact crI_V (idx := 59) G (by decide +kernel) (MX7_fail N) (cw_of (ps := [858, 860, 10, 152, 861]) (by decide +kernel) (by decide +kernel)) ⟨by decide +kernel, by decide +kernel, by decide +kernel⟩ (by unfold rmOk; rw [hR]; exact ⟨by decide, by decide⟩)
  · exact crI_N G (by decide +kernel) (MX11_indexOf N) (cw_of (ps := [872, 148, 873]) (by decide +kernel) (by decide +kernel)) ⟨by decide +kernel, by decide +kernel, by decide +kernel⟩ (by unfold rmOk; rw [hR]; exact ⟨by decide, by decide⟩)
  · exact crI_V (idx := 59) G (by decide +kernel) (MX7_fail N) (cw_of (ps := [858, 860, 10, 152, 861]) (by decide +kernel) (by decide +kernel)) ⟨by decide +kernel, by decide +kernel, by decide +kernel⟩ (by unfold rmOk; rw [hR]; exact ⟨by decide, by decide⟩)
set_option maxRecDepth 100000 in
set_option maxHeartbeats 4000000 in
theorem MX7_toldPart (N : Nat) : SndI yX7_toldPart cX7_toldPart 2 (some .int) 2 1 true (mX7_toldPart N) := by
  refine SndI.of tX7_toldPart (by decide +kernel) rfl rfl ?_ ?_
  · intro as w x h
    obtain ⟨t1, rfl, h_1⟩ := xS1_some h
    obtain ⟨rfl, h_2⟩ := xN1_some h_1
    clear h h_1
    have h := h_2
    rw [callW_eq] at h
    exact ⟨fun _ => ⟨_, _, _, rfl, rfl, _, rfl, rfl⟩, rfl, Nat.le_of_ble_eq_true rfl⟩
  · intro X G hn hR as w r h hr
    have hC := crX7_toldPart (N := N) G hR
    obtain ⟨t1, rfl, h_1⟩ := xS1_some h
    obtain ⟨rfl, h_2⟩ := xN1_some h_1
    clear h h_1
    have h := h_2
    rw [callW_eq] at h
    refine run_sound (r := r) (X := X) (cc := cX7_toldPart) (own := RX7) (tab := tX7_toldPart) G (by rw [hn]; exact kX7_toldPart) (oI := (oF [(mX7_fail N), (mX11_indexOf N)])) (oL := (oF [])) (oV := (oF [])) (rI := (fun x w => some (x, w))) (rL := (fun _ _ => none)) (rV := (fun _ => none))
      (K := (fun j ls st w => none)) (fun x w pc ls hx hd => hr x w pc ls (Option.some.inj hx) hd) (fun _ _ _ _ hx => by cases hx) (fun _ _ _ hx => by cases hx) hC (fun ls => lsb [some (.inr (.inr (11, 0))), none] 0 ls) (keepsP_of rfl) ?_ 33 0 [some (.inr (.inr (11, 0))), none] [] w ?_ h
    · intro j ls st w hfx h
      obtain ⟨e0, -⟩ : _ = _ ∧ True := hfx
      try dsimp only at h
      cases h
    · exact (show _ = _ ∧ True from ⟨rfl, trivial⟩)
-- MoorGuides$Reader.readOtherPart(I)I
def tX7_readOtherPart : List EN := [
  (0, .aload_n 0, 0, 0, 0, 0, 0, []), (1, .invokevirtual 199, 0, 0, 1, 0, 0, []), (4, .istore_n 2, 0, 0, 0, 0, 0, []), (5, .iload_n 2, 0, 0, 0, 0, 0, []),
  (6, .iconst (-1), 0, 0, 0, (-1), 0, []), (7, .if_icmp .ne 5, 0, 8, 0, 0, 0, []), (10, .iconst 0, 0, 0, 0, 0, 0, []), (11, .ireturn, 0, 0, 0, 0, 0, []),
  (12, .iload_n 1, 0, 0, 0, 0, 0, []), (13, .iload_n 2, 0, 0, 0, 0, 0, []), (14, .ishr, 0, 0, 0, 0, 0, []), (15, .iconst 1, 0, 0, 0, 1, 0, []),
  (16, .iand, 0, 0, 0, 0, 0, []), (17, .ifCond .eq 11, 0, 20, 0, 0, 0, []), (20, .aload_n 0, 0, 0, 0, 0, 0, []), (21, .iconst 3, 0, 0, 0, 3, 0, []),
  (22, .invokevirtual 59, 0, 1, 2, 0, 0, []), (25, .pop, 0, 0, 0, 0, 0, []), (26, .iconst 0, 0, 0, 0, 0, 0, []), (27, .ireturn, 0, 0, 0, 0, 0, []),
  (28, .aload_n 0, 0, 0, 0, 0, 0, []), (29, .getfield 12, 0, 7, 0, 0, 0, []), (32, .invokevirtual 62, 0, 0, 1, 0, 0, [(0, 0), (0, 0)]), (35, .iconst 1, 0, 0, 0, 1, 0, []),
  (36, .iload_n 2, 0, 0, 0, 0, 0, []), (37, .ishl, 0, 0, 0, 0, 0, []), (38, .ireturn, 0, 0, 0, 0, 0, [])]
noncomputable def pX7_readOtherPart (N : Nat) (a1 : Int32) (w : Wd) : Option (Int32 × Wd) :=
  (callW (pX7_toldPart N) w).bind fun r1 =>
  if r1.1 = (-1 : Int32) then some ((0 : Int32), r1.2) else
  if ((a1 >>> (r1.1 &&& (31 : Int32))) &&& (1 : Int32)) = 0 then
    (callW (pX10_advance N) r1.2).bind fun w2 =>
    some (((1 : Int32) <<< (r1.1 &&& (31 : Int32))), w2)
  else
  (callW (pX7_fail N (3 : Int32)) r1.2).bind fun r3 =>
  some ((0 : Int32), r3.2)
noncomputable def mX7_readOtherPart (N : Nat) (as : List AV) (w : Wd) : Option (Int32 × Wd) := xS1 11 as fun t => xI1 t fun a1 t => xN1 t (callW (pX7_readOtherPart N a1) w)
set_option maxRecDepth 100000 in
set_option maxHeartbeats 4000000 in
theorem kX7_readOtherPart : TK cX7_readOtherPart RX7 3 tX7_readOtherPart := ⟨by decide +kernel, wok_of [466] (by decide +kernel) (by decide +kernel)⟩
set_option maxRecDepth 100000 in
set_option maxHeartbeats 4000000 in
theorem crX7_readOtherPart {N : Nat} {X : XT} (G : GX X cX7_readOtherPart RX7) (hR : xR X = rmL 3) : CRs X tX7_readOtherPart (oF [(mX7_toldPart N), (mX7_fail N)]) (oF []) (oF [(mX10_advance N)]) := by
  have hl : tX7_readOtherPart.filter isInv = [(1, .invokevirtual 199, 0, 0, 1, 0, 0, []), (22, .invokevirtual 59, 0, 1, 2, 0, 0, []), (32, .invokevirtual 62, 0, 0, 1, 0, 0, [(0, 0), (0, 0)])] := rfl
  intro e he
  rw [hl] at he
  simp only [List.mem_cons, List.not_mem_nil, or_false] at he
  rcases he with rfl | rfl | rfl
  · exact crI_V (idx := 199) G (by decide +kernel) (MX7_toldPart N) (cw_of (ps := [882, 884, 15, 152, 885]) (by decide +kernel) (by decide +kernel)) ⟨by decide +kernel, by decide +kernel, by decide +kernel⟩ (by unfold rmOk; rw [hR]; exact ⟨by decide, by decide⟩)
  · exact crI_V (idx := 59) G (by decide +kernel) (MX7_fail N) (cw_of (ps := [858, 860, 10, 152, 861]) (by decide +kernel) (by decide +kernel)) ⟨by decide +kernel, by decide +kernel, by decide +kernel⟩ (by unfold rmOk; rw [hR]; exact ⟨by decide, by decide⟩)
  · exact crV_V (idx := 62) G (by decide +kernel) (MX10_advance N) (cw_of (ps := [862, 847, 848, 153, 849]) (by decide +kernel) (by decide +kernel)) ⟨by decide +kernel, by decide +kernel, by decide +kernel⟩ (by unfold rmOk; rw [hR]; exact ⟨by decide, by decide⟩)
set_option maxRecDepth 100000 in
set_option maxHeartbeats 4000000 in
theorem MX7_readOtherPart (N : Nat) : SndI yX7_readOtherPart cX7_readOtherPart 3 (some .int) 3 2 true (mX7_readOtherPart N) := by
  refine SndI.of tX7_readOtherPart (by decide +kernel) rfl rfl ?_ ?_
  · intro as w x h
    obtain ⟨t1, rfl, h_1⟩ := xS1_some h
    obtain ⟨a1, t2, rfl, h_2⟩ := xI1_some h_1
    obtain ⟨rfl, h_3⟩ := xN1_some h_2
    clear h h_1 h_2
    have h := h_3
    rw [callW_eq] at h
    exact ⟨fun _ => ⟨_, _, _, rfl, rfl, _, rfl, rfl⟩, rfl, Nat.le_of_ble_eq_true rfl⟩
  · intro X G hn hR as w r h hr
    have hC := crX7_readOtherPart (N := N) G hR
    obtain ⟨t1, rfl, h_1⟩ := xS1_some h
    obtain ⟨a1, t2, rfl, h_2⟩ := xI1_some h_1
    obtain ⟨rfl, h_3⟩ := xN1_some h_2
    clear h h_1 h_2
    have h := h_3
    rw [callW_eq] at h
    refine run_sound (r := r) (X := X) (cc := cX7_readOtherPart) (own := RX7) (tab := tX7_readOtherPart) G (by rw [hn]; exact kX7_readOtherPart) (oI := (oF [(mX7_toldPart N), (mX7_fail N)])) (oL := (oF [])) (oV := (oF [(mX10_advance N)])) (rI := (fun x w => some (x, w))) (rL := (fun _ _ => none)) (rV := (fun _ => none))
      (K := (fun j ls st w => none)) (fun x w pc ls hx hd => hr x w pc ls (Option.some.inj hx) hd) (fun _ _ _ _ hx => by cases hx) (fun _ _ _ hx => by cases hx) hC (fun ls => lsb [some (.inr (.inr (11, 0))), some (.inl a1), none] 0 ls) (keepsP_of rfl) ?_ 29 0 [some (.inr (.inr (11, 0))), some (.inl a1), none] [] w ?_ h
    · intro j ls st w hfx h
      obtain ⟨e0, e1, -⟩ : _ = _ ∧ _ = _ ∧ True := hfx
      try dsimp only at h
      cases h
    · exact (show _ = _ ∧ _ = _ ∧ True from ⟨rfl, rfl, trivial⟩)
-- MoorGuides$Reader.readPart()Z
def tX7_readPart : List EN := [
  (0, .aload_n 0, 0, 0, 0, 0, 0, []), (1, .getfield 26, 0, 7, 1, 0, 0, []), (4, .getfield 65, 0, 4, 0, 0, 0, []), (7, .istore_n 1, 0, 0, 0, 0, 0, []),
  (8, .iload_n 1, 0, 0, 0, 0, 0, []), (9, .bipush 8, 0, 0, 0, 8, 0, []), (11, .if_icmp .ge 18, 0, 14, 0, 0, 0, []), (14, .aload_n 0, 0, 0, 0, 0, 0, []),
  (15, .aload_n 0, 0, 0, 0, 0, 0, []), (16, .getfield 26, 0, 7, 1, 0, 0, []), (19, .getfield 116, 0, 4, 1, 0, 0, []), (22, .iload_n 1, 0, 0, 0, 0, 0, []),
  (23, .invokevirtual 119, 0, 0, 3, 0, 0, []), (26, .ifCond .ne 5, 0, 16, 0, 0, 0, []), (29, .iconst 0, 0, 0, 0, 0, 0, []), (30, .ireturn, 0, 0, 0, 0, 0, []),
  (31, .aload_n 0, 0, 0, 0, 0, 0, []), (32, .iconst 0, 0, 0, 0, 0, 0, []), (33, .bipush 100, 0, 0, 0, 100, 0, []), (35, .invokevirtual 123, 0, 1, 3, 0, 0, []),
  (38, .istore_n 2, 0, 0, 0, 0, 0, []), (39, .iload_n 2, 0, 0, 0, 0, 0, []), (40, .ifCond .ge 5, 0, 25, 0, 0, 0, []), (43, .iconst 0, 0, 0, 0, 0, 0, []),
  (44, .ireturn, 0, 0, 0, 0, 0, []), (45, .iconst 0, 0, 0, 0, 0, 0, []), (46, .istore_n 3, 0, 0, 0, 0, 0, []), (47, .iconst 0, 0, 0, 0, 0, 0, []),
  (48, .istore 4, 0, 0, 0, 0, 0, []), (50, .iload 4, 30, 0, 0, 0, 0, []), (52, .bipush 8, 0, 0, 0, 8, 0, []), (54, .if_icmp .gt 46, 0, 54, 0, 0, 0, []),
  (57, .aload_n 0, 0, 0, 0, 0, 0, []), (58, .getfield 12, 0, 7, 0, 0, 0, []), (61, .getfield 47, 0, 10, 8, 0, 0, []), (64, .iconst 1, 0, 0, 0, 1, 0, []),
  (65, .if_icmp .ne 35, 0, 54, 0, 0, 0, []), (68, .aload_n 0, 0, 0, 0, 0, 0, []), (69, .getfield 12, 0, 7, 0, 0, 0, []), (72, .invokevirtual 62, 0, 0, 1, 0, 0, [(0, 0), (0, 0)]),
  (75, .aload_n 0, 0, 0, 0, 0, 0, []), (76, .iload_n 3, 0, 0, 0, 0, 0, []), (77, .invokevirtual 127, 0, 2, 2, 0, 0, []), (80, .istore 5, 0, 0, 0, 0, 0, []),
  (82, .iload 5, 0, 0, 0, 0, 0, []), (84, .ifCond .ne 5, 0, 48, 0, 0, 0, []), (87, .iconst 0, 0, 0, 0, 0, 0, []), (88, .ireturn, 0, 0, 0, 0, 0, []),
  (89, .iload_n 3, 0, 0, 0, 0, 0, []), (90, .iload 5, 0, 0, 0, 0, 0, []), (92, .ior, 0, 0, 0, 0, 0, []), (93, .istore_n 3, 0, 0, 0, 0, 0, []),
  (94, .iinc 4 1, 0, 0, 0, 1, 0, []), (97, .goto (-47), 0, 29, 0, 0, 0, []), (100, .aload_n 0, 55, 0, 0, 0, 0, []), (101, .getfield 26, 0, 7, 1, 0, 0, []),
  (104, .iload_n 2, 0, 0, 0, 0, 0, []), (105, .iload_n 3, 0, 0, 0, 0, 0, []), (106, .invokevirtual 131, 0, 1, 3, 0, 0, [(0, 0), (0, 0)]), (109, .iconst 1, 0, 0, 0, 1, 0, []),
  (110, .ireturn, 0, 0, 0, 0, 0, [])]
noncomputable def fX7_readPart_54 (N : Nat) (v2 : Int32) (v3 : Int32) (w : Wd) : Option (Int32 × Wd) :=
  (callW (pX4_addPart N (gR w 11 0 1) v2 v3) w).bind fun w1 =>
  some ((1 : Int32), w1)
noncomputable def fX7_readPart_29 (N : Nat) : Nat → (Int32 → Int32 → Wd → Option (Int32 × Wd)) → Int32 → Int32 → Int32 → Wd → Option (Int32 × Wd)
  | 0, _, _, _, _, _ => none
  | n + 1, k54, v2, v3, v4, w =>
    if (8 : Int32) < v4 then k54 v2 v3 w else
    if (gI w 14 0 8) = (1 : Int32) then
      (callW (pX10_advance N) w).bind fun w1 =>
      (callW (pX7_readOtherPart N v3) w1).bind fun r2 =>
      if r2.1 = 0 then some ((0 : Int32), r2.2) else
      callW (fX7_readPart_29 N n k54 v2 (v3 ||| r2.1) (v4 + (1 : Int32))) r2.2
    else
    k54 v2 v3 w
noncomputable def pX7_readPart (N : Nat) (w : Wd) : Option (Int32 × Wd) :=
  if (gI w 8 (gR w 11 0 1) 0) < (8 : Int32) then
    (callW (pX7_readNewName N 30 (gR w 11 0 1) (gI w 8 (gR w 11 0 1) 0)) w).bind fun r1 =>
    if r1.1 = 0 then some ((0 : Int32), r1.2) else
    (callW (pX7_readNumber N (0 : Int32) (100 : Int32)) r1.2).bind fun r2 =>
    if r2.1 < 0 then some ((0 : Int32), r2.2) else
    callW (fX7_readPart_29 N N (fX7_readPart_54 N) r2.1 (0 : Int32) (0 : Int32)) r2.2
  else
  some ((0 : Int32), w)
noncomputable def mX7_readPart (N : Nat) (as : List AV) (w : Wd) : Option (Int32 × Wd) := xS1 11 as fun t => xN1 t (callW (pX7_readPart N) w)
set_option maxRecDepth 100000 in
set_option maxHeartbeats 4000000 in
theorem kX7_readPart : TK cX7_readPart RX7 6 tX7_readPart := ⟨by decide +kernel, wok_of [467, 263, 467, 266, 466, 437, 466, 467] (by decide +kernel) (by decide +kernel)⟩
set_option maxRecDepth 100000 in
set_option maxHeartbeats 4000000 in
theorem sX7_readPart_54 {N : Nat} {X : XT} (G : GX X cX7_readPart RX7) (hn : xnL X = 6) (hC : CRs X tX7_readPart (oF [(mX7_readNewName N), (mX7_readNumber N), (mX7_readOtherPart N)]) (oF []) (oF [(mX10_advance N), (mX4_addPart N)])) {r : Int32 × Wd} (hr : RTZ X cX7_readPart r)  : ∀ (v2 : Int32) (v3 : Int32) (w : Wd), fX7_readPart_54 N v2 v3 w = some r → WW X (pcAt tX7_readPart 54) [some (.inr (.inr (11, 0))), none, some (.inl v2), some (.inl v3), none, none] [] w := by
  intro v2 v3 w h
  refine run_sound (r := r) (X := X) (cc := cX7_readPart) (own := RX7) (tab := tX7_readPart) G (by rw [hn]; exact kX7_readPart) (oI := (oF [(mX7_readNewName N), (mX7_readNumber N), (mX7_readOtherPart N)])) (oL := (oF [])) (oV := (oF [(mX10_advance N), (mX4_addPart N)])) (rI := retZ) (rL := (fun _ _ => none)) (rV := (fun _ => none))
    (K := (fun j ls st w => none)) hr (fun _ _ _ _ hx => by cases hx) (fun _ _ _ hx => by cases hx) hC (fun ls => lsb [some (.inr (.inr (11, 0))), none, none, none, none, none] 0 ls) (keepsP_of rfl) ?_ 63 54 [some (.inr (.inr (11, 0))), none, some (.inl v2), some (.inl v3), none, none] [] w ?_ h
  · intro j ls st w hfx h
    obtain ⟨e0, -⟩ : _ = _ ∧ True := hfx
    try dsimp only at h
    cases h
  · exact (show _ = _ ∧ True from ⟨rfl, trivial⟩)
set_option maxRecDepth 100000 in
set_option maxHeartbeats 4000000 in
theorem sX7_readPart_29 {N : Nat} {X : XT} (G : GX X cX7_readPart RX7) (hn : xnL X = 6) (hC : CRs X tX7_readPart (oF [(mX7_readNewName N), (mX7_readNumber N), (mX7_readOtherPart N)]) (oF []) (oF [(mX10_advance N), (mX4_addPart N)])) {r : Int32 × Wd} (hr : RTZ X cX7_readPart r)  : ∀ (n : Nat) (k54 : Int32 → Int32 → Wd → Option (Int32 × Wd)) (v2 : Int32) (v3 : Int32) (v4 : Int32) (w : Wd), fX7_readPart_29 N n k54 v2 v3 v4 w = some r → (∀ (v2 : Int32) (v3 : Int32) (w : Wd), k54 v2 v3 w = some r → WW X (pcAt tX7_readPart 54) [some (.inr (.inr (11, 0))), none, some (.inl v2), some (.inl v3), none, none] [] w) → WW X (pcAt tX7_readPart 29) [some (.inr (.inr (11, 0))), none, some (.inl v2), some (.inl v3), some (.inl v4), none] [] w := by
  intro n
  induction n with
  | zero => intro k54 v2 v3 v4 w h h54; cases h
  | succ n ih =>
    intro k54 v2 v3 v4 w h h54
    refine run_sound (r := r) (X := X) (cc := cX7_readPart) (own := RX7) (tab := tX7_readPart) G (by rw [hn]; exact kX7_readPart) (oI := (oF [(mX7_readNewName N), (mX7_readNumber N), (mX7_readOtherPart N)])) (oL := (oF [])) (oV := (oF [(mX10_advance N), (mX4_addPart N)])) (rI := retZ) (rL := (fun _ _ => none)) (rV := (fun _ => none))
      (K := (fun j ls st w => if j = 29 then (lgI ls 2 fun v2 => lgI ls 3 fun v3 => lgI ls 4 fun v4 => st0 st (callW (fX7_readPart_29 N n k54 v2 v3 v4) w)) else if j = 54 then (lgI ls 2 fun v2 => lgI ls 3 fun v3 => st0 st (k54 v2 v3 w)) else none)) hr (fun _ _ _ _ hx => by cases hx) (fun _ _ _ hx => by cases hx) hC (fun ls => lsb [some (.inr (.inr (11, 0))), none, none, none, none, none] 0 ls) (keepsP_of rfl) ?_ 63 29 [some (.inr (.inr (11, 0))), none, some (.inl v2), some (.inl v3), some (.inl v4), none] [] w ?_ h
    · intro j ls st w hfx h
      obtain ⟨e0, -⟩ : _ = _ ∧ True := hfx
      try dsimp only at h
      by_cases hj : j = 29
      · subst hj
        rw [if_pos rfl] at h
        obtain ⟨v2, e2, h_1⟩ := lgI_some h
        obtain ⟨v3, e3, h_2⟩ := lgI_some h_1
        obtain ⟨v4, e4, h_3⟩ := lgI_some h_2
        obtain ⟨rfl, h_4⟩ := st0_some h_3
        clear h h_1 h_2 h_3
        have h := h_4
        try rw [callW_eq] at h
        exact WW.le (a := [some (.inr (.inr (11, 0))), none, some (.inl v2), some (.inl v3), some (.inl v4), none]) (by rw [hn]; rfl) (show _ = _ ∧ _ = _ ∧ _ = _ ∧ _ = _ ∧ True from ⟨e0, e2, e3, e4, trivial⟩) (ih k54 v2 v3 v4 w h h54)
      rw [if_neg hj] at h
      by_cases hj : j = 54
      · subst hj
        rw [if_pos rfl] at h
        obtain ⟨v2, e2, h_1⟩ := lgI_some h
        obtain ⟨v3, e3, h_2⟩ := lgI_some h_1
        obtain ⟨rfl, h_3⟩ := st0_some h_2
        clear h h_1 h_2
        have h := h_3
        try rw [callW_eq] at h
        exact WW.le (a := [some (.inr (.inr (11, 0))), none, some (.inl v2), some (.inl v3), none, none]) (by rw [hn]; rfl) (show _ = _ ∧ _ = _ ∧ _ = _ ∧ True from ⟨e0, e2, e3, trivial⟩) (h54 v2 v3 w h)
      rw [if_neg hj] at h
      cases h
    · exact (show _ = _ ∧ True from ⟨rfl, trivial⟩)
set_option maxRecDepth 100000 in
set_option maxHeartbeats 4000000 in
theorem crX7_readPart {N : Nat} {X : XT} (G : GX X cX7_readPart RX7) (hR : xR X = rmL 4) : CRs X tX7_readPart (oF [(mX7_readNewName N), (mX7_readNumber N), (mX7_readOtherPart N)]) (oF []) (oF [(mX10_advance N), (mX4_addPart N)]) := by
  have hl : tX7_readPart.filter isInv = [(23, .invokevirtual 119, 0, 0, 3, 0, 0, []), (35, .invokevirtual 123, 0, 1, 3, 0, 0, []), (72, .invokevirtual 62, 0, 0, 1, 0, 0, [(0, 0), (0, 0)]), (77, .invokevirtual 127, 0, 2, 2, 0, 0, []), (106, .invokevirtual 131, 0, 1, 3, 0, 0, [(0, 0), (0, 0)])] := rfl
  intro e he
  rw [hl] at he
  simp only [List.mem_cons, List.not_mem_nil, or_false] at he
  rcases he with rfl | rfl | rfl | rfl | rfl
  · exact crI_V (idx := 119) G (by decide +kernel) (MX7_readNewName N) (cw_of (ps := [867, 869, 12, 152, 870]) (by decide +kernel) (by decide +kernel)) ⟨by decide +kernel, by decide +kernel, by decide +kernel⟩ (by unfold rmOk; rw [hR]; exact ⟨by decide, by decide⟩)
  · exact crI_V (idx := 123) G (by decide +kernel) (MX7_readNumber N) (cw_of (ps := [874, 876, 13, 152, 877]) (by decide +kernel) (by decide +kernel)) ⟨by decide +kernel, by decide +kernel, by decide +kernel⟩ (by unfold rmOk; rw [hR]; exact ⟨by decide, by decide⟩)
  · exact crV_V (idx := 62) G (by decide +kernel) (MX10_advance N) (cw_of (ps := [862, 847, 848, 153, 849]) (by decide +kernel) (by decide +kernel)) ⟨by decide +kernel, by decide +kernel, by decide +kernel⟩ (by unfold rmOk; rw [hR]; exact ⟨by decide, by decide⟩)
  · exact crI_V (idx := 127) G (by decide +kernel) (MX7_readOtherPart N) (cw_of (ps := [878, 880, 14, 152, 881]) (by decide +kernel) (by decide +kernel)) ⟨by decide +kernel, by decide +kernel, by decide +kernel⟩ (by unfold rmOk; rw [hR]; exact ⟨by decide, by decide⟩)
  · exact crV_V (idx := 131) G (by decide +kernel) (MX4_addPart N) (cw_of (ps := [886, 887, 888, 149, 889]) (by decide +kernel) (by decide +kernel)) ⟨by decide +kernel, by decide +kernel, by decide +kernel⟩ (by unfold rmOk; rw [hR]; exact ⟨by decide, by decide⟩)
set_option maxRecDepth 100000 in
set_option maxHeartbeats 4000000 in
theorem MX7_readPart (N : Nat) : SndI yX7_readPart cX7_readPart 6 (some .boolean) 4 1 true (mX7_readPart N) := by
  refine SndI.ofZ tX7_readPart (by decide +kernel) rfl rfl ?_ ?_
  · intro as w x h
    obtain ⟨t1, rfl, h_1⟩ := xS1_some h
    obtain ⟨rfl, h_2⟩ := xN1_some h_1
    clear h h_1
    have h := h_2
    rw [callW_eq] at h
    exact ⟨fun _ => ⟨_, _, _, rfl, rfl, _, rfl, rfl⟩, rfl, Nat.le_of_ble_eq_true rfl⟩
  · intro X G hn hR as w r h hr
    have hC := crX7_readPart (N := N) G hR
    obtain ⟨t1, rfl, h_1⟩ := xS1_some h
    obtain ⟨rfl, h_2⟩ := xN1_some h_1
    clear h h_1
    have h := h_2
    rw [callW_eq] at h
    refine run_sound (r := r) (X := X) (cc := cX7_readPart) (own := RX7) (tab := tX7_readPart) G (by rw [hn]; exact kX7_readPart) (oI := (oF [(mX7_readNewName N), (mX7_readNumber N), (mX7_readOtherPart N)])) (oL := (oF [])) (oV := (oF [(mX10_advance N), (mX4_addPart N)])) (rI := retZ) (rL := (fun _ _ => none)) (rV := (fun _ => none))
      (K := (fun j ls st w => if j = 29 then (lgI ls 2 fun v2 => lgI ls 3 fun v3 => lgI ls 4 fun v4 => st0 st (callW (fX7_readPart_29 N N (fX7_readPart_54 N) v2 v3 v4) w)) else none)) hr (fun _ _ _ _ hx => by cases hx) (fun _ _ _ hx => by cases hx) hC (fun ls => lsb [some (.inr (.inr (11, 0))), none, none, none, none, none] 0 ls) (keepsP_of rfl) ?_ 63 0 [some (.inr (.inr (11, 0))), none, none, none, none, none] [] w ?_ h
    · intro j ls st w hfx h
      obtain ⟨e0, -⟩ : _ = _ ∧ True := hfx
      try dsimp only at h
      by_cases hj : j = 29
      · subst hj
        rw [if_pos rfl] at h
        obtain ⟨v2, e2, h_1⟩ := lgI_some h
        obtain ⟨v3, e3, h_2⟩ := lgI_some h_1
        obtain ⟨v4, e4, h_3⟩ := lgI_some h_2
        obtain ⟨rfl, h_4⟩ := st0_some h_3
        clear h h_1 h_2 h_3
        have h := h_4
        try rw [callW_eq] at h
        exact WW.le (a := [some (.inr (.inr (11, 0))), none, some (.inl v2), some (.inl v3), some (.inl v4), none]) (by rw [hn]; rfl) (show _ = _ ∧ _ = _ ∧ _ = _ ∧ _ = _ ∧ True from ⟨e0, e2, e3, e4, trivial⟩) (sX7_readPart_29 G hn hC hr N (fX7_readPart_54 N) v2 v3 v4 w h (fun v2 v3 w h => (sX7_readPart_54 G hn hC hr v2 v3 w h)))
      rw [if_neg hj] at h
      cases h
    · exact (show _ = _ ∧ True from ⟨rfl, trivial⟩)
-- MoorGuides$Reader.readOption(II)Z
def tX7_readOption : List EN := [
  (0, .aload_n 0, 0, 0, 0, 0, 0, []), (1, .getfield 26, 0, 7, 1, 0, 0, []), (4, .getfield 77, 0, 4, 4, 0, 0, []), (7, .astore_n 3, 0, 0, 0, 0, 0, []),
  (8, .iload_n 1, 0, 0, 0, 0, 0, []), (9, .tableswitch 121 4 6 #[27, 55, 87], 0, 60, 27, 0, 0, [(4, 6), (5, 22), (6, 41)]), (36, .aload_n 0, 0, 0, 0, 0, 0, []), (37, .iconst 0, 0, 0, 0, 0, 0, []),
  (38, .bipush 99, 0, 0, 0, 99, 0, []), (40, .invokevirtual 123, 0, 0, 3, 0, 0, []), (43, .istore 4, 0, 0, 0, 0, 0, []), (45, .aload_n 3, 0, 0, 0, 0, 0, []),
  (46, .getfield 145, 0, 6, 3, 0, 0, []), (49, .iload_n 2, 0, 0, 0, 0, 0, []), (50, .iload 4, 0, 0, 0, 0, 0, []), (52, .iastore, 0, 0, 0, 0, 0, []),
  (53, .iload 4, 0, 0, 0, 0, 0, []), (55, .ifCond .lt 7, 0, 20, 0, 0, 0, []), (58, .iconst 1, 0, 0, 0, 1, 0, []), (59, .goto 4, 0, 21, 0, 0, 0, []),
  (62, .iconst 0, 0, 0, 0, 0, 0, []), (63, .ireturn, 0, 0, 0, 0, 0, []), (64, .aload_n 0, 0, 0, 0, 0, 0, []), (65, .iconst 0, 0, 0, 0, 0, 0, []),
  (66, .aload_n 3, 0, 0, 0, 0, 0, []), (67, .getfield 148, 0, 6, 5, 0, 0, []), (70, .iload_n 2, 0, 0, 0, 0, 0, []), (71, .iaload, 0, 0, 0, 0, 0, []),
  (72, .invokevirtual 123, 0, 0, 3, 0, 0, []), (75, .istore 4, 0, 0, 0, 0, 0, []), (77, .aload_n 3, 0, 0, 0, 0, 0, []), (78, .getfield 151, 0, 6, 4, 0, 0, []),
  (81, .iload_n 2, 0, 0, 0, 0, 0, []), (82, .iload 4, 0, 0, 0, 0, 0, []), (84, .iastore, 0, 0, 0, 0, 0, []), (85, .iload 4, 0, 0, 0, 0, 0, []),
  (87, .ifCond .lt 7, 0, 39, 0, 0, 0, []), (90, .iconst 1, 0, 0, 0, 1, 0, []), (91, .goto 4, 0, 40, 0, 0, 0, []), (94, .iconst 0, 0, 0, 0, 0, 0, []),
  (95, .ireturn, 0, 0, 0, 0, 0, []), (96, .aload_n 0, 0, 0, 0, 0, 0, []), (97, .aload_n 3, 0, 0, 0, 0, 0, []), (98, .getfield 151, 0, 6, 4, 0, 0, []),
  (101, .iload_n 2, 0, 0, 0, 0, 0, []), (102, .iaload, 0, 0, 0, 0, 0, []), (103, .sipush 999, 0, 0, 0, 999, 0, []), (106, .invokevirtual 123, 0, 0, 3, 0, 0, []),
  (109, .istore 4, 0, 0, 0, 0, 0, []), (111, .aload_n 3, 0, 0, 0, 0, 0, []), (112, .getfield 148, 0, 6, 5, 0, 0, []), (115, .iload_n 2, 0, 0, 0, 0, 0, []),
  (116, .iload 4, 0, 0, 0, 0, 0, []), (118, .iastore, 0, 0, 0, 0, 0, []), (119, .iload 4, 0, 0, 0, 0, 0, []), (121, .ifCond .lt 7, 0, 58, 0, 0, 0, []),
  (124, .iconst 1, 0, 0, 0, 1, 0, []), (125, .goto 4, 0, 59, 0, 0, 0, []), (128, .iconst 0, 0, 0, 0, 0, 0, []), (129, .ireturn, 0, 0, 0, 0, 0, []),
  (130, .aload_n 0, 0, 0, 0, 0, 0, []), (131, .iconst 1, 0, 0, 0, 1, 0, []), (132, .sipush 999, 0, 0, 0, 999, 0, []), (135, .invokevirtual 123, 0, 0, 3, 0, 0, []),
  (138, .istore 4, 0, 0, 0, 0, 0, []), (140, .aload_n 3, 0, 0, 0, 0, 0, []), (141, .getfield 154, 0, 6, 6, 0, 0, []), (144, .iload_n 2, 0, 0, 0, 0, 0, []),
  (145, .iload 4, 0, 0, 0, 0, 0, []), (147, .iastore, 0, 0, 0, 0, 0, []), (148, .iload 4, 0, 0, 0, 0, 0, []), (150, .ifCond .lt 7, 0, 74, 0, 0, 0, []),
  (153, .iconst 1, 0, 0, 0, 1, 0, []), (154, .goto 4, 0, 75, 0, 0, 0, []), (157, .iconst 0, 0, 0, 0, 0, 0, []), (158, .ireturn, 0, 0, 0, 0, 0, [])]
noncomputable def pX7_readOption (N : Nat) (a1 : Int32) (a2 : Int32) (w : Wd) : Option (Int32 × Wd) :=
  if a1 = (4 : Int32) then
    (callW (pX7_readNumber N (0 : Int32) (99 : Int32)) w).bind fun r1 =>
    (stI r1.2 50 (gR w 11 0 1) a2 6 r1.1).bind fun w2 =>
    if r1.1 < 0 then some ((0 : Int32), w2) else
    some ((1 : Int32), w2)
  else
  if a1 = (5 : Int32) then
    (ldI w 52 (gR w 11 0 1) a2 6).bind fun x3 =>
    (callW (pX7_readNumber N (0 : Int32) x3) w).bind fun r4 =>
    (stI r4.2 51 (gR w 11 0 1) a2 6 r4.1).bind fun w5 =>
    if r4.1 < 0 then some ((0 : Int32), w5) else
    some ((1 : Int32), w5)
  else
  if a1 = (6 : Int32) then
    (ldI w 51 (gR w 11 0 1) a2 6).bind fun x6 =>
    (callW (pX7_readNumber N x6 (999 : Int32)) w).bind fun r7 =>
    (stI r7.2 52 (gR w 11 0 1) a2 6 r7.1).bind fun w8 =>
    if r7.1 < 0 then some ((0 : Int32), w8) else
    some ((1 : Int32), w8)
  else
  (callW (pX7_readNumber N (1 : Int32) (999 : Int32)) w).bind fun r9 =>
  (stI r9.2 53 (gR w 11 0 1) a2 6 r9.1).bind fun w10 =>
  if r9.1 < 0 then some ((0 : Int32), w10) else
  some ((1 : Int32), w10)
noncomputable def mX7_readOption (N : Nat) (as : List AV) (w : Wd) : Option (Int32 × Wd) := xS1 11 as fun t => xI1 t fun a1 t => xI1 t fun a2 t => xN1 t (callW (pX7_readOption N a1 a2) w)
set_option maxRecDepth 100000 in
set_option maxHeartbeats 4000000 in
theorem kX7_readOption : TK cX7_readOption RX7 5 tX7_readOption := ⟨by decide +kernel, wok_of [467, 282, 209, 216, 213, 213, 216, 219] (by decide +kernel) (by decide +kernel)⟩
set_option maxRecDepth 100000 in
set_option maxHeartbeats 4000000 in
theorem crX7_readOption {N : Nat} {X : XT} (G : GX X cX7_readOption RX7) (hR : xR X = rmL 3) : CRs X tX7_readOption (oF [(mX7_readNumber N)]) (oF []) (oF []) := by
  have hl : tX7_readOption.filter isInv = [(40, .invokevirtual 123, 0, 0, 3, 0, 0, []), (72, .invokevirtual 123, 0, 0, 3, 0, 0, []), (106, .invokevirtual 123, 0, 0, 3, 0, 0, []), (135, .invokevirtual 123, 0, 0, 3, 0, 0, [])] := rfl
  intro e he
  rw [hl] at he
  simp only [List.mem_cons, List.not_mem_nil, or_false] at he
  rcases he with rfl | rfl | rfl | rfl
  · exact crI_V (idx := 123) G (by decide +kernel) (MX7_readNumber N) (cw_of (ps := [874, 876, 13, 152, 877]) (by decide +kernel) (by decide +kernel)) ⟨by decide +kernel, by decide +kernel, by decide +kernel⟩ (by unfold rmOk; rw [hR]; exact ⟨by decide, by decide⟩)
  · exact crI_V (idx := 123) G (by decide +kernel) (MX7_readNumber N) (cw_of (ps := [874, 876, 13, 152, 877]) (by decide +kernel) (by decide +kernel)) ⟨by decide +kernel, by decide +kernel, by decide +kernel⟩ (by unfold rmOk; rw [hR]; exact ⟨by decide, by decide⟩)
  · exact crI_V (idx := 123) G (by decide +kernel) (MX7_readNumber N) (cw_of (ps := [874, 876, 13, 152, 877]) (by decide +kernel) (by decide +kernel)) ⟨by decide +kernel, by decide +kernel, by decide +kernel⟩ (by unfold rmOk; rw [hR]; exact ⟨by decide, by decide⟩)
  · exact crI_V (idx := 123) G (by decide +kernel) (MX7_readNumber N) (cw_of (ps := [874, 876, 13, 152, 877]) (by decide +kernel) (by decide +kernel)) ⟨by decide +kernel, by decide +kernel, by decide +kernel⟩ (by unfold rmOk; rw [hR]; exact ⟨by decide, by decide⟩)
set_option maxRecDepth 100000 in
set_option maxHeartbeats 4000000 in
theorem MX7_readOption (N : Nat) : SndI yX7_readOption cX7_readOption 5 (some .boolean) 3 3 true (mX7_readOption N) := by
  refine SndI.ofZ tX7_readOption (by decide +kernel) rfl rfl ?_ ?_
  · intro as w x h
    obtain ⟨t1, rfl, h_1⟩ := xS1_some h
    obtain ⟨a1, t2, rfl, h_2⟩ := xI1_some h_1
    obtain ⟨a2, t3, rfl, h_3⟩ := xI1_some h_2
    obtain ⟨rfl, h_4⟩ := xN1_some h_3
    clear h h_1 h_2 h_3
    have h := h_4
    rw [callW_eq] at h
    exact ⟨fun _ => ⟨_, _, _, rfl, rfl, _, rfl, rfl⟩, rfl, Nat.le_of_ble_eq_true rfl⟩
  · intro X G hn hR as w r h hr
    have hC := crX7_readOption (N := N) G hR
    obtain ⟨t1, rfl, h_1⟩ := xS1_some h
    obtain ⟨a1, t2, rfl, h_2⟩ := xI1_some h_1
    obtain ⟨a2, t3, rfl, h_3⟩ := xI1_some h_2
    obtain ⟨rfl, h_4⟩ := xN1_some h_3
    clear h h_1 h_2 h_3
    have h := h_4
    rw [callW_eq] at h
    refine run_sound (r := r) (X := X) (cc := cX7_readOption) (own := RX7) (tab := tX7_readOption) G (by rw [hn]; exact kX7_readOption) (oI := (oF [(mX7_readNumber N)])) (oL := (oF [])) (oV := (oF [])) (rI := retZ) (rL := (fun _ _ => none)) (rV := (fun _ => none))
      (K := (fun j ls st w => none)) hr (fun _ _ _ _ hx => by cases hx) (fun _ _ _ hx => by cases hx) hC (fun ls => lsb [some (.inr (.inr (11, 0))), some (.inl a1), some (.inl a2), none, none] 0 ls) (keepsP_of rfl) ?_ 78 0 [some (.inr (.inr (11, 0))), some (.inl a1), some (.inl a2), none, none] [] w ?_ h
    · intro j ls st w hfx h
      obtain ⟨e0, e1, e2, -⟩ : _ = _ ∧ _ = _ ∧ _ = _ ∧ True := hfx
      try dsimp only at h
      cases h
    · exact (show _ = _ ∧ _ = _ ∧ _ = _ ∧ True from ⟨rfl, rfl, rfl, trivial⟩)
-- MoorGuides$Reader.readPerson()Z
def tX7_readPerson : List EN := [
  (0, .aload_n 0, 0, 0, 0, 0, 0, []), (1, .getfield 26, 0, 7, 1, 0, 0, []), (4, .getfield 77, 0, 4, 4, 0, 0, []), (7, .astore_n 1, 0, 0, 0, 0, 0, []),
  (8, .aload_n 1, 0, 0, 0, 0, 0, []), (9, .getfield 81, 0, 6, 0, 0, 0, []), (12, .istore_n 2, 0, 0, 0, 0, 0, []), (13, .iload_n 2, 0, 0, 0, 0, 0, []),
  (14, .bipush 6, 0, 0, 0, 6, 0, []), (16, .if_icmp .ge 15, 0, 16, 0, 0, 0, []), (19, .aload_n 0, 0, 0, 0, 0, 0, []), (20, .aload_n 1, 0, 0, 0, 0, 0, []),
  (21, .getfield 135, 0, 6, 1, 0, 0, []), (24, .iload_n 2, 0, 0, 0, 0, 0, []), (25, .invokevirtual 119, 0, 0, 3, 0, 0, []), (28, .ifCond .ne 5, 0, 18, 0, 0, 0, []),
  (31, .iconst 0, 0, 0, 0, 0, 0, []), (32, .ireturn, 0, 0, 0, 0, 0, []), (33, .aload_n 1, 0, 0, 0, 0, 0, []), (34, .dup, 0, 0, 0, 0, 0, []),
  (35, .getfield 81, 0, 6, 0, 0, 0, []), (38, .iconst 1, 0, 0, 0, 1, 0, []), (39, .iadd, 0, 0, 0, 0, 0, []), (40, .putfield 81, 0, 6, 0, 0, 0, []),
  (43, .iconst 0, 0, 0, 0, 0, 0, []), (44, .istore_n 3, 0, 0, 0, 0, 0, []), (45, .iconst 0, 0, 0, 0, 0, 0, []), (46, .istore 4, 0, 0, 0, 0, 0, []),
  (48, .iload 4, 29, 0, 0, 0, 0, []), (50, .sipush 900, 0, 0, 0, 900, 0, []), (53, .if_icmp .ge 127, 0, 100, 0, 0, 0, []), (56, .aload_n 0, 0, 0, 0, 0, 0, []),
  (57, .getfield 12, 0, 7, 0, 0, 0, []), (60, .getfield 47, 0, 10, 8, 0, 0, []), (63, .istore 5, 0, 0, 0, 0, 0, []), (65, .iload 5, 0, 0, 0, 0, 0, []),
  (67, .iconst 3, 0, 0, 0, 3, 0, []), (68, .if_icmp .ne 43, 0, 61, 0, 0, 0, []), (71, .aload_n 0, 0, 0, 0, 0, 0, []), (72, .getfield 12, 0, 7, 0, 0, 0, []),
  (75, .invokevirtual 62, 0, 0, 1, 0, 0, [(0, 0), (0, 0)]), (78, .aload_n 0, 0, 0, 0, 0, 0, []), (79, .aload_n 1, 0, 0, 0, 0, 0, []), (80, .getfield 138, 0, 6, 2, 0, 0, []),
  (83, .iload_n 2, 0, 0, 0, 0, 0, []), (84, .iaload, 0, 0, 0, 0, 0, []), (85, .invokevirtual 127, 0, 1, 2, 0, 0, []), (88, .istore 6, 0, 0, 0, 0, 0, []),
  (90, .iload 6, 0, 0, 0, 0, 0, []), (92, .ifCond .ne 5, 0, 52, 0, 0, 0, []), (95, .iconst 0, 0, 0, 0, 0, 0, []), (96, .ireturn, 0, 0, 0, 0, 0, []),
  (97, .aload_n 1, 0, 0, 0, 0, 0, []), (98, .getfield 138, 0, 6, 2, 0, 0, []), (101, .iload_n 2, 0, 0, 0, 0, 0, []), (102, .dup2, 0, 0, 0, 0, 0, []),
  (103, .iaload, 0, 0, 0, 0, 0, []), (104, .iload 6, 0, 0, 0, 0, 0, []), (106, .ior, 0, 0, 0, 0, 0, []), (107, .iastore, 0, 0, 0, 0, 0, []),
  (108, .goto 66, 0, 98, 0, 0, 0, []), (111, .iload 5, 0, 0, 0, 0, 0, []), (113, .iconst 4, 0, 0, 0, 4, 0, []), (114, .if_icmp .lt 58, 0, 96, 0, 0, 0, []),
  (117, .iload 5, 0, 0, 0, 0, 0, []), (119, .bipush 7, 0, 0, 0, 7, 0, []), (121, .if_icmp .gt 51, 0, 96, 0, 0, 0, []), (124, .iload_n 3, 0, 0, 0, 0, 0, []),
  (125, .iload 5, 0, 0, 0, 0, 0, []), (127, .ishr, 0, 0, 0, 0, 0, []), (128, .iconst 1, 0, 0, 0, 1, 0, []), (129, .iand, 0, 0, 0, 0, 0, []),
  (130, .ifCond .eq 7, 0, 75, 0, 0, 0, []), (133, .iconst 1, 0, 0, 0, 1, 0, []), (134, .goto 4, 0, 76, 0, 0, 0, []), (137, .iconst 0, 0, 0, 0, 0, 0, []),
  (138, .istore 6, 77, 0, 0, 0, 0, []), (140, .iload_n 3, 0, 0, 0, 0, 0, []), (141, .iconst 1, 0, 0, 0, 1, 0, []), (142, .iload 5, 0, 0, 0, 0, 0, []),
  (144, .ishl, 0, 0, 0, 0, 0, []), (145, .ior, 0, 0, 0, 0, 0, []), (146, .istore_n 3, 0, 0, 0, 0, 0, []), (147, .aload_n 0, 0, 0, 0, 0, 0, []),
  (148, .iload 6, 0, 0, 0, 0, 0, []), (150, .iconst 3, 0, 0, 0, 3, 0, []), (151, .invokevirtual 70, 0, 2, 3, 0, 0, []), (154, .ifCond .eq 13, 0, 93, 0, 0, 0, []),
  (157, .aload_n 0, 0, 0, 0, 0, 0, []), (158, .iload 5, 0, 0, 0, 0, 0, []), (160, .iload_n 2, 0, 0, 0, 0, 0, []), (161, .invokevirtual 141, 0, 3, 3, 0, 0, []),
  (164, .ifCond .ne 5, 0, 95, 0, 0, 0, []), (167, .iconst 0, 0, 0, 0, 0, 0, []), (168, .ireturn, 0, 0, 0, 0, 0, []), (169, .goto 5, 0, 98, 0, 0, 0, []),
  (172, .iconst 1, 0, 0, 0, 1, 0, []), (173, .ireturn, 0, 0, 0, 0, 0, []), (174, .iinc 4 1, 0, 0, 0, 1, 0, []), (177, .goto (-129), 0, 28, 0, 0, 0, []),
  (180, .iconst 1, 0, 0, 0, 1, 0, []), (181, .ireturn, 0, 0, 0, 0, 0, [])]
noncomputable def fX7_readPerson_76 (N : Nat) (k28 : Nat → Int32 → Int32 → Int32 → Wd → Option (Int32 × Wd)) (q1 : Nat) (v2 : Int32) (v3 : Int32) (v4 : Int32) (v5 : Int32) (s0 : Int32) (w : Wd) : Option (Int32 × Wd) :=
  (callW (pX7_passUnless N s0 (3 : Int32)) w).bind fun r1 =>
  if r1.1 = 0 then some ((0 : Int32), r1.2) else
  (callW (pX7_readOption N v5 v2) r1.2).bind fun r2 =>
  if r2.1 = 0 then some ((0 : Int32), r2.2) else
  k28 q1 v2 (v3 ||| ((1 : Int32) <<< (v5 &&& (31 : Int32)))) (v4 + (1 : Int32)) r2.2
noncomputable def fX7_readPerson_28 (N : Nat) : Nat → Nat → Int32 → Int32 → Int32 → Wd → Option (Int32 × Wd)
  | 0, _, _, _, _, _ => none
  | n + 1, q1, v2, v3, v4, w =>
    if v4 < (900 : Int32) then
      if (gI w 14 0 8) = (3 : Int32) then
        (callW (pX10_advance N) w).bind fun w1 =>
        (ldI w1 49 q1 v2 6).bind fun x2 =>
        (callW (pX7_readOtherPart N x2) w1).bind fun r3 =>
        if r3.1 = 0 then some ((0 : Int32), r3.2) else
        (ldI r3.2 49 q1 v2 6).bind fun x4 =>
        (stI r3.2 49 q1 v2 6 (x4 ||| r3.1)).bind fun w5 =>
        callW (fX7_readPerson_28 N n q1 v2 v3 (v4 + (1 : Int32))) w5
      else
      if (gI w 14 0 8) < (4 : Int32) then some ((1 : Int32), w) else
      if (7 : Int32) < (gI w 14 0 8) then some ((1 : Int32), w) else
      if ((v3 >>> ((gI w 14 0 8) &&& (31 : Int32))) &&& (1 : Int32)) = 0 then callW (fX7_readPerson_76 N (fX7_readPerson_28 N n) q1 v2 v3 v4 (gI w 14 0 8) (0 : Int32)) w else
      callW (fX7_readPerson_76 N (fX7_readPerson_28 N n) q1 v2 v3 v4 (gI w 14 0 8) (1 : Int32)) w
    else
    some ((1 : Int32), w)
noncomputable def pX7_readPerson (N : Nat) (w : Wd) : Option (Int32 × Wd) :=
  if (gI w 10 (gR w 11 0 1) 0) < (6 : Int32) then
    (callW (pX7_readNewName N 48 (gR w 11 0 1) (gI w 10 (gR w 11 0 1) 0)) w).bind fun r1 =>
    if r1.1 = 0 then some ((0 : Int32), r1.2) else
    callW (fX7_readPerson_28 N N (gR w 11 0 1) (gI w 10 (gR w 11 0 1) 0) (0 : Int32) (0 : Int32)) (setI r1.2 10 (gR w 11 0 1) 0 ((gI r1.2 10 (gR w 11 0 1) 0) + (1 : Int32)))
  else
  some ((0 : Int32), w)
noncomputable def mX7_readPerson (N : Nat) (as : List AV) (w : Wd) : Option (Int32 × Wd) := xS1 11 as fun t => xN1 t (callW (pX7_readPerson N) w)
set_option maxRecDepth 100000 in
set_option maxHeartbeats 4000000 in
theorem kX7_readPerson : TK cX7_readPerson RX7 7 tX7_readPerson := ⟨by decide +kernel, wok_of [467, 282, 198, 202, 198, 198, 466, 437, 466, 205, 205] (by decide +kernel) (by decide +kernel)⟩
set_option maxRecDepth 100000 in
set_option maxHeartbeats 4000000 in
theorem sX7_readPerson_76 {N : Nat} {X : XT} (G : GX X cX7_readPerson RX7) (hn : xnL X = 7) (hC : CRs X tX7_readPerson (oF [(mX7_readNewName N), (mX7_readOtherPart N), (mX7_passUnless N), (mX7_readOption N)]) (oF []) (oF [(mX10_advance N)])) {r : Int32 × Wd} (hr : RTZ X cX7_readPerson r)  : ∀ (k28 : Nat → Int32 → Int32 → Int32 → Wd → Option (Int32 × Wd)) (q1 : Nat) (v2 : Int32) (v3 : Int32) (v4 : Int32) (v5 : Int32) (s0 : Int32) (w : Wd), fX7_readPerson_76 N k28 q1 v2 v3 v4 v5 s0 w = some r → (∀ (q1 : Nat) (v2 : Int32) (v3 : Int32) (v4 : Int32) (w : Wd), k28 q1 v2 v3 v4 w = some r → WW X (pcAt tX7_readPerson 28) [some (.inr (.inr (11, 0))), some (.inr (.inr (10, q1))), some (.inl v2), some (.inl v3), some (.inl v4), none, none] [] w) → WW X (pcAt tX7_readPerson 76) [some (.inr (.inr (11, 0))), some (.inr (.inr (10, q1))), some (.inl v2), some (.inl v3), some (.inl v4), some (.inl v5), none] [.inl s0] w := by
  intro k28 q1 v2 v3 v4 v5 s0 w h h28
  refine run_sound (r := r) (X := X) (cc := cX7_readPerson) (own := RX7) (tab := tX7_readPerson) G (by rw [hn]; exact kX7_readPerson) (oI := (oF [(mX7_readNewName N), (mX7_readOtherPart N), (mX7_passUnless N), (mX7_readOption N)])) (oL := (oF [])) (oV := (oF [(mX10_advance N)])) (rI := retZ) (rL := (fun _ _ => none)) (rV := (fun _ => none))
    (K := (fun j ls st w => if j = 28 then (lgR ls 1 fun kk q1 => if kk = 10 then lgI ls 2 fun v2 => lgI ls 3 fun v3 => lgI ls 4 fun v4 => st0 st (k28 q1 v2 v3 v4 w) else none) else none)) hr (fun _ _ _ _ hx => by cases hx) (fun _ _ _ hx => by cases hx) hC (fun ls => lsb [some (.inr (.inr (11, 0))), none, none, none, none, none, none] 0 ls) (keepsP_of rfl) ?_ 104 76 [some (.inr (.inr (11, 0))), some (.inr (.inr (10, q1))), some (.inl v2), some (.inl v3), some (.inl v4), some (.inl v5), none] [.inl s0] w ?_ h
  · intro j ls st w hfx h
    obtain ⟨e0, -⟩ : _ = _ ∧ True := hfx
    try dsimp only at h
    by_cases hj : j = 28
    · subst hj
      rw [if_pos rfl] at h
      obtain ⟨kk1, q1, e1, h_1⟩ := lgR_some h
      obtain ⟨rfl, h_2⟩ := if_some _ h_1
      obtain ⟨v2, e2, h_3⟩ := lgI_some h_2
      obtain ⟨v3, e3, h_4⟩ := lgI_some h_3
      obtain ⟨v4, e4, h_5⟩ := lgI_some h_4
      obtain ⟨rfl, h_6⟩ := st0_some h_5
      clear h h_1 h_2 h_3 h_4 h_5
      have h := h_6
      try rw [callW_eq] at h
      exact WW.le (a := [some (.inr (.inr (11, 0))), some (.inr (.inr (10, q1))), some (.inl v2), some (.inl v3), some (.inl v4), none, none]) (by rw [hn]; rfl) (show _ = _ ∧ _ = _ ∧ _ = _ ∧ _ = _ ∧ _ = _ ∧ True from ⟨e0, e1, e2, e3, e4, trivial⟩) (h28 q1 v2 v3 v4 w h)
    rw [if_neg hj] at h
    cases h
  · exact (show _ = _ ∧ True from ⟨rfl, trivial⟩)
set_option maxRecDepth 100000 in
set_option maxHeartbeats 4000000 in
theorem sX7_readPerson_28 {N : Nat} {X : XT} (G : GX X cX7_readPerson RX7) (hn : xnL X = 7) (hC : CRs X tX7_readPerson (oF [(mX7_readNewName N), (mX7_readOtherPart N), (mX7_passUnless N), (mX7_readOption N)]) (oF []) (oF [(mX10_advance N)])) {r : Int32 × Wd} (hr : RTZ X cX7_readPerson r)  : ∀ (n : Nat) (q1 : Nat) (v2 : Int32) (v3 : Int32) (v4 : Int32) (w : Wd), fX7_readPerson_28 N n q1 v2 v3 v4 w = some r → WW X (pcAt tX7_readPerson 28) [some (.inr (.inr (11, 0))), some (.inr (.inr (10, q1))), some (.inl v2), some (.inl v3), some (.inl v4), none, none] [] w := by
  intro n
  induction n with
  | zero => intro q1 v2 v3 v4 w h; cases h
  | succ n ih =>
    intro q1 v2 v3 v4 w h
    refine run_sound (r := r) (X := X) (cc := cX7_readPerson) (own := RX7) (tab := tX7_readPerson) G (by rw [hn]; exact kX7_readPerson) (oI := (oF [(mX7_readNewName N), (mX7_readOtherPart N), (mX7_passUnless N), (mX7_readOption N)])) (oL := (oF [])) (oV := (oF [(mX10_advance N)])) (rI := retZ) (rL := (fun _ _ => none)) (rV := (fun _ => none))
      (K := (fun j ls st w => if j = 28 then (lgR ls 1 fun kk q1 => if kk = 10 then lgI ls 2 fun v2 => lgI ls 3 fun v3 => lgI ls 4 fun v4 => st0 st (callW (fX7_readPerson_28 N n q1 v2 v3 v4) w) else none) else if j = 76 then (lgR ls 1 fun kk q1 => if kk = 10 then lgI ls 2 fun v2 => lgI ls 3 fun v3 => lgI ls 4 fun v4 => lgI ls 5 fun v5 => po1 st fun s0 st => st0 st (callW (fX7_readPerson_76 N (fX7_readPerson_28 N n) q1 v2 v3 v4 v5 s0) w) else none) else none)) hr (fun _ _ _ _ hx => by cases hx) (fun _ _ _ hx => by cases hx) hC (fun ls => lsb [some (.inr (.inr (11, 0))), none, none, none, none, none, none] 0 ls) (keepsP_of rfl) ?_ 104 28 [some (.inr (.inr (11, 0))), some (.inr (.inr (10, q1))), some (.inl v2), some (.inl v3), some (.inl v4), none, none] [] w ?_ h
    · intro j ls st w hfx h
      obtain ⟨e0, -⟩ : _ = _ ∧ True := hfx
      try dsimp only at h
      by_cases hj : j = 28
      · subst hj
        rw [if_pos rfl] at h
        obtain ⟨kk1, q1, e1, h_1⟩ := lgR_some h
        obtain ⟨rfl, h_2⟩ := if_some _ h_1
        obtain ⟨v2, e2, h_3⟩ := lgI_some h_2
        obtain ⟨v3, e3, h_4⟩ := lgI_some h_3
        obtain ⟨v4, e4, h_5⟩ := lgI_some h_4
        obtain ⟨rfl, h_6⟩ := st0_some h_5
        clear h h_1 h_2 h_3 h_4 h_5
        have h := h_6
        try rw [callW_eq] at h
        exact WW.le (a := [some (.inr (.inr (11, 0))), some (.inr (.inr (10, q1))), some (.inl v2), some (.inl v3), some (.inl v4), none, none]) (by rw [hn]; rfl) (show _ = _ ∧ _ = _ ∧ _ = _ ∧ _ = _ ∧ _ = _ ∧ True from ⟨e0, e1, e2, e3, e4, trivial⟩) (ih q1 v2 v3 v4 w h)
      rw [if_neg hj] at h
      by_cases hj : j = 76
      · subst hj
        rw [if_pos rfl] at h
        obtain ⟨kk1, q1, e1, h_1⟩ := lgR_some h
        obtain ⟨rfl, h_2⟩ := if_some _ h_1
        obtain ⟨v2, e2, h_3⟩ := lgI_some h_2
        obtain ⟨v3, e3, h_4⟩ := lgI_some h_3
        obtain ⟨v4, e4, h_5⟩ := lgI_some h_4
        obtain ⟨v5, e5, h_6⟩ := lgI_some h_5
        obtain ⟨s0, st0, rfl, h_7⟩ := po1_some h_6
        obtain ⟨rfl, h_8⟩ := st0_some h_7
        clear h h_1 h_2 h_3 h_4 h_5 h_6 h_7
        have h := h_8
        try rw [callW_eq] at h
        exact WW.le (a := [some (.inr (.inr (11, 0))), some (.inr (.inr (10, q1))), some (.inl v2), some (.inl v3), some (.inl v4), some (.inl v5), none]) (by rw [hn]; rfl) (show _ = _ ∧ _ = _ ∧ _ = _ ∧ _ = _ ∧ _ = _ ∧ _ = _ ∧ True from ⟨e0, e1, e2, e3, e4, e5, trivial⟩) (sX7_readPerson_76 G hn hC hr (fX7_readPerson_28 N n) q1 v2 v3 v4 v5 s0 w h (fun q1 v2 v3 v4 w h => (ih q1 v2 v3 v4 w h)))
      rw [if_neg hj] at h
      cases h
    · exact (show _ = _ ∧ True from ⟨rfl, trivial⟩)
set_option maxRecDepth 100000 in
set_option maxHeartbeats 4000000 in
theorem crX7_readPerson {N : Nat} {X : XT} (G : GX X cX7_readPerson RX7) (hR : xR X = rmL 4) : CRs X tX7_readPerson (oF [(mX7_readNewName N), (mX7_readOtherPart N), (mX7_passUnless N), (mX7_readOption N)]) (oF []) (oF [(mX10_advance N)]) := by
  have hl : tX7_readPerson.filter isInv = [(25, .invokevirtual 119, 0, 0, 3, 0, 0, []), (75, .invokevirtual 62, 0, 0, 1, 0, 0, [(0, 0), (0, 0)]), (85, .invokevirtual 127, 0, 1, 2, 0, 0, []), (151, .invokevirtual 70, 0, 2, 3, 0, 0, []), (161, .invokevirtual 141, 0, 3, 3, 0, 0, [])] := rfl
  intro e he
  rw [hl] at he
  simp only [List.mem_cons, List.not_mem_nil, or_false] at he
  rcases he with rfl | rfl | rfl | rfl | rfl
  · exact crI_V (idx := 119) G (by decide +kernel) (MX7_readNewName N) (cw_of (ps := [867, 869, 12, 152, 870]) (by decide +kernel) (by decide +kernel)) ⟨by decide +kernel, by decide +kernel, by decide +kernel⟩ (by unfold rmOk; rw [hR]; exact ⟨by decide, by decide⟩)
  · exact crV_V (idx := 62) G (by decide +kernel) (MX10_advance N) (cw_of (ps := [862, 847, 848, 153, 849]) (by decide +kernel) (by decide +kernel)) ⟨by decide +kernel, by decide +kernel, by decide +kernel⟩ (by unfold rmOk; rw [hR]; exact ⟨by decide, by decide⟩)
  · exact crI_V (idx := 127) G (by decide +kernel) (MX7_readOtherPart N) (cw_of (ps := [878, 880, 14, 152, 881]) (by decide +kernel) (by decide +kernel)) ⟨by decide +kernel, by decide +kernel, by decide +kernel⟩ (by unfold rmOk; rw [hR]; exact ⟨by decide, by decide⟩)
  · exact crI_V (idx := 70) G (by decide +kernel) (MX7_passUnless N) (cw_of (ps := [854, 856, 9, 152, 857]) (by decide +kernel) (by decide +kernel)) ⟨by decide +kernel, by decide +kernel, by decide +kernel⟩ (by unfold rmOk; rw [hR]; exact ⟨by decide, by decide⟩)
  · exact crI_V (idx := 141) G (by decide +kernel) (MX7_readOption N) (cw_of (ps := [894, 896, 17, 152, 897]) (by decide +kernel) (by decide +kernel)) ⟨by decide +kernel, by decide +kernel, by decide +kernel⟩ (by unfold rmOk; rw [hR]; exact ⟨by decide, by decide⟩)
set_option maxRecDepth 100000 in
set_option maxHeartbeats 4000000 in
theorem MX7_readPerson (N : Nat) : SndI yX7_readPerson cX7_readPerson 7 (some .boolean) 4 1 true (mX7_readPerson N) := by
  refine SndI.ofZ tX7_readPerson (by decide +kernel) rfl rfl ?_ ?_
  · intro as w x h
    obtain ⟨t1, rfl, h_1⟩ := xS1_some h
    obtain ⟨rfl, h_2⟩ := xN1_some h_1
    clear h h_1
    have h := h_2
    rw [callW_eq] at h
    exact ⟨fun _ => ⟨_, _, _, rfl, rfl, _, rfl, rfl⟩, rfl, Nat.le_of_ble_eq_true rfl⟩
  · intro X G hn hR as w r h hr
    have hC := crX7_readPerson (N := N) G hR
    obtain ⟨t1, rfl, h_1⟩ := xS1_some h
    obtain ⟨rfl, h_2⟩ := xN1_some h_1
    clear h h_1
    have h := h_2
    rw [callW_eq] at h
    refine run_sound (r := r) (X := X) (cc := cX7_readPerson) (own := RX7) (tab := tX7_readPerson) G (by rw [hn]; exact kX7_readPerson) (oI := (oF [(mX7_readNewName N), (mX7_readOtherPart N), (mX7_passUnless N), (mX7_readOption N)])) (oL := (oF [])) (oV := (oF [(mX10_advance N)])) (rI := retZ) (rL := (fun _ _ => none)) (rV := (fun _ => none))
      (K := (fun j ls st w => if j = 28 then (lgR ls 1 fun kk q1 => if kk = 10 then lgI ls 2 fun v2 => lgI ls 3 fun v3 => lgI ls 4 fun v4 => st0 st (callW (fX7_readPerson_28 N N q1 v2 v3 v4) w) else none) else none)) hr (fun _ _ _ _ hx => by cases hx) (fun _ _ _ hx => by cases hx) hC (fun ls => lsb [some (.inr (.inr (11, 0))), none, none, none, none, none, none] 0 ls) (keepsP_of rfl) ?_ 104 0 [some (.inr (.inr (11, 0))), none, none, none, none, none, none] [] w ?_ h
    · intro j ls st w hfx h
      obtain ⟨e0, -⟩ : _ = _ ∧ True := hfx
      try dsimp only at h
      by_cases hj : j = 28
      · subst hj
        rw [if_pos rfl] at h
        obtain ⟨kk1, q1, e1, h_1⟩ := lgR_some h
        obtain ⟨rfl, h_2⟩ := if_some _ h_1
        obtain ⟨v2, e2, h_3⟩ := lgI_some h_2
        obtain ⟨v3, e3, h_4⟩ := lgI_some h_3
        obtain ⟨v4, e4, h_5⟩ := lgI_some h_4
        obtain ⟨rfl, h_6⟩ := st0_some h_5
        clear h h_1 h_2 h_3 h_4 h_5
        have h := h_6
        try rw [callW_eq] at h
        exact WW.le (a := [some (.inr (.inr (11, 0))), some (.inr (.inr (10, q1))), some (.inl v2), some (.inl v3), some (.inl v4), none, none]) (by rw [hn]; rfl) (show _ = _ ∧ _ = _ ∧ _ = _ ∧ _ = _ ∧ _ = _ ∧ True from ⟨e0, e1, e2, e3, e4, trivial⟩) (sX7_readPerson_28 G hn hC hr N q1 v2 v3 v4 w h)
      rw [if_neg hj] at h
      cases h
    · exact (show _ = _ ∧ True from ⟨rfl, trivial⟩)
-- MoorGuides$Reader.readToldPart()I
def tX7_readToldPart : List EN := [
  (0, .aload_n 0, 0, 0, 0, 0, 0, []), (1, .invokevirtual 199, 0, 0, 1, 0, 0, []), (4, .istore_n 1, 0, 0, 0, 0, 0, []), (5, .iload_n 1, 0, 0, 0, 0, 0, []),
  (6, .iconst (-1), 0, 0, 0, (-1), 0, []), (7, .if_icmp .eq 10, 0, 9, 0, 0, 0, []), (10, .aload_n 0, 0, 0, 0, 0, 0, []), (11, .getfield 12, 0, 7, 0, 0, 0, []),
  (14, .invokevirtual 62, 0, 0, 1, 0, 0, [(0, 0), (0, 0)]), (17, .iload_n 1, 0, 0, 0, 0, 0, []), (18, .ireturn, 0, 0, 0, 0, 0, [])]
noncomputable def pX7_readToldPart (N : Nat) (w : Wd) : Option (Int32 × Wd) :=
  (callW (pX7_toldPart N) w).bind fun r1 =>
  if r1.1 = (-1 : Int32) then some (r1.1, r1.2) else
  (callW (pX10_advance N) r1.2).bind fun w2 =>
  some (r1.1, w2)
noncomputable def mX7_readToldPart (N : Nat) (as : List AV) (w : Wd) : Option (Int32 × Wd) := xS1 11 as fun t => xN1 t (callW (pX7_readToldPart N) w)
set_option maxRecDepth 100000 in
set_option maxHeartbeats 4000000 in
theorem kX7_readToldPart : TK cX7_readToldPart RX7 2 tX7_readToldPart := ⟨by decide +kernel, wok_of [466] (by decide +kernel) (by decide +kernel)⟩
set_option maxRecDepth 100000 in
set_option maxHeartbeats 4000000 in
theorem crX7_readToldPart {N : Nat} {X : XT} (G : GX X cX7_readToldPart RX7) (hR : xR X = rmL 3) : CRs X tX7_readToldPart (oF [(mX7_toldPart N)]) (oF []) (oF [(mX10_advance N)]) := by
  have hl : tX7_readToldPart.filter isInv = [(1, .invokevirtual 199, 0, 0, 1, 0, 0, []), (14, .invokevirtual 62, 0, 0, 1, 0, 0, [(0, 0), (0, 0)])] := rfl
  intro e he
  rw [hl] at he
  simp only [List.mem_cons, List.not_mem_nil, or_false] at he
  rcases he with rfl | rfl
  · exact crI_V (idx := 199) G (by decide +kernel) (MX7_toldPart N) (cw_of (ps := [882, 884, 15, 152, 885]) (by decide +kernel) (by decide +kernel)) ⟨by decide +kernel, by decide +kernel, by decide +kernel⟩ (by unfold rmOk; rw [hR]; exact ⟨by decide, by decide⟩)
  · exact crV_V (idx := 62) G (by decide +kernel) (MX10_advance N) (cw_of (ps := [862, 847, 848, 153, 849]) (by decide +kernel) (by decide +kernel)) ⟨by decide +kernel, by decide +kernel, by decide +kernel⟩ (by unfold rmOk; rw [hR]; exact ⟨by decide, by decide⟩)
set_option maxRecDepth 100000 in
set_option maxHeartbeats 4000000 in
theorem MX7_readToldPart (N : Nat) : SndI yX7_readToldPart cX7_readToldPart 2 (some .int) 3 1 true (mX7_readToldPart N) := by
  refine SndI.of tX7_readToldPart (by decide +kernel) rfl rfl ?_ ?_
  · intro as w x h
    obtain ⟨t1, rfl, h_1⟩ := xS1_some h
    obtain ⟨rfl, h_2⟩ := xN1_some h_1
    clear h h_1
    have h := h_2
    rw [callW_eq] at h
    exact ⟨fun _ => ⟨_, _, _, rfl, rfl, _, rfl, rfl⟩, rfl, Nat.le_of_ble_eq_true rfl⟩
  · intro X G hn hR as w r h hr
    have hC := crX7_readToldPart (N := N) G hR
    obtain ⟨t1, rfl, h_1⟩ := xS1_some h
    obtain ⟨rfl, h_2⟩ := xN1_some h_1
    clear h h_1
    have h := h_2
    rw [callW_eq] at h
    refine run_sound (r := r) (X := X) (cc := cX7_readToldPart) (own := RX7) (tab := tX7_readToldPart) G (by rw [hn]; exact kX7_readToldPart) (oI := (oF [(mX7_toldPart N)])) (oL := (oF [])) (oV := (oF [(mX10_advance N)])) (rI := (fun x w => some (x, w))) (rL := (fun _ _ => none)) (rV := (fun _ => none))
      (K := (fun j ls st w => none)) (fun x w pc ls hx hd => hr x w pc ls (Option.some.inj hx) hd) (fun _ _ _ _ hx => by cases hx) (fun _ _ _ hx => by cases hx) hC (fun ls => lsb [some (.inr (.inr (11, 0))), none] 0 ls) (keepsP_of rfl) ?_ 13 0 [some (.inr (.inr (11, 0))), none] [] w ?_ h
    · intro j ls st w hfx h
      obtain ⟨e0, -⟩ : _ = _ ∧ True := hfx
      try dsimp only at h
      cases h
    · exact (show _ = _ ∧ True from ⟨rfl, trivial⟩)

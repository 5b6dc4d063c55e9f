-- MoorGuides$Ordering.goOn(IIJ)V
def tX5_goOn : List EN := [
  (0, .iload_n 1, 0, 0, 0, 0, 0, []), (1, .aload_n 0, 0, 0, 0, 0, 0, []), (2, .getfield 59, 0, 5, 11, 0, 0, []), (5, .if_icmp .lt 26, 0, 17, 0, 0, 0, []),
  (8, .aload_n 0, 0, 0, 0, 0, 0, []), (9, .lload_n 3, 0, 0, 0, 0, 0, []), (10, .putfield 68, 0, 5, 9, 0, 0, []), (13, .aload_n 0, 0, 0, 0, 0, 0, []),
  (14, .getfield 34, 0, 5, 8, 0, 0, []), (17, .iconst 0, 0, 0, 0, 0, 0, []), (18, .aload_n 0, 0, 0, 0, 0, 0, []), (19, .getfield 37, 0, 5, 10, 0, 0, []),
  (22, .iconst 0, 0, 0, 0, 0, 0, []), (23, .aload_n 0, 0, 0, 0, 0, 0, []), (24, .getfield 59, 0, 5, 11, 0, 0, []), (27, .invokestatic 116, 0, 0, 5, 0, 0, [(0, 0), (0, 0), (0, 0)]),
  (30, .return_, 0, 0, 0, 0, 0, []), (31, .aload_n 0, 0, 0, 0, 0, 0, []), (32, .iload_n 1, 0, 0, 0, 0, 0, []), (33, .iload_n 2, 0, 0, 0, 0, 0, []),
  (34, .invokevirtual 122, 0, 0, 3, 0, 0, []), (37, .istore 5, 0, 0, 0, 0, 0, []), (39, .iconst 0, 0, 0, 0, 0, 0, []), (40, .istore 6, 0, 0, 0, 0, 0, []),
  (42, .iload 6, 25, 0, 0, 0, 0, []), (44, .aload_n 0, 0, 0, 0, 0, 0, []), (45, .getfield 40, 0, 5, 0, 0, 0, []), (48, .getfield 84, 0, 9, 0, 0, 0, []),
  (51, .getfield 88, 0, 4, 0, 0, 0, []), (54, .if_icmp .ge 111, 0, 94, 0, 0, 0, []), (57, .aload_n 0, 0, 0, 0, 0, 0, []), (58, .getfield 44, 0, 5, 2, 0, 0, []),
  (61, .iload_n 2, 0, 0, 0, 0, 0, []), (62, .iconst (-1), 0, 0, 0, (-1), 0, []), (63, .ixor, 0, 0, 0, 0, 0, []), (64, .iand, 0, 0, 0, 0, 0, []),
  (65, .iconst 1, 0, 0, 0, 1, 0, []), (66, .iload 6, 0, 0, 0, 0, 0, []), (68, .ishl, 0, 0, 0, 0, 0, []), (69, .iand, 0, 0, 0, 0, 0, []),
  (70, .ifCond .eq 89, 0, 92, 0, 0, 0, []), (73, .aload_n 0, 0, 0, 0, 0, 0, []), (74, .getfield 40, 0, 5, 0, 0, 0, []), (77, .getfield 84, 0, 9, 0, 0, 0, []),
  (80, .getfield 103, 0, 4, 3, 0, 0, []), (83, .iload 6, 0, 0, 0, 0, 0, []), (85, .iaload, 0, 0, 0, 0, 0, []), (86, .iload 5, 0, 0, 0, 0, 0, []),
  (88, .iand, 0, 0, 0, 0, 0, []), (89, .invokestatic 47, 0, 1, 1, 0, 0, []), (92, .istore 7, 0, 0, 0, 0, 0, []), (94, .lload_n 3, 0, 0, 0, 0, 0, []),
  (95, .aload_n 0, 0, 0, 0, 0, 0, []), (96, .getfield 15, 0, 5, 3, 0, 0, []), (99, .iload_n 1, 0, 0, 0, 0, 0, []), (100, .iload 6, 0, 0, 0, 0, 0, []),
  (102, .iload 7, 0, 0, 0, 0, 0, []), (104, .invokestatic 113, 0, 2, 3, 0, 0, []), (107, .iaload, 0, 0, 0, 0, 0, []), (108, .i2l, 0, 0, 0, 0, 0, []),
  (109, .lmul, 0, 0, 0, 0, 0, []), (110, .lstore 8, 0, 0, 0, 0, 0, []), (112, .iload_n 2, 0, 0, 0, 0, 0, []), (113, .iconst 1, 0, 0, 0, 1, 0, []),
  (114, .iload 6, 0, 0, 0, 0, 0, []), (116, .ishl, 0, 0, 0, 0, 0, []), (117, .ior, 0, 0, 0, 0, 0, []), (118, .istore 10, 0, 0, 0, 0, 0, []),
  (120, .lload 8, 0, 0, 0, 0, 0, []), (122, .aload_n 0, 0, 0, 0, 0, 0, []), (123, .iload_n 1, 0, 0, 0, 0, 0, []), (124, .iconst 1, 0, 0, 0, 1, 0, []),
  (125, .iadd, 0, 0, 0, 0, 0, []), (126, .iload 10, 0, 0, 0, 0, 0, []), (128, .invokevirtual 125, 0, 0, 3, 0, 0, [(0, 0)]), (131, .lmul, 0, 0, 0, 0, 0, []),
  (132, .aload_n 0, 0, 0, 0, 0, 0, []), (133, .getfield 68, 0, 5, 9, 0, 0, []), (136, .lcmp, 0, 0, 0, 0, 0, []), (137, .ifCond .le 22, 0, 92, 0, 0, 0, []),
  (140, .aload_n 0, 0, 0, 0, 0, 0, []), (141, .getfield 34, 0, 5, 8, 0, 0, []), (144, .iload_n 1, 0, 0, 0, 0, 0, []), (145, .iload 6, 0, 0, 0, 0, 0, []),
  (147, .iastore, 0, 0, 0, 0, 0, []), (148, .aload_n 0, 0, 0, 0, 0, 0, []), (149, .iload_n 1, 0, 0, 0, 0, 0, []), (150, .iconst 1, 0, 0, 0, 1, 0, []),
  (151, .iadd, 0, 0, 0, 0, 0, []), (152, .iload 10, 0, 0, 0, 0, 0, []), (154, .lload 8, 0, 0, 0, 0, 0, []), (156, .invokevirtual 72, 0, 0, 4, 0, 0, [(0, 0), (0, 0)]),
  (159, .iinc 6 1, 0, 0, 0, 1, 0, []), (162, .goto (-120), 0, 24, 0, 0, 0, []), (165, .return_, 0, 0, 0, 0, 0, [])]
noncomputable def fX5_goOn_24 (N : Nat) (rec : Int32 → Int32 → Int64 → Wd → Option Wd) (a1 : Int32) (a2 : Int32) (a3 : Int64) : Nat → Int32 → Int32 → Wd → Option (Wd)
  | 0, _, _, _ => none
  | n + 1, v5, v6, w =>
    if v6 < (gI w 8 (gR w 13 0 0) 0) then
      if (((gI w 9 0 2) &&& (a2 ^^^ (-1 : Int32))) &&& ((1 : Int32) <<< (v6 &&& (31 : Int32)))) = 0 then callW (fX5_goOn_24 N rec a1 a2 a3 n v5 (v6 + (1 : Int32))) w else
      (ldI w 32 (gR w 13 0 0) v6 8).bind fun x1 =>
      (callW (pJ6_bitCount_0f7a4 N (x1 &&& v5)) w).bind fun r2 =>
      (callW (pX5_slot N a1 v6 r2.1) r2.2).bind fun r3 =>
      (ldI r3.2 40 0 r3.1 576).bind fun x4 =>
      (callW (pX5_mostBehind N (a1 + (1 : Int32)) (a2 ||| ((1 : Int32) <<< (v6 &&& (31 : Int32))))) r3.2).bind fun r5 =>
      if 0 < (lg_cmp ((a3 * x4.toInt64) * r5.1) (gL r5.2 9 0 9)) then
        (stI r5.2 46 0 a1 8 v6).bind fun w6 =>
        (callW (rec (a1 + (1 : Int32)) (a2 ||| ((1 : Int32) <<< (v6 &&& (31 : Int32)))) (a3 * x4.toInt64)) w6).bind fun w7 =>
        callW (fX5_goOn_24 N rec a1 a2 a3 n v5 (v6 + (1 : Int32))) w7
      else
      callW (fX5_goOn_24 N rec a1 a2 a3 n v5 (v6 + (1 : Int32))) r5.2
    else
    some w
noncomputable def pX5_goOnB (N : Nat) (rec : Int32 → Int32 → Int64 → Wd → Option Wd) (a1 : Int32) (a2 : Int32) (a3 : Int64) (w : Wd) : Option (Wd) :=
  if a1 < (gI w 9 0 11) then
    (callW (pX5_knownAt N a1 a2) w).bind fun r1 =>
    callW (fX5_goOn_24 N rec a1 a2 a3 N r1.1 (0 : Int32)) r1.2
  else
  (cpI (setL w 9 0 9 a3) 46 0 (0 : Int32) 8 47 0 (0 : Int32) 8 (gI (setL w 9 0 9 a3) 9 0 11)).bind fun w2 =>
  some w2
noncomputable def mX5_goOnR (rec : Int32 → Int32 → Int64 → Wd → Option Wd) (as : List AV) (w : Wd) : Option Wd := xS1 9 as fun t => xI1 t fun a1 t => xI1 t fun a2 t => xL1 t fun a3 t => xN1 t (callW (rec a1 a2 a3) w)
noncomputable def pX5_goOn (N : Nat) : Nat → Int32 → Int32 → Int64 → Wd → Option Wd
  | 0 => fun _ _ _ _ => none
  | d + 1 => pX5_goOnB N (pX5_goOn N d)
noncomputable def mX5_goOn (N d : Nat) : List AV → Wd → Option Wd := mX5_goOnR (pX5_goOn N d)
set_option maxRecDepth 100000 in
set_option maxHeartbeats 4000000 in
theorem kX5_goOn : TK cX5_goOn RX5 11 tX5_goOn := ⟨by decide +kernel, wok_of [646, 643, 642, 644, 646, 1326, 1122, 1121, 170, 634, 518, 258, 636, 634, 518, 270, 637, 643, 642] (by decide +kernel) (by decide +kernel)⟩
set_option maxRecDepth 100000 in
set_option maxHeartbeats 4000000 in
theorem sX5_goOn_24 {N : Nat} {rec : Int32 → Int32 → Int64 → Wd → Option Wd} {X : XT} (G : GX X cX5_goOn RX5) (hn : xnL X = 11) (hC : CRs X tX5_goOn (oF [(mX5_knownAt N), (mJ6_bitCount_0f7a4 N), (mX5_slot N)]) (oF [(mX5_mostBehind N)]) (oF [(mX5_goOnR rec)])) {r : Wd} (hr : RTV X cX5_goOn r) (a1 : Int32) (a2 : Int32) (a3 : Int64) : ∀ (n : Nat) (v5 : Int32) (v6 : Int32) (w : Wd), fX5_goOn_24 N rec a1 a2 a3 n v5 v6 w = some r → WW X (pcAt tX5_goOn 24) [some (.inr (.inr (9, 0))), some (.inl a1), some (.inl a2), some (.inr (.inl a3)), none, some (.inl v5), some (.inl v6), none, none, none, none] [] w := by
  intro n
  induction n with
  | zero => intro v5 v6 w h; cases h
  | succ n ih =>
    intro v5 v6 w h
    refine run_sound (r := r) (X := X) (cc := cX5_goOn) (own := RX5) (tab := tX5_goOn) G (by rw [hn]; exact kX5_goOn) (oI := (oF [(mX5_knownAt N), (mJ6_bitCount_0f7a4 N), (mX5_slot N)])) (oL := (oF [(mX5_mostBehind N)])) (oV := (oF [(mX5_goOnR rec)])) (rI := (fun _ _ => none)) (rL := (fun _ _ => none)) (rV := (fun w => some w))
      (K := (fun j ls st w => if j = 24 then (lgI ls 5 fun v5 => lgI ls 6 fun v6 => st0 st (callW (fX5_goOn_24 N rec a1 a2 a3 n v5 v6) w)) else none)) (fun _ _ _ _ hx => by cases hx) (fun _ _ _ _ hx => by cases hx) (fun w pc ls hx hd => hr w pc ls (Option.some.inj hx) hd) hC (fun ls => lsb [some (.inr (.inr (9, 0))), some (.inl a1), some (.inl a2), some (.inr (.inl a3)), none, none, none, none, none, none, none] 0 ls) (keepsP_of rfl) ?_ 97 24 [some (.inr (.inr (9, 0))), some (.inl a1), some (.inl a2), some (.inr (.inl a3)), none, some (.inl v5), some (.inl v6), none, none, none, none] [] w ?_ h
    · intro j ls st w hfx h
      obtain ⟨e0, e1, e2, e3, -⟩ : _ = _ ∧ _ = _ ∧ _ = _ ∧ _ = _ ∧ True := hfx
      try dsimp only at h
      by_cases hj : j = 24
      · subst hj
        rw [if_pos rfl] at h
        obtain ⟨v5, e5, h_1⟩ := lgI_some h
        obtain ⟨v6, e6, h_2⟩ := lgI_some h_1
        obtain ⟨rfl, h_3⟩ := st0_some h_2
        clear h h_1 h_2
        have h := h_3
        try rw [callW_eq] at h
        exact WW.le (a := [some (.inr (.inr (9, 0))), some (.inl a1), some (.inl a2), some (.inr (.inl a3)), none, some (.inl v5), some (.inl v6), none, none, none, none]) (by rw [hn]; rfl) (show _ = _ ∧ _ = _ ∧ _ = _ ∧ _ = _ ∧ _ = _ ∧ _ = _ ∧ True from ⟨e0, e1, e2, e3, e5, e6, trivial⟩) (ih v5 v6 w h)
      rw [if_neg hj] at h
      cases h
    · exact (show _ = _ ∧ _ = _ ∧ _ = _ ∧ _ = _ ∧ True from ⟨rfl, rfl, rfl, rfl, trivial⟩)
set_option maxRecDepth 100000 in
set_option maxHeartbeats 4000000 in
theorem crX5_goOn {N d : Nat} {rec : Int32 → Int32 → Int64 → Wd → Option Wd} {X : XT} (hS : SndV yX5_goOn cX5_goOn 11 none (3 + d) 4 true (mX5_goOnR rec)) (G : GX X cX5_goOn RX5) (hR : xR X = rmL (3 + d + 1)) : CRs X tX5_goOn (oF [(mX5_knownAt N), (mJ6_bitCount_0f7a4 N), (mX5_slot N)]) (oF [(mX5_mostBehind N)]) (oF [(mX5_goOnR rec)]) := by
  have hl : tX5_goOn.filter isInv = [(27, .invokestatic 116, 0, 0, 5, 0, 0, [(0, 0), (0, 0), (0, 0)]), (34, .invokevirtual 122, 0, 0, 3, 0, 0, []), (89, .invokestatic 47, 0, 1, 1, 0, 0, []), (104, .invokestatic 113, 0, 2, 3, 0, 0, []), (128, .invokevirtual 125, 0, 0, 3, 0, 0, [(0, 0)]), (156, .invokevirtual 72, 0, 0, 4, 0, 0, [(0, 0), (0, 0)])] := rfl
  intro e he
  rw [hl] at he
  simp only [List.mem_cons, List.not_mem_nil, or_false] at he
  rcases he with rfl | rfl | rfl | rfl | rfl | rfl
  · trivial
  · exact crI_V (idx := 122) G (by decide +kernel) (MX5_knownAt N) (cw_of (ps := [1327, 1329, 61, 159, 1330]) (by decide +kernel) (by decide +kernel)) ⟨by decide +kernel, by decide +kernel, by decide +kernel⟩ (by unfold rmOk; rw [hR]; simp only [rmL]; omega)
  · exact crI_S (idx := 47) G (by decide +kernel) (MJ6_bitCount_0f7a4 N) (cw_of (ps := [1300, 1066, 169, 1067]) (by decide +kernel) (by decide +kernel)) ⟨by decide +kernel, by decide +kernel, by decide +kernel⟩ (by unfold rmOk; rw [hR]; simp only [rmL]; omega)
  · exact crI_S (idx := 113) G (by decide +kernel) (MX5_slot N) (cw_of (ps := [1317, 1318, 159, 1319]) (by decide +kernel) (by decide +kernel)) ⟨by decide +kernel, by decide +kernel, by decide +kernel⟩ (by unfold rmOk; rw [hR]; simp only [rmL]; omega)
  · exact crL_V (idx := 125) G (by decide +kernel) (MX5_mostBehind N) (cw_of (ps := [1331, 1333, 62, 159, 1334]) (by decide +kernel) (by decide +kernel)) ⟨by decide +kernel, by decide +kernel, by decide +kernel⟩ (by unfold rmOk; rw [hR]; simp only [rmL]; omega)
  · exact crV_V (idx := 72) G (by decide +kernel) hS (cw_of (ps := [1322, 1324, 60, 159, 1325]) (by decide +kernel) (by decide +kernel)) ⟨by decide +kernel, by decide +kernel, by decide +kernel⟩ (by unfold rmOk; rw [hR]; simp only [rmL]; omega)
set_option maxRecDepth 100000 in
set_option maxHeartbeats 4000000 in
theorem MX5_goOnB {N d : Nat} {rec : Int32 → Int32 → Int64 → Wd → Option Wd} (hS : SndV yX5_goOn cX5_goOn 11 none (3 + d) 4 true (mX5_goOnR rec)) : SndV yX5_goOn cX5_goOn 11 none (3 + d + 1) 4 true (mX5_goOnR (pX5_goOnB N rec)) := by
  refine SndV.of tX5_goOn (by decide +kernel) rfl rfl ?_ ?_
  · intro as w x h
    obtain ⟨t1, rfl, h_1⟩ := xS1_some h
    obtain ⟨a1, t2, rfl, h_2⟩ := xI1_some h_1
    obtain ⟨a2, t3, rfl, h_3⟩ := xI1_some h_2
    obtain ⟨a3, t4, rfl, h_4⟩ := xL1_some h_3
    obtain ⟨rfl, h_5⟩ := xN1_some h_4
    clear h h_1 h_2 h_3 h_4
    have h := h_5
    rw [callW_eq] at h
    exact ⟨fun _ => ⟨_, _, _, rfl, rfl, _, rfl, rfl⟩, rfl, Nat.le_of_ble_eq_true rfl⟩
  · intro X G hn hR as w r h hr
    have hC := crX5_goOn (N := N) hS G hR
    obtain ⟨t1, rfl, h_1⟩ := xS1_some h
    obtain ⟨a1, t2, rfl, h_2⟩ := xI1_some h_1
    obtain ⟨a2, t3, rfl, h_3⟩ := xI1_some h_2
    obtain ⟨a3, t4, rfl, h_4⟩ := xL1_some h_3
    obtain ⟨rfl, h_5⟩ := xN1_some h_4
    clear h h_1 h_2 h_3 h_4
    have h := h_5
    rw [callW_eq] at h
    refine run_sound (r := r) (X := X) (cc := cX5_goOn) (own := RX5) (tab := tX5_goOn) G (by rw [hn]; exact kX5_goOn) (oI := (oF [(mX5_knownAt N), (mJ6_bitCount_0f7a4 N), (mX5_slot N)])) (oL := (oF [(mX5_mostBehind N)])) (oV := (oF [(mX5_goOnR rec)])) (rI := (fun _ _ => none)) (rL := (fun _ _ => none)) (rV := (fun w => some w))
      (K := (fun j ls st w => if j = 24 then (lgI ls 5 fun v5 => lgI ls 6 fun v6 => st0 st (callW (fX5_goOn_24 N rec a1 a2 a3 N v5 v6) w)) else none)) (fun _ _ _ _ hx => by cases hx) (fun _ _ _ _ hx => by cases hx) (fun w pc ls hx hd => hr w pc ls (Option.some.inj hx) hd) hC (fun ls => lsb [some (.inr (.inr (9, 0))), some (.inl a1), some (.inl a2), some (.inr (.inl a3)), none, none, none, none, none, none, none] 0 ls) (keepsP_of rfl) ?_ 97 0 [some (.inr (.inr (9, 0))), some (.inl a1), some (.inl a2), some (.inr (.inl a3)), none, none, none, none, none, none, none] [] w ?_ h
    · intro j ls st w hfx h
      obtain ⟨e0, e1, e2, e3, -⟩ : _ = _ ∧ _ = _ ∧ _ = _ ∧ _ = _ ∧ True := hfx
      try dsimp only at h
      by_cases hj : j = 24
      · subst hj
        rw [if_pos rfl] at h
        obtain ⟨v5, e5, h_1⟩ := lgI_some h
        obtain ⟨v6, e6, h_2⟩ := lgI_some h_1
        obtain ⟨rfl, h_3⟩ := st0_some h_2
        clear h h_1 h_2
        have h := h_3
        try rw [callW_eq] at h
        exact WW.le (a := [some (.inr (.inr (9, 0))), some (.inl a1), some (.inl a2), some (.inr (.inl a3)), none, some (.inl v5), some (.inl v6), none, none, none, none]) (by rw [hn]; rfl) (show _ = _ ∧ _ = _ ∧ _ = _ ∧ _ = _ ∧ _ = _ ∧ _ = _ ∧ True from ⟨e0, e1, e2, e3, e5, e6, trivial⟩) (sX5_goOn_24 G hn hC hr a1 a2 a3 N v5 v6 w h)
      rw [if_neg hj] at h
      cases h
    · exact (show _ = _ ∧ _ = _ ∧ _ = _ ∧ _ = _ ∧ True from ⟨rfl, rfl, rfl, rfl, trivial⟩)
set_option maxRecDepth 100000 in
set_option maxHeartbeats 4000000 in
theorem MX5_goOn (N : Nat) : ∀ d, SndV yX5_goOn cX5_goOn 11 none (3 + d) 4 true (mX5_goOn N d)
  | 0 => by
    intro l cs ρ D aC sz as w x _ _ _ _ hf
    obtain ⟨t1, rfl, hf1⟩ := xS1_some hf
    obtain ⟨a1, t2, rfl, hf2⟩ := xI1_some hf1
    obtain ⟨a2, t3, rfl, hf3⟩ := xI1_some hf2
    obtain ⟨a3, t4, rfl, hf4⟩ := xL1_some hf3
    obtain ⟨rfl, hf5⟩ := xN1_some hf4
    rw [callW_eq] at hf5
    cases hf5
  | d + 1 => MX5_goOnB (MX5_goOn N d)
-- MoorGuides$Ordering.find(II)V
def tX5_find : List EN := [
  (0, .iload_n 1, 0, 0, 0, 0, 0, []), (1, .aload_n 0, 0, 0, 0, 0, 0, []), (2, .getfield 9, 0, 5, 1, 0, 0, []), (5, .if_icmp .ne 12, 0, 9, 0, 0, 0, []),
  (8, .iload_n 2, 0, 0, 0, 0, 0, []), (9, .aload_n 0, 0, 0, 0, 0, 0, []), (10, .getfield 44, 0, 5, 2, 0, 0, []), (13, .if_icmp .ne 4, 0, 9, 0, 0, 0, []),
  (16, .return_, 0, 0, 0, 0, 0, []), (17, .aload_n 0, 10, 0, 0, 0, 0, []), (18, .iload_n 1, 0, 0, 0, 0, 0, []), (19, .putfield 9, 0, 5, 1, 0, 0, []),
  (22, .aload_n 0, 0, 0, 0, 0, 0, []), (23, .iload_n 2, 0, 0, 0, 0, 0, []), (24, .putfield 44, 0, 5, 2, 0, 0, []), (27, .aload_n 0, 0, 0, 0, 0, 0, []),
  (28, .iload_n 2, 0, 0, 0, 0, 0, []), (29, .invokestatic 47, 0, 0, 1, 0, 0, []), (32, .bipush 8, 0, 0, 0, 8, 0, []), (34, .invokestatic 53, 0, 1, 2, 0, 0, []),
  (37, .putfield 59, 0, 5, 11, 0, 0, []), (40, .iconst 0, 0, 0, 0, 0, 0, []), (41, .istore_n 3, 0, 0, 0, 0, 0, []), (42, .iload_n 3, 24, 0, 0, 0, 0, []),
  (43, .bipush 8, 0, 0, 0, 8, 0, []), (45, .if_icmp .ge 16, 0, 33, 0, 0, 0, []), (48, .aload_n 0, 0, 0, 0, 0, 0, []), (49, .getfield 27, 0, 5, 6, 0, 0, []),
  (52, .iload_n 3, 0, 0, 0, 0, 0, []), (53, .iconst 0, 0, 0, 0, 0, 0, []), (54, .iastore, 0, 0, 0, 0, 0, []), (55, .iinc 3 1, 0, 0, 0, 1, 0, []),
  (58, .goto (-16), 0, 23, 0, 0, 0, []), (61, .aload_n 0, 34, 0, 0, 0, 0, []), (62, .getfield 30, 0, 5, 7, 0, 0, []), (65, .aload_n 0, 0, 0, 0, 0, 0, []),
  (66, .getfield 59, 0, 5, 11, 0, 0, []), (69, .lconst 1, 0, 0, 0, 0, 1, []), (70, .lastore, 0, 0, 0, 0, 0, []), (71, .aload_n 0, 0, 0, 0, 0, 0, []),
  (72, .getfield 59, 0, 5, 11, 0, 0, []), (75, .iconst 1, 0, 0, 0, 1, 0, []), (76, .isub, 0, 0, 0, 0, 0, []), (77, .istore_n 3, 0, 0, 0, 0, 0, []),
  (78, .iload_n 3, 45, 0, 0, 0, 0, []), (79, .ifCond .lt 14, 0, 51, 0, 0, 0, []), (82, .aload_n 0, 0, 0, 0, 0, 0, []), (83, .iload_n 3, 0, 0, 0, 0, 0, []),
  (84, .invokevirtual 62, 0, 0, 2, 0, 0, [(0, 0), (0, 0)]), (87, .iinc 3 (-1), 0, 0, 0, (-1), 0, []), (90, .goto (-12), 0, 44, 0, 0, 0, []), (93, .aload_n 0, 52, 0, 0, 0, 0, []),
  (94, .ldc2_w 66, 0, 0, 0, 0, (-1), []), (97, .putfield 68, 0, 5, 9, 0, 0, []), (100, .aload_n 0, 0, 0, 0, 0, 0, []), (101, .iconst 0, 0, 0, 0, 0, 0, []),
  (102, .iconst 0, 0, 0, 0, 0, 0, []), (103, .lconst 1, 0, 0, 0, 0, 1, []), (104, .invokevirtual 72, 0, 1, 4, 0, 0, [(0, 0), (0, 0)]), (107, .return_, 0, 0, 0, 0, 0, [])]
noncomputable def fX5_find_51 (N : Nat) (w : Wd) : Option (Wd) :=
  (callW (pX5_goOn N 10 (0 : Int32) (0 : Int32) (1 : Int64)) (setL w 9 0 9 (-1 : Int64))).bind fun w1 =>
  some w1
noncomputable def fX5_find_44 (N : Nat) : Nat → (Wd → Option (Wd)) → Int32 → Wd → Option (Wd)
  | 0, _, _, _ => none
  | n + 1, k51, v3, w =>
    if v3 < 0 then k51 w else
    (callW (pX5_prepare N v3) w).bind fun w1 =>
    callW (fX5_find_44 N n k51 (v3 + (-1 : Int32))) w1
noncomputable def fX5_find_33 (N : Nat) (w : Wd) : Option (Wd) :=
  (stL w 45 0 (gI w 9 0 11) 9 (1 : Int64)).bind fun w1 =>
  callW (fX5_find_44 N N (fX5_find_51 N) ((gI w1 9 0 11) - (1 : Int32))) w1
noncomputable def fX5_find_23 (N : Nat) : Nat → (Wd → Option (Wd)) → Int32 → Wd → Option (Wd)
  | 0, _, _, _ => none
  | n + 1, k33, v3, w =>
    if v3 < (8 : Int32) then
      (stI w 44 0 v3 8 (0 : Int32)).bind fun w1 =>
      callW (fX5_find_23 N n k33 (v3 + (1 : Int32))) w1
    else
    k33 w
noncomputable def fX5_find_9 (N : Nat) (a1 : Int32) (a2 : Int32) (w : Wd) : Option (Wd) :=
  (callW (pJ6_bitCount_0f7a4 N a2) (setI (setI w 9 0 1 a1) 9 0 2 a2)).bind fun r1 =>
  (callW (pJ9_min_7cf53 N r1.1 (8 : Int32)) r1.2).bind fun r2 =>
  callW (fX5_find_23 N N (fX5_find_33 N) (0 : Int32)) (setI r2.2 9 0 11 r2.1)
noncomputable def pX5_find (N : Nat) (a1 : Int32) (a2 : Int32) (w : Wd) : Option (Wd) :=
  if a1 = (gI w 9 0 1) then
    if a2 = (gI w 9 0 2) then some w else
    callW (fX5_find_9 N a1 a2) w
  else
  callW (fX5_find_9 N a1 a2) w
noncomputable def mX5_find (N : Nat) (as : List AV) (w : Wd) : Option (Wd) := xS1 9 as fun t => xI1 t fun a1 t => xI1 t fun a2 t => xN1 t (callW (pX5_find N a1 a2) w)
set_option maxRecDepth 100000 in
set_option maxHeartbeats 4000000 in
theorem kX5_find : TK cX5_find RX5 4 tX5_find := ⟨by decide +kernel, wok_of [635, 636, 635, 636, 646, 640, 641, 646, 646, 1321, 643] (by decide +kernel) (by decide +kernel)⟩
set_option maxRecDepth 100000 in
set_option maxHeartbeats 4000000 in
theorem sX5_find_51 {N : Nat} {X : XT} (G : GX X cX5_find RX5) (hn : xnL X = 4) (hC : CRs X tX5_find (oF [(mJ6_bitCount_0f7a4 N), (mJ9_min_7cf53 N)]) (oF []) (oF [(mX5_prepare N), (mX5_goOn N 10)])) {r : Wd} (hr : RTV X cX5_find r) (a1 : Int32) (a2 : Int32) : ∀ (w : Wd), fX5_find_51 N w = some r → WW X (pcAt tX5_find 51) [some (.inr (.inr (9, 0))), some (.inl a1), some (.inl a2), none] [] w := by
  intro w h
  refine run_sound (r := r) (X := X) (cc := cX5_find) (own := RX5) (tab := tX5_find) G (by rw [hn]; exact kX5_find) (oI := (oF [(mJ6_bitCount_0f7a4 N), (mJ9_min_7cf53 N)])) (oL := (oF [])) (oV := (oF [(mX5_prepare N), (mX5_goOn N 10)])) (rI := (fun _ _ => none)) (rL := (fun _ _ => none)) (rV := (fun w => some w))
    (K := (fun j ls st w => none)) (fun _ _ _ _ hx => by cases hx) (fun _ _ _ _ hx => by cases hx) (fun w pc ls hx hd => hr w pc ls (Option.some.inj hx) hd) hC (fun ls => lsb [some (.inr (.inr (9, 0))), some (.inl a1), some (.inl a2), none] 0 ls) (keepsP_of rfl) ?_ 62 51 [some (.inr (.inr (9, 0))), some (.inl a1), some (.inl a2), none] [] w ?_ h
  · intro j ls st w hfx h
    obtain ⟨e0, e1, e2, -⟩ : _ = _ ∧ _ = _ ∧ _ = _ ∧ True := hfx
    try dsimp only at h
    cases h
  · exact (show _ = _ ∧ _ = _ ∧ _ = _ ∧ True from ⟨rfl, rfl, rfl, trivial⟩)
set_option maxRecDepth 100000 in
set_option maxHeartbeats 4000000 in
theorem sX5_find_44 {N : Nat} {X : XT} (G : GX X cX5_find RX5) (hn : xnL X = 4) (hC : CRs X tX5_find (oF [(mJ6_bitCount_0f7a4 N), (mJ9_min_7cf53 N)]) (oF []) (oF [(mX5_prepare N), (mX5_goOn N 10)])) {r : Wd} (hr : RTV X cX5_find r) (a1 : Int32) (a2 : Int32) : ∀ (n : Nat) (k51 : Wd → Option (Wd)) (v3 : Int32) (w : Wd), fX5_find_44 N n k51 v3 w = some r → (∀ (w : Wd), k51 w = some r → WW X (pcAt tX5_find 51) [some (.inr (.inr (9, 0))), some (.inl a1), some (.inl a2), none] [] w) → WW X (pcAt tX5_find 44) [some (.inr (.inr (9, 0))), some (.inl a1), some (.inl a2), some (.inl v3)] [] w := by
  intro n
  induction n with
  | zero => intro k51 v3 w h h51; cases h
  | succ n ih =>
    intro k51 v3 w h h51
    refine run_sound (r := r) (X := X) (cc := cX5_find) (own := RX5) (tab := tX5_find) G (by rw [hn]; exact kX5_find) (oI := (oF [(mJ6_bitCount_0f7a4 N), (mJ9_min_7cf53 N)])) (oL := (oF [])) (oV := (oF [(mX5_prepare N), (mX5_goOn N 10)])) (rI := (fun _ _ => none)) (rL := (fun _ _ => none)) (rV := (fun w => some w))
      (K := (fun j ls st w => if j = 44 then (lgI ls 3 fun v3 => st0 st (callW (fX5_find_44 N n k51 v3) w)) else if j = 51 then (st0 st (k51 w)) else none)) (fun _ _ _ _ hx => by cases hx) (fun _ _ _ _ hx => by cases hx) (fun w pc ls hx hd => hr w pc ls (Option.some.inj hx) hd) hC (fun ls => lsb [some (.inr (.inr (9, 0))), some (.inl a1), some (.inl a2), none] 0 ls) (keepsP_of rfl) ?_ 62 44 [some (.inr (.inr (9, 0))), some (.inl a1), some (.inl a2), some (.inl v3)] [] w ?_ h
    · intro j ls st w hfx h
      obtain ⟨e0, e1, e2, -⟩ : _ = _ ∧ _ = _ ∧ _ = _ ∧ True := hfx
      try dsimp only at h
      by_cases hj : j = 44
      · subst hj
        rw [if_pos rfl] at h
        obtain ⟨v3, e3, h_1⟩ := lgI_some h
        obtain ⟨rfl, h_2⟩ := st0_some h_1
        clear h h_1
        have h := h_2
        try rw [callW_eq] at h
        exact WW.le (a := [some (.inr (.inr (9, 0))), some (.inl a1), some (.inl a2), some (.inl v3)]) (by rw [hn]; rfl) (show _ = _ ∧ _ = _ ∧ _ = _ ∧ _ = _ ∧ True from ⟨e0, e1, e2, e3, trivial⟩) (ih k51 v3 w h h51)
      rw [if_neg hj] at h
      by_cases hj : j = 51
      · subst hj
        rw [if_pos rfl] at h
        obtain ⟨rfl, h_1⟩ := st0_some h
        clear h
        have h := h_1
        try rw [callW_eq] at h
        exact WW.le (a := [some (.inr (.inr (9, 0))), some (.inl a1), some (.inl a2), none]) (by rw [hn]; rfl) (show _ = _ ∧ _ = _ ∧ _ = _ ∧ True from ⟨e0, e1, e2, trivial⟩) (h51 w h)
      rw [if_neg hj] at h
      cases h
    · exact (show _ = _ ∧ _ = _ ∧ _ = _ ∧ True from ⟨rfl, rfl, rfl, trivial⟩)
set_option maxRecDepth 100000 in
set_option maxHeartbeats 4000000 in
theorem sX5_find_33 {N : Nat} {X : XT} (G : GX X cX5_find RX5) (hn : xnL X = 4) (hC : CRs X tX5_find (oF [(mJ6_bitCount_0f7a4 N), (mJ9_min_7cf53 N)]) (oF []) (oF [(mX5_prepare N), (mX5_goOn N 10)])) {r : Wd} (hr : RTV X cX5_find r) (a1 : Int32) (a2 : Int32) : ∀ (w : Wd), fX5_find_33 N w = some r → WW X (pcAt tX5_find 33) [some (.inr (.inr (9, 0))), some (.inl a1), some (.inl a2), none] [] w := by
  intro w h
  refine run_sound (r := r) (X := X) (cc := cX5_find) (own := RX5) (tab := tX5_find) G (by rw [hn]; exact kX5_find) (oI := (oF [(mJ6_bitCount_0f7a4 N), (mJ9_min_7cf53 N)])) (oL := (oF [])) (oV := (oF [(mX5_prepare N), (mX5_goOn N 10)])) (rI := (fun _ _ => none)) (rL := (fun _ _ => none)) (rV := (fun w => some w))
    (K := (fun j ls st w => if j = 44 then (lgI ls 3 fun v3 => st0 st (callW (fX5_find_44 N N (fX5_find_51 N) v3) w)) else none)) (fun _ _ _ _ hx => by cases hx) (fun _ _ _ _ hx => by cases hx) (fun w pc ls hx hd => hr w pc ls (Option.some.inj hx) hd) hC (fun ls => lsb [some (.inr (.inr (9, 0))), some (.inl a1), some (.inl a2), none] 0 ls) (keepsP_of rfl) ?_ 62 33 [some (.inr (.inr (9, 0))), some (.inl a1), some (.inl a2), none] [] w ?_ h
  · intro j ls st w hfx h
    obtain ⟨e0, e1, e2, -⟩ : _ = _ ∧ _ = _ ∧ _ = _ ∧ True := hfx
    try dsimp only at h
    by_cases hj : j = 44
    · subst hj
      rw [if_pos rfl] at h
      obtain ⟨v3, e3, h_1⟩ := lgI_some h
      obtain ⟨rfl, h_2⟩ := st0_some h_1
      clear h h_1
      have h := h_2
      try rw [callW_eq] at h
      exact WW.le (a := [some (.inr (.inr (9, 0))), some (.inl a1), some (.inl a2), some (.inl v3)]) (by rw [hn]; rfl) (show _ = _ ∧ _ = _ ∧ _ = _ ∧ _ = _ ∧ True from ⟨e0, e1, e2, e3, trivial⟩) (sX5_find_44 G hn hC hr a1 a2 N (fX5_find_51 N) v3 w h (fun w h => (sX5_find_51 G hn hC hr a1 a2 w h)))
    rw [if_neg hj] at h
    cases h
  · exact (show _ = _ ∧ _ = _ ∧ _ = _ ∧ True from ⟨rfl, rfl, rfl, trivial⟩)
set_option maxRecDepth 100000 in
set_option maxHeartbeats 4000000 in
theorem sX5_find_23 {N : Nat} {X : XT} (G : GX X cX5_find RX5) (hn : xnL X = 4) (hC : CRs X tX5_find (oF [(mJ6_bitCount_0f7a4 N), (mJ9_min_7cf53 N)]) (oF []) (oF [(mX5_prepare N), (mX5_goOn N 10)])) {r : Wd} (hr : RTV X cX5_find r) (a1 : Int32) (a2 : Int32) : ∀ (n : Nat) (k33 : Wd → Option (Wd)) (v3 : Int32) (w : Wd), fX5_find_23 N n k33 v3 w = some r → (∀ (w : Wd), k33 w = some r → WW X (pcAt tX5_find 33) [some (.inr (.inr (9, 0))), some (.inl a1), some (.inl a2), none] [] w) → WW X (pcAt tX5_find 23) [some (.inr (.inr (9, 0))), some (.inl a1), some (.inl a2), some (.inl v3)] [] w := by
  intro n
  induction n with
  | zero => intro k33 v3 w h h33; cases h
  | succ n ih =>
    intro k33 v3 w h h33
    refine run_sound (r := r) (X := X) (cc := cX5_find) (own := RX5) (tab := tX5_find) G (by rw [hn]; exact kX5_find) (oI := (oF [(mJ6_bitCount_0f7a4 N), (mJ9_min_7cf53 N)])) (oL := (oF [])) (oV := (oF [(mX5_prepare N), (mX5_goOn N 10)])) (rI := (fun _ _ => none)) (rL := (fun _ _ => none)) (rV := (fun w => some w))
      (K := (fun j ls st w => if j = 23 then (lgI ls 3 fun v3 => st0 st (callW (fX5_find_23 N n k33 v3) w)) else if j = 33 then (st0 st (k33 w)) else none)) (fun _ _ _ _ hx => by cases hx) (fun _ _ _ _ hx => by cases hx) (fun w pc ls hx hd => hr w pc ls (Option.some.inj hx) hd) hC (fun ls => lsb [some (.inr (.inr (9, 0))), some (.inl a1), some (.inl a2), none] 0 ls) (keepsP_of rfl) ?_ 62 23 [some (.inr (.inr (9, 0))), some (.inl a1), some (.inl a2), some (.inl v3)] [] w ?_ h
    · intro j ls st w hfx h
      obtain ⟨e0, e1, e2, -⟩ : _ = _ ∧ _ = _ ∧ _ = _ ∧ True := hfx
      try dsimp only at h
      by_cases hj : j = 23
      · subst hj
        rw [if_pos rfl] at h
        obtain ⟨v3, e3, h_1⟩ := lgI_some h
        obtain ⟨rfl, h_2⟩ := st0_some h_1
        clear h h_1
        have h := h_2
        try rw [callW_eq] at h
        exact WW.le (a := [some (.inr (.inr (9, 0))), some (.inl a1), some (.inl a2), some (.inl v3)]) (by rw [hn]; rfl) (show _ = _ ∧ _ = _ ∧ _ = _ ∧ _ = _ ∧ True from ⟨e0, e1, e2, e3, trivial⟩) (ih k33 v3 w h h33)
      rw [if_neg hj] at h
      by_cases hj : j = 33
      · subst hj
        rw [if_pos rfl] at h
        obtain ⟨rfl, h_1⟩ := st0_some h
        clear h
        have h := h_1
        try rw [callW_eq] at h
        exact WW.le (a := [some (.inr (.inr (9, 0))), some (.inl a1), some (.inl a2), none]) (by rw [hn]; rfl) (show _ = _ ∧ _ = _ ∧ _ = _ ∧ True from ⟨e0, e1, e2, trivial⟩) (h33 w h)
      rw [if_neg hj] at h
      cases h
    · exact (show _ = _ ∧ _ = _ ∧ _ = _ ∧ True from ⟨rfl, rfl, rfl, trivial⟩)
set_option maxRecDepth 100000 in
set_option maxHeartbeats 4000000 in
theorem sX5_find_9 {N : Nat} {X : XT} (G : GX X cX5_find RX5) (hn : xnL X = 4) (hC : CRs X tX5_find (oF [(mJ6_bitCount_0f7a4 N), (mJ9_min_7cf53 N)]) (oF []) (oF [(mX5_prepare N), (mX5_goOn N 10)])) {r : Wd} (hr : RTV X cX5_find r) (a1 : Int32) (a2 : Int32) : ∀ (w : Wd), fX5_find_9 N a1 a2 w = some r → WW X (pcAt tX5_find 9) [some (.inr (.inr (9, 0))), some (.inl a1), some (.inl a2), none] [] w := by
  intro w h
  refine run_sound (r := r) (X := X) (cc := cX5_find) (own := RX5) (tab := tX5_find) G (by rw [hn]; exact kX5_find) (oI := (oF [(mJ6_bitCount_0f7a4 N), (mJ9_min_7cf53 N)])) (oL := (oF [])) (oV := (oF [(mX5_prepare N), (mX5_goOn N 10)])) (rI := (fun _ _ => none)) (rL := (fun _ _ => none)) (rV := (fun w => some w))
    (K := (fun j ls st w => if j = 23 then (lgI ls 3 fun v3 => st0 st (callW (fX5_find_23 N N (fX5_find_33 N) v3) w)) else none)) (fun _ _ _ _ hx => by cases hx) (fun _ _ _ _ hx => by cases hx) (fun w pc ls hx hd => hr w pc ls (Option.some.inj hx) hd) hC (fun ls => lsb [some (.inr (.inr (9, 0))), some (.inl a1), some (.inl a2), none] 0 ls) (keepsP_of rfl) ?_ 62 9 [some (.inr (.inr (9, 0))), some (.inl a1), some (.inl a2), none] [] w ?_ h
  · intro j ls st w hfx h
    obtain ⟨e0, e1, e2, -⟩ : _ = _ ∧ _ = _ ∧ _ = _ ∧ True := hfx
    try dsimp only at h
    by_cases hj : j = 23
    · subst hj
      rw [if_pos rfl] at h
      obtain ⟨v3, e3, h_1⟩ := lgI_some h
      obtain ⟨rfl, h_2⟩ := st0_some h_1
      clear h h_1
      have h := h_2
      try rw [callW_eq] at h
      exact WW.le (a := [some (.inr (.inr (9, 0))), some (.inl a1), some (.inl a2), some (.inl v3)]) (by rw [hn]; rfl) (show _ = _ ∧ _ = _ ∧ _ = _ ∧ _ = _ ∧ True from ⟨e0, e1, e2, e3, trivial⟩) (sX5_find_23 G hn hC hr a1 a2 N (fX5_find_33 N) v3 w h (fun w h => (sX5_find_33 G hn hC hr a1 a2 w h)))
    rw [if_neg hj] at h
    cases h
  · exact (show _ = _ ∧ _ = _ ∧ _ = _ ∧ True from ⟨rfl, rfl, rfl, trivial⟩)
set_option maxRecDepth 100000 in
set_option maxHeartbeats 4000000 in
theorem crX5_find {N : Nat} {X : XT} (G : GX X cX5_find RX5) (hR : xR X = rmL 14) : CRs X tX5_find (oF [(mJ6_bitCount_0f7a4 N), (mJ9_min_7cf53 N)]) (oF []) (oF [(mX5_prepare N), (mX5_goOn N 10)]) := by
  have hl : tX5_find.filter isInv = [(29, .invokestatic 47, 0, 0, 1, 0, 0, []), (34, .invokestatic 53, 0, 1, 2, 0, 0, []), (84, .invokevirtual 62, 0, 0, 2, 0, 0, [(0, 0), (0, 0)]), (104, .invokevirtual 72, 0, 1, 4, 0, 0, [(0, 0), (0, 0)])] := rfl
  intro e he
  rw [hl] at he
  simp only [List.mem_cons, List.not_mem_nil, or_false] at he
  rcases he with rfl | rfl | rfl | rfl
  · exact crI_S (idx := 47) G (by decide +kernel) (MJ6_bitCount_0f7a4 N) (cw_of (ps := [1300, 1066, 169, 1067]) (by decide +kernel) (by decide +kernel)) ⟨by decide +kernel, by decide +kernel, by decide +kernel⟩ (by unfold rmOk; rw [hR]; exact ⟨by decide, by decide⟩)
  · exact crI_S (idx := 53) G (by decide +kernel) (MJ9_min_7cf53 N) (cw_of (ps := [1301, 803, 163, 804]) (by decide +kernel) (by decide +kernel)) ⟨by decide +kernel, by decide +kernel, by decide +kernel⟩ (by unfold rmOk; rw [hR]; exact ⟨by decide, by decide⟩)
  · exact crV_V (idx := 62) G (by decide +kernel) (MX5_prepare N) (cw_of (ps := [1302, 1304, 58, 159, 1305]) (by decide +kernel) (by decide +kernel)) ⟨by decide +kernel, by decide +kernel, by decide +kernel⟩ (by unfold rmOk; rw [hR]; exact ⟨by decide, by decide⟩)
  · exact crV_V (idx := 72) G (by decide +kernel) (MX5_goOn N 10) (cw_of (ps := [1322, 1324, 60, 159, 1325]) (by decide +kernel) (by decide +kernel)) ⟨by decide +kernel, by decide +kernel, by decide +kernel⟩ (by unfold rmOk; rw [hR]; exact ⟨by decide, by decide⟩)
set_option maxRecDepth 100000 in
set_option maxHeartbeats 4000000 in
theorem MX5_find (N : Nat) : SndV yX5_find cX5_find 4 none 14 3 true (mX5_find N) := by
  refine SndV.of tX5_find (by decide +kernel) rfl rfl ?_ ?_
  · intro as w x h
    obtain ⟨t1, rfl, h_1⟩ := xS1_some h
    obtain ⟨a1, t2, rfl, h_2⟩ := xI1_some h_1
    obtain ⟨a2, t3, rfl, h_3⟩ := xI1_some h_2
    obtain ⟨rfl, h_4⟩ := xN1_some h_3
    clear h h_1 h_2 h_3
    have h := h_4
    rw [callW_eq] at h
    exact ⟨fun _ => ⟨_, _, _, rfl, rfl, _, rfl, rfl⟩, rfl, Nat.le_of_ble_eq_true rfl⟩
  · intro X G hn hR as w r h hr
    have hC := crX5_find (N := N) G hR
    obtain ⟨t1, rfl, h_1⟩ := xS1_some h
    obtain ⟨a1, t2, rfl, h_2⟩ := xI1_some h_1
    obtain ⟨a2, t3, rfl, h_3⟩ := xI1_some h_2
    obtain ⟨rfl, h_4⟩ := xN1_some h_3
    clear h h_1 h_2 h_3
    have h := h_4
    rw [callW_eq] at h
    refine run_sound (r := r) (X := X) (cc := cX5_find) (own := RX5) (tab := tX5_find) G (by rw [hn]; exact kX5_find) (oI := (oF [(mJ6_bitCount_0f7a4 N), (mJ9_min_7cf53 N)])) (oL := (oF [])) (oV := (oF [(mX5_prepare N), (mX5_goOn N 10)])) (rI := (fun _ _ => none)) (rL := (fun _ _ => none)) (rV := (fun w => some w))
      (K := (fun j ls st w => if j = 9 then (st0 st (callW (fX5_find_9 N a1 a2) w)) else none)) (fun _ _ _ _ hx => by cases hx) (fun _ _ _ _ hx => by cases hx) (fun w pc ls hx hd => hr w pc ls (Option.some.inj hx) hd) hC (fun ls => lsb [some (.inr (.inr (9, 0))), some (.inl a1), some (.inl a2), none] 0 ls) (keepsP_of rfl) ?_ 62 0 [some (.inr (.inr (9, 0))), some (.inl a1), some (.inl a2), none] [] w ?_ h
    · intro j ls st w hfx h
      obtain ⟨e0, e1, e2, -⟩ : _ = _ ∧ _ = _ ∧ _ = _ ∧ True := hfx
      try dsimp only at h
      by_cases hj : j = 9
      · subst hj
        rw [if_pos rfl] at h
        obtain ⟨rfl, h_1⟩ := st0_some h
        clear h
        have h := h_1
        try rw [callW_eq] at h
        exact WW.le (a := [some (.inr (.inr (9, 0))), some (.inl a1), some (.inl a2), none]) (by rw [hn]; rfl) (show _ = _ ∧ _ = _ ∧ _ = _ ∧ True from ⟨e0, e1, e2, trivial⟩) (sX5_find_9 G hn hC hr a1 a2 w h)
      rw [if_neg hj] at h
      cases h
    · exact (show _ = _ ∧ _ = _ ∧ _ = _ ∧ True from ⟨rfl, rfl, rfl, trivial⟩)
-- MoorGuides.order(III)J
def tX11_order : List EN := [
  (0, .aload_n 0, 0, 0, 0, 0, 0, []), (1, .iload_n 1, 0, 0, 0, 0, 0, []), (2, .iload_n 2, 0, 0, 0, 0, 0, []), (3, .invokevirtual 289, 0, 0, 3, 0, 0, []),
  (6, .ifCond .eq 12, 0, 10, 0, 0, 0, []), (9, .iload_n 3, 0, 0, 0, 0, 0, []), (10, .ifCond .lt 8, 0, 10, 0, 0, 0, []), (13, .iload_n 3, 0, 0, 0, 0, 0, []),
  (14, .iconst 1, 0, 0, 0, 1, 0, []), (15, .if_icmp .le 7, 0, 12, 0, 0, 0, []), (18, .ldc2_w 292, 0, 0, 0, 0, (-1), []), (21, .lreturn, 0, 0, 0, 0, 0, []),
  (22, .aload_n 0, 0, 0, 0, 0, 0, []), (23, .getfield 68, 0, 11, 13, 0, 0, []), (26, .iload_n 1, 0, 0, 0, 0, 0, []), (27, .iload_n 2, 0, 0, 0, 0, 0, []),
  (28, .invokevirtual 294, 0, 0, 3, 0, 0, [(0, 0), (0, 0)]), (31, .iload_n 3, 0, 0, 0, 0, 0, []), (32, .ifCond .ne 13, 0, 23, 0, 0, 0, []), (35, .aload_n 0, 0, 0, 0, 0, 0, []),
  (36, .getfield 68, 0, 11, 13, 0, 0, []), (39, .invokevirtual 295, 0, 0, 1, 0, 0, [(0, 0)]), (42, .goto 10, 0, 26, 0, 0, 0, []), (45, .aload_n 0, 0, 0, 0, 0, 0, []),
  (46, .getfield 68, 0, 11, 13, 0, 0, []), (49, .invokevirtual 299, 0, 1, 1, 0, 0, [(0, 0)]), (52, .lreturn, 0, 0, 0, 0, 0, [])]
noncomputable def pX11_order (N : Nat) (a1 : Int32) (a2 : Int32) (a3 : Int32) (w : Wd) : Option (Int64 × Wd) :=
  (callW (pX11_isOrder N a1 a2) w).bind fun r1 =>
  if r1.1 = 0 then some ((-1 : Int64), r1.2) else
  if a3 < 0 then some ((-1 : Int64), r1.2) else
  if (1 : Int32) < a3 then some ((-1 : Int64), r1.2) else
  (callW (pX5_find N a1 a2) r1.2).bind fun w2 =>
  if a3 = 0 then
    (callW (pX5_above N) w2).bind fun r3 =>
    some (r3.1, r3.2)
  else
  (callW (pX5_below N) w2).bind fun r4 =>
  some (r4.1, r4.2)
noncomputable def mX11_order (N : Nat) (as : List AV) (w : Wd) : Option (Int64 × Wd) := xS1 15 as fun t => xI1 t fun a1 t => xI1 t fun a2 t => xI1 t fun a3 t => xN1 t (callW (pX11_order N a1 a2 a3) w)
set_option maxRecDepth 100000 in
set_option maxHeartbeats 4000000 in
theorem kX11_order : TK cX11_order RX11 4 tX11_order := ⟨by decide +kernel, wok_of [1295, 738, 738, 738] (by decide +kernel) (by decide +kernel)⟩
set_option maxRecDepth 100000 in
set_option maxHeartbeats 4000000 in
theorem crX11_order {N : Nat} {X : XT} (G : GX X cX11_order RX11) (hR : xR X = rmL 15) : CRs X tX11_order (oF [(mX11_isOrder N)]) (oF [(mX5_above N), (mX5_below N)]) (oF [(mX5_find N)]) := by
  have hl : tX11_order.filter isInv = [(3, .invokevirtual 289, 0, 0, 3, 0, 0, []), (28, .invokevirtual 294, 0, 0, 3, 0, 0, [(0, 0), (0, 0)]), (39, .invokevirtual 295, 0, 0, 1, 0, 0, [(0, 0)]), (49, .invokevirtual 299, 0, 1, 1, 0, 0, [(0, 0)])] := rfl
  intro e he
  rw [hl] at he
  simp only [List.mem_cons, List.not_mem_nil, or_false] at he
  rcases he with rfl | rfl | rfl | rfl
  · exact crI_V (idx := 289) G (by decide +kernel) (MX11_isOrder N) (cw_of (ps := [1291, 1293, 57, 146, 1294]) (by decide +kernel) (by decide +kernel)) ⟨by decide +kernel, by decide +kernel, by decide +kernel⟩ (by unfold rmOk; rw [hR]; exact ⟨by decide, by decide⟩)
  · exact crV_V (idx := 294) G (by decide +kernel) (MX5_find N) (cw_of (ps := [1296, 1297, 1298, 159, 1299]) (by decide +kernel) (by decide +kernel)) ⟨by decide +kernel, by decide +kernel, by decide +kernel⟩ (by unfold rmOk; rw [hR]; exact ⟨by decide, by decide⟩)
  · exact crL_V (idx := 295) G (by decide +kernel) (MX5_above N) (cw_of (ps := [1338, 1339, 1340, 159, 1341]) (by decide +kernel) (by decide +kernel)) ⟨by decide +kernel, by decide +kernel, by decide +kernel⟩ (by unfold rmOk; rw [hR]; exact ⟨by decide, by decide⟩)
  · exact crL_V (idx := 299) G (by decide +kernel) (MX5_below N) (cw_of (ps := [1354, 1355, 1356, 159, 1357]) (by decide +kernel) (by decide +kernel)) ⟨by decide +kernel, by decide +kernel, by decide +kernel⟩ (by unfold rmOk; rw [hR]; exact ⟨by decide, by decide⟩)
set_option maxRecDepth 100000 in
set_option maxHeartbeats 4000000 in
theorem MX11_order (N : Nat) : SndL yX11_order cX11_order 4 (some .long) 15 4 true (mX11_order N) := by
  refine SndL.of tX11_order (by decide +kernel) rfl rfl ?_ ?_
  · intro as w x h
    obtain ⟨t1, rfl, h_1⟩ := xS1_some h
    obtain ⟨a1, t2, rfl, h_2⟩ := xI1_some h_1
    obtain ⟨a2, t3, rfl, h_3⟩ := xI1_some h_2
    obtain ⟨a3, t4, rfl, h_4⟩ := xI1_some h_3
    obtain ⟨rfl, h_5⟩ := xN1_some h_4
    clear h h_1 h_2 h_3 h_4
    have h := h_5
    rw [callW_eq] at h
    exact ⟨fun _ => ⟨_, _, _, rfl, rfl, _, rfl, rfl⟩, rfl, Nat.le_of_ble_eq_true rfl⟩
  · intro X G hn hR as w r h hr
    have hC := crX11_order (N := N) G hR
    obtain ⟨t1, rfl, h_1⟩ := xS1_some h
    obtain ⟨a1, t2, rfl, h_2⟩ := xI1_some h_1
    obtain ⟨a2, t3, rfl, h_3⟩ := xI1_some h_2
    obtain ⟨a3, t4, rfl, h_4⟩ := xI1_some h_3
    obtain ⟨rfl, h_5⟩ := xN1_some h_4
    clear h h_1 h_2 h_3 h_4
    have h := h_5
    rw [callW_eq] at h
    refine run_sound (r := r) (X := X) (cc := cX11_order) (own := RX11) (tab := tX11_order) G (by rw [hn]; exact kX11_order) (oI := (oF [(mX11_isOrder N)])) (oL := (oF [(mX5_above N), (mX5_below N)])) (oV := (oF [(mX5_find N)])) (rI := (fun _ _ => none)) (rL := (fun x w => some (x, w))) (rV := (fun _ => none))
      (K := (fun j ls st w => none)) (fun _ _ _ _ hx => by cases hx) (fun x w pc ls hx hd => hr x w pc ls (Option.some.inj hx) hd) (fun _ _ _ hx => by cases hx) hC (fun ls => lsb [some (.inr (.inr (15, 0))), some (.inl a1), some (.inl a2), some (.inl a3)] 0 ls) (keepsP_of rfl) ?_ 29 0 [some (.inr (.inr (15, 0))), some (.inl a1), some (.inl a2), some (.inl a3)] [] w ?_ h
    · intro j ls st w hfx h
      obtain ⟨e0, e1, e2, e3, -⟩ : _ = _ ∧ _ = _ ∧ _ = _ ∧ _ = _ ∧ True := hfx
      try dsimp only at h
      cases h
    · exact (show _ = _ ∧ _ = _ ∧ _ = _ ∧ _ = _ ∧ True from ⟨rfl, rfl, rfl, rfl, trivial⟩)
-- MoorGuides.ordered(III)I
def tX11_ordered : List EN := [
  (0, .aload_n 0, 0, 0, 0, 0, 0, []), (1, .iload_n 1, 0, 0, 0, 0, 0, []), (2, .iload_n 2, 0, 0, 0, 0, 0, []), (3, .invokevirtual 289, 0, 0, 3, 0, 0, []),
  (6, .ifCond .eq 7, 0, 7, 0, 0, 0, []), (9, .iload_n 3, 0, 0, 0, 0, 0, []), (10, .ifCond .ge 5, 0, 9, 0, 0, 0, []), (13, .iconst (-1), 0, 0, 0, (-1), 0, []),
  (14, .ireturn, 0, 0, 0, 0, 0, []), (15, .aload_n 0, 0, 0, 0, 0, 0, []), (16, .getfield 68, 0, 11, 13, 0, 0, []), (19, .iload_n 1, 0, 0, 0, 0, 0, []),
  (20, .iload_n 2, 0, 0, 0, 0, 0, []), (21, .invokevirtual 294, 0, 0, 3, 0, 0, [(0, 0), (0, 0)]), (24, .iload_n 3, 0, 0, 0, 0, 0, []), (25, .aload_n 0, 0, 0, 0, 0, 0, []),
  (26, .getfield 68, 0, 11, 13, 0, 0, []), (29, .getfield 302, 0, 5, 11, 0, 0, []), (32, .if_icmp .ge 15, 0, 25, 0, 0, 0, []), (35, .aload_n 0, 0, 0, 0, 0, 0, []),
  (36, .getfield 68, 0, 11, 13, 0, 0, []), (39, .getfield 303, 0, 5, 10, 0, 0, []), (42, .iload_n 3, 0, 0, 0, 0, 0, []), (43, .iaload, 0, 0, 0, 0, 0, []),
  (44, .goto 5, 0, 26, 0, 0, 0, []), (47, .bipush (-2), 0, 0, 0, (-2), 0, []), (49, .ireturn, 0, 0, 0, 0, 0, [])]
noncomputable def pX11_ordered (N : Nat) (a1 : Int32) (a2 : Int32) (a3 : Int32) (w : Wd) : Option (Int32 × Wd) :=
  (callW (pX11_isOrder N a1 a2) w).bind fun r1 =>
  if r1.1 = 0 then some ((-1 : Int32), r1.2) else
  if a3 < 0 then some ((-1 : Int32), r1.2) else
  (callW (pX5_find N a1 a2) r1.2).bind fun w2 =>
  if a3 < (gI w2 9 0 11) then
    (ldI w2 47 0 a3 8).bind fun x3 =>
    some (x3, w2)
  else
  some ((-2 : Int32), w2)
noncomputable def mX11_ordered (N : Nat) (as : List AV) (w : Wd) : Option (Int32 × Wd) := xS1 15 as fun t => xI1 t fun a1 t => xI1 t fun a2 t => xI1 t fun a3 t => xN1 t (callW (pX11_ordered N a1 a2 a3) w)
set_option maxRecDepth 100000 in
set_option maxHeartbeats 4000000 in
theorem kX11_ordered : TK cX11_ordered RX11 4 tX11_ordered := ⟨by decide +kernel, wok_of [738, 738, 647, 738, 645] (by decide +kernel) (by decide +kernel)⟩
set_option maxRecDepth 100000 in
set_option maxHeartbeats 4000000 in
theorem crX11_ordered {N : Nat} {X : XT} (G : GX X cX11_ordered RX11) (hR : xR X = rmL 15) : CRs X tX11_ordered (oF [(mX11_isOrder N)]) (oF []) (oF [(mX5_find N)]) := by
  have hl : tX11_ordered.filter isInv = [(3, .invokevirtual 289, 0, 0, 3, 0, 0, []), (21, .invokevirtual 294, 0, 0, 3, 0, 0, [(0, 0), (0, 0)])] := rfl
  intro e he
  rw [hl] at he
  simp only [List.mem_cons, List.not_mem_nil, or_false] at he
  rcases he with rfl | rfl
  · exact crI_V (idx := 289) G (by decide +kernel) (MX11_isOrder N) (cw_of (ps := [1291, 1293, 57, 146, 1294]) (by decide +kernel) (by decide +kernel)) ⟨by decide +kernel, by decide +kernel, by decide +kernel⟩ (by unfold rmOk; rw [hR]; exact ⟨by decide, by decide⟩)
  · exact crV_V (idx := 294) G (by decide +kernel) (MX5_find N) (cw_of (ps := [1296, 1297, 1298, 159, 1299]) (by decide +kernel) (by decide +kernel)) ⟨by decide +kernel, by decide +kernel, by decide +kernel⟩ (by unfold rmOk; rw [hR]; exact ⟨by decide, by decide⟩)
set_option maxRecDepth 100000 in
set_option maxHeartbeats 4000000 in
theorem MX11_ordered (N : Nat) : SndI yX11_ordered cX11_ordered 4 (some .int) 15 4 true (mX11_ordered N) := by
  refine SndI.of tX11_ordered (by decide +kernel) rfl rfl ?_ ?_
  · intro as w x h
    obtain ⟨t1, rfl, h_1⟩ := xS1_some h
    obtain ⟨a1, t2, rfl, h_2⟩ := xI1_some h_1
    obtain ⟨a2, t3, rfl, h_3⟩ := xI1_some h_2
    obtain ⟨a3, t4, rfl, h_4⟩ := xI1_some h_3
    obtain ⟨rfl, h_5⟩ := xN1_some h_4
    clear h h_1 h_2 h_3 h_4
    have h := h_5
    rw [callW_eq] at h
    exact ⟨fun _ => ⟨_, _, _, rfl, rfl, _, rfl, rfl⟩, rfl, Nat.le_of_ble_eq_true rfl⟩
  · intro X G hn hR as w r h hr
    have hC := crX11_ordered (N := N) G hR
    obtain ⟨t1, rfl, h_1⟩ := xS1_some h
    obtain ⟨a1, t2, rfl, h_2⟩ := xI1_some h_1
    obtain ⟨a2, t3, rfl, h_3⟩ := xI1_some h_2
    obtain ⟨a3, t4, rfl, h_4⟩ := xI1_some h_3
    obtain ⟨rfl, h_5⟩ := xN1_some h_4
    clear h h_1 h_2 h_3 h_4
    have h := h_5
    rw [callW_eq] at h
    refine run_sound (r := r) (X := X) (cc := cX11_ordered) (own := RX11) (tab := tX11_ordered) G (by rw [hn]; exact kX11_ordered) (oI := (oF [(mX11_isOrder N)])) (oL := (oF [])) (oV := (oF [(mX5_find N)])) (rI := (fun x w => some (x, w))) (rL := (fun _ _ => none)) (rV := (fun _ => none))
      (K := (fun j ls st w => none)) (fun x w pc ls hx hd => hr x w pc ls (Option.some.inj hx) hd) (fun _ _ _ _ hx => by cases hx) (fun _ _ _ hx => by cases hx) hC (fun ls => lsb [some (.inr (.inr (15, 0))), some (.inl a1), some (.inl a2), some (.inl a3)] 0 ls) (keepsP_of rfl) ?_ 29 0 [some (.inr (.inr (15, 0))), some (.inl a1), some (.inl a2), some (.inl a3)] [] w ?_ h
    · intro j ls st w hfx h
      obtain ⟨e0, e1, e2, e3, -⟩ : _ = _ ∧ _ = _ ∧ _ = _ ∧ _ = _ ∧ True := hfx
      try dsimp only at h
      cases h
    · exact (show _ = _ ∧ _ = _ ∧ _ = _ ∧ _ = _ ∧ True from ⟨rfl, rfl, rfl, rfl, trivial⟩)

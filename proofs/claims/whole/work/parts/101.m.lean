-- MoorGuides$Leading.leastBehind(II)I
def tX2_leastBehind : List EN := [
  (0, .ldc 77, 0, 0, 0, 1048576, 0, []), (2, .istore_n 3, 0, 0, 0, 0, 0, []), (3, .iconst 0, 0, 0, 0, 0, 0, []), (4, .istore 4, 0, 0, 0, 0, 0, []),
  (6, .iload 4, 5, 0, 0, 0, 0, []), (8, .aload_n 0, 0, 0, 0, 0, 0, []), (9, .getfield 32, 0, 2, 0, 0, 0, []), (12, .getfield 43, 0, 9, 0, 0, 0, []),
  (15, .getfield 89, 0, 4, 0, 0, 0, []), (18, .if_icmp .ge 58, 0, 41, 0, 0, 0, []), (21, .aload_n 0, 0, 0, 0, 0, 0, []), (22, .getfield 32, 0, 2, 0, 0, 0, []),
  (25, .getfield 43, 0, 9, 0, 0, 0, []), (28, .getfield 103, 0, 4, 3, 0, 0, []), (31, .iload_n 1, 0, 0, 0, 0, 0, []), (32, .iaload, 0, 0, 0, 0, 0, []),
  (33, .iload 4, 0, 0, 0, 0, 0, []), (35, .ishr, 0, 0, 0, 0, 0, []), (36, .iconst 1, 0, 0, 0, 1, 0, []), (37, .iand, 0, 0, 0, 0, 0, []),
  (38, .ifCond .eq 32, 0, 39, 0, 0, 0, []), (41, .iload_n 3, 0, 0, 0, 0, 0, []), (42, .iconst 1, 0, 0, 0, 1, 0, []), (43, .aload_n 0, 0, 0, 0, 0, 0, []),
  (44, .getfield 17, 0, 2, 2, 0, 0, []), (47, .iload 4, 0, 0, 0, 0, 0, []), (49, .aaload, 0, 0, 0, 0, 0, []), (50, .iload_n 2, 0, 0, 0, 0, 0, []),
  (51, .iaload, 0, 0, 0, 0, 0, []), (52, .aload_n 0, 0, 0, 0, 0, 0, []), (53, .getfield 20, 0, 2, 3, 0, 0, []), (56, .iload 4, 0, 0, 0, 0, 0, []),
  (58, .iaload, 0, 0, 0, 0, 0, []), (59, .bipush 16, 0, 0, 0, 16, 0, []), (61, .iadd, 0, 0, 0, 0, 0, []), (62, .invokestatic 98, 0, 0, 2, 0, 0, []),
  (65, .iadd, 0, 0, 0, 0, 0, []), (66, .invokestatic 98, 0, 0, 2, 0, 0, []), (69, .istore_n 3, 0, 0, 0, 0, 0, []), (70, .iinc 4 1, 0, 0, 0, 1, 0, []),
  (73, .goto (-67), 0, 4, 0, 0, 0, []), (76, .iload_n 3, 0, 0, 0, 0, 0, []), (77, .ireturn, 0, 0, 0, 0, 0, [])]
noncomputable def fX2_leastBehind_4 (N : Nat) (a1 : Int32) (a2 : Int32) : Nat → Int32 → Int32 → Wd → Option (Int32 × Wd)
  | 0, _, _, _ => none
  | n + 1, v3, v4, w =>
    if v4 < (gI w 8 (gR w 13 0 0) 0) then
      (ldI w 32 (gR w 13 0 0) a1 8).bind fun x1 =>
      if ((x1 >>> (v4 &&& (31 : Int32))) &&& (1 : Int32)) = 0 then callW (fX2_leastBehind_4 N a1 a2 n v3 (v4 + (1 : Int32))) w else
      (ldR v4 8 0).bind fun q2 =>
      (ldI w 25 q2 a2 6).bind fun x3 =>
      (ldI w 26 0 v4 8).bind fun x4 =>
      (callW (pJ9_min_7cf53 N x3 (x4 + (16 : Int32))) w).bind fun r5 =>
      (callW (pJ9_min_7cf53 N v3 ((1 : Int32) + r5.1)) r5.2).bind fun r6 =>
      callW (fX2_leastBehind_4 N a1 a2 n r6.1 (v4 + (1 : Int32))) r6.2
    else
    some (v3, w)
noncomputable def pX2_leastBehind (N : Nat) (a1 : Int32) (a2 : Int32) (w : Wd) : Option (Int32 × Wd) :=
  callW (fX2_leastBehind_4 N a1 a2 N (1048576 : Int32) (0 : Int32)) w
noncomputable def mX2_leastBehind (N : Nat) (as : List AV) (w : Wd) : Option (Int32 × Wd) := xS1 6 as fun t => xI1 t fun a1 t => xI1 t fun a2 t => xN1 t (callW (pX2_leastBehind N a1 a2) w)
set_option maxRecDepth 100000 in
set_option maxHeartbeats 4000000 in
theorem kX2_leastBehind : TK cX2_leastBehind RX2 5 tX2_leastBehind := ⟨by decide +kernel, wok_of [1175, 573, 517, 259, 573, 517, 273, 575, 576] (by decide +kernel) (by decide +kernel)⟩
set_option maxRecDepth 100000 in
set_option maxHeartbeats 4000000 in
theorem sX2_leastBehind_4 {N : Nat} {X : XT} (G : GX X cX2_leastBehind RX2) (hn : xnL X = 5) (hC : CRs X tX2_leastBehind (oF [(mJ9_min_7cf53 N)]) (oF []) (oF [])) {r : Int32 × Wd} (hr : RTI X cX2_leastBehind r) (a1 : Int32) (a2 : Int32) : ∀ (n : Nat) (v3 : Int32) (v4 : Int32) (w : Wd), fX2_leastBehind_4 N a1 a2 n v3 v4 w = some r → WW X (pcAt tX2_leastBehind 4) [some (.inr (.inr (6, 0))), some (.inl a1), some (.inl a2), some (.inl v3), some (.inl v4)] [] w := by
  intro n
  induction n with
  | zero => intro v3 v4 w h; cases h
  | succ n ih =>
    intro v3 v4 w h
    refine run_sound (r := r) (X := X) (cc := cX2_leastBehind) (own := RX2) (tab := tX2_leastBehind) G (by rw [hn]; exact kX2_leastBehind) (oI := (oF [(mJ9_min_7cf53 N)])) (oL := (oF [])) (oV := (oF [])) (rI := (fun x w => some (x, w))) (rL := (fun _ _ => none)) (rV := (fun _ => none))
      (K := (fun j ls st w => if j = 4 then (lgI ls 3 fun v3 => lgI ls 4 fun v4 => st0 st (callW (fX2_leastBehind_4 N a1 a2 n v3 v4) w)) else none)) (fun x w pc ls hx hd => hr x w pc ls (Option.some.inj hx) hd) (fun _ _ _ _ hx => by cases hx) (fun _ _ _ hx => by cases hx) hC (fun ls => lsb [some (.inr (.inr (6, 0))), some (.inl a1), some (.inl a2), none, none] 0 ls) (keepsP_of rfl) ?_ 45 4 [some (.inr (.inr (6, 0))), some (.inl a1), some (.inl a2), some (.inl v3), some (.inl v4)] [] w ?_ h
    · intro j ls st w hfx h
      obtain ⟨e0, e1, e2, -⟩ : _ = _ ∧ _ = _ ∧ _ = _ ∧ True := hfx
      try dsimp only at h
      by_cases hj : j = 4
      · subst hj
        rw [if_pos rfl] at h
        obtain ⟨v3, e3, h_1⟩ := lgI_some h
        obtain ⟨v4, e4, h_2⟩ := lgI_some h_1
        obtain ⟨rfl, h_3⟩ := st0_some h_2
        clear h h_1 h_2
        have h := h_3
        try rw [callW_eq] at h
        exact WW.le (a := [some (.inr (.inr (6, 0))), some (.inl a1), some (.inl a2), some (.inl v3), some (.inl v4)]) (by rw [hn]; rfl) (show _ = _ ∧ _ = _ ∧ _ = _ ∧ _ = _ ∧ _ = _ ∧ True from ⟨e0, e1, e2, e3, e4, trivial⟩) (ih v3 v4 w h)
      rw [if_neg hj] at h
      cases h
    · exact (show _ = _ ∧ _ = _ ∧ _ = _ ∧ True from ⟨rfl, rfl, rfl, trivial⟩)
set_option maxRecDepth 100000 in
set_option maxHeartbeats 4000000 in
theorem crX2_leastBehind {N : Nat} {X : XT} (G : GX X cX2_leastBehind RX2) (hR : xR X = rmL 2) : CRs X tX2_leastBehind (oF [(mJ9_min_7cf53 N)]) (oF []) (oF []) := by
  have hl : tX2_leastBehind.filter isInv = [(62, .invokestatic 98, 0, 0, 2, 0, 0, []), (66, .invokestatic 98, 0, 0, 2, 0, 0, [])] := rfl
  intro e he
  rw [hl] at he
  simp only [List.mem_cons, List.not_mem_nil, or_false] at he
  rcases he with rfl | rfl
  · exact crI_S (idx := 98) G (by decide +kernel) (MJ9_min_7cf53 N) (cw_of (ps := [1188, 808, 165, 809]) (by decide +kernel) (by decide +kernel)) ⟨by decide +kernel, by decide +kernel, by decide +kernel⟩ (by unfold rmOk; rw [hR]; exact ⟨by decide, by decide⟩)
  · exact crI_S (idx := 98) G (by decide +kernel) (MJ9_min_7cf53 N) (cw_of (ps := [1188, 808, 165, 809]) (by decide +kernel) (by decide +kernel)) ⟨by decide +kernel, by decide +kernel, by decide +kernel⟩ (by unfold rmOk; rw [hR]; exact ⟨by decide, by decide⟩)
set_option maxRecDepth 100000 in
set_option maxHeartbeats 4000000 in
theorem MX2_leastBehind (N : Nat) : SndI yX2_leastBehind cX2_leastBehind 5 (some .int) 2 3 true (mX2_leastBehind N) := by
  refine SndI.of tX2_leastBehind (by decide +kernel) rfl rfl ?_ ?_
  · intro as w x h
    obtain ⟨t1, rfl, h_1⟩ := xS1_some h
    obtain ⟨a1, t2, rfl, h_2⟩ := xI1_some h_1
    obtain ⟨a2, t3, rfl, h_3⟩ := xI1_some h_2
    obtain ⟨rfl, h_4⟩ := xN1_some h_3
    clear h h_1 h_2 h_3
    have h := h_4
    rw [callW_eq] at h
    exact ⟨fun _ => ⟨_, _, _, rfl, rfl, _, rfl, rfl⟩, rfl, Nat.le_of_ble_eq_true rfl⟩
  · intro X G hn hR as w r h hr
    have hC := crX2_leastBehind (N := N) G hR
    obtain ⟨t1, rfl, h_1⟩ := xS1_some h
    obtain ⟨a1, t2, rfl, h_2⟩ := xI1_some h_1
    obtain ⟨a2, t3, rfl, h_3⟩ := xI1_some h_2
    obtain ⟨rfl, h_4⟩ := xN1_some h_3
    clear h h_1 h_2 h_3
    have h := h_4
    rw [callW_eq] at h
    refine run_sound (r := r) (X := X) (cc := cX2_leastBehind) (own := RX2) (tab := tX2_leastBehind) G (by rw [hn]; exact kX2_leastBehind) (oI := (oF [(mJ9_min_7cf53 N)])) (oL := (oF [])) (oV := (oF [])) (rI := (fun x w => some (x, w))) (rL := (fun _ _ => none)) (rV := (fun _ => none))
      (K := (fun j ls st w => if j = 4 then (lgI ls 3 fun v3 => lgI ls 4 fun v4 => st0 st (callW (fX2_leastBehind_4 N a1 a2 N v3 v4) w)) else none)) (fun x w pc ls hx hd => hr x w pc ls (Option.some.inj hx) hd) (fun _ _ _ _ hx => by cases hx) (fun _ _ _ hx => by cases hx) hC (fun ls => lsb [some (.inr (.inr (6, 0))), some (.inl a1), some (.inl a2), none, none] 0 ls) (keepsP_of rfl) ?_ 45 0 [some (.inr (.inr (6, 0))), some (.inl a1), some (.inl a2), none, none] [] w ?_ h
    · intro j ls st w hfx h
      obtain ⟨e0, e1, e2, -⟩ : _ = _ ∧ _ = _ ∧ _ = _ ∧ True := hfx
      try dsimp only at h
      by_cases hj : j = 4
      · subst hj
        rw [if_pos rfl] at h
        obtain ⟨v3, e3, h_1⟩ := lgI_some h
        obtain ⟨v4, e4, h_2⟩ := lgI_some h_1
        obtain ⟨rfl, h_3⟩ := st0_some h_2
        clear h h_1 h_2
        have h := h_3
        try rw [callW_eq] at h
        exact WW.le (a := [some (.inr (.inr (6, 0))), some (.inl a1), some (.inl a2), some (.inl v3), some (.inl v4)]) (by rw [hn]; rfl) (show _ = _ ∧ _ = _ ∧ _ = _ ∧ _ = _ ∧ _ = _ ∧ True from ⟨e0, e1, e2, e3, e4, trivial⟩) (sX2_leastBehind_4 G hn hC hr a1 a2 N v3 v4 w h)
      rw [if_neg hj] at h
      cases h
    · exact (show _ = _ ∧ _ = _ ∧ _ = _ ∧ True from ⟨rfl, rfl, rfl, trivial⟩)
-- MoorGuides$Leading.shorten(I)Z
def tX2_shorten : List EN := [
  (0, .iconst 0, 0, 0, 0, 0, 0, []), (1, .istore_n 2, 0, 0, 0, 0, 0, []), (2, .iconst 0, 0, 0, 0, 0, 0, []), (3, .istore_n 3, 0, 0, 0, 0, 0, []),
  (4, .iload_n 3, 5, 0, 0, 0, 0, []), (5, .aload_n 0, 0, 0, 0, 0, 0, []), (6, .getfield 32, 0, 2, 0, 0, 0, []), (9, .getfield 43, 0, 9, 0, 0, 0, []),
  (12, .getfield 49, 0, 4, 4, 0, 0, []), (15, .getfield 55, 0, 6, 0, 0, 0, []), (18, .if_icmp .ge 73, 0, 52, 0, 0, 0, []), (21, .aload_n 0, 0, 0, 0, 0, 0, []),
  (22, .iload_n 1, 0, 0, 0, 0, 0, []), (23, .iload_n 3, 0, 0, 0, 0, 0, []), (24, .invokevirtual 85, 0, 0, 3, 0, 0, []), (27, .ifCond .eq 12, 0, 21, 0, 0, 0, []),
  (30, .aload_n 0, 0, 0, 0, 0, 0, []), (31, .iload_n 1, 0, 0, 0, 0, 0, []), (32, .iload_n 3, 0, 0, 0, 0, 0, []), (33, .invokevirtual 95, 0, 1, 3, 0, 0, []),
  (36, .goto 5, 0, 22, 0, 0, 0, []), (39, .ldc 77, 0, 0, 0, 1048576, 0, []), (41, .istore 4, 23, 0, 0, 0, 0, []), (43, .iload 4, 0, 0, 0, 0, 0, []),
  (45, .aload_n 0, 0, 0, 0, 0, 0, []), (46, .getfield 17, 0, 2, 2, 0, 0, []), (49, .iload_n 1, 0, 0, 0, 0, 0, []), (50, .aaload, 0, 0, 0, 0, 0, []),
  (51, .iload_n 3, 0, 0, 0, 0, 0, []), (52, .iaload, 0, 0, 0, 0, 0, []), (53, .if_icmp .ge 32, 0, 50, 0, 0, 0, []), (56, .aload_n 0, 0, 0, 0, 0, 0, []),
  (57, .getfield 17, 0, 2, 2, 0, 0, []), (60, .iload_n 1, 0, 0, 0, 0, 0, []), (61, .aaload, 0, 0, 0, 0, 0, []), (62, .iload_n 3, 0, 0, 0, 0, 0, []),
  (63, .iload 4, 0, 0, 0, 0, 0, []), (65, .iastore, 0, 0, 0, 0, 0, []), (66, .aload_n 0, 0, 0, 0, 0, 0, []), (67, .getfield 20, 0, 2, 3, 0, 0, []),
  (70, .iload_n 1, 0, 0, 0, 0, 0, []), (71, .aload_n 0, 0, 0, 0, 0, 0, []), (72, .getfield 20, 0, 2, 3, 0, 0, []), (75, .iload_n 1, 0, 0, 0, 0, 0, []),
  (76, .iaload, 0, 0, 0, 0, 0, []), (77, .iload 4, 0, 0, 0, 0, 0, []), (79, .invokestatic 98, 0, 2, 2, 0, 0, []), (82, .iastore, 0, 0, 0, 0, 0, []),
  (83, .iconst 1, 0, 0, 0, 1, 0, []), (84, .istore_n 2, 0, 0, 0, 0, 0, []), (85, .iinc 3 1, 0, 0, 0, 1, 0, []), (88, .goto (-84), 0, 4, 0, 0, 0, []),
  (91, .iload_n 2, 0, 0, 0, 0, 0, []), (92, .ireturn, 0, 0, 0, 0, 0, [])]
noncomputable def fX2_shorten_22 (N : Nat) (a1 : Int32) (k4 : Int32 → Int32 → Wd → Option (Int32 × Wd)) (v2 : Int32) (v3 : Int32) (s0 : Int32) (w : Wd) : Option (Int32 × Wd) :=
  (ldR a1 8 0).bind fun q1 =>
  (ldI w 25 q1 v3 6).bind fun x2 =>
  if s0 < x2 then
    (ldR a1 8 0).bind fun q3 =>
    (stI w 25 q3 v3 6 s0).bind fun w4 =>
    (ldI w4 26 0 a1 8).bind fun x5 =>
    (callW (pJ9_min_7cf53 N x5 s0) w4).bind fun r6 =>
    (stI r6.2 26 0 a1 8 r6.1).bind fun w7 =>
    k4 (1 : Int32) (v3 + (1 : Int32)) w7
  else
  k4 v2 (v3 + (1 : Int32)) w
noncomputable def fX2_shorten_4 (N : Nat) (a1 : Int32) : Nat → Int32 → Int32 → Wd → Option (Int32 × Wd)
  | 0, _, _, _ => none
  | n + 1, v2, v3, w =>
    if v3 < (gI w 10 (gR w 13 0 0) 0) then
      (callW (pX2_isKnown N a1 v3) w).bind fun r1 =>
      if r1.1 = 0 then callW (fX2_shorten_22 N a1 (fX2_shorten_4 N a1 n) v2 v3 (1048576 : Int32)) r1.2 else
      (callW (pX2_leastBehind N a1 v3) r1.2).bind fun r2 =>
      callW (fX2_shorten_22 N a1 (fX2_shorten_4 N a1 n) v2 v3 r2.1) r2.2
    else
    retZ v2 w
noncomputable def pX2_shorten (N : Nat) (a1 : Int32) (w : Wd) : Option (Int32 × Wd) :=
  callW (fX2_shorten_4 N a1 N (0 : Int32) (0 : Int32)) w
noncomputable def mX2_shorten (N : Nat) (as : List AV) (w : Wd) : Option (Int32 × Wd) := xS1 6 as fun t => xI1 t fun a1 t => xN1 t (callW (pX2_shorten N a1) w)
set_option maxRecDepth 100000 in
set_option maxHeartbeats 4000000 in
theorem kX2_shorten : TK cX2_shorten RX2 5 tX2_shorten := ⟨by decide +kernel, wok_of [573, 517, 277, 194, 1175, 575, 575, 576, 576] (by decide +kernel) (by decide +kernel)⟩
set_option maxRecDepth 100000 in
set_option maxHeartbeats 4000000 in
theorem sX2_shorten_22 {N : Nat} {X : XT} (G : GX X cX2_shorten RX2) (hn : xnL X = 5) (hC : CRs X tX2_shorten (oF [(mX2_isKnown N), (mX2_leastBehind N), (mJ9_min_7cf53 N)]) (oF []) (oF [])) {r : Int32 × Wd} (hr : RTZ X cX2_shorten r) (a1 : Int32) : ∀ (k4 : Int32 → Int32 → Wd → Option (Int32 × Wd)) (v2 : Int32) (v3 : Int32) (s0 : Int32) (w : Wd), fX2_shorten_22 N a1 k4 v2 v3 s0 w = some r → (∀ (v2 : Int32) (v3 : Int32) (w : Wd), k4 v2 v3 w = some r → WW X (pcAt tX2_shorten 4) [some (.inr (.inr (6, 0))), some (.inl a1), some (.inl v2), some (.inl v3), none] [] w) → WW X (pcAt tX2_shorten 22) [some (.inr (.inr (6, 0))), some (.inl a1), some (.inl v2), some (.inl v3), none] [.inl s0] w := by
  intro k4 v2 v3 s0 w h h4
  refine run_sound (r := r) (X := X) (cc := cX2_shorten) (own := RX2) (tab := tX2_shorten) G (by rw [hn]; exact kX2_shorten) (oI := (oF [(mX2_isKnown N), (mX2_leastBehind N), (mJ9_min_7cf53 N)])) (oL := (oF [])) (oV := (oF [])) (rI := retZ) (rL := (fun _ _ => none)) (rV := (fun _ => none))
    (K := (fun j ls st w => if j = 4 then (lgI ls 2 fun v2 => lgI ls 3 fun v3 => st0 st (k4 v2 v3 w)) else none)) hr (fun _ _ _ _ hx => by cases hx) (fun _ _ _ hx => by cases hx) hC (fun ls => lsb [some (.inr (.inr (6, 0))), some (.inl a1), none, none, none] 0 ls) (keepsP_of rfl) ?_ 56 22 [some (.inr (.inr (6, 0))), some (.inl a1), some (.inl v2), some (.inl v3), none] [.inl s0] w ?_ h
  · intro j ls st w hfx h
    obtain ⟨e0, e1, -⟩ : _ = _ ∧ _ = _ ∧ True := hfx
    try dsimp only at h
    by_cases hj : j = 4
    · subst hj
      rw [if_pos rfl] at h
      obtain ⟨v2, e2, h_1⟩ := lgI_some h
      obtain ⟨v3, e3, h_2⟩ := lgI_some h_1
      obtain ⟨rfl, h_3⟩ := st0_some h_2
      clear h h_1 h_2
      have h := h_3
      try rw [callW_eq] at h
      exact WW.le (a := [some (.inr (.inr (6, 0))), some (.inl a1), some (.inl v2), some (.inl v3), none]) (by rw [hn]; rfl) (show _ = _ ∧ _ = _ ∧ _ = _ ∧ _ = _ ∧ True from ⟨e0, e1, e2, e3, trivial⟩) (h4 v2 v3 w h)
    rw [if_neg hj] at h
    cases h
  · exact (show _ = _ ∧ _ = _ ∧ True from ⟨rfl, rfl, trivial⟩)
set_option maxRecDepth 100000 in
set_option maxHeartbeats 4000000 in
theorem sX2_shorten_4 {N : Nat} {X : XT} (G : GX X cX2_shorten RX2) (hn : xnL X = 5) (hC : CRs X tX2_shorten (oF [(mX2_isKnown N), (mX2_leastBehind N), (mJ9_min_7cf53 N)]) (oF []) (oF [])) {r : Int32 × Wd} (hr : RTZ X cX2_shorten r) (a1 : Int32) : ∀ (n : Nat) (v2 : Int32) (v3 : Int32) (w : Wd), fX2_shorten_4 N a1 n v2 v3 w = some r → WW X (pcAt tX2_shorten 4) [some (.inr (.inr (6, 0))), some (.inl a1), some (.inl v2), some (.inl v3), none] [] w := by
  intro n
  induction n with
  | zero => intro v2 v3 w h; cases h
  | succ n ih =>
    intro v2 v3 w h
    refine run_sound (r := r) (X := X) (cc := cX2_shorten) (own := RX2) (tab := tX2_shorten) G (by rw [hn]; exact kX2_shorten) (oI := (oF [(mX2_isKnown N), (mX2_leastBehind N), (mJ9_min_7cf53 N)])) (oL := (oF [])) (oV := (oF [])) (rI := retZ) (rL := (fun _ _ => none)) (rV := (fun _ => none))
      (K := (fun j ls st w => if j = 22 then (lgI ls 2 fun v2 => lgI ls 3 fun v3 => po1 st fun s0 st => st0 st (callW (fX2_shorten_22 N a1 (fX2_shorten_4 N a1 n) v2 v3 s0) w)) else none)) hr (fun _ _ _ _ hx => by cases hx) (fun _ _ _ hx => by cases hx) hC (fun ls => lsb [some (.inr (.inr (6, 0))), some (.inl a1), none, none, none] 0 ls) (keepsP_of rfl) ?_ 56 4 [some (.inr (.inr (6, 0))), some (.inl a1), some (.inl v2), some (.inl v3), none] [] w ?_ h
    · intro j ls st w hfx h
      obtain ⟨e0, e1, -⟩ : _ = _ ∧ _ = _ ∧ True := hfx
      try dsimp only at h
      by_cases hj : j = 22
      · subst hj
        rw [if_pos rfl] at h
        obtain ⟨v2, e2, h_1⟩ := lgI_some h
        obtain ⟨v3, e3, h_2⟩ := lgI_some h_1
        obtain ⟨s0, st0, rfl, h_3⟩ := po1_some h_2
        obtain ⟨rfl, h_4⟩ := st0_some h_3
        clear h h_1 h_2 h_3
        have h := h_4
        try rw [callW_eq] at h
        exact WW.le (a := [some (.inr (.inr (6, 0))), some (.inl a1), some (.inl v2), some (.inl v3), none]) (by rw [hn]; rfl) (show _ = _ ∧ _ = _ ∧ _ = _ ∧ _ = _ ∧ True from ⟨e0, e1, e2, e3, trivial⟩) (sX2_shorten_22 G hn hC hr a1 (fX2_shorten_4 N a1 n) v2 v3 s0 w h (fun v2 v3 w h => (ih v2 v3 w h)))
      rw [if_neg hj] at h
      cases h
    · exact (show _ = _ ∧ _ = _ ∧ True from ⟨rfl, rfl, trivial⟩)
set_option maxRecDepth 100000 in
set_option maxHeartbeats 4000000 in
theorem crX2_shorten {N : Nat} {X : XT} (G : GX X cX2_shorten RX2) (hR : xR X = rmL 3) : CRs X tX2_shorten (oF [(mX2_isKnown N), (mX2_leastBehind N), (mJ9_min_7cf53 N)]) (oF []) (oF []) := by
  have hl : tX2_shorten.filter isInv = [(24, .invokevirtual 85, 0, 0, 3, 0, 0, []), (33, .invokevirtual 95, 0, 1, 3, 0, 0, []), (79, .invokestatic 98, 0, 2, 2, 0, 0, [])] := rfl
  intro e he
  rw [hl] at he
  simp only [List.mem_cons, List.not_mem_nil, or_false] at he
  rcases he with rfl | rfl | rfl
  · exact crI_V (idx := 85) G (by decide +kernel) (MX2_isKnown N) (cw_of (ps := [1176, 1178, 43, 159, 1179]) (by decide +kernel) (by decide +kernel)) ⟨by decide +kernel, by decide +kernel, by decide +kernel⟩ (by unfold rmOk; rw [hR]; exact ⟨by decide, by decide⟩)
  · exact crI_V (idx := 95) G (by decide +kernel) (MX2_leastBehind N) (cw_of (ps := [1184, 1186, 45, 159, 1187]) (by decide +kernel) (by decide +kernel)) ⟨by decide +kernel, by decide +kernel, by decide +kernel⟩ (by unfold rmOk; rw [hR]; exact ⟨by decide, by decide⟩)
  · exact crI_S (idx := 98) G (by decide +kernel) (MJ9_min_7cf53 N) (cw_of (ps := [1188, 808, 165, 809]) (by decide +kernel) (by decide +kernel)) ⟨by decide +kernel, by decide +kernel, by decide +kernel⟩ (by unfold rmOk; rw [hR]; exact ⟨by decide, by decide⟩)
set_option maxRecDepth 100000 in
set_option maxHeartbeats 4000000 in
theorem MX2_shorten (N : Nat) : SndI yX2_shorten cX2_shorten 5 (some .boolean) 3 2 true (mX2_shorten N) := by
  refine SndI.ofZ tX2_shorten (by decide +kernel) rfl rfl ?_ ?_
  · intro as w x h
    obtain ⟨t1, rfl, h_1⟩ := xS1_some h
    obtain ⟨a1, t2, rfl, h_2⟩ := xI1_some h_1
    obtain ⟨rfl, h_3⟩ := xN1_some h_2
    clear h h_1 h_2
    have h := h_3
    rw [callW_eq] at h
    exact ⟨fun _ => ⟨_, _, _, rfl, rfl, _, rfl, rfl⟩, rfl, Nat.le_of_ble_eq_true rfl⟩
  · intro X G hn hR as w r h hr
    have hC := crX2_shorten (N := N) G hR
    obtain ⟨t1, rfl, h_1⟩ := xS1_some h
    obtain ⟨a1, t2, rfl, h_2⟩ := xI1_some h_1
    obtain ⟨rfl, h_3⟩ := xN1_some h_2
    clear h h_1 h_2
    have h := h_3
    rw [callW_eq] at h
    refine run_sound (r := r) (X := X) (cc := cX2_shorten) (own := RX2) (tab := tX2_shorten) G (by rw [hn]; exact kX2_shorten) (oI := (oF [(mX2_isKnown N), (mX2_leastBehind N), (mJ9_min_7cf53 N)])) (oL := (oF [])) (oV := (oF [])) (rI := retZ) (rL := (fun _ _ => none)) (rV := (fun _ => none))
      (K := (fun j ls st w => if j = 4 then (lgI ls 2 fun v2 => lgI ls 3 fun v3 => st0 st (callW (fX2_shorten_4 N a1 N v2 v3) w)) else none)) hr (fun _ _ _ _ hx => by cases hx) (fun _ _ _ hx => by cases hx) hC (fun ls => lsb [some (.inr (.inr (6, 0))), some (.inl a1), none, none, none] 0 ls) (keepsP_of rfl) ?_ 56 0 [some (.inr (.inr (6, 0))), some (.inl a1), none, none, none] [] w ?_ h
    · intro j ls st w hfx h
      obtain ⟨e0, e1, -⟩ : _ = _ ∧ _ = _ ∧ True := hfx
      try dsimp only at h
      by_cases hj : j = 4
      · subst hj
        rw [if_pos rfl] at h
        obtain ⟨v2, e2, h_1⟩ := lgI_some h
        obtain ⟨v3, e3, h_2⟩ := lgI_some h_1
        obtain ⟨rfl, h_3⟩ := st0_some h_2
        clear h h_1 h_2
        have h := h_3
        try rw [callW_eq] at h
        exact WW.le (a := [some (.inr (.inr (6, 0))), some (.inl a1), some (.inl v2), some (.inl v3), none]) (by rw [hn]; rfl) (show _ = _ ∧ _ = _ ∧ _ = _ ∧ _ = _ ∧ True from ⟨e0, e1, e2, e3, trivial⟩) (sX2_shorten_4 G hn hC hr a1 N v2 v3 w h)
      rw [if_neg hj] at h
      cases h
    · exact (show _ = _ ∧ _ = _ ∧ True from ⟨rfl, rfl, trivial⟩)
-- MoorGuides$Leading.measure(I)V
def tX2_measure : List EN := [
  (0, .iconst 0, 0, 0, 0, 0, 0, []), (1, .istore_n 2, 0, 0, 0, 0, 0, []), (2, .iload_n 2, 3, 0, 0, 0, 0, []), (3, .bipush 8, 0, 0, 0, 8, 0, []),
  (5, .if_icmp .ge 41, 0, 26, 0, 0, 0, []), (8, .aload_n 0, 0, 0, 0, 0, 0, []), (9, .getfield 20, 0, 2, 3, 0, 0, []), (12, .iload_n 2, 0, 0, 0, 0, 0, []),
  (13, .ldc 77, 0, 0, 0, 1048576, 0, []), (15, .iastore, 0, 0, 0, 0, 0, []), (16, .iconst 0, 0, 0, 0, 0, 0, []), (17, .istore_n 3, 0, 0, 0, 0, 0, []),
  (18, .iload_n 3, 13, 0, 0, 0, 0, []), (19, .bipush 6, 0, 0, 0, 6, 0, []), (21, .if_icmp .ge 19, 0, 24, 0, 0, 0, []), (24, .aload_n 0, 0, 0, 0, 0, 0, []),
  (25, .getfield 17, 0, 2, 2, 0, 0, []), (28, .iload_n 2, 0, 0, 0, 0, 0, []), (29, .aaload, 0, 0, 0, 0, 0, []), (30, .iload_n 3, 0, 0, 0, 0, 0, []),
  (31, .ldc 77, 0, 0, 0, 1048576, 0, []), (33, .iastore, 0, 0, 0, 0, 0, []), (34, .iinc 3 1, 0, 0, 0, 1, 0, []), (37, .goto (-19), 0, 12, 0, 0, 0, []),
  (40, .iinc 2 1, 25, 0, 0, 1, 0, []), (43, .goto (-41), 0, 2, 0, 0, 0, []), (46, .iconst 0, 27, 0, 0, 0, 0, []), (47, .istore_n 2, 0, 0, 0, 0, 0, []),
  (48, .iload_n 2, 29, 0, 0, 0, 0, []), (49, .aload_n 0, 0, 0, 0, 0, 0, []), (50, .getfield 32, 0, 2, 0, 0, 0, []), (53, .getfield 43, 0, 9, 0, 0, 0, []),
  (56, .getfield 49, 0, 4, 4, 0, 0, []), (59, .getfield 55, 0, 6, 0, 0, 0, []), (62, .if_icmp .ge 34, 0, 54, 0, 0, 0, []), (65, .aload_n 0, 0, 0, 0, 0, 0, []),
  (66, .iload_n 1, 0, 0, 0, 0, 0, []), (67, .iload_n 2, 0, 0, 0, 0, 0, []), (68, .invokevirtual 85, 0, 0, 3, 0, 0, []), (71, .ifCond .eq 19, 0, 52, 0, 0, 0, []),
  (74, .aload_n 0, 0, 0, 0, 0, 0, []), (75, .getfield 17, 0, 2, 2, 0, 0, []), (78, .iload_n 1, 0, 0, 0, 0, 0, []), (79, .aaload, 0, 0, 0, 0, 0, []),
  (80, .iload_n 2, 0, 0, 0, 0, 0, []), (81, .iconst 1, 0, 0, 0, 1, 0, []), (82, .iastore, 0, 0, 0, 0, 0, []), (83, .aload_n 0, 0, 0, 0, 0, 0, []),
  (84, .getfield 20, 0, 2, 3, 0, 0, []), (87, .iload_n 1, 0, 0, 0, 0, 0, []), (88, .iconst 1, 0, 0, 0, 1, 0, []), (89, .iastore, 0, 0, 0, 0, 0, []),
  (90, .iinc 2 1, 0, 0, 0, 1, 0, []), (93, .goto (-45), 0, 28, 0, 0, 0, []), (96, .iconst 1, 55, 0, 0, 1, 0, []), (97, .istore_n 2, 0, 0, 0, 0, 0, []),
  (98, .iconst 0, 0, 0, 0, 0, 0, []), (99, .istore_n 3, 0, 0, 0, 0, 0, []), (100, .iload_n 3, 59, 0, 0, 0, 0, []), (101, .bipush 8, 0, 0, 0, 8, 0, []),
  (103, .if_icmp .ge 48, 0, 83, 0, 0, 0, []), (106, .iload_n 2, 0, 0, 0, 0, 0, []), (107, .ifCond .eq 44, 0, 83, 0, 0, 0, []), (110, .iconst 0, 0, 0, 0, 0, 0, []),
  (111, .istore_n 2, 0, 0, 0, 0, 0, []), (112, .iconst 0, 0, 0, 0, 0, 0, []), (113, .istore 4, 0, 0, 0, 0, 0, []), (115, .iload 4, 68, 0, 0, 0, 0, []),
  (117, .aload_n 0, 0, 0, 0, 0, 0, []), (118, .getfield 32, 0, 2, 0, 0, 0, []), (121, .getfield 43, 0, 9, 0, 0, 0, []), (124, .getfield 89, 0, 4, 0, 0, 0, []),
  (127, .if_icmp .ge 18, 0, 81, 0, 0, 0, []), (130, .iload_n 2, 0, 0, 0, 0, 0, []), (131, .aload_n 0, 0, 0, 0, 0, 0, []), (132, .iload 4, 0, 0, 0, 0, 0, []),
  (134, .invokevirtual 91, 0, 1, 2, 0, 0, []), (137, .ior, 0, 0, 0, 0, 0, []), (138, .istore_n 2, 0, 0, 0, 0, 0, []), (139, .iinc 4 1, 0, 0, 0, 1, 0, []),
  (142, .goto (-27), 0, 67, 0, 0, 0, []), (145, .iinc 3 1, 82, 0, 0, 1, 0, []), (148, .goto (-48), 0, 58, 0, 0, 0, []), (151, .return_, 0, 0, 0, 0, 0, [])]
noncomputable def fX2_measure_81 (N : Nat) (k58 : Int32 → Int32 → Wd → Option (Wd)) (v2 : Int32) (v3 : Int32) (w : Wd) : Option (Wd) :=
  k58 v2 (v3 + (1 : Int32)) w
noncomputable def fX2_measure_67 (N : Nat) : Nat → (Int32 → Int32 → Wd → Option (Wd)) → Int32 → Int32 → Int32 → Wd → Option (Wd)
  | 0, _, _, _, _, _ => none
  | n + 1, k81, v2, v3, v4, w =>
    if v4 < (gI w 8 (gR w 13 0 0) 0) then
      (callW (pX2_shorten N v4) w).bind fun r1 =>
      callW (fX2_measure_67 N n k81 (v2 ||| r1.1) v3 (v4 + (1 : Int32))) r1.2
    else
    k81 v2 v3 w
noncomputable def fX2_measure_58 (N : Nat) : Nat → Int32 → Int32 → Wd → Option (Wd)
  | 0, _, _, _ => none
  | n + 1, v2, v3, w =>
    if v3 < (8 : Int32) then
      if v2 = 0 then some w else
      callW (fX2_measure_67 N N (fX2_measure_81 N (fX2_measure_58 N n)) (0 : Int32) v3 (0 : Int32)) w
    else
    some w
noncomputable def fX2_measure_54 (N : Nat) (w : Wd) : Option (Wd) :=
  callW (fX2_measure_58 N N (1 : Int32) (0 : Int32)) w
noncomputable def fX2_measure_28 (N : Nat) (a1 : Int32) : Nat → (Wd → Option (Wd)) → Int32 → Wd → Option (Wd)
  | 0, _, _, _ => none
  | n + 1, k54, v2, w =>
    if v2 < (gI w 10 (gR w 13 0 0) 0) then
      (callW (pX2_isKnown N a1 v2) w).bind fun r1 =>
      if r1.1 = 0 then callW (fX2_measure_28 N a1 n k54 (v2 + (1 : Int32))) r1.2 else
      (ldR a1 8 0).bind fun q2 =>
      (stI r1.2 25 q2 v2 6 (1 : Int32)).bind fun w3 =>
      (stI w3 26 0 a1 8 (1 : Int32)).bind fun w4 =>
      callW (fX2_measure_28 N a1 n k54 (v2 + (1 : Int32))) w4
    else
    k54 w
noncomputable def fX2_measure_26 (N : Nat) (a1 : Int32) (w : Wd) : Option (Wd) :=
  callW (fX2_measure_28 N a1 N (fX2_measure_54 N) (0 : Int32)) w
noncomputable def fX2_measure_24 (N : Nat) (a1 : Int32) (k2 : Int32 → Wd → Option (Wd)) (v2 : Int32) (w : Wd) : Option (Wd) :=
  k2 (v2 + (1 : Int32)) w
noncomputable def fX2_measure_12 (N : Nat) (a1 : Int32) : Nat → (Int32 → Wd → Option (Wd)) → Int32 → Int32 → Wd → Option (Wd)
  | 0, _, _, _, _ => none
  | n + 1, k24, v2, v3, w =>
    if v3 < (6 : Int32) then
      (ldR v2 8 0).bind fun q1 =>
      (stI w 25 q1 v3 6 (1048576 : Int32)).bind fun w2 =>
      callW (fX2_measure_12 N a1 n k24 v2 (v3 + (1 : Int32))) w2
    else
    k24 v2 w
noncomputable def fX2_measure_2 (N : Nat) (a1 : Int32) : Nat → (Wd → Option (Wd)) → Int32 → Wd → Option (Wd)
  | 0, _, _, _ => none
  | n + 1, k26, v2, w =>
    if v2 < (8 : Int32) then
      (stI w 26 0 v2 8 (1048576 : Int32)).bind fun w1 =>
      callW (fX2_measure_12 N a1 N (fX2_measure_24 N a1 (fX2_measure_2 N a1 n k26)) v2 (0 : Int32)) w1
    else
    k26 w
noncomputable def pX2_measure (N : Nat) (a1 : Int32) (w : Wd) : Option (Wd) :=
  callW (fX2_measure_2 N a1 N (fX2_measure_26 N a1) (0 : Int32)) w
noncomputable def mX2_measure (N : Nat) (as : List AV) (w : Wd) : Option (Wd) := xS1 6 as fun t => xI1 t fun a1 t => xN1 t (callW (pX2_measure N a1) w)
set_option maxRecDepth 100000 in
set_option maxHeartbeats 4000000 in
theorem kX2_measure : TK cX2_measure RX2 5 tX2_measure := ⟨by decide +kernel, wok_of [576, 1175, 575, 1175, 573, 517, 277, 194, 575, 576, 573, 517, 259] (by decide +kernel) (by decide +kernel)⟩
set_option maxRecDepth 100000 in
set_option maxHeartbeats 4000000 in
theorem sX2_measure_81 {N : Nat} {X : XT} (G : GX X cX2_measure RX2) (hn : xnL X = 5) (hC : CRs X tX2_measure (oF [(mX2_isKnown N), (mX2_shorten N)]) (oF []) (oF [])) {r : Wd} (hr : RTV X cX2_measure r) (a1 : Int32) : ∀ (k58 : Int32 → Int32 → Wd → Option (Wd)) (v2 : Int32) (v3 : Int32) (w : Wd), fX2_measure_81 N k58 v2 v3 w = some r → (∀ (v2 : Int32) (v3 : Int32) (w : Wd), k58 v2 v3 w = some r → WW X (pcAt tX2_measure 58) [some (.inr (.inr (6, 0))), some (.inl a1), some (.inl v2), some (.inl v3), none] [] w) → WW X (pcAt tX2_measure 81) [some (.inr (.inr (6, 0))), some (.inl a1), some (.inl v2), some (.inl v3), none] [] w := by
  intro k58 v2 v3 w h h58
  refine run_sound (r := r) (X := X) (cc := cX2_measure) (own := RX2) (tab := tX2_measure) G (by rw [hn]; exact kX2_measure) (oI := (oF [(mX2_isKnown N), (mX2_shorten N)])) (oL := (oF [])) (oV := (oF [])) (rI := (fun _ _ => none)) (rL := (fun _ _ => none)) (rV := (fun w => some w))
    (K := (fun j ls st w => if j = 58 then (lgI ls 2 fun v2 => lgI ls 3 fun v3 => st0 st (k58 v2 v3 w)) else none)) (fun _ _ _ _ hx => by cases hx) (fun _ _ _ _ hx => by cases hx) (fun w pc ls hx hd => hr w pc ls (Option.some.inj hx) hd) hC (fun ls => lsb [some (.inr (.inr (6, 0))), some (.inl a1), none, none, none] 0 ls) (keepsP_of rfl) ?_ 86 81 [some (.inr (.inr (6, 0))), some (.inl a1), some (.inl v2), some (.inl v3), none] [] w ?_ h
  · intro j ls st w hfx h
    obtain ⟨e0, e1, -⟩ : _ = _ ∧ _ = _ ∧ True := hfx
    try dsimp only at h
    by_cases hj : j = 58
    · subst hj
      rw [if_pos rfl] at h
      obtain ⟨v2, e2, h_1⟩ := lgI_some h
      obtain ⟨v3, e3, h_2⟩ := lgI_some h_1
      obtain ⟨rfl, h_3⟩ := st0_some h_2
      clear h h_1 h_2
      have h := h_3
      try rw [callW_eq] at h
      exact WW.le (a := [some (.inr (.inr (6, 0))), some (.inl a1), some (.inl v2), some (.inl v3), none]) (by rw [hn]; rfl) (show _ = _ ∧ _ = _ ∧ _ = _ ∧ _ = _ ∧ True from ⟨e0, e1, e2, e3, trivial⟩) (h58 v2 v3 w h)
    rw [if_neg hj] at h
    cases h
  · exact (show _ = _ ∧ _ = _ ∧ True from ⟨rfl, rfl, trivial⟩)
set_option maxRecDepth 100000 in
set_option maxHeartbeats 4000000 in
theorem sX2_measure_67 {N : Nat} {X : XT} (G : GX X cX2_measure RX2) (hn : xnL X = 5) (hC : CRs X tX2_measure (oF [(mX2_isKnown N), (mX2_shorten N)]) (oF []) (oF [])) {r : Wd} (hr : RTV X cX2_measure r) (a1 : Int32) : ∀ (n : Nat) (k81 : Int32 → Int32 → Wd → Option (Wd)) (v2 : Int32) (v3 : Int32) (v4 : Int32) (w : Wd), fX2_measure_67 N n k81 v2 v3 v4 w = some r → (∀ (v2 : Int32) (v3 : Int32) (w : Wd), k81 v2 v3 w = some r → WW X (pcAt tX2_measure 81) [some (.inr (.inr (6, 0))), some (.inl a1), some (.inl v2), some (.inl v3), none] [] w) → WW X (pcAt tX2_measure 67) [some (.inr (.inr (6, 0))), some (.inl a1), some (.inl v2), some (.inl v3), some (.inl v4)] [] w := by
  intro n
  induction n with
  | zero => intro k81 v2 v3 v4 w h h81; cases h
  | succ n ih =>
    intro k81 v2 v3 v4 w h h81
    refine run_sound (r := r) (X := X) (cc := cX2_measure) (own := RX2) (tab := tX2_measure) G (by rw [hn]; exact kX2_measure) (oI := (oF [(mX2_isKnown N), (mX2_shorten N)])) (oL := (oF [])) (oV := (oF [])) (rI := (fun _ _ => none)) (rL := (fun _ _ => none)) (rV := (fun w => some w))
      (K := (fun j ls st w => if j = 67 then (lgI ls 2 fun v2 => lgI ls 3 fun v3 => lgI ls 4 fun v4 => st0 st (callW (fX2_measure_67 N n k81 v2 v3 v4) w)) else if j = 81 then (lgI ls 2 fun v2 => lgI ls 3 fun v3 => st0 st (k81 v2 v3 w)) else none)) (fun _ _ _ _ hx => by cases hx) (fun _ _ _ _ hx => by cases hx) (fun w pc ls hx hd => hr w pc ls (Option.some.inj hx) hd) hC (fun ls => lsb [some (.inr (.inr (6, 0))), some (.inl a1), none, none, none] 0 ls) (keepsP_of rfl) ?_ 86 67 [some (.inr (.inr (6, 0))), some (.inl a1), some (.inl v2), some (.inl v3), some (.inl v4)] [] w ?_ h
    · intro j ls st w hfx h
      obtain ⟨e0, e1, -⟩ : _ = _ ∧ _ = _ ∧ True := hfx
      try dsimp only at h
      by_cases hj : j = 67
      · subst hj
        rw [if_pos rfl] at h
        obtain ⟨v2, e2, h_1⟩ := lgI_some h
        obtain ⟨v3, e3, h_2⟩ := lgI_some h_1
        obtain ⟨v4, e4, h_3⟩ := lgI_some h_2
        obtain ⟨rfl, h_4⟩ := st0_some h_3
        clear h h_1 h_2 h_3
        have h := h_4
        try rw [callW_eq] at h
        exact WW.le (a := [some (.inr (.inr (6, 0))), some (.inl a1), some (.inl v2), some (.inl v3), some (.inl v4)]) (by rw [hn]; rfl) (show _ = _ ∧ _ = _ ∧ _ = _ ∧ _ = _ ∧ _ = _ ∧ True from ⟨e0, e1, e2, e3, e4, trivial⟩) (ih k81 v2 v3 v4 w h h81)
      rw [if_neg hj] at h
      by_cases hj : j = 81
      · subst hj
        rw [if_pos rfl] at h
        obtain ⟨v2, e2, h_1⟩ := lgI_some h
        obtain ⟨v3, e3, h_2⟩ := lgI_some h_1
        obtain ⟨rfl, h_3⟩ := st0_some h_2
        clear h h_1 h_2
        have h := h_3
        try rw [callW_eq] at h
        exact WW.le (a := [some (.inr (.inr (6, 0))), some (.inl a1), some (.inl v2), some (.inl v3), none]) (by rw [hn]; rfl) (show _ = _ ∧ _ = _ ∧ _ = _ ∧ _ = _ ∧ True from ⟨e0, e1, e2, e3, trivial⟩) (h81 v2 v3 w h)
      rw [if_neg hj] at h
      cases h
    · exact (show _ = _ ∧ _ = _ ∧ True from ⟨rfl, rfl, trivial⟩)
set_option maxRecDepth 100000 in
set_option maxHeartbeats 4000000 in
theorem sX2_measure_58 {N : Nat} {X : XT} (G : GX X cX2_measure RX2) (hn : xnL X = 5) (hC : CRs X tX2_measure (oF [(mX2_isKnown N), (mX2_shorten N)]) (oF []) (oF [])) {r : Wd} (hr : RTV X cX2_measure r) (a1 : Int32) : ∀ (n : Nat) (v2 : Int32) (v3 : Int32) (w : Wd), fX2_measure_58 N n v2 v3 w = some r → WW X (pcAt tX2_measure 58) [some (.inr (.inr (6, 0))), some (.inl a1), some (.inl v2), some (.inl v3), none] [] w := by
  intro n
  induction n with
  | zero => intro v2 v3 w h; cases h
  | succ n ih =>
    intro v2 v3 w h
    refine run_sound (r := r) (X := X) (cc := cX2_measure) (own := RX2) (tab := tX2_measure) G (by rw [hn]; exact kX2_measure) (oI := (oF [(mX2_isKnown N), (mX2_shorten N)])) (oL := (oF [])) (oV := (oF [])) (rI := (fun _ _ => none)) (rL := (fun _ _ => none)) (rV := (fun w => some w))
      (K := (fun j ls st w => if j = 67 then (lgI ls 2 fun v2 => lgI ls 3 fun v3 => lgI ls 4 fun v4 => st0 st (callW (fX2_measure_67 N N (fX2_measure_81 N (fX2_measure_58 N n)) v2 v3 v4) w)) else none)) (fun _ _ _ _ hx => by cases hx) (fun _ _ _ _ hx => by cases hx) (fun w pc ls hx hd => hr w pc ls (Option.some.inj hx) hd) hC (fun ls => lsb [some (.inr (.inr (6, 0))), some (.inl a1), none, none, none] 0 ls) (keepsP_of rfl) ?_ 86 58 [some (.inr (.inr (6, 0))), some (.inl a1), some (.inl v2), some (.inl v3), none] [] w ?_ h
    · intro j ls st w hfx h
      obtain ⟨e0, e1, -⟩ : _ = _ ∧ _ = _ ∧ True := hfx
      try dsimp only at h
      by_cases hj : j = 67
      · subst hj
        rw [if_pos rfl] at h
        obtain ⟨v2, e2, h_1⟩ := lgI_some h
        obtain ⟨v3, e3, h_2⟩ := lgI_some h_1
        obtain ⟨v4, e4, h_3⟩ := lgI_some h_2
        obtain ⟨rfl, h_4⟩ := st0_some h_3
        clear h h_1 h_2 h_3
        have h := h_4
        try rw [callW_eq] at h
        exact WW.le (a := [some (.inr (.inr (6, 0))), some (.inl a1), some (.inl v2), some (.inl v3), some (.inl v4)]) (by rw [hn]; rfl) (show _ = _ ∧ _ = _ ∧ _ = _ ∧ _ = _ ∧ _ = _ ∧ True from ⟨e0, e1, e2, e3, e4, trivial⟩) (sX2_measure_67 G hn hC hr a1 N (fX2_measure_81 N (fX2_measure_58 N n)) v2 v3 v4 w h (fun v2 v3 w h => (sX2_measure_81 G hn hC hr a1 (fX2_measure_58 N n) v2 v3 w h (fun v2 v3 w h => (ih v2 v3 w h)))))
      rw [if_neg hj] at h
      cases h
    · exact (show _ = _ ∧ _ = _ ∧ True from ⟨rfl, rfl, trivial⟩)
set_option maxRecDepth 100000 in
set_option maxHeartbeats 4000000 in
theorem sX2_measure_54 {N : Nat} {X : XT} (G : GX X cX2_measure RX2) (hn : xnL X = 5) (hC : CRs X tX2_measure (oF [(mX2_isKnown N), (mX2_shorten N)]) (oF []) (oF [])) {r : Wd} (hr : RTV X cX2_measure r) (a1 : Int32) : ∀ (w : Wd), fX2_measure_54 N w = some r → WW X (pcAt tX2_measure 54) [some (.inr (.inr (6, 0))), some (.inl a1), none, none, none] [] w := by
  intro w h
  refine run_sound (r := r) (X := X) (cc := cX2_measure) (own := RX2) (tab := tX2_measure) G (by rw [hn]; exact kX2_measure) (oI := (oF [(mX2_isKnown N), (mX2_shorten N)])) (oL := (oF [])) (oV := (oF [])) (rI := (fun _ _ => none)) (rL := (fun _ _ => none)) (rV := (fun w => some w))
    (K := (fun j ls st w => if j = 58 then (lgI ls 2 fun v2 => lgI ls 3 fun v3 => st0 st (callW (fX2_measure_58 N N v2 v3) w)) else none)) (fun _ _ _ _ hx => by cases hx) (fun _ _ _ _ hx => by cases hx) (fun w pc ls hx hd => hr w pc ls (Option.some.inj hx) hd) hC (fun ls => lsb [some (.inr (.inr (6, 0))), some (.inl a1), none, none, none] 0 ls) (keepsP_of rfl) ?_ 86 54 [some (.inr (.inr (6, 0))), some (.inl a1), none, none, none] [] w ?_ h
  · intro j ls st w hfx h
    obtain ⟨e0, e1, -⟩ : _ = _ ∧ _ = _ ∧ True := hfx
    try dsimp only at h
    by_cases hj : j = 58
    · subst hj
      rw [if_pos rfl] at h
      obtain ⟨v2, e2, h_1⟩ := lgI_some h
      obtain ⟨v3, e3, h_2⟩ := lgI_some h_1
      obtain ⟨rfl, h_3⟩ := st0_some h_2
      clear h h_1 h_2
      have h := h_3
      try rw [callW_eq] at h
      exact WW.le (a := [some (.inr (.inr (6, 0))), some (.inl a1), some (.inl v2), some (.inl v3), none]) (by rw [hn]; rfl) (show _ = _ ∧ _ = _ ∧ _ = _ ∧ _ = _ ∧ True from ⟨e0, e1, e2, e3, trivial⟩) (sX2_measure_58 G hn hC hr a1 N v2 v3 w h)
    rw [if_neg hj] at h
    cases h
  · exact (show _ = _ ∧ _ = _ ∧ True from ⟨rfl, rfl, trivial⟩)
set_option maxRecDepth 100000 in
set_option maxHeartbeats 4000000 in
theorem sX2_measure_28 {N : Nat} {X : XT} (G : GX X cX2_measure RX2) (hn : xnL X = 5) (hC : CRs X tX2_measure (oF [(mX2_isKnown N), (mX2_shorten N)]) (oF []) (oF [])) {r : Wd} (hr : RTV X cX2_measure r) (a1 : Int32) : ∀ (n : Nat) (k54 : Wd → Option (Wd)) (v2 : Int32) (w : Wd), fX2_measure_28 N a1 n k54 v2 w = some r → (∀ (w : Wd), k54 w = some r → WW X (pcAt tX2_measure 54) [some (.inr (.inr (6, 0))), some (.inl a1), none, none, none] [] w) → WW X (pcAt tX2_measure 28) [some (.inr (.inr (6, 0))), some (.inl a1), some (.inl v2), none, none] [] w := by
  intro n
  induction n with
  | zero => intro k54 v2 w h h54; cases h
  | succ n ih =>
    intro k54 v2 w h h54
    refine run_sound (r := r) (X := X) (cc := cX2_measure) (own := RX2) (tab := tX2_measure) G (by rw [hn]; exact kX2_measure) (oI := (oF [(mX2_isKnown N), (mX2_shorten N)])) (oL := (oF [])) (oV := (oF [])) (rI := (fun _ _ => none)) (rL := (fun _ _ => none)) (rV := (fun w => some w))
      (K := (fun j ls st w => if j = 28 then (lgI ls 2 fun v2 => st0 st (callW (fX2_measure_28 N a1 n k54 v2) w)) else if j = 54 then (st0 st (k54 w)) else none)) (fun _ _ _ _ hx => by cases hx) (fun _ _ _ _ hx => by cases hx) (fun w pc ls hx hd => hr w pc ls (Option.some.inj hx) hd) hC (fun ls => lsb [some (.inr (.inr (6, 0))), some (.inl a1), none, none, none] 0 ls) (keepsP_of rfl) ?_ 86 28 [some (.inr (.inr (6, 0))), some (.inl a1), some (.inl v2), none, none] [] w ?_ h
    · intro j ls st w hfx h
      obtain ⟨e0, e1, -⟩ : _ = _ ∧ _ = _ ∧ True := hfx
      try dsimp only at h
      by_cases hj : j = 28
      · subst hj
        rw [if_pos rfl] at h
        obtain ⟨v2, e2, h_1⟩ := lgI_some h
        obtain ⟨rfl, h_2⟩ := st0_some h_1
        clear h h_1
        have h := h_2
        try rw [callW_eq] at h
        exact WW.le (a := [some (.inr (.inr (6, 0))), some (.inl a1), some (.inl v2), none, none]) (by rw [hn]; rfl) (show _ = _ ∧ _ = _ ∧ _ = _ ∧ True from ⟨e0, e1, e2, trivial⟩) (ih k54 v2 w h h54)
      rw [if_neg hj] at h
      by_cases hj : j = 54
      · subst hj
        rw [if_pos rfl] at h
        obtain ⟨rfl, h_1⟩ := st0_some h
        clear h
        have h := h_1
        try rw [callW_eq] at h
        exact WW.le (a := [some (.inr (.inr (6, 0))), some (.inl a1), none, none, none]) (by rw [hn]; rfl) (show _ = _ ∧ _ = _ ∧ True from ⟨e0, e1, trivial⟩) (h54 w h)
      rw [if_neg hj] at h
      cases h
    · exact (show _ = _ ∧ _ = _ ∧ True from ⟨rfl, rfl, trivial⟩)
set_option maxRecDepth 100000 in
set_option maxHeartbeats 4000000 in
theorem sX2_measure_26 {N : Nat} {X : XT} (G : GX X cX2_measure RX2) (hn : xnL X = 5) (hC : CRs X tX2_measure (oF [(mX2_isKnown N), (mX2_shorten N)]) (oF []) (oF [])) {r : Wd} (hr : RTV X cX2_measure r) (a1 : Int32) : ∀ (w : Wd), fX2_measure_26 N a1 w = some r → WW X (pcAt tX2_measure 26) [some (.inr (.inr (6, 0))), some (.inl a1), none, none, none] [] w := by
  intro w h
  refine run_sound (r := r) (X := X) (cc := cX2_measure) (own := RX2) (tab := tX2_measure) G (by rw [hn]; exact kX2_measure) (oI := (oF [(mX2_isKnown N), (mX2_shorten N)])) (oL := (oF [])) (oV := (oF [])) (rI := (fun _ _ => none)) (rL := (fun _ _ => none)) (rV := (fun w => some w))
    (K := (fun j ls st w => if j = 28 then (lgI ls 2 fun v2 => st0 st (callW (fX2_measure_28 N a1 N (fX2_measure_54 N) v2) w)) else none)) (fun _ _ _ _ hx => by cases hx) (fun _ _ _ _ hx => by cases hx) (fun w pc ls hx hd => hr w pc ls (Option.some.inj hx) hd) hC (fun ls => lsb [some (.inr (.inr (6, 0))), some (.inl a1), none, none, none] 0 ls) (keepsP_of rfl) ?_ 86 26 [some (.inr (.inr (6, 0))), some (.inl a1), none, none, none] [] w ?_ h
  · intro j ls st w hfx h
    obtain ⟨e0, e1, -⟩ : _ = _ ∧ _ = _ ∧ True := hfx
    try dsimp only at h
    by_cases hj : j = 28
    · subst hj
      rw [if_pos rfl] at h
      obtain ⟨v2, e2, h_1⟩ := lgI_some h
      obtain ⟨rfl, h_2⟩ := st0_some h_1
      clear h h_1
      have h := h_2
      try rw [callW_eq] at h
      exact WW.le (a := [some (.inr (.inr (6, 0))), some (.inl a1), some (.inl v2), none, none]) (by rw [hn]; rfl) (show _ = _ ∧ _ = _ ∧ _ = _ ∧ True from ⟨e0, e1, e2, trivial⟩) (sX2_measure_28 G hn hC hr a1 N (fX2_measure_54 N) v2 w h (fun w h => (sX2_measure_54 G hn hC hr a1 w h)))
    rw [if_neg hj] at h
    cases h
  · exact (show _ = _ ∧ _ = _ ∧ True from ⟨rfl, rfl, trivial⟩)
set_option maxRecDepth 100000 in
set_option maxHeartbeats 4000000 in
theorem sX2_measure_24 {N : Nat} {X : XT} (G : GX X cX2_measure RX2) (hn : xnL X = 5) (hC : CRs X tX2_measure (oF [(mX2_isKnown N), (mX2_shorten N)]) (oF []) (oF [])) {r : Wd} (hr : RTV X cX2_measure r) (a1 : Int32) : ∀ (k2 : Int32 → Wd → Option (Wd)) (v2 : Int32) (w : Wd), fX2_measure_24 N a1 k2 v2 w = some r → (∀ (v2 : Int32) (w : Wd), k2 v2 w = some r → WW X (pcAt tX2_measure 2) [some (.inr (.inr (6, 0))), some (.inl a1), some (.inl v2), none, none] [] w) → WW X (pcAt tX2_measure 24) [some (.inr (.inr (6, 0))), some (.inl a1), some (.inl v2), none, none] [] w := by
  intro k2 v2 w h h2
  refine run_sound (r := r) (X := X) (cc := cX2_measure) (own := RX2) (tab := tX2_measure) G (by rw [hn]; exact kX2_measure) (oI := (oF [(mX2_isKnown N), (mX2_shorten N)])) (oL := (oF [])) (oV := (oF [])) (rI := (fun _ _ => none)) (rL := (fun _ _ => none)) (rV := (fun w => some w))
    (K := (fun j ls st w => if j = 2 then (lgI ls 2 fun v2 => st0 st (k2 v2 w)) else none)) (fun _ _ _ _ hx => by cases hx) (fun _ _ _ _ hx => by cases hx) (fun w pc ls hx hd => hr w pc ls (Option.some.inj hx) hd) hC (fun ls => lsb [some (.inr (.inr (6, 0))), some (.inl a1), none, none, none] 0 ls) (keepsP_of rfl) ?_ 86 24 [some (.inr (.inr (6, 0))), some (.inl a1), some (.inl v2), none, none] [] w ?_ h
  · intro j ls st w hfx h
    obtain ⟨e0, e1, -⟩ : _ = _ ∧ _ = _ ∧ True := hfx
    try dsimp only at h
    by_cases hj : j = 2
    · subst hj
      rw [if_pos rfl] at h
      obtain ⟨v2, e2, h_1⟩ := lgI_some h
      obtain ⟨rfl, h_2⟩ := st0_some h_1
      clear h h_1
      have h := h_2
      try rw [callW_eq] at h
      exact WW.le (a := [some (.inr (.inr (6, 0))), some (.inl a1), some (.inl v2), none, none]) (by rw [hn]; rfl) (show _ = _ ∧ _ = _ ∧ _ = _ ∧ True from ⟨e0, e1, e2, trivial⟩) (h2 v2 w h)
    rw [if_neg hj] at h
    cases h
  · exact (show _ = _ ∧ _ = _ ∧ True from ⟨rfl, rfl, trivial⟩)
set_option maxRecDepth 100000 in
set_option maxHeartbeats 4000000 in
theorem sX2_measure_12 {N : Nat} {X : XT} (G : GX X cX2_measure RX2) (hn : xnL X = 5) (hC : CRs X tX2_measure (oF [(mX2_isKnown N), (mX2_shorten N)]) (oF []) (oF [])) {r : Wd} (hr : RTV X cX2_measure r) (a1 : Int32) : ∀ (n : Nat) (k24 : Int32 → Wd → Option (Wd)) (v2 : Int32) (v3 : Int32) (w : Wd), fX2_measure_12 N a1 n k24 v2 v3 w = some r → (∀ (v2 : Int32) (w : Wd), k24 v2 w = some r → WW X (pcAt tX2_measure 24) [some (.inr (.inr (6, 0))), some (.inl a1), some (.inl v2), none, none] [] w) → WW X (pcAt tX2_measure 12) [some (.inr (.inr (6, 0))), some (.inl a1), some (.inl v2), some (.inl v3), none] [] w := by
  intro n
  induction n with
  | zero => intro k24 v2 v3 w h h24; cases h
  | succ n ih =>
    intro k24 v2 v3 w h h24
    refine run_sound (r := r) (X := X) (cc := cX2_measure) (own := RX2) (tab := tX2_measure) G (by rw [hn]; exact kX2_measure) (oI := (oF [(mX2_isKnown N), (mX2_shorten N)])) (oL := (oF [])) (oV := (oF [])) (rI := (fun _ _ => none)) (rL := (fun _ _ => none)) (rV := (fun w => some w))
      (K := (fun j ls st w => if j = 12 then (lgI ls 2 fun v2 => lgI ls 3 fun v3 => st0 st (callW (fX2_measure_12 N a1 n k24 v2 v3) w)) else if j = 24 then (lgI ls 2 fun v2 => st0 st (k24 v2 w)) else none)) (fun _ _ _ _ hx => by cases hx) (fun _ _ _ _ hx => by cases hx) (fun w pc ls hx hd => hr w pc ls (Option.some.inj hx) hd) hC (fun ls => lsb [some (.inr (.inr (6, 0))), some (.inl a1), none, none, none] 0 ls) (keepsP_of rfl) ?_ 86 12 [some (.inr (.inr (6, 0))), some (.inl a1), some (.inl v2), some (.inl v3), none] [] w ?_ h
    · intro j ls st w hfx h
      obtain ⟨e0, e1, -⟩ : _ = _ ∧ _ = _ ∧ True := hfx
      try dsimp only at h
      by_cases hj : j = 12
      · subst hj
        rw [if_pos rfl] at h
        obtain ⟨v2, e2, h_1⟩ := lgI_some h
        obtain ⟨v3, e3, h_2⟩ := lgI_some h_1
        obtain ⟨rfl, h_3⟩ := st0_some h_2
        clear h h_1 h_2
        have h := h_3
        try rw [callW_eq] at h
        exact WW.le (a := [some (.inr (.inr (6, 0))), some (.inl a1), some (.inl v2), some (.inl v3), none]) (by rw [hn]; rfl) (show _ = _ ∧ _ = _ ∧ _ = _ ∧ _ = _ ∧ True from ⟨e0, e1, e2, e3, trivial⟩) (ih k24 v2 v3 w h h24)
      rw [if_neg hj] at h
      by_cases hj : j = 24
      · subst hj
        rw [if_pos rfl] at h
        obtain ⟨v2, e2, h_1⟩ := lgI_some h
        obtain ⟨rfl, h_2⟩ := st0_some h_1
        clear h h_1
        have h := h_2
        try rw [callW_eq] at h
        exact WW.le (a := [some (.inr (.inr (6, 0))), some (.inl a1), some (.inl v2), none, none]) (by rw [hn]; rfl) (show _ = _ ∧ _ = _ ∧ _ = _ ∧ True from ⟨e0, e1, e2, trivial⟩) (h24 v2 w h)
      rw [if_neg hj] at h
      cases h
    · exact (show _ = _ ∧ _ = _ ∧ True from ⟨rfl, rfl, trivial⟩)
set_option maxRecDepth 100000 in
set_option maxHeartbeats 4000000 in
theorem sX2_measure_2 {N : Nat} {X : XT} (G : GX X cX2_measure RX2) (hn : xnL X = 5) (hC : CRs X tX2_measure (oF [(mX2_isKnown N), (mX2_shorten N)]) (oF []) (oF [])) {r : Wd} (hr : RTV X cX2_measure r) (a1 : Int32) : ∀ (n : Nat) (k26 : Wd → Option (Wd)) (v2 : Int32) (w : Wd), fX2_measure_2 N a1 n k26 v2 w = some r → (∀ (w : Wd), k26 w = some r → WW X (pcAt tX2_measure 26) [some (.inr (.inr (6, 0))), some (.inl a1), none, none, none] [] w) → WW X (pcAt tX2_measure 2) [some (.inr (.inr (6, 0))), some (.inl a1), some (.inl v2), none, none] [] w := by
  intro n
  induction n with
  | zero => intro k26 v2 w h h26; cases h
  | succ n ih =>
    intro k26 v2 w h h26
    refine run_sound (r := r) (X := X) (cc := cX2_measure) (own := RX2) (tab := tX2_measure) G (by rw [hn]; exact kX2_measure) (oI := (oF [(mX2_isKnown N), (mX2_shorten N)])) (oL := (oF [])) (oV := (oF [])) (rI := (fun _ _ => none)) (rL := (fun _ _ => none)) (rV := (fun w => some w))
      (K := (fun j ls st w => if j = 12 then (lgI ls 2 fun v2 => lgI ls 3 fun v3 => st0 st (callW (fX2_measure_12 N a1 N (fX2_measure_24 N a1 (fX2_measure_2 N a1 n k26)) v2 v3) w)) else if j = 26 then (st0 st (k26 w)) else none)) (fun _ _ _ _ hx => by cases hx) (fun _ _ _ _ hx => by cases hx) (fun w pc ls hx hd => hr w pc ls (Option.some.inj hx) hd) hC (fun ls => lsb [some (.inr (.inr (6, 0))), some (.inl a1), none, none, none] 0 ls) (keepsP_of rfl) ?_ 86 2 [some (.inr (.inr (6, 0))), some (.inl a1), some (.inl v2), none, none] [] w ?_ h
    · intro j ls st w hfx h
      obtain ⟨e0, e1, -⟩ : _ = _ ∧ _ = _ ∧ True := hfx
      try dsimp only at h
      by_cases hj : j = 12
      · subst hj
        rw [if_pos rfl] at h
        obtain ⟨v2, e2, h_1⟩ := lgI_some h
        obtain ⟨v3, e3, h_2⟩ := lgI_some h_1
        obtain ⟨rfl, h_3⟩ := st0_some h_2
        clear h h_1 h_2
        have h := h_3
        try rw [callW_eq] at h
        exact WW.le (a := [some (.inr (.inr (6, 0))), some (.inl a1), some (.inl v2), some (.inl v3), none]) (by rw [hn]; rfl) (show _ = _ ∧ _ = _ ∧ _ = _ ∧ _ = _ ∧ True from ⟨e0, e1, e2, e3, trivial⟩) (sX2_measure_12 G hn hC hr a1 N (fX2_measure_24 N a1 (fX2_measure_2 N a1 n k26)) v2 v3 w h (fun v2 w h => (sX2_measure_24 G hn hC hr a1 (fX2_measure_2 N a1 n k26) v2 w h (fun v2 w h => (ih k26 v2 w h h26)))))
      rw [if_neg hj] at h
      by_cases hj : j = 26
      · subst hj
        rw [if_pos rfl] at h
        obtain ⟨rfl, h_1⟩ := st0_some h
        clear h
        have h := h_1
        try rw [callW_eq] at h
        exact WW.le (a := [some (.inr (.inr (6, 0))), some (.inl a1), none, none, none]) (by rw [hn]; rfl) (show _ = _ ∧ _ = _ ∧ True from ⟨e0, e1, trivial⟩) (h26 w h)
      rw [if_neg hj] at h
      cases h
    · exact (show _ = _ ∧ _ = _ ∧ True from ⟨rfl, rfl, trivial⟩)
set_option maxRecDepth 100000 in
set_option maxHeartbeats 4000000 in
theorem crX2_measure {N : Nat} {X : XT} (G : GX X cX2_measure RX2) (hR : xR X = rmL 4) : CRs X tX2_measure (oF [(mX2_isKnown N), (mX2_shorten N)]) (oF []) (oF []) := by
  have hl : tX2_measure.filter isInv = [(68, .invokevirtual 85, 0, 0, 3, 0, 0, []), (134, .invokevirtual 91, 0, 1, 2, 0, 0, [])] := rfl
  intro e he
  rw [hl] at he
  simp only [List.mem_cons, List.not_mem_nil, or_false] at he
  rcases he with rfl | rfl
  · exact crI_V (idx := 85) G (by decide +kernel) (MX2_isKnown N) (cw_of (ps := [1176, 1178, 43, 159, 1179]) (by decide +kernel) (by decide +kernel)) ⟨by decide +kernel, by decide +kernel, by decide +kernel⟩ (by unfold rmOk; rw [hR]; exact ⟨by decide, by decide⟩)
  · exact crI_V (idx := 91) G (by decide +kernel) (MX2_shorten N) (cw_of (ps := [1180, 1182, 44, 159, 1183]) (by decide +kernel) (by decide +kernel)) ⟨by decide +kernel, by decide +kernel, by decide +kernel⟩ (by unfold rmOk; rw [hR]; exact ⟨by decide, by decide⟩)
set_option maxRecDepth 100000 in
set_option maxHeartbeats 4000000 in
theorem MX2_measure (N : Nat) : SndV yX2_measure cX2_measure 5 none 4 2 true (mX2_measure N) := by
  refine SndV.of tX2_measure (by decide +kernel) rfl rfl ?_ ?_
  · intro as w x h
    obtain ⟨t1, rfl, h_1⟩ := xS1_some h
    obtain ⟨a1, t2, rfl, h_2⟩ := xI1_some h_1
    obtain ⟨rfl, h_3⟩ := xN1_some h_2
    clear h h_1 h_2
    have h := h_3
    rw [callW_eq] at h
    exact ⟨fun _ => ⟨_, _, _, rfl, rfl, _, rfl, rfl⟩, rfl, Nat.le_of_ble_eq_true rfl⟩
  · intro X G hn hR as w r h hr
    have hC := crX2_measure (N := N) G hR
    obtain ⟨t1, rfl, h_1⟩ := xS1_some h
    obtain ⟨a1, t2, rfl, h_2⟩ := xI1_some h_1
    obtain ⟨rfl, h_3⟩ := xN1_some h_2
    clear h h_1 h_2
    have h := h_3
    rw [callW_eq] at h
    refine run_sound (r := r) (X := X) (cc := cX2_measure) (own := RX2) (tab := tX2_measure) G (by rw [hn]; exact kX2_measure) (oI := (oF [(mX2_isKnown N), (mX2_shorten N)])) (oL := (oF [])) (oV := (oF [])) (rI := (fun _ _ => none)) (rL := (fun _ _ => none)) (rV := (fun w => some w))
      (K := (fun j ls st w => if j = 2 then (lgI ls 2 fun v2 => st0 st (callW (fX2_measure_2 N a1 N (fX2_measure_26 N a1) v2) w)) else none)) (fun _ _ _ _ hx => by cases hx) (fun _ _ _ _ hx => by cases hx) (fun w pc ls hx hd => hr w pc ls (Option.some.inj hx) hd) hC (fun ls => lsb [some (.inr (.inr (6, 0))), some (.inl a1), none, none, none] 0 ls) (keepsP_of rfl) ?_ 86 0 [some (.inr (.inr (6, 0))), some (.inl a1), none, none, none] [] w ?_ h
    · intro j ls st w hfx h
      obtain ⟨e0, e1, -⟩ : _ = _ ∧ _ = _ ∧ True := hfx
      try dsimp only at h
      by_cases hj : j = 2
      · subst hj
        rw [if_pos rfl] at h
        obtain ⟨v2, e2, h_1⟩ := lgI_some h
        obtain ⟨rfl, h_2⟩ := st0_some h_1
        clear h h_1
        have h := h_2
        try rw [callW_eq] at h
        exact WW.le (a := [some (.inr (.inr (6, 0))), some (.inl a1), some (.inl v2), none, none]) (by rw [hn]; rfl) (show _ = _ ∧ _ = _ ∧ _ = _ ∧ True from ⟨e0, e1, e2, trivial⟩) (sX2_measure_2 G hn hC hr a1 N (fX2_measure_26 N a1) v2 w h (fun w h => (sX2_measure_26 G hn hC hr a1 w h)))
      rw [if_neg hj] at h
      cases h
    · exact (show _ = _ ∧ _ = _ ∧ True from ⟨rfl, rfl, trivial⟩)
-- MoorGuides$Leading.isBest(IIII)Z
def tX2_isBest : List EN := [
  (0, .iload_n 2, 0, 0, 0, 0, 0, []), (1, .ifCond .lt 21, 0, 10, 0, 0, 0, []), (4, .iload_n 2, 0, 0, 0, 0, 0, []), (5, .bipush 6, 0, 0, 0, 6, 0, []),
  (7, .if_icmp .ge 15, 0, 10, 0, 0, 0, []), (10, .iload 4, 0, 0, 0, 0, 0, []), (12, .ifCond .lt 10, 0, 10, 0, 0, 0, []), (15, .iload 4, 0, 0, 0, 0, 0, []),
  (17, .bipush 6, 0, 0, 0, 6, 0, []), (19, .if_icmp .lt 5, 0, 12, 0, 0, 0, []), (22, .iconst 0, 0, 0, 0, 0, 0, []), (23, .ireturn, 0, 0, 0, 0, 0, []),
  (24, .iload_n 2, 0, 0, 0, 0, 0, []), (25, .iload 4, 0, 0, 0, 0, 0, []), (27, .if_icmp .ne 7, 0, 17, 0, 0, 0, []), (30, .iconst 0, 0, 0, 0, 0, 0, []),
  (31, .goto 5, 0, 18, 0, 0, 0, []), (34, .bipush 16, 0, 0, 0, 16, 0, []), (36, .istore 5, 19, 0, 0, 0, 0, []), (38, .aload_n 0, 0, 0, 0, 0, 0, []),
  (39, .getfield 17, 0, 2, 2, 0, 0, []), (42, .iload_n 3, 0, 0, 0, 0, 0, []), (43, .aaload, 0, 0, 0, 0, 0, []), (44, .iload 4, 0, 0, 0, 0, 0, []),
  (46, .iaload, 0, 0, 0, 0, 0, []), (47, .ldc 77, 0, 0, 0, 1048576, 0, []), (49, .if_icmp .ge 32, 0, 46, 0, 0, 0, []), (52, .aload_n 0, 0, 0, 0, 0, 0, []),
  (53, .getfield 17, 0, 2, 2, 0, 0, []), (56, .iload_n 1, 0, 0, 0, 0, 0, []), (57, .aaload, 0, 0, 0, 0, 0, []), (58, .iload_n 2, 0, 0, 0, 0, 0, []),
  (59, .iaload, 0, 0, 0, 0, 0, []), (60, .iconst 1, 0, 0, 0, 1, 0, []), (61, .iload 5, 0, 0, 0, 0, 0, []), (63, .iadd, 0, 0, 0, 0, 0, []),
  (64, .aload_n 0, 0, 0, 0, 0, 0, []), (65, .getfield 17, 0, 2, 2, 0, 0, []), (68, .iload_n 3, 0, 0, 0, 0, 0, []), (69, .aaload, 0, 0, 0, 0, 0, []),
  (70, .iload 4, 0, 0, 0, 0, 0, []), (72, .iaload, 0, 0, 0, 0, 0, []), (73, .iadd, 0, 0, 0, 0, 0, []), (74, .if_icmp .ne 7, 0, 46, 0, 0, 0, []),
  (77, .iconst 1, 0, 0, 0, 1, 0, []), (78, .goto 4, 0, 47, 0, 0, 0, []), (81, .iconst 0, 0, 0, 0, 0, 0, []), (82, .ireturn, 0, 0, 0, 0, 0, [])]
noncomputable def fX2_isBest_18 (N : Nat) (a1 : Int32) (a2 : Int32) (a3 : Int32) (a4 : Int32) (s0 : Int32) (w : Wd) : Option (Int32 × Wd) :=
  (ldR a3 8 0).bind fun q1 =>
  (ldI w 25 q1 a4 6).bind fun x2 =>
  if x2 < (1048576 : Int32) then
    (ldR a1 8 0).bind fun q3 =>
    (ldI w 25 q3 a2 6).bind fun x4 =>
    (ldR a3 8 0).bind fun q5 =>
    (ldI w 25 q5 a4 6).bind fun x6 =>
    if x4 = (((1 : Int32) + s0) + x6) then some ((1 : Int32), w) else
    some ((0 : Int32), w)
  else
  some ((0 : Int32), w)
noncomputable def pX2_isBest (N : Nat) (a1 : Int32) (a2 : Int32) (a3 : Int32) (a4 : Int32) (w : Wd) : Option (Int32 × Wd) :=
  if a2 < 0 then some ((0 : Int32), w) else
  if a2 < (6 : Int32) then
    if a4 < 0 then some ((0 : Int32), w) else
    if a4 < (6 : Int32) then
      if a2 = a4 then callW (fX2_isBest_18 N a1 a2 a3 a4 (0 : Int32)) w else
      callW (fX2_isBest_18 N a1 a2 a3 a4 (16 : Int32)) w
    else
    some ((0 : Int32), w)
  else
  some ((0 : Int32), w)
noncomputable def mX2_isBest (N : Nat) (as : List AV) (w : Wd) : Option (Int32 × Wd) := xS1 6 as fun t => xI1 t fun a1 t => xI1 t fun a2 t => xI1 t fun a3 t => xI1 t fun a4 t => xN1 t (callW (pX2_isBest N a1 a2 a3 a4) w)
set_option maxRecDepth 100000 in
set_option maxHeartbeats 4000000 in
theorem kX2_isBest : TK cX2_isBest RX2 6 tX2_isBest := ⟨by decide +kernel, wok_of [575, 1175, 575, 575] (by decide +kernel) (by decide +kernel)⟩
set_option maxRecDepth 100000 in
set_option maxHeartbeats 4000000 in
theorem sX2_isBest_18 {N : Nat} {X : XT} (G : GX X cX2_isBest RX2) (hn : xnL X = 6) (hC : CRs X tX2_isBest (oF []) (oF []) (oF [])) {r : Int32 × Wd} (hr : RTZ X cX2_isBest r) (a1 : Int32) (a2 : Int32) (a3 : Int32) (a4 : Int32) : ∀ (s0 : Int32) (w : Wd), fX2_isBest_18 N a1 a2 a3 a4 s0 w = some r → WW X (pcAt tX2_isBest 18) [some (.inr (.inr (6, 0))), some (.inl a1), some (.inl a2), some (.inl a3), some (.inl a4), none] [.inl s0] w := by
  intro s0 w h
  refine run_sound (r := r) (X := X) (cc := cX2_isBest) (own := RX2) (tab := tX2_isBest) G (by rw [hn]; exact kX2_isBest) (oI := (oF [])) (oL := (oF [])) (oV := (oF [])) (rI := retZ) (rL := (fun _ _ => none)) (rV := (fun _ => none))
    (K := (fun j ls st w => none)) hr (fun _ _ _ _ hx => by cases hx) (fun _ _ _ hx => by cases hx) hC (fun ls => lsb [some (.inr (.inr (6, 0))), some (.inl a1), some (.inl a2), some (.inl a3), some (.inl a4), none] 0 ls) (keepsP_of rfl) ?_ 50 18 [some (.inr (.inr (6, 0))), some (.inl a1), some (.inl a2), some (.inl a3), some (.inl a4), none] [.inl s0] w ?_ h
  · intro j ls st w hfx h
    obtain ⟨e0, e1, e2, e3, e4, -⟩ : _ = _ ∧ _ = _ ∧ _ = _ ∧ _ = _ ∧ _ = _ ∧ True := hfx
    try dsimp only at h
    cases h
  · exact (show _ = _ ∧ _ = _ ∧ _ = _ ∧ _ = _ ∧ _ = _ ∧ True from ⟨rfl, rfl, rfl, rfl, rfl, trivial⟩)
set_option maxRecDepth 100000 in
set_option maxHeartbeats 4000000 in
theorem crX2_isBest {N : Nat} {X : XT} (G : GX X cX2_isBest RX2) (hR : xR X = rmL 1) : CRs X tX2_isBest (oF []) (oF []) (oF []) := by
  have hl : tX2_isBest.filter isInv = [] := rfl
  intro e he
  rw [hl] at he
  cases he
set_option maxRecDepth 100000 in
set_option maxHeartbeats 4000000 in
theorem MX2_isBest (N : Nat) : SndI yX2_isBest cX2_isBest 6 (some .boolean) 1 5 true (mX2_isBest N) := by
  refine SndI.ofZ tX2_isBest (by decide +kernel) rfl rfl ?_ ?_
  · intro as w x h
    obtain ⟨t1, rfl, h_1⟩ := xS1_some h
    obtain ⟨a1, t2, rfl, h_2⟩ := xI1_some h_1
    obtain ⟨a2, t3, rfl, h_3⟩ := xI1_some h_2
    obtain ⟨a3, t4, rfl, h_4⟩ := xI1_some h_3
    obtain ⟨a4, t5, rfl, h_5⟩ := xI1_some h_4
    obtain ⟨rfl, h_6⟩ := xN1_some h_5
    clear h h_1 h_2 h_3 h_4 h_5
    have h := h_6
    rw [callW_eq] at h
    exact ⟨fun _ => ⟨_, _, _, rfl, rfl, _, rfl, rfl⟩, rfl, Nat.le_of_ble_eq_true rfl⟩
  · intro X G hn hR as w r h hr
    have hC := crX2_isBest (N := N) G hR
    obtain ⟨t1, rfl, h_1⟩ := xS1_some h
    obtain ⟨a1, t2, rfl, h_2⟩ := xI1_some h_1
    obtain ⟨a2, t3, rfl, h_3⟩ := xI1_some h_2
    obtain ⟨a3, t4, rfl, h_4⟩ := xI1_some h_3
    obtain ⟨a4, t5, rfl, h_5⟩ := xI1_some h_4
    obtain ⟨rfl, h_6⟩ := xN1_some h_5
    clear h h_1 h_2 h_3 h_4 h_5
    have h := h_6
    rw [callW_eq] at h
    refine run_sound (r := r) (X := X) (cc := cX2_isBest) (own := RX2) (tab := tX2_isBest) G (by rw [hn]; exact kX2_isBest) (oI := (oF [])) (oL := (oF [])) (oV := (oF [])) (rI := retZ) (rL := (fun _ _ => none)) (rV := (fun _ => none))
      (K := (fun j ls st w => if j = 18 then (po1 st fun s0 st => st0 st (callW (fX2_isBest_18 N a1 a2 a3 a4 s0) w)) else none)) hr (fun _ _ _ _ hx => by cases hx) (fun _ _ _ hx => by cases hx) hC (fun ls => lsb [some (.inr (.inr (6, 0))), some (.inl a1), some (.inl a2), some (.inl a3), some (.inl a4), none] 0 ls) (keepsP_of rfl) ?_ 50 0 [some (.inr (.inr (6, 0))), some (.inl a1), some (.inl a2), some (.inl a3), some (.inl a4), none] [] w ?_ h
    · intro j ls st w hfx h
      obtain ⟨e0, e1, e2, e3, e4, -⟩ : _ = _ ∧ _ = _ ∧ _ = _ ∧ _ = _ ∧ _ = _ ∧ True := hfx
      try dsimp only at h
      by_cases hj : j = 18
      · subst hj
        rw [if_pos rfl] at h
        obtain ⟨s0, st0, rfl, h_1⟩ := po1_some h
        obtain ⟨rfl, h_2⟩ := st0_some h_1
        clear h h_1
        have h := h_2
        try rw [callW_eq] at h
        exact WW.le (a := [some (.inr (.inr (6, 0))), some (.inl a1), some (.inl a2), some (.inl a3), some (.inl a4), none]) (by rw [hn]; rfl) (show _ = _ ∧ _ = _ ∧ _ = _ ∧ _ = _ ∧ _ = _ ∧ True from ⟨e0, e1, e2, e3, e4, trivial⟩) (sX2_isBest_18 G hn hC hr a1 a2 a3 a4 s0 w h)
      rw [if_neg hj] at h
      cases h
    · exact (show _ = _ ∧ _ = _ ∧ _ = _ ∧ _ = _ ∧ _ = _ ∧ True from ⟨rfl, rfl, rfl, rfl, rfl, trivial⟩)
-- MoorGuides$Leading.ableBehind(III)I
def tX2_ableBehind : List EN := [
  (0, .iconst 0, 0, 0, 0, 0, 0, []), (1, .istore 4, 0, 0, 0, 0, 0, []), (3, .iconst 0, 0, 0, 0, 0, 0, []), (4, .istore 5, 0, 0, 0, 0, 0, []),
  (6, .iload 5, 5, 0, 0, 0, 0, []), (8, .aload_n 0, 0, 0, 0, 0, 0, []), (9, .getfield 32, 0, 2, 0, 0, 0, []), (12, .getfield 43, 0, 9, 0, 0, 0, []),
  (15, .getfield 49, 0, 4, 4, 0, 0, []), (18, .getfield 55, 0, 6, 0, 0, 0, []), (21, .if_icmp .ge 67, 0, 43, 0, 0, 0, []), (24, .iconst 0, 0, 0, 0, 0, 0, []),
  (25, .istore 6, 0, 0, 0, 0, 0, []), (27, .iload 6, 14, 0, 0, 0, 0, []), (29, .aload_n 0, 0, 0, 0, 0, 0, []), (30, .getfield 32, 0, 2, 0, 0, 0, []),
  (33, .getfield 43, 0, 9, 0, 0, 0, []), (36, .getfield 49, 0, 4, 4, 0, 0, []), (39, .getfield 55, 0, 6, 0, 0, 0, []), (42, .if_icmp .ge 40, 0, 41, 0, 0, 0, []),
  (45, .iload_n 3, 0, 0, 0, 0, 0, []), (46, .iload 6, 0, 0, 0, 0, 0, []), (48, .ishr, 0, 0, 0, 0, 0, []), (49, .iconst 1, 0, 0, 0, 1, 0, []),
  (50, .iand, 0, 0, 0, 0, 0, []), (51, .ifCond .eq 25, 0, 39, 0, 0, 0, []), (54, .aload_n 0, 0, 0, 0, 0, 0, []), (55, .iload_n 1, 0, 0, 0, 0, 0, []),
  (56, .iload 6, 0, 0, 0, 0, 0, []), (58, .iload_n 2, 0, 0, 0, 0, 0, []), (59, .iload 5, 0, 0, 0, 0, 0, []), (61, .invokevirtual 113, 0, 0, 5, 0, 0, []),
  (64, .ifCond .eq 12, 0, 39, 0, 0, 0, []), (67, .iload 4, 0, 0, 0, 0, 0, []), (69, .iconst 1, 0, 0, 0, 1, 0, []), (70, .iload 5, 0, 0, 0, 0, 0, []),
  (72, .ishl, 0, 0, 0, 0, 0, []), (73, .ior, 0, 0, 0, 0, 0, []), (74, .istore 4, 0, 0, 0, 0, 0, []), (76, .iinc 6 1, 0, 0, 0, 1, 0, []),
  (79, .goto (-52), 0, 13, 0, 0, 0, []), (82, .iinc 5 1, 42, 0, 0, 1, 0, []), (85, .goto (-79), 0, 4, 0, 0, 0, []), (88, .iload 4, 0, 0, 0, 0, 0, []),
  (90, .ireturn, 0, 0, 0, 0, 0, [])]
noncomputable def fX2_ableBehind_41 (N : Nat) (a1 : Int32) (a2 : Int32) (a3 : Int32) (k4 : Int32 → Int32 → Wd → Option (Int32 × Wd)) (v4 : Int32) (v5 : Int32) (w : Wd) : Option (Int32 × Wd) :=
  k4 v4 (v5 + (1 : Int32)) w
noncomputable def fX2_ableBehind_13 (N : Nat) (a1 : Int32) (a2 : Int32) (a3 : Int32) : Nat → (Int32 → Int32 → Wd → Option (Int32 × Wd)) → Int32 → Int32 → Int32 → Wd → Option (Int32 × Wd)
  | 0, _, _, _, _, _ => none
  | n + 1, k41, v4, v5, v6, w =>
    if v6 < (gI w 10 (gR w 13 0 0) 0) then
      if ((a3 >>> (v6 &&& (31 : Int32))) &&& (1 : Int32)) = 0 then callW (fX2_ableBehind_13 N a1 a2 a3 n k41 v4 v5 (v6 + (1 : Int32))) w else
      (callW (pX2_isBest N a1 v6 a2 v5) w).bind fun r1 =>
      if r1.1 = 0 then callW (fX2_ableBehind_13 N a1 a2 a3 n k41 v4 v5 (v6 + (1 : Int32))) r1.2 else
      callW (fX2_ableBehind_13 N a1 a2 a3 n k41 (v4 ||| ((1 : Int32) <<< (v5 &&& (31 : Int32)))) v5 (v6 + (1 : Int32))) r1.2
    else
    k41 v4 v5 w
noncomputable def fX2_ableBehind_4 (N : Nat) (a1 : Int32) (a2 : Int32) (a3 : Int32) : Nat → Int32 → Int32 → Wd → Option (Int32 × Wd)
  | 0, _, _, _ => none
  | n + 1, v4, v5, w =>
    if v5 < (gI w 10 (gR w 13 0 0) 0) then
      callW (fX2_ableBehind_13 N a1 a2 a3 N (fX2_ableBehind_41 N a1 a2 a3 (fX2_ableBehind_4 N a1 a2 a3 n)) v4 v5 (0 : Int32)) w
    else
    some (v4, w)
noncomputable def pX2_ableBehind (N : Nat) (a1 : Int32) (a2 : Int32) (a3 : Int32) (w : Wd) : Option (Int32 × Wd) :=
  callW (fX2_ableBehind_4 N a1 a2 a3 N (0 : Int32) (0 : Int32)) w
noncomputable def mX2_ableBehind (N : Nat) (as : List AV) (w : Wd) : Option (Int32 × Wd) := xS1 6 as fun t => xI1 t fun a1 t => xI1 t fun a2 t => xI1 t fun a3 t => xN1 t (callW (pX2_ableBehind N a1 a2 a3) w)
set_option maxRecDepth 100000 in
set_option maxHeartbeats 4000000 in
theorem kX2_ableBehind : TK cX2_ableBehind RX2 7 tX2_ableBehind := ⟨by decide +kernel, wok_of [573, 517, 277, 194, 573, 517, 277, 194] (by decide +kernel) (by decide +kernel)⟩
set_option maxRecDepth 100000 in
set_option maxHeartbeats 4000000 in
theorem sX2_ableBehind_41 {N : Nat} {X : XT} (G : GX X cX2_ableBehind RX2) (hn : xnL X = 7) (hC : CRs X tX2_ableBehind (oF [(mX2_isBest N)]) (oF []) (oF [])) {r : Int32 × Wd} (hr : RTI X cX2_ableBehind r) (a1 : Int32) (a2 : Int32) (a3 : Int32) : ∀ (k4 : Int32 → Int32 → Wd → Option (Int32 × Wd)) (v4 : Int32) (v5 : Int32) (w : Wd), fX2_ableBehind_41 N a1 a2 a3 k4 v4 v5 w = some r → (∀ (v4 : Int32) (v5 : Int32) (w : Wd), k4 v4 v5 w = some r → WW X (pcAt tX2_ableBehind 4) [some (.inr (.inr (6, 0))), some (.inl a1), some (.inl a2), some (.inl a3), some (.inl v4), some (.inl v5), none] [] w) → WW X (pcAt tX2_ableBehind 41) [some (.inr (.inr (6, 0))), some (.inl a1), some (.inl a2), some (.inl a3), some (.inl v4), some (.inl v5), none] [] w := by
  intro k4 v4 v5 w h h4
  refine run_sound (r := r) (X := X) (cc := cX2_ableBehind) (own := RX2) (tab := tX2_ableBehind) G (by rw [hn]; exact kX2_ableBehind) (oI := (oF [(mX2_isBest N)])) (oL := (oF [])) (oV := (oF [])) (rI := (fun x w => some (x, w))) (rL := (fun _ _ => none)) (rV := (fun _ => none))
    (K := (fun j ls st w => if j = 4 then (lgI ls 4 fun v4 => lgI ls 5 fun v5 => st0 st (k4 v4 v5 w)) else none)) (fun x w pc ls hx hd => hr x w pc ls (Option.some.inj hx) hd) (fun _ _ _ _ hx => by cases hx) (fun _ _ _ hx => by cases hx) hC (fun ls => lsb [some (.inr (.inr (6, 0))), some (.inl a1), some (.inl a2), some (.inl a3), none, none, none] 0 ls) (keepsP_of rfl) ?_ 47 41 [some (.inr (.inr (6, 0))), some (.inl a1), some (.inl a2), some (.inl a3), some (.inl v4), some (.inl v5), none] [] w ?_ h
  · intro j ls st w hfx h
    obtain ⟨e0, e1, e2, e3, -⟩ : _ = _ ∧ _ = _ ∧ _ = _ ∧ _ = _ ∧ True := hfx
    try dsimp only at h
    by_cases hj : j = 4
    · subst hj
      rw [if_pos rfl] at h
      obtain ⟨v4, e4, h_1⟩ := lgI_some h
      obtain ⟨v5, e5, h_2⟩ := lgI_some h_1
      obtain ⟨rfl, h_3⟩ := st0_some h_2
      clear h h_1 h_2
      have h := h_3
      try rw [callW_eq] at h
      exact WW.le (a := [some (.inr (.inr (6, 0))), some (.inl a1), some (.inl a2), some (.inl a3), some (.inl v4), some (.inl v5), none]) (by rw [hn]; rfl) (show _ = _ ∧ _ = _ ∧ _ = _ ∧ _ = _ ∧ _ = _ ∧ _ = _ ∧ True from ⟨e0, e1, e2, e3, e4, e5, trivial⟩) (h4 v4 v5 w h)
    rw [if_neg hj] at h
    cases h
  · exact (show _ = _ ∧ _ = _ ∧ _ = _ ∧ _ = _ ∧ True from ⟨rfl, rfl, rfl, rfl, trivial⟩)
set_option maxRecDepth 100000 in
set_option maxHeartbeats 4000000 in
theorem sX2_ableBehind_13 {N : Nat} {X : XT} (G : GX X cX2_ableBehind RX2) (hn : xnL X = 7) (hC : CRs X tX2_ableBehind (oF [(mX2_isBest N)]) (oF []) (oF [])) {r : Int32 × Wd} (hr : RTI X cX2_ableBehind r) (a1 : Int32) (a2 : Int32) (a3 : Int32) : ∀ (n : Nat) (k41 : Int32 → Int32 → Wd → Option (Int32 × Wd)) (v4 : Int32) (v5 : Int32) (v6 : Int32) (w : Wd), fX2_ableBehind_13 N a1 a2 a3 n k41 v4 v5 v6 w = some r → (∀ (v4 : Int32) (v5 : Int32) (w : Wd), k41 v4 v5 w = some r → WW X (pcAt tX2_ableBehind 41) [some (.inr (.inr (6, 0))), some (.inl a1), some (.inl a2), some (.inl a3), some (.inl v4), some (.inl v5), none] [] w) → WW X (pcAt tX2_ableBehind 13) [some (.inr (.inr (6, 0))), some (.inl a1), some (.inl a2), some (.inl a3), some (.inl v4), some (.inl v5), some (.inl v6)] [] w := by
  intro n
  induction n with
  | zero => intro k41 v4 v5 v6 w h h41; cases h
  | succ n ih =>
    intro k41 v4 v5 v6 w h h41
    refine run_sound (r := r) (X := X) (cc := cX2_ableBehind) (own := RX2) (tab := tX2_ableBehind) G (by rw [hn]; exact kX2_ableBehind) (oI := (oF [(mX2_isBest N)])) (oL := (oF [])) (oV := (oF [])) (rI := (fun x w => some (x, w))) (rL := (fun _ _ => none)) (rV := (fun _ => none))
      (K := (fun j ls st w => if j = 13 then (lgI ls 4 fun v4 => lgI ls 5 fun v5 => lgI ls 6 fun v6 => st0 st (callW (fX2_ableBehind_13 N a1 a2 a3 n k41 v4 v5 v6) w)) else if j = 41 then (lgI ls 4 fun v4 => lgI ls 5 fun v5 => st0 st (k41 v4 v5 w)) else none)) (fun x w pc ls hx hd => hr x w pc ls (Option.some.inj hx) hd) (fun _ _ _ _ hx => by cases hx) (fun _ _ _ hx => by cases hx) hC (fun ls => lsb [some (.inr (.inr (6, 0))), some (.inl a1), some (.inl a2), some (.inl a3), none, none, none] 0 ls) (keepsP_of rfl) ?_ 47 13 [some (.inr (.inr (6, 0))), some (.inl a1), some (.inl a2), some (.inl a3), some (.inl v4), some (.inl v5), some (.inl v6)] [] w ?_ h
    · intro j ls st w hfx h
      obtain ⟨e0, e1, e2, e3, -⟩ : _ = _ ∧ _ = _ ∧ _ = _ ∧ _ = _ ∧ True := hfx
      try dsimp only at h
      by_cases hj : j = 13
      · subst hj
        rw [if_pos rfl] at h
        obtain ⟨v4, e4, h_1⟩ := lgI_some h
        obtain ⟨v5, e5, h_2⟩ := lgI_some h_1
        obtain ⟨v6, e6, h_3⟩ := lgI_some h_2
        obtain ⟨rfl, h_4⟩ := st0_some h_3
        clear h h_1 h_2 h_3
        have h := h_4
        try rw [callW_eq] at h
        exact WW.le (a := [some (.inr (.inr (6, 0))), some (.inl a1), some (.inl a2), some (.inl a3), some (.inl v4), some (.inl v5), some (.inl v6)]) (by rw [hn]; rfl) (show _ = _ ∧ _ = _ ∧ _ = _ ∧ _ = _ ∧ _ = _ ∧ _ = _ ∧ _ = _ ∧ True from ⟨e0, e1, e2, e3, e4, e5, e6, trivial⟩) (ih k41 v4 v5 v6 w h h41)
      rw [if_neg hj] at h
      by_cases hj : j = 41
      · subst hj
        rw [if_pos rfl] at h
        obtain ⟨v4, e4, h_1⟩ := lgI_some h
        obtain ⟨v5, e5, h_2⟩ := lgI_some h_1
        obtain ⟨rfl, h_3⟩ := st0_some h_2
        clear h h_1 h_2
        have h := h_3
        try rw [callW_eq] at h
        exact WW.le (a := [some (.inr (.inr (6, 0))), some (.inl a1), some (.inl a2), some (.inl a3), some (.inl v4), some (.inl v5), none]) (by rw [hn]; rfl) (show _ = _ ∧ _ = _ ∧ _ = _ ∧ _ = _ ∧ _ = _ ∧ _ = _ ∧ True from ⟨e0, e1, e2, e3, e4, e5, trivial⟩) (h41 v4 v5 w h)
      rw [if_neg hj] at h
      cases h
    · exact (show _ = _ ∧ _ = _ ∧ _ = _ ∧ _ = _ ∧ True from ⟨rfl, rfl, rfl, rfl, trivial⟩)
set_option maxRecDepth 100000 in
set_option maxHeartbeats 4000000 in
theorem sX2_ableBehind_4 {N : Nat} {X : XT} (G : GX X cX2_ableBehind RX2) (hn : xnL X = 7) (hC : CRs X tX2_ableBehind (oF [(mX2_isBest N)]) (oF []) (oF [])) {r : Int32 × Wd} (hr : RTI X cX2_ableBehind r) (a1 : Int32) (a2 : Int32) (a3 : Int32) : ∀ (n : Nat) (v4 : Int32) (v5 : Int32) (w : Wd), fX2_ableBehind_4 N a1 a2 a3 n v4 v5 w = some r → WW X (pcAt tX2_ableBehind 4) [some (.inr (.inr (6, 0))), some (.inl a1), some (.inl a2), some (.inl a3), some (.inl v4), some (.inl v5), none] [] w := by
  intro n
  induction n with
  | zero => intro v4 v5 w h; cases h
  | succ n ih =>
    intro v4 v5 w h
    refine run_sound (r := r) (X := X) (cc := cX2_ableBehind) (own := RX2) (tab := tX2_ableBehind) G (by rw [hn]; exact kX2_ableBehind) (oI := (oF [(mX2_isBest N)])) (oL := (oF [])) (oV := (oF [])) (rI := (fun x w => some (x, w))) (rL := (fun _ _ => none)) (rV := (fun _ => none))
      (K := (fun j ls st w => if j = 13 then (lgI ls 4 fun v4 => lgI ls 5 fun v5 => lgI ls 6 fun v6 => st0 st (callW (fX2_ableBehind_13 N a1 a2 a3 N (fX2_ableBehind_41 N a1 a2 a3 (fX2_ableBehind_4 N a1 a2 a3 n)) v4 v5 v6) w)) else none)) (fun x w pc ls hx hd => hr x w pc ls (Option.some.inj hx) hd) (fun _ _ _ _ hx => by cases hx) (fun _ _ _ hx => by cases hx) hC (fun ls => lsb [some (.inr (.inr (6, 0))), some (.inl a1), some (.inl a2), some (.inl a3), none, none, none] 0 ls) (keepsP_of rfl) ?_ 47 4 [some (.inr (.inr (6, 0))), some (.inl a1), some (.inl a2), some (.inl a3), some (.inl v4), some (.inl v5), none] [] w ?_ h
    · intro j ls st w hfx h
      obtain ⟨e0, e1, e2, e3, -⟩ : _ = _ ∧ _ = _ ∧ _ = _ ∧ _ = _ ∧ True := hfx
      try dsimp only at h
      by_cases hj : j = 13
      · subst hj
        rw [if_pos rfl] at h
        obtain ⟨v4, e4, h_1⟩ := lgI_some h
        obtain ⟨v5, e5, h_2⟩ := lgI_some h_1
        obtain ⟨v6, e6, h_3⟩ := lgI_some h_2
        obtain ⟨rfl, h_4⟩ := st0_some h_3
        clear h h_1 h_2 h_3
        have h := h_4
        try rw [callW_eq] at h
        exact WW.le (a := [some (.inr (.inr (6, 0))), some (.inl a1), some (.inl a2), some (.inl a3), some (.inl v4), some (.inl v5), some (.inl v6)]) (by rw [hn]; rfl) (show _ = _ ∧ _ = _ ∧ _ = _ ∧ _ = _ ∧ _ = _ ∧ _ = _ ∧ _ = _ ∧ True from ⟨e0, e1, e2, e3, e4, e5, e6, trivial⟩) (sX2_ableBehind_13 G hn hC hr a1 a2 a3 N (fX2_ableBehind_41 N a1 a2 a3 (fX2_ableBehind_4 N a1 a2 a3 n)) v4 v5 v6 w h (fun v4 v5 w h => (sX2_ableBehind_41 G hn hC hr a1 a2 a3 (fX2_ableBehind_4 N a1 a2 a3 n) v4 v5 w h (fun v4 v5 w h => (ih v4 v5 w h)))))
      rw [if_neg hj] at h
      cases h
    · exact (show _ = _ ∧ _ = _ ∧ _ = _ ∧ _ = _ ∧ True from ⟨rfl, rfl, rfl, rfl, trivial⟩)
set_option maxRecDepth 100000 in
set_option maxHeartbeats 4000000 in
theorem crX2_ableBehind {N : Nat} {X : XT} (G : GX X cX2_ableBehind RX2) (hR : xR X = rmL 2) : CRs X tX2_ableBehind (oF [(mX2_isBest N)]) (oF []) (oF []) := by
  have hl : tX2_ableBehind.filter isInv = [(61, .invokevirtual 113, 0, 0, 5, 0, 0, [])] := rfl
  intro e he
  rw [hl] at he
  simp only [List.mem_cons, List.not_mem_nil, or_false] at he
  rcases he with rfl
  · exact crI_V (idx := 113) G (by decide +kernel) (MX2_isBest N) (cw_of (ps := [1201, 1203, 49, 159, 1204]) (by decide +kernel) (by decide +kernel)) ⟨by decide +kernel, by decide +kernel, by decide +kernel⟩ (by unfold rmOk; rw [hR]; exact ⟨by decide, by decide⟩)
set_option maxRecDepth 100000 in
set_option maxHeartbeats 4000000 in
theorem MX2_ableBehind (N : Nat) : SndI yX2_ableBehind cX2_ableBehind 7 (some .int) 2 4 true (mX2_ableBehind N) := by
  refine SndI.of tX2_ableBehind (by decide +kernel) rfl rfl ?_ ?_
  · intro as w x h
    obtain ⟨t1, rfl, h_1⟩ := xS1_some h
    obtain ⟨a1, t2, rfl, h_2⟩ := xI1_some h_1
    obtain ⟨a2, t3, rfl, h_3⟩ := xI1_some h_2
    obtain ⟨a3, t4, rfl, h_4⟩ := xI1_some h_3
    obtain ⟨rfl, h_5⟩ := xN1_some h_4
    clear h h_1 h_2 h_3 h_4
    have h := h_5
    rw [callW_eq] at h
    exact ⟨fun _ => ⟨_, _, _, rfl, rfl, _, rfl, rfl⟩, rfl, Nat.le_of_ble_eq_true rfl⟩
  · intro X G hn hR as w r h hr
    have hC := crX2_ableBehind (N := N) G hR
    obtain ⟨t1, rfl, h_1⟩ := xS1_some h
    obtain ⟨a1, t2, rfl, h_2⟩ := xI1_some h_1
    obtain ⟨a2, t3, rfl, h_3⟩ := xI1_some h_2
    obtain ⟨a3, t4, rfl, h_4⟩ := xI1_some h_3
    obtain ⟨rfl, h_5⟩ := xN1_some h_4
    clear h h_1 h_2 h_3 h_4
    have h := h_5
    rw [callW_eq] at h
    refine run_sound (r := r) (X := X) (cc := cX2_ableBehind) (own := RX2) (tab := tX2_ableBehind) G (by rw [hn]; exact kX2_ableBehind) (oI := (oF [(mX2_isBest N)])) (oL := (oF [])) (oV := (oF [])) (rI := (fun x w => some (x, w))) (rL := (fun _ _ => none)) (rV := (fun _ => none))
      (K := (fun j ls st w => if j = 4 then (lgI ls 4 fun v4 => lgI ls 5 fun v5 => st0 st (callW (fX2_ableBehind_4 N a1 a2 a3 N v4 v5) w)) else none)) (fun x w pc ls hx hd => hr x w pc ls (Option.some.inj hx) hd) (fun _ _ _ _ hx => by cases hx) (fun _ _ _ hx => by cases hx) hC (fun ls => lsb [some (.inr (.inr (6, 0))), some (.inl a1), some (.inl a2), some (.inl a3), none, none, none] 0 ls) (keepsP_of rfl) ?_ 47 0 [some (.inr (.inr (6, 0))), some (.inl a1), some (.inl a2), some (.inl a3), none, none, none] [] w ?_ h
    · intro j ls st w hfx h
      obtain ⟨e0, e1, e2, e3, -⟩ : _ = _ ∧ _ = _ ∧ _ = _ ∧ _ = _ ∧ True := hfx
      try dsimp only at h
      by_cases hj : j = 4
      · subst hj
        rw [if_pos rfl] at h
        obtain ⟨v4, e4, h_1⟩ := lgI_some h
        obtain ⟨v5, e5, h_2⟩ := lgI_some h_1
        obtain ⟨rfl, h_3⟩ := st0_some h_2
        clear h h_1 h_2
        have h := h_3
        try rw [callW_eq] at h
        exact WW.le (a := [some (.inr (.inr (6, 0))), some (.inl a1), some (.inl a2), some (.inl a3), some (.inl v4), some (.inl v5), none]) (by rw [hn]; rfl) (show _ = _ ∧ _ = _ ∧ _ = _ ∧ _ = _ ∧ _ = _ ∧ _ = _ ∧ True from ⟨e0, e1, e2, e3, e4, e5, trivial⟩) (sX2_ableBehind_4 G hn hC hr a1 a2 a3 N v4 v5 w h)
      rw [if_neg hj] at h
      cases h
    · exact (show _ = _ ∧ _ = _ ∧ _ = _ ∧ _ = _ ∧ True from ⟨rfl, rfl, rfl, rfl, trivial⟩)
-- MoorGuides$Leading.chooseNext(I)V
def tX2_chooseNext : List EN := [
  (0, .aload_n 0, 0, 0, 0, 0, 0, []), (1, .getfield 26, 0, 2, 5, 0, 0, []), (4, .iload_n 1, 0, 0, 0, 0, 0, []), (5, .iconst 1, 0, 0, 0, 1, 0, []),
  (6, .isub, 0, 0, 0, 0, 0, []), (7, .iaload, 0, 0, 0, 0, 0, []), (8, .istore_n 2, 0, 0, 0, 0, 0, []), (9, .aload_n 0, 0, 0, 0, 0, 0, []),
  (10, .getfield 23, 0, 2, 4, 0, 0, []), (13, .iload_n 1, 0, 0, 0, 0, 0, []), (14, .iconst 0, 0, 0, 0, 0, 0, []), (15, .iastore, 0, 0, 0, 0, 0, []),
  (16, .iconst 0, 0, 0, 0, 0, 0, []), (17, .istore_n 3, 0, 0, 0, 0, 0, []), (18, .iload_n 3, 15, 0, 0, 0, 0, []), (19, .aload_n 0, 0, 0, 0, 0, 0, []),
  (20, .getfield 32, 0, 2, 0, 0, 0, []), (23, .getfield 43, 0, 9, 0, 0, 0, []), (26, .getfield 89, 0, 4, 0, 0, 0, []), (29, .if_icmp .ge 64, 0, 57, 0, 0, 0, []),
  (32, .aload_n 0, 0, 0, 0, 0, 0, []), (33, .getfield 23, 0, 2, 4, 0, 0, []), (36, .iload_n 1, 0, 0, 0, 0, 0, []), (37, .iaload, 0, 0, 0, 0, 0, []),
  (38, .ifCond .ne 55, 0, 57, 0, 0, 0, []), (41, .aload_n 0, 0, 0, 0, 0, 0, []), (42, .getfield 32, 0, 2, 0, 0, 0, []), (45, .getfield 43, 0, 9, 0, 0, 0, []),
  (48, .getfield 103, 0, 4, 3, 0, 0, []), (51, .iload_n 2, 0, 0, 0, 0, 0, []), (52, .iaload, 0, 0, 0, 0, 0, []), (53, .iload_n 3, 0, 0, 0, 0, 0, []),
  (54, .ishr, 0, 0, 0, 0, 0, []), (55, .iconst 1, 0, 0, 0, 1, 0, []), (56, .iand, 0, 0, 0, 0, 0, []), (57, .ifCond .eq 30, 0, 55, 0, 0, 0, []),
  (60, .aload_n 0, 0, 0, 0, 0, 0, []), (61, .getfield 26, 0, 2, 5, 0, 0, []), (64, .iload_n 1, 0, 0, 0, 0, 0, []), (65, .iload_n 3, 0, 0, 0, 0, 0, []),
  (66, .iastore, 0, 0, 0, 0, 0, []), (67, .aload_n 0, 0, 0, 0, 0, 0, []), (68, .getfield 23, 0, 2, 4, 0, 0, []), (71, .iload_n 1, 0, 0, 0, 0, 0, []),
  (72, .aload_n 0, 0, 0, 0, 0, 0, []), (73, .iload_n 2, 0, 0, 0, 0, 0, []), (74, .iload_n 3, 0, 0, 0, 0, 0, []), (75, .aload_n 0, 0, 0, 0, 0, 0, []),
  (76, .getfield 23, 0, 2, 4, 0, 0, []), (79, .iload_n 1, 0, 0, 0, 0, 0, []), (80, .iconst 1, 0, 0, 0, 1, 0, []), (81, .isub, 0, 0, 0, 0, 0, []),
  (82, .iaload, 0, 0, 0, 0, 0, []), (83, .invokevirtual 109, 0, 0, 4, 0, 0, []), (86, .iastore, 0, 0, 0, 0, 0, []), (87, .iinc 3 1, 0, 0, 0, 1, 0, []),
  (90, .goto (-72), 0, 14, 0, 0, 0, []), (93, .return_, 0, 0, 0, 0, 0, [])]
noncomputable def fX2_chooseNext_14 (N : Nat) (a1 : Int32) : Nat → Int32 → Int32 → Wd → Option (Wd)
  | 0, _, _, _ => none
  | n + 1, v2, v3, w =>
    if v3 < (gI w 8 (gR w 13 0 0) 0) then
      (ldI w 27 0 a1 8).bind fun x1 =>
      if x1 = 0 then
        (ldI w 32 (gR w 13 0 0) v2 8).bind fun x2 =>
        if ((x2 >>> (v3 &&& (31 : Int32))) &&& (1 : Int32)) = 0 then callW (fX2_chooseNext_14 N a1 n v2 (v3 + (1 : Int32))) w else
        (stI w 28 0 a1 8 v3).bind fun w3 =>
        (ldI w3 27 0 (a1 - (1 : Int32)) 8).bind fun x4 =>
        (callW (pX2_ableBehind N v2 v3 x4) w3).bind fun r5 =>
        (stI r5.2 27 0 a1 8 r5.1).bind fun w6 =>
        callW (fX2_chooseNext_14 N a1 n v2 (v3 + (1 : Int32))) w6
      else
      some w
    else
    some w
noncomputable def pX2_chooseNext (N : Nat) (a1 : Int32) (w : Wd) : Option (Wd) :=
  (ldI w 28 0 (a1 - (1 : Int32)) 8).bind fun x1 =>
  (stI w 27 0 a1 8 (0 : Int32)).bind fun w2 =>
  callW (fX2_chooseNext_14 N a1 N x1 (0 : Int32)) w2
noncomputable def mX2_chooseNext (N : Nat) (as : List AV) (w : Wd) : Option (Wd) := xS1 6 as fun t => xI1 t fun a1 t => xN1 t (callW (pX2_chooseNext N a1) w)
set_option maxRecDepth 100000 in
set_option maxHeartbeats 4000000 in
theorem kX2_chooseNext : TK cX2_chooseNext RX2 4 tX2_chooseNext := ⟨by decide +kernel, wok_of [578, 577, 573, 517, 259, 577, 573, 517, 273, 578, 577, 577] (by decide +kernel) (by decide +kernel)⟩
set_option maxRecDepth 100000 in
set_option maxHeartbeats 4000000 in
theorem sX2_chooseNext_14 {N : Nat} {X : XT} (G : GX X cX2_chooseNext RX2) (hn : xnL X = 4) (hC : CRs X tX2_chooseNext (oF [(mX2_ableBehind N)]) (oF []) (oF [])) {r : Wd} (hr : RTV X cX2_chooseNext r) (a1 : Int32) : ∀ (n : Nat) (v2 : Int32) (v3 : Int32) (w : Wd), fX2_chooseNext_14 N a1 n v2 v3 w = some r → WW X (pcAt tX2_chooseNext 14) [some (.inr (.inr (6, 0))), some (.inl a1), some (.inl v2), some (.inl v3)] [] w := by
  intro n
  induction n with
  | zero => intro v2 v3 w h; cases h
  | succ n ih =>
    intro v2 v3 w h
    refine run_sound (r := r) (X := X) (cc := cX2_chooseNext) (own := RX2) (tab := tX2_chooseNext) G (by rw [hn]; exact kX2_chooseNext) (oI := (oF [(mX2_ableBehind N)])) (oL := (oF [])) (oV := (oF [])) (rI := (fun _ _ => none)) (rL := (fun _ _ => none)) (rV := (fun w => some w))
      (K := (fun j ls st w => if j = 14 then (lgI ls 2 fun v2 => lgI ls 3 fun v3 => st0 st (callW (fX2_chooseNext_14 N a1 n v2 v3) w)) else none)) (fun _ _ _ _ hx => by cases hx) (fun _ _ _ _ hx => by cases hx) (fun w pc ls hx hd => hr w pc ls (Option.some.inj hx) hd) hC (fun ls => lsb [some (.inr (.inr (6, 0))), some (.inl a1), none, none] 0 ls) (keepsP_of rfl) ?_ 60 14 [some (.inr (.inr (6, 0))), some (.inl a1), some (.inl v2), some (.inl v3)] [] w ?_ h
    · intro j ls st w hfx h
      obtain ⟨e0, e1, -⟩ : _ = _ ∧ _ = _ ∧ True := hfx
      try dsimp only at h
      by_cases hj : j = 14
      · subst hj
        rw [if_pos rfl] at h
        obtain ⟨v2, e2, h_1⟩ := lgI_some h
        obtain ⟨v3, e3, h_2⟩ := lgI_some h_1
        obtain ⟨rfl, h_3⟩ := st0_some h_2
        clear h h_1 h_2
        have h := h_3
        try rw [callW_eq] at h
        exact WW.le (a := [some (.inr (.inr (6, 0))), some (.inl a1), some (.inl v2), some (.inl v3)]) (by rw [hn]; rfl) (show _ = _ ∧ _ = _ ∧ _ = _ ∧ _ = _ ∧ True from ⟨e0, e1, e2, e3, trivial⟩) (ih v2 v3 w h)
      rw [if_neg hj] at h
      cases h
    · exact (show _ = _ ∧ _ = _ ∧ True from ⟨rfl, rfl, trivial⟩)
set_option maxRecDepth 100000 in
set_option maxHeartbeats 4000000 in
theorem crX2_chooseNext {N : Nat} {X : XT} (G : GX X cX2_chooseNext RX2) (hR : xR X = rmL 3) : CRs X tX2_chooseNext (oF [(mX2_ableBehind N)]) (oF []) (oF []) := by
  have hl : tX2_chooseNext.filter isInv = [(83, .invokevirtual 109, 0, 0, 4, 0, 0, [])] := rfl
  intro e he
  rw [hl] at he
  simp only [List.mem_cons, List.not_mem_nil, or_false] at he
  rcases he with rfl
  · exact crI_V (idx := 109) G (by decide +kernel) (MX2_ableBehind N) (cw_of (ps := [1197, 1199, 48, 159, 1200]) (by decide +kernel) (by decide +kernel)) ⟨by decide +kernel, by decide +kernel, by decide +kernel⟩ (by unfold rmOk; rw [hR]; exact ⟨by decide, by decide⟩)
set_option maxRecDepth 100000 in
set_option maxHeartbeats 4000000 in
theorem MX2_chooseNext (N : Nat) : SndV yX2_chooseNext cX2_chooseNext 4 none 3 2 true (mX2_chooseNext N) := by
  refine SndV.of tX2_chooseNext (by decide +kernel) rfl rfl ?_ ?_
  · intro as w x h
    obtain ⟨t1, rfl, h_1⟩ := xS1_some h
    obtain ⟨a1, t2, rfl, h_2⟩ := xI1_some h_1
    obtain ⟨rfl, h_3⟩ := xN1_some h_2
    clear h h_1 h_2
    have h := h_3
    rw [callW_eq] at h
    exact ⟨fun _ => ⟨_, _, _, rfl, rfl, _, rfl, rfl⟩, rfl, Nat.le_of_ble_eq_true rfl⟩
  · intro X G hn hR as w r h hr
    have hC := crX2_chooseNext (N := N) G hR
    obtain ⟨t1, rfl, h_1⟩ := xS1_some h
    obtain ⟨a1, t2, rfl, h_2⟩ := xI1_some h_1
    obtain ⟨rfl, h_3⟩ := xN1_some h_2
    clear h h_1 h_2
    have h := h_3
    rw [callW_eq] at h
    refine run_sound (r := r) (X := X) (cc := cX2_chooseNext) (own := RX2) (tab := tX2_chooseNext) G (by rw [hn]; exact kX2_chooseNext) (oI := (oF [(mX2_ableBehind N)])) (oL := (oF [])) (oV := (oF [])) (rI := (fun _ _ => none)) (rL := (fun _ _ => none)) (rV := (fun w => some w))
      (K := (fun j ls st w => if j = 14 then (lgI ls 2 fun v2 => lgI ls 3 fun v3 => st0 st (callW (fX2_chooseNext_14 N a1 N v2 v3) w)) else none)) (fun _ _ _ _ hx => by cases hx) (fun _ _ _ _ hx => by cases hx) (fun w pc ls hx hd => hr w pc ls (Option.some.inj hx) hd) hC (fun ls => lsb [some (.inr (.inr (6, 0))), some (.inl a1), none, none] 0 ls) (keepsP_of rfl) ?_ 60 0 [some (.inr (.inr (6, 0))), some (.inl a1), none, none] [] w ?_ h
    · intro j ls st w hfx h
      obtain ⟨e0, e1, -⟩ : _ = _ ∧ _ = _ ∧ True := hfx
      try dsimp only at h
      by_cases hj : j = 14
      · subst hj
        rw [if_pos rfl] at h
        obtain ⟨v2, e2, h_1⟩ := lgI_some h
        obtain ⟨v3, e3, h_2⟩ := lgI_some h_1
        obtain ⟨rfl, h_3⟩ := st0_some h_2
        clear h h_1 h_2
        have h := h_3
        try rw [callW_eq] at h
        exact WW.le (a := [some (.inr (.inr (6, 0))), some (.inl a1), some (.inl v2), some (.inl v3)]) (by rw [hn]; rfl) (show _ = _ ∧ _ = _ ∧ _ = _ ∧ _ = _ ∧ True from ⟨e0, e1, e2, e3, trivial⟩) (sX2_chooseNext_14 G hn hC hr a1 N v2 v3 w h)
      rw [if_neg hj] at h
      cases h
    · exact (show _ = _ ∧ _ = _ ∧ True from ⟨rfl, rfl, trivial⟩)
-- MoorGuides$Leading.followParts(II)V
def tX2_followParts : List EN := [
  (0, .aload_n 0, 0, 0, 0, 0, 0, []), (1, .getfield 26, 0, 2, 5, 0, 0, []), (4, .iconst 0, 0, 0, 0, 0, 0, []), (5, .iload_n 1, 0, 0, 0, 0, 0, []),
  (6, .iastore, 0, 0, 0, 0, 0, []), (7, .aload_n 0, 0, 0, 0, 0, 0, []), (8, .getfield 23, 0, 2, 4, 0, 0, []), (11, .iconst 0, 0, 0, 0, 0, 0, []),
  (12, .iconst 0, 0, 0, 0, 0, 0, []), (13, .iastore, 0, 0, 0, 0, 0, []), (14, .iconst 0, 0, 0, 0, 0, 0, []), (15, .istore_n 3, 0, 0, 0, 0, 0, []),
  (16, .iload_n 3, 13, 0, 0, 0, 0, []), (17, .aload_n 0, 0, 0, 0, 0, 0, []), (18, .getfield 32, 0, 2, 0, 0, 0, []), (21, .getfield 43, 0, 9, 0, 0, 0, []),
  (24, .getfield 49, 0, 4, 4, 0, 0, []), (27, .getfield 55, 0, 6, 0, 0, 0, []), (30, .if_icmp .ge 38, 0, 42, 0, 0, 0, []), (33, .aload_n 0, 0, 0, 0, 0, 0, []),
  (34, .getfield 17, 0, 2, 2, 0, 0, []), (37, .iload_n 1, 0, 0, 0, 0, 0, []), (38, .aaload, 0, 0, 0, 0, 0, []), (39, .iload_n 3, 0, 0, 0, 0, 0, []),
  (40, .iaload, 0, 0, 0, 0, 0, []), (41, .aload_n 0, 0, 0, 0, 0, 0, []), (42, .getfield 20, 0, 2, 3, 0, 0, []), (45, .iload_n 1, 0, 0, 0, 0, 0, []),
  (46, .iaload, 0, 0, 0, 0, 0, []), (47, .if_icmp .ne 15, 0, 40, 0, 0, 0, []), (50, .aload_n 0, 0, 0, 0, 0, 0, []), (51, .getfield 23, 0, 2, 4, 0, 0, []),
  (54, .iconst 0, 0, 0, 0, 0, 0, []), (55, .dup2, 0, 0, 0, 0, 0, []), (56, .iaload, 0, 0, 0, 0, 0, []), (57, .iconst 1, 0, 0, 0, 1, 0, []),
  (58, .iload_n 3, 0, 0, 0, 0, 0, []), (59, .ishl, 0, 0, 0, 0, 0, []), (60, .ior, 0, 0, 0, 0, 0, []), (61, .iastore, 0, 0, 0, 0, 0, []),
  (62, .iinc 3 1, 0, 0, 0, 1, 0, []), (65, .goto (-49), 0, 12, 0, 0, 0, []), (68, .aload_n 0, 43, 0, 0, 0, 0, []), (69, .iload_n 2, 0, 0, 0, 0, 0, []),
  (70, .bipush 8, 0, 0, 0, 8, 0, []), (72, .invokestatic 98, 0, 0, 2, 0, 0, []), (75, .putfield 36, 0, 2, 7, 0, 0, []), (78, .iconst 1, 0, 0, 0, 1, 0, []),
  (79, .istore_n 3, 0, 0, 0, 0, 0, []), (80, .iload_n 3, 50, 0, 0, 0, 0, []), (81, .aload_n 0, 0, 0, 0, 0, 0, []), (82, .getfield 36, 0, 2, 7, 0, 0, []),
  (85, .if_icmp .ge 14, 0, 58, 0, 0, 0, []), (88, .aload_n 0, 0, 0, 0, 0, 0, []), (89, .iload_n 3, 0, 0, 0, 0, 0, []), (90, .invokevirtual 106, 0, 0, 2, 0, 0, [(0, 0), (0, 0)]),
  (93, .iinc 3 1, 0, 0, 0, 1, 0, []), (96, .goto (-16), 0, 49, 0, 0, 0, []), (99, .return_, 0, 0, 0, 0, 0, [])]
noncomputable def fX2_followParts_49 (N : Nat) : Nat → Int32 → Wd → Option (Wd)
  | 0, _, _ => none
  | n + 1, v3, w =>
    if v3 < (gI w 6 0 7) then
      (callW (pX2_chooseNext N v3) w).bind fun w1 =>
      callW (fX2_followParts_49 N n (v3 + (1 : Int32))) w1
    else
    some w
noncomputable def fX2_followParts_42 (N : Nat) (a2 : Int32) (w : Wd) : Option (Wd) :=
  (callW (pJ9_min_7cf53 N a2 (8 : Int32)) w).bind fun r1 =>
  callW (fX2_followParts_49 N N (1 : Int32)) (setI r1.2 6 0 7 r1.1)
noncomputable def fX2_followParts_12 (N : Nat) (a1 : Int32) (a2 : Int32) : Nat → (Wd → Option (Wd)) → Int32 → Wd → Option (Wd)
  | 0, _, _, _ => none
  | n + 1, k42, v3, w =>
    if v3 < (gI w 10 (gR w 13 0 0) 0) then
      (ldR a1 8 0).bind fun q1 =>
      (ldI w 25 q1 v3 6).bind fun x2 =>
      (ldI w 26 0 a1 8).bind fun x3 =>
      if x2 = x3 then
        (ldI w 27 0 (0 : Int32) 8).bind fun x4 =>
        (stI w 27 0 (0 : Int32) 8 (x4 ||| ((1 : Int32) <<< (v3 &&& (31 : Int32))))).bind fun w5 =>
        callW (fX2_followParts_12 N a1 a2 n k42 (v3 + (1 : Int32))) w5
      else
      callW (fX2_followParts_12 N a1 a2 n k42 (v3 + (1 : Int32))) w
    else
    k42 w
noncomputable def pX2_followParts (N : Nat) (a1 : Int32) (a2 : Int32) (w : Wd) : Option (Wd) :=
  (stI w 28 0 (0 : Int32) 8 a1).bind fun w1 =>
  (stI w1 27 0 (0 : Int32) 8 (0 : Int32)).bind fun w2 =>
  callW (fX2_followParts_12 N a1 a2 N (fX2_followParts_42 N a2) (0 : Int32)) w2
noncomputable def mX2_followParts (N : Nat) (as : List AV) (w : Wd) : Option (Wd) := xS1 6 as fun t => xI1 t fun a1 t => xI1 t fun a2 t => xN1 t (callW (pX2_followParts N a1 a2) w)
set_option maxRecDepth 100000 in
set_option maxHeartbeats 4000000 in
theorem kX2_followParts : TK cX2_followParts RX2 4 tX2_followParts := ⟨by decide +kernel, wok_of [578, 577, 573, 517, 277, 194, 575, 576, 577, 582, 582] (by decide +kernel) (by decide +kernel)⟩
set_option maxRecDepth 100000 in
set_option maxHeartbeats 4000000 in
theorem sX2_followParts_49 {N : Nat} {X : XT} (G : GX X cX2_followParts RX2) (hn : xnL X = 4) (hC : CRs X tX2_followParts (oF [(mJ9_min_7cf53 N)]) (oF []) (oF [(mX2_chooseNext N)])) {r : Wd} (hr : RTV X cX2_followParts r) (a1 : Int32) (a2 : Int32) : ∀ (n : Nat) (v3 : Int32) (w : Wd), fX2_followParts_49 N n v3 w = some r → WW X (pcAt tX2_followParts 49) [some (.inr (.inr (6, 0))), some (.inl a1), some (.inl a2), some (.inl v3)] [] w := by
  intro n
  induction n with
  | zero => intro v3 w h; cases h
  | succ n ih =>
    intro v3 w h
    refine run_sound (r := r) (X := X) (cc := cX2_followParts) (own := RX2) (tab := tX2_followParts) G (by rw [hn]; exact kX2_followParts) (oI := (oF [(mJ9_min_7cf53 N)])) (oL := (oF [])) (oV := (oF [(mX2_chooseNext N)])) (rI := (fun _ _ => none)) (rL := (fun _ _ => none)) (rV := (fun w => some w))
      (K := (fun j ls st w => if j = 49 then (lgI ls 3 fun v3 => st0 st (callW (fX2_followParts_49 N n v3) w)) else none)) (fun _ _ _ _ hx => by cases hx) (fun _ _ _ _ hx => by cases hx) (fun w pc ls hx hd => hr w pc ls (Option.some.inj hx) hd) hC (fun ls => lsb [some (.inr (.inr (6, 0))), some (.inl a1), some (.inl a2), none] 0 ls) (keepsP_of rfl) ?_ 61 49 [some (.inr (.inr (6, 0))), some (.inl a1), some (.inl a2), some (.inl v3)] [] w ?_ h
    · intro j ls st w hfx h
      obtain ⟨e0, e1, e2, -⟩ : _ = _ ∧ _ = _ ∧ _ = _ ∧ True := hfx
      try dsimp only at h
      by_cases hj : j = 49
      · subst hj
        rw [if_pos rfl] at h
        obtain ⟨v3, e3, h_1⟩ := lgI_some h
        obtain ⟨rfl, h_2⟩ := st0_some h_1
        clear h h_1
        have h := h_2
        try rw [callW_eq] at h
        exact WW.le (a := [some (.inr (.inr (6, 0))), some (.inl a1), some (.inl a2), some (.inl v3)]) (by rw [hn]; rfl) (show _ = _ ∧ _ = _ ∧ _ = _ ∧ _ = _ ∧ True from ⟨e0, e1, e2, e3, trivial⟩) (ih v3 w h)
      rw [if_neg hj] at h
      cases h
    · exact (show _ = _ ∧ _ = _ ∧ _ = _ ∧ True from ⟨rfl, rfl, rfl, trivial⟩)
set_option maxRecDepth 100000 in
set_option maxHeartbeats 4000000 in
theorem sX2_followParts_42 {N : Nat} {X : XT} (G : GX X cX2_followParts RX2) (hn : xnL X = 4) (hC : CRs X tX2_followParts (oF [(mJ9_min_7cf53 N)]) (oF []) (oF [(mX2_chooseNext N)])) {r : Wd} (hr : RTV X cX2_followParts r) (a1 : Int32) (a2 : Int32) : ∀ (w : Wd), fX2_followParts_42 N a2 w = some r → WW X (pcAt tX2_followParts 42) [some (.inr (.inr (6, 0))), some (.inl a1), some (.inl a2), none] [] w := by
  intro w h
  refine run_sound (r := r) (X := X) (cc := cX2_followParts) (own := RX2) (tab := tX2_followParts) G (by rw [hn]; exact kX2_followParts) (oI := (oF [(mJ9_min_7cf53 N)])) (oL := (oF [])) (oV := (oF [(mX2_chooseNext N)])) (rI := (fun _ _ => none)) (rL := (fun _ _ => none)) (rV := (fun w => some w))
    (K := (fun j ls st w => if j = 49 then (lgI ls 3 fun v3 => st0 st (callW (fX2_followParts_49 N N v3) w)) else none)) (fun _ _ _ _ hx => by cases hx) (fun _ _ _ _ hx => by cases hx) (fun w pc ls hx hd => hr w pc ls (Option.some.inj hx) hd) hC (fun ls => lsb [some (.inr (.inr (6, 0))), some (.inl a1), some (.inl a2), none] 0 ls) (keepsP_of rfl) ?_ 61 42 [some (.inr (.inr (6, 0))), some (.inl a1), some (.inl a2), none] [] w ?_ h
  · intro j ls st w hfx h
    obtain ⟨e0, e1, e2, -⟩ : _ = _ ∧ _ = _ ∧ _ = _ ∧ True := hfx
    try dsimp only at h
    by_cases hj : j = 49
    · subst hj
      rw [if_pos rfl] at h
      obtain ⟨v3, e3, h_1⟩ := lgI_some h
      obtain ⟨rfl, h_2⟩ := st0_some h_1
      clear h h_1
      have h := h_2
      try rw [callW_eq] at h
      exact WW.le (a := [some (.inr (.inr (6, 0))), some (.inl a1), some (.inl a2), some (.inl v3)]) (by rw [hn]; rfl) (show _ = _ ∧ _ = _ ∧ _ = _ ∧ _ = _ ∧ True from ⟨e0, e1, e2, e3, trivial⟩) (sX2_followParts_49 G hn hC hr a1 a2 N v3 w h)
    rw [if_neg hj] at h
    cases h
  · exact (show _ = _ ∧ _ = _ ∧ _ = _ ∧ True from ⟨rfl, rfl, rfl, trivial⟩)
set_option maxRecDepth 100000 in
set_option maxHeartbeats 4000000 in
theorem sX2_followParts_12 {N : Nat} {X : XT} (G : GX X cX2_followParts RX2) (hn : xnL X = 4) (hC : CRs X tX2_followParts (oF [(mJ9_min_7cf53 N)]) (oF []) (oF [(mX2_chooseNext N)])) {r : Wd} (hr : RTV X cX2_followParts r) (a1 : Int32) (a2 : Int32) : ∀ (n : Nat) (k42 : Wd → Option (Wd)) (v3 : Int32) (w : Wd), fX2_followParts_12 N a1 a2 n k42 v3 w = some r → (∀ (w : Wd), k42 w = some r → WW X (pcAt tX2_followParts 42) [some (.inr (.inr (6, 0))), some (.inl a1), some (.inl a2), none] [] w) → WW X (pcAt tX2_followParts 12) [some (.inr (.inr (6, 0))), some (.inl a1), some (.inl a2), some (.inl v3)] [] w := by
  intro n
  induction n with
  | zero => intro k42 v3 w h h42; cases h
  | succ n ih =>
    intro k42 v3 w h h42
    refine run_sound (r := r) (X := X) (cc := cX2_followParts) (own := RX2) (tab := tX2_followParts) G (by rw [hn]; exact kX2_followParts) (oI := (oF [(mJ9_min_7cf53 N)])) (oL := (oF [])) (oV := (oF [(mX2_chooseNext N)])) (rI := (fun _ _ => none)) (rL := (fun _ _ => none)) (rV := (fun w => some w))
      (K := (fun j ls st w => if j = 12 then (lgI ls 3 fun v3 => st0 st (callW (fX2_followParts_12 N a1 a2 n k42 v3) w)) else if j = 42 then (st0 st (k42 w)) else none)) (fun _ _ _ _ hx => by cases hx) (fun _ _ _ _ hx => by cases hx) (fun w pc ls hx hd => hr w pc ls (Option.some.inj hx) hd) hC (fun ls => lsb [some (.inr (.inr (6, 0))), some (.inl a1), some (.inl a2), none] 0 ls) (keepsP_of rfl) ?_ 61 12 [some (.inr (.inr (6, 0))), some (.inl a1), some (.inl a2), some (.inl v3)] [] w ?_ h
    · intro j ls st w hfx h
      obtain ⟨e0, e1, e2, -⟩ : _ = _ ∧ _ = _ ∧ _ = _ ∧ True := hfx
      try dsimp only at h
      by_cases hj : j = 12
      · subst hj
        rw [if_pos rfl] at h
        obtain ⟨v3, e3, h_1⟩ := lgI_some h
        obtain ⟨rfl, h_2⟩ := st0_some h_1
        clear h h_1
        have h := h_2
        try rw [callW_eq] at h
        exact WW.le (a := [some (.inr (.inr (6, 0))), some (.inl a1), some (.inl a2), some (.inl v3)]) (by rw [hn]; rfl) (show _ = _ ∧ _ = _ ∧ _ = _ ∧ _ = _ ∧ True from ⟨e0, e1, e2, e3, trivial⟩) (ih k42 v3 w h h42)
      rw [if_neg hj] at h
      by_cases hj : j = 42
      · subst hj
        rw [if_pos rfl] at h
        obtain ⟨rfl, h_1⟩ := st0_some h
        clear h
        have h := h_1
        try rw [callW_eq] at h
        exact WW.le (a := [some (.inr (.inr (6, 0))), some (.inl a1), some (.inl a2), none]) (by rw [hn]; rfl) (show _ = _ ∧ _ = _ ∧ _ = _ ∧ True from ⟨e0, e1, e2, trivial⟩) (h42 w h)
      rw [if_neg hj] at h
      cases h
    · exact (show _ = _ ∧ _ = _ ∧ _ = _ ∧ True from ⟨rfl, rfl, rfl, trivial⟩)
set_option maxRecDepth 100000 in
set_option maxHeartbeats 4000000 in
theorem crX2_followParts {N : Nat} {X : XT} (G : GX X cX2_followParts RX2) (hR : xR X = rmL 4) : CRs X tX2_followParts (oF [(mJ9_min_7cf53 N)]) (oF []) (oF [(mX2_chooseNext N)]) := by
  have hl : tX2_followParts.filter isInv = [(72, .invokestatic 98, 0, 0, 2, 0, 0, []), (90, .invokevirtual 106, 0, 0, 2, 0, 0, [(0, 0), (0, 0)])] := rfl
  intro e he
  rw [hl] at he
  simp only [List.mem_cons, List.not_mem_nil, or_false] at he
  rcases he with rfl | rfl
  · exact crI_S (idx := 98) G (by decide +kernel) (MJ9_min_7cf53 N) (cw_of (ps := [1188, 808, 165, 809]) (by decide +kernel) (by decide +kernel)) ⟨by decide +kernel, by decide +kernel, by decide +kernel⟩ (by unfold rmOk; rw [hR]; exact ⟨by decide, by decide⟩)
  · exact crV_V (idx := 106) G (by decide +kernel) (MX2_chooseNext N) (cw_of (ps := [1193, 1195, 47, 159, 1196]) (by decide +kernel) (by decide +kernel)) ⟨by decide +kernel, by decide +kernel, by decide +kernel⟩ (by unfold rmOk; rw [hR]; exact ⟨by decide, by decide⟩)
set_option maxRecDepth 100000 in
set_option maxHeartbeats 4000000 in
theorem MX2_followParts (N : Nat) : SndV yX2_followParts cX2_followParts 4 none 4 3 true (mX2_followParts N) := by
  refine SndV.of tX2_followParts (by decide +kernel) rfl rfl ?_ ?_
  · intro as w x h
    obtain ⟨t1, rfl, h_1⟩ := xS1_some h
    obtain ⟨a1, t2, rfl, h_2⟩ := xI1_some h_1
    obtain ⟨a2, t3, rfl, h_3⟩ := xI1_some h_2
    obtain ⟨rfl, h_4⟩ := xN1_some h_3
    clear h h_1 h_2 h_3
    have h := h_4
    rw [callW_eq] at h
    exact ⟨fun _ => ⟨_, _, _, rfl, rfl, _, rfl, rfl⟩, rfl, Nat.le_of_ble_eq_true rfl⟩
  · intro X G hn hR as w r h hr
    have hC := crX2_followParts (N := N) G hR
    obtain ⟨t1, rfl, h_1⟩ := xS1_some h
    obtain ⟨a1, t2, rfl, h_2⟩ := xI1_some h_1
    obtain ⟨a2, t3, rfl, h_3⟩ := xI1_some h_2
    obtain ⟨rfl, h_4⟩ := xN1_some h_3
    clear h h_1 h_2 h_3
    have h := h_4
    rw [callW_eq] at h
    refine run_sound (r := r) (X := X) (cc := cX2_followParts) (own := RX2) (tab := tX2_followParts) G (by rw [hn]; exact kX2_followParts) (oI := (oF [(mJ9_min_7cf53 N)])) (oL := (oF [])) (oV := (oF [(mX2_chooseNext N)])) (rI := (fun _ _ => none)) (rL := (fun _ _ => none)) (rV := (fun w => some w))
      (K := (fun j ls st w => if j = 12 then (lgI ls 3 fun v3 => st0 st (callW (fX2_followParts_12 N a1 a2 N (fX2_followParts_42 N a2) v3) w)) else none)) (fun _ _ _ _ hx => by cases hx) (fun _ _ _ _ hx => by cases hx) (fun w pc ls hx hd => hr w pc ls (Option.some.inj hx) hd) hC (fun ls => lsb [some (.inr (.inr (6, 0))), some (.inl a1), some (.inl a2), none] 0 ls) (keepsP_of rfl) ?_ 61 0 [some (.inr (.inr (6, 0))), some (.inl a1), some (.inl a2), none] [] w ?_ h
    · intro j ls st w hfx h
      obtain ⟨e0, e1, e2, -⟩ : _ = _ ∧ _ = _ ∧ _ = _ ∧ True := hfx
      try dsimp only at h
      by_cases hj : j = 12
      · subst hj
        rw [if_pos rfl] at h
        obtain ⟨v3, e3, h_1⟩ := lgI_some h
        obtain ⟨rfl, h_2⟩ := st0_some h_1
        clear h h_1
        have h := h_2
        try rw [callW_eq] at h
        exact WW.le (a := [some (.inr (.inr (6, 0))), some (.inl a1), some (.inl a2), some (.inl v3)]) (by rw [hn]; rfl) (show _ = _ ∧ _ = _ ∧ _ = _ ∧ _ = _ ∧ True from ⟨e0, e1, e2, e3, trivial⟩) (sX2_followParts_12 G hn hC hr a1 a2 N (fX2_followParts_42 N a2) v3 w h (fun w h => (sX2_followParts_42 G hn hC hr a1 a2 w h)))
      rw [if_neg hj] at h
      cases h
    · exact (show _ = _ ∧ _ = _ ∧ _ = _ ∧ True from ⟨rfl, rfl, rfl, trivial⟩)
-- MoorGuides$Leading.leastGuide(III)I
def tX2_leastGuide : List EN := [
  (0, .iconst 0, 0, 0, 0, 0, 0, []), (1, .istore 4, 0, 0, 0, 0, 0, []), (3, .iload 4, 3, 0, 0, 0, 0, []), (5, .aload_n 0, 0, 0, 0, 0, 0, []),
  (6, .getfield 32, 0, 2, 0, 0, 0, []), (9, .getfield 43, 0, 9, 0, 0, 0, []), (12, .getfield 49, 0, 4, 4, 0, 0, []), (15, .getfield 55, 0, 6, 0, 0, 0, []),
  (18, .if_icmp .ge 45, 0, 34, 0, 0, 0, []), (21, .iload_n 3, 0, 0, 0, 0, 0, []), (22, .iload 4, 0, 0, 0, 0, 0, []), (24, .ishr, 0, 0, 0, 0, 0, []),
  (25, .iconst 1, 0, 0, 0, 1, 0, []), (26, .iand, 0, 0, 0, 0, 0, []), (27, .ifCond .eq 30, 0, 32, 0, 0, 0, []), (30, .aload_n 0, 0, 0, 0, 0, 0, []),
  (31, .aload_n 0, 0, 0, 0, 0, 0, []), (32, .getfield 26, 0, 2, 5, 0, 0, []), (35, .iload_n 1, 0, 0, 0, 0, 0, []), (36, .iaload, 0, 0, 0, 0, 0, []),
  (37, .iload_n 2, 0, 0, 0, 0, 0, []), (38, .aload_n 0, 0, 0, 0, 0, 0, []), (39, .getfield 26, 0, 2, 5, 0, 0, []), (42, .iload_n 1, 0, 0, 0, 0, 0, []),
  (43, .iconst 1, 0, 0, 0, 1, 0, []), (44, .iadd, 0, 0, 0, 0, 0, []), (45, .iaload, 0, 0, 0, 0, 0, []), (46, .iload 4, 0, 0, 0, 0, 0, []),
  (48, .invokevirtual 113, 0, 0, 5, 0, 0, []), (51, .ifCond .eq 6, 0, 32, 0, 0, 0, []), (54, .iload 4, 0, 0, 0, 0, 0, []), (56, .ireturn, 0, 0, 0, 0, 0, []),
  (57, .iinc 4 1, 0, 0, 0, 1, 0, []), (60, .goto (-57), 0, 2, 0, 0, 0, []), (63, .iconst (-1), 0, 0, 0, (-1), 0, []), (64, .ireturn, 0, 0, 0, 0, 0, [])]
noncomputable def fX2_leastGuide_2 (N : Nat) (a1 : Int32) (a2 : Int32) (a3 : Int32) : Nat → Int32 → Wd → Option (Int32 × Wd)
  | 0, _, _ => none
  | n + 1, v4, w =>
    if v4 < (gI w 10 (gR w 13 0 0) 0) then
      if ((a3 >>> (v4 &&& (31 : Int32))) &&& (1 : Int32)) = 0 then callW (fX2_leastGuide_2 N a1 a2 a3 n (v4 + (1 : Int32))) w else
      (ldI w 28 0 a1 8).bind fun x1 =>
      (ldI w 28 0 (a1 + (1 : Int32)) 8).bind fun x2 =>
      (callW (pX2_isBest N x1 a2 x2 v4) w).bind fun r3 =>
      if r3.1 = 0 then callW (fX2_leastGuide_2 N a1 a2 a3 n (v4 + (1 : Int32))) r3.2 else
      some (v4, r3.2)
    else
    some ((-1 : Int32), w)
noncomputable def pX2_leastGuide (N : Nat) (a1 : Int32) (a2 : Int32) (a3 : Int32) (w : Wd) : Option (Int32 × Wd) :=
  callW (fX2_leastGuide_2 N a1 a2 a3 N (0 : Int32)) w
noncomputable def mX2_leastGuide (N : Nat) (as : List AV) (w : Wd) : Option (Int32 × Wd) := xS1 6 as fun t => xI1 t fun a1 t => xI1 t fun a2 t => xI1 t fun a3 t => xN1 t (callW (pX2_leastGuide N a1 a2 a3) w)
set_option maxRecDepth 100000 in
set_option maxHeartbeats 4000000 in
theorem kX2_leastGuide : TK cX2_leastGuide RX2 5 tX2_leastGuide := ⟨by decide +kernel, wok_of [573, 517, 277, 194, 578, 578] (by decide +kernel) (by decide +kernel)⟩
set_option maxRecDepth 100000 in
set_option maxHeartbeats 4000000 in
theorem sX2_leastGuide_2 {N : Nat} {X : XT} (G : GX X cX2_leastGuide RX2) (hn : xnL X = 5) (hC : CRs X tX2_leastGuide (oF [(mX2_isBest N)]) (oF []) (oF [])) {r : Int32 × Wd} (hr : RTI X cX2_leastGuide r) (a1 : Int32) (a2 : Int32) (a3 : Int32) : ∀ (n : Nat) (v4 : Int32) (w : Wd), fX2_leastGuide_2 N a1 a2 a3 n v4 w = some r → WW X (pcAt tX2_leastGuide 2) [some (.inr (.inr (6, 0))), some (.inl a1), some (.inl a2), some (.inl a3), some (.inl v4)] [] w := by
  intro n
  induction n with
  | zero => intro v4 w h; cases h
  | succ n ih =>
    intro v4 w h
    refine run_sound (r := r) (X := X) (cc := cX2_leastGuide) (own := RX2) (tab := tX2_leastGuide) G (by rw [hn]; exact kX2_leastGuide) (oI := (oF [(mX2_isBest N)])) (oL := (oF [])) (oV := (oF [])) (rI := (fun x w => some (x, w))) (rL := (fun _ _ => none)) (rV := (fun _ => none))
      (K := (fun j ls st w => if j = 2 then (lgI ls 4 fun v4 => st0 st (callW (fX2_leastGuide_2 N a1 a2 a3 n v4) w)) else none)) (fun x w pc ls hx hd => hr x w pc ls (Option.some.inj hx) hd) (fun _ _ _ _ hx => by cases hx) (fun _ _ _ hx => by cases hx) hC (fun ls => lsb [some (.inr (.inr (6, 0))), some (.inl a1), some (.inl a2), some (.inl a3), none] 0 ls) (keepsP_of rfl) ?_ 38 2 [some (.inr (.inr (6, 0))), some (.inl a1), some (.inl a2), some (.inl a3), some (.inl v4)] [] w ?_ h
    · intro j ls st w hfx h
      obtain ⟨e0, e1, e2, e3, -⟩ : _ = _ ∧ _ = _ ∧ _ = _ ∧ _ = _ ∧ True := hfx
      try dsimp only at h
      by_cases hj : j = 2
      · subst hj
        rw [if_pos rfl] at h
        obtain ⟨v4, e4, h_1⟩ := lgI_some h
        obtain ⟨rfl, h_2⟩ := st0_some h_1
        clear h h_1
        have h := h_2
        try rw [callW_eq] at h
        exact WW.le (a := [some (.inr (.inr (6, 0))), some (.inl a1), some (.inl a2), some (.inl a3), some (.inl v4)]) (by rw [hn]; rfl) (show _ = _ ∧ _ = _ ∧ _ = _ ∧ _ = _ ∧ _ = _ ∧ True from ⟨e0, e1, e2, e3, e4, trivial⟩) (ih v4 w h)
      rw [if_neg hj] at h
      cases h
    · exact (show _ = _ ∧ _ = _ ∧ _ = _ ∧ _ = _ ∧ True from ⟨rfl, rfl, rfl, rfl, trivial⟩)
set_option maxRecDepth 100000 in
set_option maxHeartbeats 4000000 in
theorem crX2_leastGuide {N : Nat} {X : XT} (G : GX X cX2_leastGuide RX2) (hR : xR X = rmL 2) : CRs X tX2_leastGuide (oF [(mX2_isBest N)]) (oF []) (oF []) := by
  have hl : tX2_leastGuide.filter isInv = [(48, .invokevirtual 113, 0, 0, 5, 0, 0, [])] := rfl
  intro e he
  rw [hl] at he
  simp only [List.mem_cons, List.not_mem_nil, or_false] at he
  rcases he with rfl
  · exact crI_V (idx := 113) G (by decide +kernel) (MX2_isBest N) (cw_of (ps := [1201, 1203, 49, 159, 1204]) (by decide +kernel) (by decide +kernel)) ⟨by decide +kernel, by decide +kernel, by decide +kernel⟩ (by unfold rmOk; rw [hR]; exact ⟨by decide, by decide⟩)
set_option maxRecDepth 100000 in
set_option maxHeartbeats 4000000 in
theorem MX2_leastGuide (N : Nat) : SndI yX2_leastGuide cX2_leastGuide 5 (some .int) 2 4 true (mX2_leastGuide N) := by
  refine SndI.of tX2_leastGuide (by decide +kernel) rfl rfl ?_ ?_
  · intro as w x h
    obtain ⟨t1, rfl, h_1⟩ := xS1_some h
    obtain ⟨a1, t2, rfl, h_2⟩ := xI1_some h_1
    obtain ⟨a2, t3, rfl, h_3⟩ := xI1_some h_2
    obtain ⟨a3, t4, rfl, h_4⟩ := xI1_some h_3
    obtain ⟨rfl, h_5⟩ := xN1_some h_4
    clear h h_1 h_2 h_3 h_4
    have h := h_5
    rw [callW_eq] at h
    exact ⟨fun _ => ⟨_, _, _, rfl, rfl, _, rfl, rfl⟩, rfl, Nat.le_of_ble_eq_true rfl⟩
  · intro X G hn hR as w r h hr
    have hC := crX2_leastGuide (N := N) G hR
    obtain ⟨t1, rfl, h_1⟩ := xS1_some h
    obtain ⟨a1, t2, rfl, h_2⟩ := xI1_some h_1
    obtain ⟨a2, t3, rfl, h_3⟩ := xI1_some h_2
    obtain ⟨a3, t4, rfl, h_4⟩ := xI1_some h_3
    obtain ⟨rfl, h_5⟩ := xN1_some h_4
    clear h h_1 h_2 h_3 h_4
    have h := h_5
    rw [callW_eq] at h
    refine run_sound (r := r) (X := X) (cc := cX2_leastGuide) (own := RX2) (tab := tX2_leastGuide) G (by rw [hn]; exact kX2_leastGuide) (oI := (oF [(mX2_isBest N)])) (oL := (oF [])) (oV := (oF [])) (rI := (fun x w => some (x, w))) (rL := (fun _ _ => none)) (rV := (fun _ => none))
      (K := (fun j ls st w => if j = 2 then (lgI ls 4 fun v4 => st0 st (callW (fX2_leastGuide_2 N a1 a2 a3 N v4) w)) else none)) (fun x w pc ls hx hd => hr x w pc ls (Option.some.inj hx) hd) (fun _ _ _ _ hx => by cases hx) (fun _ _ _ hx => by cases hx) hC (fun ls => lsb [some (.inr (.inr (6, 0))), some (.inl a1), some (.inl a2), some (.inl a3), none] 0 ls) (keepsP_of rfl) ?_ 38 0 [some (.inr (.inr (6, 0))), some (.inl a1), some (.inl a2), some (.inl a3), none] [] w ?_ h
    · intro j ls st w hfx h
      obtain ⟨e0, e1, e2, e3, -⟩ : _ = _ ∧ _ = _ ∧ _ = _ ∧ _ = _ ∧ True := hfx
      try dsimp only at h
      by_cases hj : j = 2
      · subst hj
        rw [if_pos rfl] at h
        obtain ⟨v4, e4, h_1⟩ := lgI_some h
        obtain ⟨rfl, h_2⟩ := st0_some h_1
        clear h h_1
        have h := h_2
        try rw [callW_eq] at h
        exact WW.le (a := [some (.inr (.inr (6, 0))), some (.inl a1), some (.inl a2), some (.inl a3), some (.inl v4)]) (by rw [hn]; rfl) (show _ = _ ∧ _ = _ ∧ _ = _ ∧ _ = _ ∧ _ = _ ∧ True from ⟨e0, e1, e2, e3, e4, trivial⟩) (sX2_leastGuide_2 G hn hC hr a1 a2 a3 N v4 w h)
      rw [if_neg hj] at h
      cases h
    · exact (show _ = _ ∧ _ = _ ∧ _ = _ ∧ _ = _ ∧ True from ⟨rfl, rfl, rfl, rfl, trivial⟩)
-- java/lang/Integer.numberOfTrailingZeros(I)I
def tJ6_numberOfTrailingZeros_0f7a4 : List EN := [
  (0, .iload_n 0, 0, 0, 0, 0, 0, []), (1, .iconst (-1), 0, 0, 0, (-1), 0, []), (2, .ixor, 0, 0, 0, 0, 0, []), (3, .iload_n 0, 0, 0, 0, 0, 0, []),
  (4, .iconst 1, 0, 0, 0, 1, 0, []), (5, .isub, 0, 0, 0, 0, 0, []), (6, .iand, 0, 0, 0, 0, 0, []), (7, .istore_n 0, 0, 0, 0, 0, 0, []),
  (8, .iload_n 0, 0, 0, 0, 0, 0, []), (9, .ifCond .gt 8, 0, 14, 0, 0, 0, []), (12, .iload_n 0, 0, 0, 0, 0, 0, []), (13, .bipush 32, 0, 0, 0, 32, 0, []),
  (15, .iand, 0, 0, 0, 0, 0, []), (16, .ireturn, 0, 0, 0, 0, 0, []), (17, .iconst 1, 0, 0, 0, 1, 0, []), (18, .istore_n 1, 0, 0, 0, 0, 0, []),
  (19, .iload_n 0, 0, 0, 0, 0, 0, []), (20, .ldc_w 264, 0, 0, 0, 65536, 0, []), (23, .if_icmp .le 11, 0, 24, 0, 0, 0, []), (26, .iinc 1 16, 0, 0, 0, 16, 0, []),
  (29, .iload_n 0, 0, 0, 0, 0, 0, []), (30, .bipush 16, 0, 0, 0, 16, 0, []), (32, .iushr, 0, 0, 0, 0, 0, []), (33, .istore_n 0, 0, 0, 0, 0, 0, []),
  (34, .iload_n 0, 25, 0, 0, 0, 0, []), (35, .sipush 256, 0, 0, 0, 256, 0, []), (38, .if_icmp .le 11, 0, 32, 0, 0, 0, []), (41, .iinc 1 8, 0, 0, 0, 8, 0, []),
  (44, .iload_n 0, 0, 0, 0, 0, 0, []), (45, .bipush 8, 0, 0, 0, 8, 0, []), (47, .iushr, 0, 0, 0, 0, 0, []), (48, .istore_n 0, 0, 0, 0, 0, 0, []),
  (49, .iload_n 0, 33, 0, 0, 0, 0, []), (50, .bipush 16, 0, 0, 0, 16, 0, []), (52, .if_icmp .le 10, 0, 40, 0, 0, 0, []), (55, .iinc 1 4, 0, 0, 0, 4, 0, []),
  (58, .iload_n 0, 0, 0, 0, 0, 0, []), (59, .iconst 4, 0, 0, 0, 4, 0, []), (60, .iushr, 0, 0, 0, 0, 0, []), (61, .istore_n 0, 0, 0, 0, 0, 0, []),
  (62, .iload_n 0, 41, 0, 0, 0, 0, []), (63, .iconst 4, 0, 0, 0, 4, 0, []), (64, .if_icmp .le 10, 0, 48, 0, 0, 0, []), (67, .iinc 1 2, 0, 0, 0, 2, 0, []),
  (70, .iload_n 0, 0, 0, 0, 0, 0, []), (71, .iconst 2, 0, 0, 0, 2, 0, []), (72, .iushr, 0, 0, 0, 0, 0, []), (73, .istore_n 0, 0, 0, 0, 0, 0, []),
  (74, .iload_n 1, 0, 0, 0, 0, 0, []), (75, .iload_n 0, 0, 0, 0, 0, 0, []), (76, .iconst 1, 0, 0, 0, 1, 0, []), (77, .iushr, 0, 0, 0, 0, 0, []),
  (78, .iadd, 0, 0, 0, 0, 0, []), (79, .ireturn, 0, 0, 0, 0, 0, [])]
noncomputable def fJ6_numberOfTrailingZeros_0f7a4_40 (N : Nat) (v0 : Int32) (v1 : Int32) (w : Wd) : Option (Int32 × Wd) :=
  if (4 : Int32) < v0 then
    some (((v1 + (2 : Int32)) + ((v0.toUInt32 >>> ((2 : Int32).toUInt32 &&& Int32.toUInt32 31)).toInt32.toUInt32 >>> ((1 : Int32).toUInt32 &&& Int32.toUInt32 31)).toInt32), w)
  else
  some ((v1 + (v0.toUInt32 >>> ((1 : Int32).toUInt32 &&& Int32.toUInt32 31)).toInt32), w)
noncomputable def fJ6_numberOfTrailingZeros_0f7a4_32 (N : Nat) (v0 : Int32) (v1 : Int32) (w : Wd) : Option (Int32 × Wd) :=
  if (16 : Int32) < v0 then
    callW (fJ6_numberOfTrailingZeros_0f7a4_40 N ((v0.toUInt32 >>> ((4 : Int32).toUInt32 &&& Int32.toUInt32 31)).toInt32) (v1 + (4 : Int32))) w
  else
  callW (fJ6_numberOfTrailingZeros_0f7a4_40 N v0 v1) w
noncomputable def fJ6_numberOfTrailingZeros_0f7a4_24 (N : Nat) (v0 : Int32) (v1 : Int32) (w : Wd) : Option (Int32 × Wd) :=
  if (256 : Int32) < v0 then
    callW (fJ6_numberOfTrailingZeros_0f7a4_32 N ((v0.toUInt32 >>> ((8 : Int32).toUInt32 &&& Int32.toUInt32 31)).toInt32) (v1 + (8 : Int32))) w
  else
  callW (fJ6_numberOfTrailingZeros_0f7a4_32 N v0 v1) w
noncomputable def pJ6_numberOfTrailingZeros_0f7a4 (N : Nat) (a0 : Int32) (w : Wd) : Option (Int32 × Wd) :=
  if 0 < ((a0 ^^^ (-1 : Int32)) &&& (a0 - (1 : Int32))) then
    if (65536 : Int32) < ((a0 ^^^ (-1 : Int32)) &&& (a0 - (1 : Int32))) then
      callW (fJ6_numberOfTrailingZeros_0f7a4_24 N ((((a0 ^^^ (-1 : Int32)) &&& (a0 - (1 : Int32))).toUInt32 >>> ((16 : Int32).toUInt32 &&& Int32.toUInt32 31)).toInt32) ((1 : Int32) + (16 : Int32))) w
    else
    callW (fJ6_numberOfTrailingZeros_0f7a4_24 N ((a0 ^^^ (-1 : Int32)) &&& (a0 - (1 : Int32))) (1 : Int32)) w
  else
  some ((((a0 ^^^ (-1 : Int32)) &&& (a0 - (1 : Int32))) &&& (32 : Int32)), w)
noncomputable def mJ6_numberOfTrailingZeros_0f7a4 (N : Nat) (as : List AV) (w : Wd) : Option (Int32 × Wd) := xI1 as fun a0 t => xN1 t (callW (pJ6_numberOfTrailingZeros_0f7a4 N a0) w)
set_option maxRecDepth 100000 in
set_option maxHeartbeats 4000000 in
theorem kJ6_numberOfTrailingZeros_0f7a4 : TK cJ6_numberOfTrailingZeros_0f7a4 RJ6 2 tJ6_numberOfTrailingZeros_0f7a4 := ⟨by decide +kernel, wok_of [1216] (by decide +kernel) (by decide +kernel)⟩
set_option maxRecDepth 100000 in
set_option maxHeartbeats 4000000 in
theorem sJ6_numberOfTrailingZeros_0f7a4_40 {N : Nat} {X : XT} (G : GX X cJ6_numberOfTrailingZeros_0f7a4 RJ6) (hn : xnL X = 2) (hC : CRs X tJ6_numberOfTrailingZeros_0f7a4 (oF []) (oF []) (oF [])) {r : Int32 × Wd} (hr : RTI X cJ6_numberOfTrailingZeros_0f7a4 r)  : ∀ (v0 : Int32) (v1 : Int32) (w : Wd), fJ6_numberOfTrailingZeros_0f7a4_40 N v0 v1 w = some r → WW X (pcAt tJ6_numberOfTrailingZeros_0f7a4 40) [some (.inl v0), some (.inl v1)] [] w := by
  intro v0 v1 w h
  refine run_sound (r := r) (X := X) (cc := cJ6_numberOfTrailingZeros_0f7a4) (own := RJ6) (tab := tJ6_numberOfTrailingZeros_0f7a4) G (by rw [hn]; exact kJ6_numberOfTrailingZeros_0f7a4) (oI := (oF [])) (oL := (oF [])) (oV := (oF [])) (rI := (fun x w => some (x, w))) (rL := (fun _ _ => none)) (rV := (fun _ => none))
    (K := (fun j ls st w => none)) (fun x w pc ls hx hd => hr x w pc ls (Option.some.inj hx) hd) (fun _ _ _ _ hx => by cases hx) (fun _ _ _ hx => by cases hx) hC (fun ls => lsb [none, none] 0 ls) (keepsP_of rfl) ?_ 56 40 [some (.inl v0), some (.inl v1)] [] w ?_ h
  · intro j ls st w hfx h
    try dsimp only at h
    cases h
  · exact trivial
set_option maxRecDepth 100000 in
set_option maxHeartbeats 4000000 in
theorem sJ6_numberOfTrailingZeros_0f7a4_32 {N : Nat} {X : XT} (G : GX X cJ6_numberOfTrailingZeros_0f7a4 RJ6) (hn : xnL X = 2) (hC : CRs X tJ6_numberOfTrailingZeros_0f7a4 (oF []) (oF []) (oF [])) {r : Int32 × Wd} (hr : RTI X cJ6_numberOfTrailingZeros_0f7a4 r)  : ∀ (v0 : Int32) (v1 : Int32) (w : Wd), fJ6_numberOfTrailingZeros_0f7a4_32 N v0 v1 w = some r → WW X (pcAt tJ6_numberOfTrailingZeros_0f7a4 32) [some (.inl v0), some (.inl v1)] [] w := by
  intro v0 v1 w h
  refine run_sound (r := r) (X := X) (cc := cJ6_numberOfTrailingZeros_0f7a4) (own := RJ6) (tab := tJ6_numberOfTrailingZeros_0f7a4) G (by rw [hn]; exact kJ6_numberOfTrailingZeros_0f7a4) (oI := (oF [])) (oL := (oF [])) (oV := (oF [])) (rI := (fun x w => some (x, w))) (rL := (fun _ _ => none)) (rV := (fun _ => none))
    (K := (fun j ls st w => if j = 40 then (lgI ls 0 fun v0 => lgI ls 1 fun v1 => st0 st (callW (fJ6_numberOfTrailingZeros_0f7a4_40 N v0 v1) w)) else none)) (fun x w pc ls hx hd => hr x w pc ls (Option.some.inj hx) hd) (fun _ _ _ _ hx => by cases hx) (fun _ _ _ hx => by cases hx) hC (fun ls => lsb [none, none] 0 ls) (keepsP_of rfl) ?_ 56 32 [some (.inl v0), some (.inl v1)] [] w ?_ h
  · intro j ls st w hfx h
    try dsimp only at h
    by_cases hj : j = 40
    · subst hj
      rw [if_pos rfl] at h
      obtain ⟨v0, e0, h_1⟩ := lgI_some h
      obtain ⟨v1, e1, h_2⟩ := lgI_some h_1
      obtain ⟨rfl, h_3⟩ := st0_some h_2
      clear h h_1 h_2
      have h := h_3
      try rw [callW_eq] at h
      exact WW.le (a := [some (.inl v0), some (.inl v1)]) (by rw [hn]; rfl) (show _ = _ ∧ _ = _ ∧ True from ⟨e0, e1, trivial⟩) (sJ6_numberOfTrailingZeros_0f7a4_40 G hn hC hr v0 v1 w h)
    rw [if_neg hj] at h
    cases h
  · exact trivial
set_option maxRecDepth 100000 in
set_option maxHeartbeats 4000000 in
theorem sJ6_numberOfTrailingZeros_0f7a4_24 {N : Nat} {X : XT} (G : GX X cJ6_numberOfTrailingZeros_0f7a4 RJ6) (hn : xnL X = 2) (hC : CRs X tJ6_numberOfTrailingZeros_0f7a4 (oF []) (oF []) (oF [])) {r : Int32 × Wd} (hr : RTI X cJ6_numberOfTrailingZeros_0f7a4 r)  : ∀ (v0 : Int32) (v1 : Int32) (w : Wd), fJ6_numberOfTrailingZeros_0f7a4_24 N v0 v1 w = some r → WW X (pcAt tJ6_numberOfTrailingZeros_0f7a4 24) [some (.inl v0), some (.inl v1)] [] w := by
  intro v0 v1 w h
  refine run_sound (r := r) (X := X) (cc := cJ6_numberOfTrailingZeros_0f7a4) (own := RJ6) (tab := tJ6_numberOfTrailingZeros_0f7a4) G (by rw [hn]; exact kJ6_numberOfTrailingZeros_0f7a4) (oI := (oF [])) (oL := (oF [])) (oV := (oF [])) (rI := (fun x w => some (x, w))) (rL := (fun _ _ => none)) (rV := (fun _ => none))
    (K := (fun j ls st w => if j = 32 then (lgI ls 0 fun v0 => lgI ls 1 fun v1 => st0 st (callW (fJ6_numberOfTrailingZeros_0f7a4_32 N v0 v1) w)) else none)) (fun x w pc ls hx hd => hr x w pc ls (Option.some.inj hx) hd) (fun _ _ _ _ hx => by cases hx) (fun _ _ _ hx => by cases hx) hC (fun ls => lsb [none, none] 0 ls) (keepsP_of rfl) ?_ 56 24 [some (.inl v0), some (.inl v1)] [] w ?_ h
  · intro j ls st w hfx h
    try dsimp only at h
    by_cases hj : j = 32
    · subst hj
      rw [if_pos rfl] at h
      obtain ⟨v0, e0, h_1⟩ := lgI_some h
      obtain ⟨v1, e1, h_2⟩ := lgI_some h_1
      obtain ⟨rfl, h_3⟩ := st0_some h_2
      clear h h_1 h_2
      have h := h_3
      try rw [callW_eq] at h
      exact WW.le (a := [some (.inl v0), some (.inl v1)]) (by rw [hn]; rfl) (show _ = _ ∧ _ = _ ∧ True from ⟨e0, e1, trivial⟩) (sJ6_numberOfTrailingZeros_0f7a4_32 G hn hC hr v0 v1 w h)
    rw [if_neg hj] at h
    cases h
  · exact trivial
set_option maxRecDepth 100000 in
set_option maxHeartbeats 4000000 in
theorem crJ6_numberOfTrailingZeros_0f7a4 {N : Nat} {X : XT} (G : GX X cJ6_numberOfTrailingZeros_0f7a4 RJ6) (hR : xR X = rmL 1) : CRs X tJ6_numberOfTrailingZeros_0f7a4 (oF []) (oF []) (oF []) := by
  have hl : tJ6_numberOfTrailingZeros_0f7a4.filter isInv = [] := rfl
  intro e he
  rw [hl] at he
  cases he
set_option maxRecDepth 100000 in
set_option maxHeartbeats 4000000 in
theorem MJ6_numberOfTrailingZeros_0f7a4 (N : Nat) : SndI yJ6_numberOfTrailingZeros_0f7a4 cJ6_numberOfTrailingZeros_0f7a4 2 (some .int) 1 1 false (mJ6_numberOfTrailingZeros_0f7a4 N) := by
  refine SndI.of tJ6_numberOfTrailingZeros_0f7a4 (by decide +kernel) rfl rfl ?_ ?_
  · intro as w x h
    obtain ⟨a0, t1, rfl, h_1⟩ := xI1_some h
    obtain ⟨rfl, h_2⟩ := xN1_some h_1
    clear h h_1
    have h := h_2
    rw [callW_eq] at h
    exact ⟨(fun z => by cases z), rfl, Nat.le_of_ble_eq_true rfl⟩
  · intro X G hn hR as w r h hr
    have hC := crJ6_numberOfTrailingZeros_0f7a4 (N := N) G hR
    obtain ⟨a0, t1, rfl, h_1⟩ := xI1_some h
    obtain ⟨rfl, h_2⟩ := xN1_some h_1
    clear h h_1
    have h := h_2
    rw [callW_eq] at h
    refine run_sound (r := r) (X := X) (cc := cJ6_numberOfTrailingZeros_0f7a4) (own := RJ6) (tab := tJ6_numberOfTrailingZeros_0f7a4) G (by rw [hn]; exact kJ6_numberOfTrailingZeros_0f7a4) (oI := (oF [])) (oL := (oF [])) (oV := (oF [])) (rI := (fun x w => some (x, w))) (rL := (fun _ _ => none)) (rV := (fun _ => none))
      (K := (fun j ls st w => if j = 24 then (lgI ls 0 fun v0 => lgI ls 1 fun v1 => st0 st (callW (fJ6_numberOfTrailingZeros_0f7a4_24 N v0 v1) w)) else none)) (fun x w pc ls hx hd => hr x w pc ls (Option.some.inj hx) hd) (fun _ _ _ _ hx => by cases hx) (fun _ _ _ hx => by cases hx) hC (fun ls => lsb [none, none] 0 ls) (keepsP_of rfl) ?_ 56 0 [some (.inl a0), none] [] w ?_ h
    · intro j ls st w hfx h
      try dsimp only at h
      by_cases hj : j = 24
      · subst hj
        rw [if_pos rfl] at h
        obtain ⟨v0, e0, h_1⟩ := lgI_some h
        obtain ⟨v1, e1, h_2⟩ := lgI_some h_1
        obtain ⟨rfl, h_3⟩ := st0_some h_2
        clear h h_1 h_2
        have h := h_3
        try rw [callW_eq] at h
        exact WW.le (a := [some (.inl v0), some (.inl v1)]) (by rw [hn]; rfl) (show _ = _ ∧ _ = _ ∧ True from ⟨e0, e1, trivial⟩) (sJ6_numberOfTrailingZeros_0f7a4_24 G hn hC hr v0 v1 w h)
      rw [if_neg hj] at h
      cases h
    · exact trivial
-- MoorGuides$Leading.nameGuides()V
def tX2_nameGuides : List EN := [
  (0, .aload_n 0, 0, 0, 0, 0, 0, []), (1, .getfield 36, 0, 2, 7, 0, 0, []), (4, .iconst 2, 0, 0, 0, 2, 0, []), (5, .isub, 0, 0, 0, 0, 0, []),
  (6, .istore_n 1, 0, 0, 0, 0, 0, []), (7, .iload_n 1, 6, 0, 0, 0, 0, []), (8, .ifCond .lt 80, 0, 54, 0, 0, 0, []), (11, .iconst 0, 0, 0, 0, 0, 0, []),
  (12, .istore_n 2, 0, 0, 0, 0, 0, []), (13, .iconst 0, 0, 0, 0, 0, 0, []), (14, .istore_n 3, 0, 0, 0, 0, 0, []), (15, .iload_n 3, 12, 0, 0, 0, 0, []),
  (16, .aload_n 0, 0, 0, 0, 0, 0, []), (17, .getfield 32, 0, 2, 0, 0, 0, []), (20, .getfield 43, 0, 9, 0, 0, 0, []), (23, .getfield 49, 0, 4, 4, 0, 0, []),
  (26, .getfield 55, 0, 6, 0, 0, 0, []), (29, .if_icmp .ge 46, 0, 47, 0, 0, 0, []), (32, .aload_n 0, 0, 0, 0, 0, 0, []), (33, .getfield 23, 0, 2, 4, 0, 0, []),
  (36, .iload_n 1, 0, 0, 0, 0, 0, []), (37, .iaload, 0, 0, 0, 0, 0, []), (38, .iload_n 3, 0, 0, 0, 0, 0, []), (39, .ishr, 0, 0, 0, 0, 0, []),
  (40, .iconst 1, 0, 0, 0, 1, 0, []), (41, .iand, 0, 0, 0, 0, 0, []), (42, .ifCond .eq 27, 0, 45, 0, 0, 0, []), (45, .aload_n 0, 0, 0, 0, 0, 0, []),
  (46, .iload_n 1, 0, 0, 0, 0, 0, []), (47, .iload_n 3, 0, 0, 0, 0, 0, []), (48, .aload_n 0, 0, 0, 0, 0, 0, []), (49, .getfield 23, 0, 2, 4, 0, 0, []),
  (52, .iload_n 1, 0, 0, 0, 0, 0, []), (53, .iconst 1, 0, 0, 0, 1, 0, []), (54, .iadd, 0, 0, 0, 0, 0, []), (55, .iaload, 0, 0, 0, 0, 0, []),
  (56, .invokevirtual 117, 0, 0, 4, 0, 0, []), (59, .iconst (-1), 0, 0, 0, (-1), 0, []), (60, .if_icmp .eq 9, 0, 45, 0, 0, 0, []), (63, .iload_n 2, 0, 0, 0, 0, 0, []),
  (64, .iconst 1, 0, 0, 0, 1, 0, []), (65, .iload_n 3, 0, 0, 0, 0, 0, []), (66, .ishl, 0, 0, 0, 0, 0, []), (67, .ior, 0, 0, 0, 0, 0, []),
  (68, .istore_n 2, 0, 0, 0, 0, 0, []), (69, .iinc 3 1, 0, 0, 0, 1, 0, []), (72, .goto (-57), 0, 11, 0, 0, 0, []), (75, .aload_n 0, 48, 0, 0, 0, 0, []),
  (76, .getfield 23, 0, 2, 4, 0, 0, []), (79, .iload_n 1, 0, 0, 0, 0, 0, []), (80, .iload_n 2, 0, 0, 0, 0, 0, []), (81, .iastore, 0, 0, 0, 0, 0, []),
  (82, .iinc 1 (-1), 0, 0, 0, (-1), 0, []), (85, .goto (-78), 0, 5, 0, 0, 0, []), (88, .aload_n 0, 55, 0, 0, 0, 0, []), (89, .getfield 29, 0, 2, 6, 0, 0, []),
  (92, .iconst 0, 0, 0, 0, 0, 0, []), (93, .aload_n 0, 0, 0, 0, 0, 0, []), (94, .getfield 23, 0, 2, 4, 0, 0, []), (97, .iconst 0, 0, 0, 0, 0, 0, []),
  (98, .iaload, 0, 0, 0, 0, 0, []), (99, .invokestatic 120, 0, 1, 1, 0, 0, []), (102, .iastore, 0, 0, 0, 0, 0, []), (103, .iconst 1, 0, 0, 0, 1, 0, []),
  (104, .istore_n 1, 0, 0, 0, 0, 0, []), (105, .iload_n 1, 66, 0, 0, 0, 0, []), (106, .aload_n 0, 0, 0, 0, 0, 0, []), (107, .getfield 36, 0, 2, 7, 0, 0, []),
  (110, .if_icmp .ge 36, 0, 90, 0, 0, 0, []), (113, .aload_n 0, 0, 0, 0, 0, 0, []), (114, .getfield 29, 0, 2, 6, 0, 0, []), (117, .iload_n 1, 0, 0, 0, 0, 0, []),
  (118, .aload_n 0, 0, 0, 0, 0, 0, []), (119, .iload_n 1, 0, 0, 0, 0, 0, []), (120, .iconst 1, 0, 0, 0, 1, 0, []), (121, .isub, 0, 0, 0, 0, 0, []),
  (122, .aload_n 0, 0, 0, 0, 0, 0, []), (123, .getfield 29, 0, 2, 6, 0, 0, []), (126, .iload_n 1, 0, 0, 0, 0, 0, []), (127, .iconst 1, 0, 0, 0, 1, 0, []),
  (128, .isub, 0, 0, 0, 0, 0, []), (129, .iaload, 0, 0, 0, 0, 0, []), (130, .aload_n 0, 0, 0, 0, 0, 0, []), (131, .getfield 23, 0, 2, 4, 0, 0, []),
  (134, .iload_n 1, 0, 0, 0, 0, 0, []), (135, .iaload, 0, 0, 0, 0, 0, []), (136, .invokevirtual 117, 0, 0, 4, 0, 0, []), (139, .iastore, 0, 0, 0, 0, 0, []),
  (140, .iinc 1 1, 0, 0, 0, 1, 0, []), (143, .goto (-38), 0, 65, 0, 0, 0, []), (146, .return_, 0, 0, 0, 0, 0, [])]
noncomputable def fX2_nameGuides_65 (N : Nat) : Nat → Int32 → Wd → Option (Wd)
  | 0, _, _ => none
  | n + 1, v1, w =>
    if v1 < (gI w 6 0 7) then
      (ldI w 29 0 (v1 - (1 : Int32)) 8).bind fun x1 =>
      (ldI w 27 0 v1 8).bind fun x2 =>
      (callW (pX2_leastGuide N (v1 - (1 : Int32)) x1 x2) w).bind fun r3 =>
      (stI r3.2 29 0 v1 8 r3.1).bind fun w4 =>
      callW (fX2_nameGuides_65 N n (v1 + (1 : Int32))) w4
    else
    some w
noncomputable def fX2_nameGuides_54 (N : Nat) (w : Wd) : Option (Wd) :=
  (ldI w 27 0 (0 : Int32) 8).bind fun x1 =>
  (callW (pJ6_numberOfTrailingZeros_0f7a4 N x1) w).bind fun r2 =>
  (stI r2.2 29 0 (0 : Int32) 8 r2.1).bind fun w3 =>
  callW (fX2_nameGuides_65 N N (1 : Int32)) w3
noncomputable def fX2_nameGuides_47 (N : Nat) (k5 : Int32 → Wd → Option (Wd)) (v1 : Int32) (v2 : Int32) (w : Wd) : Option (Wd) :=
  (stI w 27 0 v1 8 v2).bind fun w1 =>
  k5 (v1 + (-1 : Int32)) w1
noncomputable def fX2_nameGuides_11 (N : Nat) : Nat → (Int32 → Int32 → Wd → Option (Wd)) → Int32 → Int32 → Int32 → Wd → Option (Wd)
  | 0, _, _, _, _, _ => none
  | n + 1, k47, v1, v2, v3, w =>
    if v3 < (gI w 10 (gR w 13 0 0) 0) then
      (ldI w 27 0 v1 8).bind fun x1 =>
      if ((x1 >>> (v3 &&& (31 : Int32))) &&& (1 : Int32)) = 0 then callW (fX2_nameGuides_11 N n k47 v1 v2 (v3 + (1 : Int32))) w else
      (ldI w 27 0 (v1 + (1 : Int32)) 8).bind fun x2 =>
      (callW (pX2_leastGuide N v1 v3 x2) w).bind fun r3 =>
      if r3.1 = (-1 : Int32) then callW (fX2_nameGuides_11 N n k47 v1 v2 (v3 + (1 : Int32))) r3.2 else
      callW (fX2_nameGuides_11 N n k47 v1 (v2 ||| ((1 : Int32) <<< (v3 &&& (31 : Int32)))) (v3 + (1 : Int32))) r3.2
    else
    k47 v1 v2 w
noncomputable def fX2_nameGuides_5 (N : Nat) : Nat → (Wd → Option (Wd)) → Int32 → Wd → Option (Wd)
  | 0, _, _, _ => none
  | n + 1, k54, v1, w =>
    if v1 < 0 then k54 w else
    callW (fX2_nameGuides_11 N N (fX2_nameGuides_47 N (fX2_nameGuides_5 N n k54)) v1 (0 : Int32) (0 : Int32)) w
noncomputable def pX2_nameGuides (N : Nat) (w : Wd) : Option (Wd) :=
  callW (fX2_nameGuides_5 N N (fX2_nameGuides_54 N) ((gI w 6 0 7) - (2 : Int32))) w
noncomputable def mX2_nameGuides (N : Nat) (as : List AV) (w : Wd) : Option (Wd) := xS1 6 as fun t => xN1 t (callW (pX2_nameGuides N) w)
set_option maxRecDepth 100000 in
set_option maxHeartbeats 4000000 in
theorem kX2_nameGuides : TK cX2_nameGuides RX2 4 tX2_nameGuides := ⟨by decide +kernel, wok_of [582, 573, 517, 277, 194, 577, 577, 577, 580, 577, 582, 580, 580, 577] (by decide +kernel) (by decide +kernel)⟩
set_option maxRecDepth 100000 in
set_option maxHeartbeats 4000000 in
theorem sX2_nameGuides_65 {N : Nat} {X : XT} (G : GX X cX2_nameGuides RX2) (hn : xnL X = 4) (hC : CRs X tX2_nameGuides (oF [(mX2_leastGuide N), (mJ6_numberOfTrailingZeros_0f7a4 N)]) (oF []) (oF [])) {r : Wd} (hr : RTV X cX2_nameGuides r)  : ∀ (n : Nat) (v1 : Int32) (w : Wd), fX2_nameGuides_65 N n v1 w = some r → WW X (pcAt tX2_nameGuides 65) [some (.inr (.inr (6, 0))), some (.inl v1), none, none] [] w := by
  intro n
  induction n with
  | zero => intro v1 w h; cases h
  | succ n ih =>
    intro v1 w h
    refine run_sound (r := r) (X := X) (cc := cX2_nameGuides) (own := RX2) (tab := tX2_nameGuides) G (by rw [hn]; exact kX2_nameGuides) (oI := (oF [(mX2_leastGuide N), (mJ6_numberOfTrailingZeros_0f7a4 N)])) (oL := (oF [])) (oV := (oF [])) (rI := (fun _ _ => none)) (rL := (fun _ _ => none)) (rV := (fun w => some w))
      (K := (fun j ls st w => if j = 65 then (lgI ls 1 fun v1 => st0 st (callW (fX2_nameGuides_65 N n v1) w)) else none)) (fun _ _ _ _ hx => by cases hx) (fun _ _ _ _ hx => by cases hx) (fun w pc ls hx hd => hr w pc ls (Option.some.inj hx) hd) hC (fun ls => lsb [some (.inr (.inr (6, 0))), none, none, none] 0 ls) (keepsP_of rfl) ?_ 93 65 [some (.inr (.inr (6, 0))), some (.inl v1), none, none] [] w ?_ h
    · intro j ls st w hfx h
      obtain ⟨e0, -⟩ : _ = _ ∧ True := hfx
      try dsimp only at h
      by_cases hj : j = 65
      · subst hj
        rw [if_pos rfl] at h
        obtain ⟨v1, e1, h_1⟩ := lgI_some h
        obtain ⟨rfl, h_2⟩ := st0_some h_1
        clear h h_1
        have h := h_2
        try rw [callW_eq] at h
        exact WW.le (a := [some (.inr (.inr (6, 0))), some (.inl v1), none, none]) (by rw [hn]; rfl) (show _ = _ ∧ _ = _ ∧ True from ⟨e0, e1, trivial⟩) (ih v1 w h)
      rw [if_neg hj] at h
      cases h
    · exact (show _ = _ ∧ True from ⟨rfl, trivial⟩)
set_option maxRecDepth 100000 in
set_option maxHeartbeats 4000000 in
theorem sX2_nameGuides_54 {N : Nat} {X : XT} (G : GX X cX2_nameGuides RX2) (hn : xnL X = 4) (hC : CRs X tX2_nameGuides (oF [(mX2_leastGuide N), (mJ6_numberOfTrailingZeros_0f7a4 N)]) (oF []) (oF [])) {r : Wd} (hr : RTV X cX2_nameGuides r)  : ∀ (w : Wd), fX2_nameGuides_54 N w = some r → WW X (pcAt tX2_nameGuides 54) [some (.inr (.inr (6, 0))), none, none, none] [] w := by
  intro w h
  refine run_sound (r := r) (X := X) (cc := cX2_nameGuides) (own := RX2) (tab := tX2_nameGuides) G (by rw [hn]; exact kX2_nameGuides) (oI := (oF [(mX2_leastGuide N), (mJ6_numberOfTrailingZeros_0f7a4 N)])) (oL := (oF [])) (oV := (oF [])) (rI := (fun _ _ => none)) (rL := (fun _ _ => none)) (rV := (fun w => some w))
    (K := (fun j ls st w => if j = 65 then (lgI ls 1 fun v1 => st0 st (callW (fX2_nameGuides_65 N N v1) w)) else none)) (fun _ _ _ _ hx => by cases hx) (fun _ _ _ _ hx => by cases hx) (fun w pc ls hx hd => hr w pc ls (Option.some.inj hx) hd) hC (fun ls => lsb [some (.inr (.inr (6, 0))), none, none, none] 0 ls) (keepsP_of rfl) ?_ 93 54 [some (.inr (.inr (6, 0))), none, none, none] [] w ?_ h
  · intro j ls st w hfx h
    obtain ⟨e0, -⟩ : _ = _ ∧ True := hfx
    try dsimp only at h
    by_cases hj : j = 65
    · subst hj
      rw [if_pos rfl] at h
      obtain ⟨v1, e1, h_1⟩ := lgI_some h
      obtain ⟨rfl, h_2⟩ := st0_some h_1
      clear h h_1
      have h := h_2
      try rw [callW_eq] at h
      exact WW.le (a := [some (.inr (.inr (6, 0))), some (.inl v1), none, none]) (by rw [hn]; rfl) (show _ = _ ∧ _ = _ ∧ True from ⟨e0, e1, trivial⟩) (sX2_nameGuides_65 G hn hC hr N v1 w h)
    rw [if_neg hj] at h
    cases h
  · exact (show _ = _ ∧ True from ⟨rfl, trivial⟩)
set_option maxRecDepth 100000 in
set_option maxHeartbeats 4000000 in
theorem sX2_nameGuides_47 {N : Nat} {X : XT} (G : GX X cX2_nameGuides RX2) (hn : xnL X = 4) (hC : CRs X tX2_nameGuides (oF [(mX2_leastGuide N), (mJ6_numberOfTrailingZeros_0f7a4 N)]) (oF []) (oF [])) {r : Wd} (hr : RTV X cX2_nameGuides r)  : ∀ (k5 : Int32 → Wd → Option (Wd)) (v1 : Int32) (v2 : Int32) (w : Wd), fX2_nameGuides_47 N k5 v1 v2 w = some r → (∀ (v1 : Int32) (w : Wd), k5 v1 w = some r → WW X (pcAt tX2_nameGuides 5) [some (.inr (.inr (6, 0))), some (.inl v1), none, none] [] w) → WW X (pcAt tX2_nameGuides 47) [some (.inr (.inr (6, 0))), some (.inl v1), some (.inl v2), none] [] w := by
  intro k5 v1 v2 w h h5
  refine run_sound (r := r) (X := X) (cc := cX2_nameGuides) (own := RX2) (tab := tX2_nameGuides) G (by rw [hn]; exact kX2_nameGuides) (oI := (oF [(mX2_leastGuide N), (mJ6_numberOfTrailingZeros_0f7a4 N)])) (oL := (oF [])) (oV := (oF [])) (rI := (fun _ _ => none)) (rL := (fun _ _ => none)) (rV := (fun w => some w))
    (K := (fun j ls st w => if j = 5 then (lgI ls 1 fun v1 => st0 st (k5 v1 w)) else none)) (fun _ _ _ _ hx => by cases hx) (fun _ _ _ _ hx => by cases hx) (fun w pc ls hx hd => hr w pc ls (Option.some.inj hx) hd) hC (fun ls => lsb [some (.inr (.inr (6, 0))), none, none, none] 0 ls) (keepsP_of rfl) ?_ 93 47 [some (.inr (.inr (6, 0))), some (.inl v1), some (.inl v2), none] [] w ?_ h
  · intro j ls st w hfx h
    obtain ⟨e0, -⟩ : _ = _ ∧ True := hfx
    try dsimp only at h
    by_cases hj : j = 5
    · subst hj
      rw [if_pos rfl] at h
      obtain ⟨v1, e1, h_1⟩ := lgI_some h
      obtain ⟨rfl, h_2⟩ := st0_some h_1
      clear h h_1
      have h := h_2
      try rw [callW_eq] at h
      exact WW.le (a := [some (.inr (.inr (6, 0))), some (.inl v1), none, none]) (by rw [hn]; rfl) (show _ = _ ∧ _ = _ ∧ True from ⟨e0, e1, trivial⟩) (h5 v1 w h)
    rw [if_neg hj] at h
    cases h
  · exact (show _ = _ ∧ True from ⟨rfl, trivial⟩)
set_option maxRecDepth 100000 in
set_option maxHeartbeats 4000000 in
theorem sX2_nameGuides_11 {N : Nat} {X : XT} (G : GX X cX2_nameGuides RX2) (hn : xnL X = 4) (hC : CRs X tX2_nameGuides (oF [(mX2_leastGuide N), (mJ6_numberOfTrailingZeros_0f7a4 N)]) (oF []) (oF [])) {r : Wd} (hr : RTV X cX2_nameGuides r)  : ∀ (n : Nat) (k47 : Int32 → Int32 → Wd → Option (Wd)) (v1 : Int32) (v2 : Int32) (v3 : Int32) (w : Wd), fX2_nameGuides_11 N n k47 v1 v2 v3 w = some r → (∀ (v1 : Int32) (v2 : Int32) (w : Wd), k47 v1 v2 w = some r → WW X (pcAt tX2_nameGuides 47) [some (.inr (.inr (6, 0))), some (.inl v1), some (.inl v2), none] [] w) → WW X (pcAt tX2_nameGuides 11) [some (.inr (.inr (6, 0))), some (.inl v1), some (.inl v2), some (.inl v3)] [] w := by
  intro n
  induction n with
  | zero => intro k47 v1 v2 v3 w h h47; cases h
  | succ n ih =>
    intro k47 v1 v2 v3 w h h47
    refine run_sound (r := r) (X := X) (cc := cX2_nameGuides) (own := RX2) (tab := tX2_nameGuides) G (by rw [hn]; exact kX2_nameGuides) (oI := (oF [(mX2_leastGuide N), (mJ6_numberOfTrailingZeros_0f7a4 N)])) (oL := (oF [])) (oV := (oF [])) (rI := (fun _ _ => none)) (rL := (fun _ _ => none)) (rV := (fun w => some w))
      (K := (fun j ls st w => if j = 11 then (lgI ls 1 fun v1 => lgI ls 2 fun v2 => lgI ls 3 fun v3 => st0 st (callW (fX2_nameGuides_11 N n k47 v1 v2 v3) w)) else if j = 47 then (lgI ls 1 fun v1 => lgI ls 2 fun v2 => st0 st (k47 v1 v2 w)) else none)) (fun _ _ _ _ hx => by cases hx) (fun _ _ _ _ hx => by cases hx) (fun w pc ls hx hd => hr w pc ls (Option.some.inj hx) hd) hC (fun ls => lsb [some (.inr (.inr (6, 0))), none, none, none] 0 ls) (keepsP_of rfl) ?_ 93 11 [some (.inr (.inr (6, 0))), some (.inl v1), some (.inl v2), some (.inl v3)] [] w ?_ h
    · intro j ls st w hfx h
      obtain ⟨e0, -⟩ : _ = _ ∧ True := hfx
      try dsimp only at h
      by_cases hj : j = 11
      · subst hj
        rw [if_pos rfl] at h
        obtain ⟨v1, e1, h_1⟩ := lgI_some h
        obtain ⟨v2, e2, h_2⟩ := lgI_some h_1
        obtain ⟨v3, e3, h_3⟩ := lgI_some h_2
        obtain ⟨rfl, h_4⟩ := st0_some h_3
        clear h h_1 h_2 h_3
        have h := h_4
        try rw [callW_eq] at h
        exact WW.le (a := [some (.inr (.inr (6, 0))), some (.inl v1), some (.inl v2), some (.inl v3)]) (by rw [hn]; rfl) (show _ = _ ∧ _ = _ ∧ _ = _ ∧ _ = _ ∧ True from ⟨e0, e1, e2, e3, trivial⟩) (ih k47 v1 v2 v3 w h h47)
      rw [if_neg hj] at h
      by_cases hj : j = 47
      · subst hj
        rw [if_pos rfl] at h
        obtain ⟨v1, e1, h_1⟩ := lgI_some h
        obtain ⟨v2, e2, h_2⟩ := lgI_some h_1
        obtain ⟨rfl, h_3⟩ := st0_some h_2
        clear h h_1 h_2
        have h := h_3
        try rw [callW_eq] at h
        exact WW.le (a := [some (.inr (.inr (6, 0))), some (.inl v1), some (.inl v2), none]) (by rw [hn]; rfl) (show _ = _ ∧ _ = _ ∧ _ = _ ∧ True from ⟨e0, e1, e2, trivial⟩) (h47 v1 v2 w h)
      rw [if_neg hj] at h
      cases h
    · exact (show _ = _ ∧ True from ⟨rfl, trivial⟩)
set_option maxRecDepth 100000 in
set_option maxHeartbeats 4000000 in
theorem sX2_nameGuides_5 {N : Nat} {X : XT} (G : GX X cX2_nameGuides RX2) (hn : xnL X = 4) (hC : CRs X tX2_nameGuides (oF [(mX2_leastGuide N), (mJ6_numberOfTrailingZeros_0f7a4 N)]) (oF []) (oF [])) {r : Wd} (hr : RTV X cX2_nameGuides r)  : ∀ (n : Nat) (k54 : Wd → Option (Wd)) (v1 : Int32) (w : Wd), fX2_nameGuides_5 N n k54 v1 w = some r → (∀ (w : Wd), k54 w = some r → WW X (pcAt tX2_nameGuides 54) [some (.inr (.inr (6, 0))), none, none, none] [] w) → WW X (pcAt tX2_nameGuides 5) [some (.inr (.inr (6, 0))), some (.inl v1), none, none] [] w := by
  intro n
  induction n with
  | zero => intro k54 v1 w h h54; cases h
  | succ n ih =>
    intro k54 v1 w h h54
    refine run_sound (r := r) (X := X) (cc := cX2_nameGuides) (own := RX2) (tab := tX2_nameGuides) G (by rw [hn]; exact kX2_nameGuides) (oI := (oF [(mX2_leastGuide N), (mJ6_numberOfTrailingZeros_0f7a4 N)])) (oL := (oF [])) (oV := (oF [])) (rI := (fun _ _ => none)) (rL := (fun _ _ => none)) (rV := (fun w => some w))
      (K := (fun j ls st w => if j = 11 then (lgI ls 1 fun v1 => lgI ls 2 fun v2 => lgI ls 3 fun v3 => st0 st (callW (fX2_nameGuides_11 N N (fX2_nameGuides_47 N (fX2_nameGuides_5 N n k54)) v1 v2 v3) w)) else if j = 54 then (st0 st (k54 w)) else none)) (fun _ _ _ _ hx => by cases hx) (fun _ _ _ _ hx => by cases hx) (fun w pc ls hx hd => hr w pc ls (Option.some.inj hx) hd) hC (fun ls => lsb [some (.inr (.inr (6, 0))), none, none, none] 0 ls) (keepsP_of rfl) ?_ 93 5 [some (.inr (.inr (6, 0))), some (.inl v1), none, none] [] w ?_ h
    · intro j ls st w hfx h
      obtain ⟨e0, -⟩ : _ = _ ∧ True := hfx
      try dsimp only at h
      by_cases hj : j = 11
      · subst hj
        rw [if_pos rfl] at h
        obtain ⟨v1, e1, h_1⟩ := lgI_some h
        obtain ⟨v2, e2, h_2⟩ := lgI_some h_1
        obtain ⟨v3, e3, h_3⟩ := lgI_some h_2
        obtain ⟨rfl, h_4⟩ := st0_some h_3
        clear h h_1 h_2 h_3
        have h := h_4
        try rw [callW_eq] at h
        exact WW.le (a := [some (.inr (.inr (6, 0))), some (.inl v1), some (.inl v2), some (.inl v3)]) (by rw [hn]; rfl) (show _ = _ ∧ _ = _ ∧ _ = _ ∧ _ = _ ∧ True from ⟨e0, e1, e2, e3, trivial⟩) (sX2_nameGuides_11 G hn hC hr N (fX2_nameGuides_47 N (fX2_nameGuides_5 N n k54)) v1 v2 v3 w h (fun v1 v2 w h => (sX2_nameGuides_47 G hn hC hr (fX2_nameGuides_5 N n k54) v1 v2 w h (fun v1 w h => (ih k54 v1 w h h54)))))
      rw [if_neg hj] at h
      by_cases hj : j = 54
      · subst hj
        rw [if_pos rfl] at h
        obtain ⟨rfl, h_1⟩ := st0_some h
        clear h
        have h := h_1
        try rw [callW_eq] at h
        exact WW.le (a := [some (.inr (.inr (6, 0))), none, none, none]) (by rw [hn]; rfl) (show _ = _ ∧ True from ⟨e0, trivial⟩) (h54 w h)
      rw [if_neg hj] at h
      cases h
    · exact (show _ = _ ∧ True from ⟨rfl, trivial⟩)
set_option maxRecDepth 100000 in
set_option maxHeartbeats 4000000 in
theorem crX2_nameGuides {N : Nat} {X : XT} (G : GX X cX2_nameGuides RX2) (hR : xR X = rmL 3) : CRs X tX2_nameGuides (oF [(mX2_leastGuide N), (mJ6_numberOfTrailingZeros_0f7a4 N)]) (oF []) (oF []) := by
  have hl : tX2_nameGuides.filter isInv = [(56, .invokevirtual 117, 0, 0, 4, 0, 0, []), (99, .invokestatic 120, 0, 1, 1, 0, 0, []), (136, .invokevirtual 117, 0, 0, 4, 0, 0, [])] := rfl
  intro e he
  rw [hl] at he
  simp only [List.mem_cons, List.not_mem_nil, or_false] at he
  rcases he with rfl | rfl | rfl
  · exact crI_V (idx := 117) G (by decide +kernel) (MX2_leastGuide N) (cw_of (ps := [1209, 1211, 51, 159, 1212]) (by decide +kernel) (by decide +kernel)) ⟨by decide +kernel, by decide +kernel, by decide +kernel⟩ (by unfold rmOk; rw [hR]; exact ⟨by decide, by decide⟩)
  · exact crI_S (idx := 120) G (by decide +kernel) (MJ6_numberOfTrailingZeros_0f7a4 N) (cw_of (ps := [1213, 1214, 171, 1215]) (by decide +kernel) (by decide +kernel)) ⟨by decide +kernel, by decide +kernel, by decide +kernel⟩ (by unfold rmOk; rw [hR]; exact ⟨by decide, by decide⟩)
  · exact crI_V (idx := 117) G (by decide +kernel) (MX2_leastGuide N) (cw_of (ps := [1209, 1211, 51, 159, 1212]) (by decide +kernel) (by decide +kernel)) ⟨by decide +kernel, by decide +kernel, by decide +kernel⟩ (by unfold rmOk; rw [hR]; exact ⟨by decide, by decide⟩)
set_option maxRecDepth 100000 in
set_option maxHeartbeats 4000000 in
theorem MX2_nameGuides (N : Nat) : SndV yX2_nameGuides cX2_nameGuides 4 none 3 1 true (mX2_nameGuides N) := by
  refine SndV.of tX2_nameGuides (by decide +kernel) rfl rfl ?_ ?_
  · intro as w x h
    obtain ⟨t1, rfl, h_1⟩ := xS1_some h
    obtain ⟨rfl, h_2⟩ := xN1_some h_1
    clear h h_1
    have h := h_2
    rw [callW_eq] at h
    exact ⟨fun _ => ⟨_, _, _, rfl, rfl, _, rfl, rfl⟩, rfl, Nat.le_of_ble_eq_true rfl⟩
  · intro X G hn hR as w r h hr
    have hC := crX2_nameGuides (N := N) G hR
    obtain ⟨t1, rfl, h_1⟩ := xS1_some h
    obtain ⟨rfl, h_2⟩ := xN1_some h_1
    clear h h_1
    have h := h_2
    rw [callW_eq] at h
    refine run_sound (r := r) (X := X) (cc := cX2_nameGuides) (own := RX2) (tab := tX2_nameGuides) G (by rw [hn]; exact kX2_nameGuides) (oI := (oF [(mX2_leastGuide N), (mJ6_numberOfTrailingZeros_0f7a4 N)])) (oL := (oF [])) (oV := (oF [])) (rI := (fun _ _ => none)) (rL := (fun _ _ => none)) (rV := (fun w => some w))
      (K := (fun j ls st w => if j = 5 then (lgI ls 1 fun v1 => st0 st (callW (fX2_nameGuides_5 N N (fX2_nameGuides_54 N) v1) w)) else none)) (fun _ _ _ _ hx => by cases hx) (fun _ _ _ _ hx => by cases hx) (fun w pc ls hx hd => hr w pc ls (Option.some.inj hx) hd) hC (fun ls => lsb [some (.inr (.inr (6, 0))), none, none, none] 0 ls) (keepsP_of rfl) ?_ 93 0 [some (.inr (.inr (6, 0))), none, none, none] [] w ?_ h
    · intro j ls st w hfx h
      obtain ⟨e0, -⟩ : _ = _ ∧ True := hfx
      try dsimp only at h
      by_cases hj : j = 5
      · subst hj
        rw [if_pos rfl] at h
        obtain ⟨v1, e1, h_1⟩ := lgI_some h
        obtain ⟨rfl, h_2⟩ := st0_some h_1
        clear h h_1
        have h := h_2
        try rw [callW_eq] at h
        exact WW.le (a := [some (.inr (.inr (6, 0))), some (.inl v1), none, none]) (by rw [hn]; rfl) (show _ = _ ∧ _ = _ ∧ True from ⟨e0, e1, trivial⟩) (sX2_nameGuides_5 G hn hC hr N (fX2_nameGuides_54 N) v1 w h (fun w h => (sX2_nameGuides_54 G hn hC hr w h)))
      rw [if_neg hj] at h
      cases h
    · exact (show _ = _ ∧ True from ⟨rfl, trivial⟩)
-- MoorGuides$Leading.find(I)Z
def tX2_find : List EN := [
  (0, .aload_n 0, 0, 0, 0, 0, 0, []), (1, .iconst 0, 0, 0, 0, 0, 0, []), (2, .putfield 36, 0, 2, 7, 0, 0, []), (5, .aload_n 0, 0, 0, 0, 0, 0, []),
  (6, .iconst 0, 0, 0, 0, 0, 0, []), (7, .putfield 40, 0, 2, 8, 0, 0, []), (10, .aload_n 0, 0, 0, 0, 0, 0, []), (11, .getfield 32, 0, 2, 0, 0, 0, []),
  (14, .getfield 43, 0, 9, 0, 0, 0, []), (17, .astore_n 2, 0, 0, 0, 0, 0, []), (18, .iconst 0, 0, 0, 0, 0, 0, []), (19, .istore_n 3, 0, 0, 0, 0, 0, []),
  (20, .iload_n 3, 13, 0, 0, 0, 0, []), (21, .aload_n 2, 0, 0, 0, 0, 0, []), (22, .getfield 49, 0, 4, 4, 0, 0, []), (25, .getfield 55, 0, 6, 0, 0, 0, []),
  (28, .if_icmp .ge 29, 0, 31, 0, 0, 0, []), (31, .aload_n 0, 0, 0, 0, 0, 0, []), (32, .getfield 9, 0, 2, 1, 0, 0, []), (35, .iload_n 3, 0, 0, 0, 0, 0, []),
  (36, .aload_n 0, 0, 0, 0, 0, 0, []), (37, .getfield 32, 0, 2, 0, 0, 0, []), (40, .iload_n 3, 0, 0, 0, 0, 0, []), (41, .aload_n 2, 0, 0, 0, 0, 0, []),
  (42, .getfield 60, 0, 4, 8, 0, 0, []), (45, .iload_n 1, 0, 0, 0, 0, 0, []), (46, .iaload, 0, 0, 0, 0, 0, []), (47, .invokevirtual 63, 0, 0, 3, 0, 0, []),
  (50, .iastore, 0, 0, 0, 0, 0, []), (51, .iinc 3 1, 0, 0, 0, 1, 0, []), (54, .goto (-34), 0, 12, 0, 0, 0, []), (57, .aload_n 0, 32, 0, 0, 0, 0, []),
  (58, .aload_n 2, 0, 0, 0, 0, 0, []), (59, .getfield 67, 0, 4, 7, 0, 0, []), (62, .iload_n 1, 0, 0, 0, 0, 0, []), (63, .iaload, 0, 0, 0, 0, 0, []),
  (64, .invokevirtual 70, 0, 0, 2, 0, 0, [(0, 0), (0, 0)]), (67, .aload_n 2, 0, 0, 0, 0, 0, []), (68, .getfield 74, 0, 4, 6, 0, 0, []), (71, .iload_n 1, 0, 0, 0, 0, 0, []),
  (72, .iaload, 0, 0, 0, 0, 0, []), (73, .istore_n 3, 0, 0, 0, 0, 0, []), (74, .aload_n 0, 0, 0, 0, 0, 0, []), (75, .getfield 20, 0, 2, 3, 0, 0, []),
  (78, .iload_n 3, 0, 0, 0, 0, 0, []), (79, .iaload, 0, 0, 0, 0, 0, []), (80, .ldc 77, 0, 0, 0, 1048576, 0, []), (82, .if_icmp .lt 5, 0, 50, 0, 0, 0, []),
  (85, .iconst 0, 0, 0, 0, 0, 0, []), (86, .ireturn, 0, 0, 0, 0, 0, []), (87, .aload_n 0, 0, 0, 0, 0, 0, []), (88, .aload_n 0, 0, 0, 0, 0, 0, []),
  (89, .getfield 20, 0, 2, 3, 0, 0, []), (92, .iload_n 3, 0, 0, 0, 0, 0, []), (93, .iaload, 0, 0, 0, 0, 0, []), (94, .bipush 16, 0, 0, 0, 16, 0, []),
  (96, .idiv, 0, 0, 0, 0, 0, []), (97, .putfield 40, 0, 2, 8, 0, 0, []), (100, .aload_n 0, 0, 0, 0, 0, 0, []), (101, .iload_n 3, 0, 0, 0, 0, 0, []),
  (102, .aload_n 0, 0, 0, 0, 0, 0, []), (103, .getfield 20, 0, 2, 3, 0, 0, []), (106, .iload_n 3, 0, 0, 0, 0, 0, []), (107, .iaload, 0, 0, 0, 0, 0, []),
  (108, .bipush 16, 0, 0, 0, 16, 0, []), (110, .irem, 0, 0, 0, 0, 0, []), (111, .invokevirtual 78, 0, 1, 3, 0, 0, [(0, 0), (0, 0)]), (114, .aload_n 0, 0, 0, 0, 0, 0, []),
  (115, .invokevirtual 82, 0, 2, 1, 0, 0, [(0, 0), (0, 0)]), (118, .iconst 1, 0, 0, 0, 1, 0, []), (119, .ireturn, 0, 0, 0, 0, 0, [])]
noncomputable def fX2_find_31 (N : Nat) (a1 : Int32) (q2 : Nat) (w : Wd) : Option (Int32 × Wd) :=
  (ldI w 34 q2 a1 8).bind fun x1 =>
  (callW (pX2_measure N x1) w).bind fun w2 =>
  (ldI w2 33 q2 a1 8).bind fun x3 =>
  (ldI w2 26 0 x3 8).bind fun x4 =>
  if x4 < (1048576 : Int32) then
    (ldI w2 26 0 x3 8).bind fun x5 =>
    (ldI (setI w2 6 0 8 (x5 / (16 : Int32))) 26 0 x3 8).bind fun x6 =>
    (callW (pX2_followParts N x3 (x6 - x6 / (16 : Int32) * (16 : Int32))) (setI w2 6 0 8 (x5 / (16 : Int32)))).bind fun w7 =>
    (callW (pX2_nameGuides N) w7).bind fun w8 =>
    some ((1 : Int32), w8)
  else
  some ((0 : Int32), w2)
noncomputable def fX2_find_12 (N : Nat) (a1 : Int32) : Nat → (Nat → Wd → Option (Int32 × Wd)) → Nat → Int32 → Wd → Option (Int32 × Wd)
  | 0, _, _, _, _ => none
  | n + 1, k31, q2, v3, w =>
    if v3 < (gI w 10 q2 0) then
      (ldI w 35 q2 a1 8).bind fun x1 =>
      (callW (pX9_knownBits N 0 v3 x1) w).bind fun r2 =>
      (stI r2.2 23 0 v3 6 r2.1).bind fun w3 =>
      callW (fX2_find_12 N a1 n k31 q2 (v3 + (1 : Int32))) w3
    else
    k31 q2 w
noncomputable def pX2_find (N : Nat) (a1 : Int32) (w : Wd) : Option (Int32 × Wd) :=
  callW (fX2_find_12 N a1 N (fX2_find_31 N a1) (gR (setI (setI w 6 0 7 (0 : Int32)) 6 0 8 (0 : Int32)) 13 0 0) (0 : Int32)) (setI (setI w 6 0 7 (0 : Int32)) 6 0 8 (0 : Int32))
noncomputable def mX2_find (N : Nat) (as : List AV) (w : Wd) : Option (Int32 × Wd) := xS1 6 as fun t => xI1 t fun a1 t => xN1 t (callW (pX2_find N a1) w)
set_option maxRecDepth 100000 in
set_option maxHeartbeats 4000000 in
theorem kX2_find : TK cX2_find RX2 4 tX2_find := ⟨by decide +kernel, wok_of [582, 584, 573, 517, 277, 194, 574, 573, 295, 292, 289, 576, 1175, 576, 584, 576] (by decide +kernel) (by decide +kernel)⟩
set_option maxRecDepth 100000 in
set_option maxHeartbeats 4000000 in
theorem sX2_find_31 {N : Nat} {X : XT} (G : GX X cX2_find RX2) (hn : xnL X = 4) (hC : CRs X tX2_find (oF [(mX9_knownBits N)]) (oF []) (oF [(mX2_measure N), (mX2_followParts N), (mX2_nameGuides N)])) {r : Int32 × Wd} (hr : RTZ X cX2_find r) (a1 : Int32) : ∀ (q2 : Nat) (w : Wd), fX2_find_31 N a1 q2 w = some r → WW X (pcAt tX2_find 31) [some (.inr (.inr (6, 0))), some (.inl a1), some (.inr (.inr (8, q2))), none] [] w := by
  intro q2 w h
  refine run_sound (r := r) (X := X) (cc := cX2_find) (own := RX2) (tab := tX2_find) G (by rw [hn]; exact kX2_find) (oI := (oF [(mX9_knownBits N)])) (oL := (oF [])) (oV := (oF [(mX2_measure N), (mX2_followParts N), (mX2_nameGuides N)])) (rI := retZ) (rL := (fun _ _ => none)) (rV := (fun _ => none))
    (K := (fun j ls st w => none)) hr (fun _ _ _ _ hx => by cases hx) (fun _ _ _ hx => by cases hx) hC (fun ls => lsb [some (.inr (.inr (6, 0))), some (.inl a1), none, none] 0 ls) (keepsP_of rfl) ?_ 73 31 [some (.inr (.inr (6, 0))), some (.inl a1), some (.inr (.inr (8, q2))), none] [] w ?_ h
  · intro j ls st w hfx h
    obtain ⟨e0, e1, -⟩ : _ = _ ∧ _ = _ ∧ True := hfx
    try dsimp only at h
    cases h
  · exact (show _ = _ ∧ _ = _ ∧ True from ⟨rfl, rfl, trivial⟩)
set_option maxRecDepth 100000 in
set_option maxHeartbeats 4000000 in
theorem sX2_find_12 {N : Nat} {X : XT} (G : GX X cX2_find RX2) (hn : xnL X = 4) (hC : CRs X tX2_find (oF [(mX9_knownBits N)]) (oF []) (oF [(mX2_measure N), (mX2_followParts N), (mX2_nameGuides N)])) {r : Int32 × Wd} (hr : RTZ X cX2_find r) (a1 : Int32) : ∀ (n : Nat) (k31 : Nat → Wd → Option (Int32 × Wd)) (q2 : Nat) (v3 : Int32) (w : Wd), fX2_find_12 N a1 n k31 q2 v3 w = some r → (∀ (q2 : Nat) (w : Wd), k31 q2 w = some r → WW X (pcAt tX2_find 31) [some (.inr (.inr (6, 0))), some (.inl a1), some (.inr (.inr (8, q2))), none] [] w) → WW X (pcAt tX2_find 12) [some (.inr (.inr (6, 0))), some (.inl a1), some (.inr (.inr (8, q2))), some (.inl v3)] [] w := by
  intro n
  induction n with
  | zero => intro k31 q2 v3 w h h31; cases h
  | succ n ih =>
    intro k31 q2 v3 w h h31
    refine run_sound (r := r) (X := X) (cc := cX2_find) (own := RX2) (tab := tX2_find) G (by rw [hn]; exact kX2_find) (oI := (oF [(mX9_knownBits N)])) (oL := (oF [])) (oV := (oF [(mX2_measure N), (mX2_followParts N), (mX2_nameGuides N)])) (rI := retZ) (rL := (fun _ _ => none)) (rV := (fun _ => none))
      (K := (fun j ls st w => if j = 12 then (lgR ls 2 fun kk q2 => if kk = 8 then lgI ls 3 fun v3 => st0 st (callW (fX2_find_12 N a1 n k31 q2 v3) w) else none) else if j = 31 then (lgR ls 2 fun kk q2 => if kk = 8 then st0 st (k31 q2 w) else none) else none)) hr (fun _ _ _ _ hx => by cases hx) (fun _ _ _ hx => by cases hx) hC (fun ls => lsb [some (.inr (.inr (6, 0))), some (.inl a1), none, none] 0 ls) (keepsP_of rfl) ?_ 73 12 [some (.inr (.inr (6, 0))), some (.inl a1), some (.inr (.inr (8, q2))), some (.inl v3)] [] w ?_ h
    · intro j ls st w hfx h
      obtain ⟨e0, e1, -⟩ : _ = _ ∧ _ = _ ∧ True := hfx
      try dsimp only at h
      by_cases hj : j = 12
      · subst hj
        rw [if_pos rfl] at h
        obtain ⟨kk2, q2, e2, h_1⟩ := lgR_some h
        obtain ⟨rfl, h_2⟩ := if_some _ h_1
        obtain ⟨v3, e3, h_3⟩ := lgI_some h_2
        obtain ⟨rfl, h_4⟩ := st0_some h_3
        clear h h_1 h_2 h_3
        have h := h_4
        try rw [callW_eq] at h
        exact WW.le (a := [some (.inr (.inr (6, 0))), some (.inl a1), some (.inr (.inr (8, q2))), some (.inl v3)]) (by rw [hn]; rfl) (show _ = _ ∧ _ = _ ∧ _ = _ ∧ _ = _ ∧ True from ⟨e0, e1, e2, e3, trivial⟩) (ih k31 q2 v3 w h h31)
      rw [if_neg hj] at h
      by_cases hj : j = 31
      · subst hj
        rw [if_pos rfl] at h
        obtain ⟨kk2, q2, e2, h_1⟩ := lgR_some h
        obtain ⟨rfl, h_2⟩ := if_some _ h_1
        obtain ⟨rfl, h_3⟩ := st0_some h_2
        clear h h_1 h_2
        have h := h_3
        try rw [callW_eq] at h
        exact WW.le (a := [some (.inr (.inr (6, 0))), some (.inl a1), some (.inr (.inr (8, q2))), none]) (by rw [hn]; rfl) (show _ = _ ∧ _ = _ ∧ _ = _ ∧ True from ⟨e0, e1, e2, trivial⟩) (h31 q2 w h)
      rw [if_neg hj] at h
      cases h
    · exact (show _ = _ ∧ _ = _ ∧ True from ⟨rfl, rfl, trivial⟩)
set_option maxRecDepth 100000 in
set_option maxHeartbeats 4000000 in
theorem crX2_find {N : Nat} {X : XT} (G : GX X cX2_find RX2) (hR : xR X = rmL 5) : CRs X tX2_find (oF [(mX9_knownBits N)]) (oF []) (oF [(mX2_measure N), (mX2_followParts N), (mX2_nameGuides N)]) := by
  have hl : tX2_find.filter isInv = [(47, .invokevirtual 63, 0, 0, 3, 0, 0, []), (64, .invokevirtual 70, 0, 0, 2, 0, 0, [(0, 0), (0, 0)]), (111, .invokevirtual 78, 0, 1, 3, 0, 0, [(0, 0), (0, 0)]), (115, .invokevirtual 82, 0, 2, 1, 0, 0, [(0, 0), (0, 0)])] := rfl
  intro e he
  rw [hl] at he
  simp only [List.mem_cons, List.not_mem_nil, or_false] at he
  rcases he with rfl | rfl | rfl | rfl
  · exact crI_V (idx := 63) G (by decide +kernel) (MX9_knownBits N) (cw_of (ps := [1170, 1022, 1023, 158, 1024]) (by decide +kernel) (by decide +kernel)) ⟨by decide +kernel, by decide +kernel, by decide +kernel⟩ (by unfold rmOk; rw [hR]; exact ⟨by decide, by decide⟩)
  · exact crV_V (idx := 70) G (by decide +kernel) (MX2_measure N) (cw_of (ps := [1171, 1173, 42, 159, 1174]) (by decide +kernel) (by decide +kernel)) ⟨by decide +kernel, by decide +kernel, by decide +kernel⟩ (by unfold rmOk; rw [hR]; exact ⟨by decide, by decide⟩)
  · exact crV_V (idx := 78) G (by decide +kernel) (MX2_followParts N) (cw_of (ps := [1189, 1191, 46, 159, 1192]) (by decide +kernel) (by decide +kernel)) ⟨by decide +kernel, by decide +kernel, by decide +kernel⟩ (by unfold rmOk; rw [hR]; exact ⟨by decide, by decide⟩)
  · exact crV_V (idx := 82) G (by decide +kernel) (MX2_nameGuides N) (cw_of (ps := [1205, 1207, 50, 159, 1208]) (by decide +kernel) (by decide +kernel)) ⟨by decide +kernel, by decide +kernel, by decide +kernel⟩ (by unfold rmOk; rw [hR]; exact ⟨by decide, by decide⟩)
set_option maxRecDepth 100000 in
set_option maxHeartbeats 4000000 in
theorem MX2_find (N : Nat) : SndI yX2_find cX2_find 4 (some .boolean) 5 2 true (mX2_find N) := by
  refine SndI.ofZ tX2_find (by decide +kernel) rfl rfl ?_ ?_
  · intro as w x h
    obtain ⟨t1, rfl, h_1⟩ := xS1_some h
    obtain ⟨a1, t2, rfl, h_2⟩ := xI1_some h_1
    obtain ⟨rfl, h_3⟩ := xN1_some h_2
    clear h h_1 h_2
    have h := h_3
    rw [callW_eq] at h
    exact ⟨fun _ => ⟨_, _, _, rfl, rfl, _, rfl, rfl⟩, rfl, Nat.le_of_ble_eq_true rfl⟩
  · intro X G hn hR as w r h hr
    have hC := crX2_find (N := N) G hR
    obtain ⟨t1, rfl, h_1⟩ := xS1_some h
    obtain ⟨a1, t2, rfl, h_2⟩ := xI1_some h_1
    obtain ⟨rfl, h_3⟩ := xN1_some h_2
    clear h h_1 h_2
    have h := h_3
    rw [callW_eq] at h
    refine run_sound (r := r) (X := X) (cc := cX2_find) (own := RX2) (tab := tX2_find) G (by rw [hn]; exact kX2_find) (oI := (oF [(mX9_knownBits N)])) (oL := (oF [])) (oV := (oF [(mX2_measure N), (mX2_followParts N), (mX2_nameGuides N)])) (rI := retZ) (rL := (fun _ _ => none)) (rV := (fun _ => none))
      (K := (fun j ls st w => if j = 12 then (lgR ls 2 fun kk q2 => if kk = 8 then lgI ls 3 fun v3 => st0 st (callW (fX2_find_12 N a1 N (fX2_find_31 N a1) q2 v3) w) else none) else none)) hr (fun _ _ _ _ hx => by cases hx) (fun _ _ _ hx => by cases hx) hC (fun ls => lsb [some (.inr (.inr (6, 0))), some (.inl a1), none, none] 0 ls) (keepsP_of rfl) ?_ 73 0 [some (.inr (.inr (6, 0))), some (.inl a1), none, none] [] w ?_ h
    · intro j ls st w hfx h
      obtain ⟨e0, e1, -⟩ : _ = _ ∧ _ = _ ∧ True := hfx
      try dsimp only at h
      by_cases hj : j = 12
      · subst hj
        rw [if_pos rfl] at h
        obtain ⟨kk2, q2, e2, h_1⟩ := lgR_some h
        obtain ⟨rfl, h_2⟩ := if_some _ h_1
        obtain ⟨v3, e3, h_3⟩ := lgI_some h_2
        obtain ⟨rfl, h_4⟩ := st0_some h_3
        clear h h_1 h_2 h_3
        have h := h_4
        try rw [callW_eq] at h
        exact WW.le (a := [some (.inr (.inr (6, 0))), some (.inl a1), some (.inr (.inr (8, q2))), some (.inl v3)]) (by rw [hn]; rfl) (show _ = _ ∧ _ = _ ∧ _ = _ ∧ _ = _ ∧ True from ⟨e0, e1, e2, e3, trivial⟩) (sX2_find_12 G hn hC hr a1 N (fX2_find_31 N a1) q2 v3 w h (fun q2 w h => (sX2_find_31 G hn hC hr a1 q2 w h)))
      rw [if_neg hj] at h
      cases h
    · exact (show _ = _ ∧ _ = _ ∧ True from ⟨rfl, rfl, trivial⟩)
-- MoorGuides$Moor.wantedOn(II)I
def tX4_wantedOn : List EN := [
  (0, .iconst 0, 0, 0, 0, 0, 0, []), (1, .istore_n 3, 0, 0, 0, 0, 0, []), (2, .iconst 0, 0, 0, 0, 0, 0, []), (3, .istore 4, 0, 0, 0, 0, 0, []),
  (5, .iload 4, 5, 0, 0, 0, 0, []), (7, .aload_n 0, 0, 0, 0, 0, 0, []), (8, .getfield 66, 0, 4, 5, 0, 0, []), (11, .if_icmp .ge 45, 0, 29, 0, 0, 0, []),
  (14, .aload_n 0, 0, 0, 0, 0, 0, []), (15, .getfield 34, 0, 4, 8, 0, 0, []), (18, .iload 4, 0, 0, 0, 0, 0, []), (20, .iaload, 0, 0, 0, 0, 0, []),
  (21, .iload_n 2, 0, 0, 0, 0, 0, []), (22, .if_icmp .lt 28, 0, 27, 0, 0, 0, []), (25, .aload_n 0, 0, 0, 0, 0, 0, []), (26, .getfield 28, 0, 4, 6, 0, 0, []),
  (29, .iload 4, 0, 0, 0, 0, 0, []), (31, .iaload, 0, 0, 0, 0, 0, []), (32, .iload_n 1, 0, 0, 0, 0, 0, []), (33, .if_icmp .eq 14, 0, 26, 0, 0, 0, []),
  (36, .aload_n 0, 0, 0, 0, 0, 0, []), (37, .getfield 31, 0, 4, 7, 0, 0, []), (40, .iload 4, 0, 0, 0, 0, 0, []), (42, .iaload, 0, 0, 0, 0, 0, []),
  (43, .iload_n 1, 0, 0, 0, 0, 0, []), (44, .if_icmp .ne 6, 0, 27, 0, 0, 0, []), (47, .iinc 3 1, 0, 0, 0, 1, 0, []), (50, .iinc 4 1, 0, 0, 0, 1, 0, []),
  (53, .goto (-48), 0, 4, 0, 0, 0, []), (56, .iload_n 3, 0, 0, 0, 0, 0, []), (57, .ireturn, 0, 0, 0, 0, 0, [])]
noncomputable def fX4_wantedOn_4 (N : Nat) (i0 : Nat) (a1 : Int32) (a2 : Int32) : Nat → Int32 → Int32 → Wd → Option (Int32 × Wd)
  | 0, _, _, _ => none
  | n + 1, v3, v4, w =>
    if v4 < (gI w 8 i0 5) then
      (ldI w 35 i0 v4 8).bind fun x1 =>
      if x1 < a2 then callW (fX4_wantedOn_4 N i0 a1 a2 n v3 (v4 + (1 : Int32))) w else
      (ldI w 33 i0 v4 8).bind fun x2 =>
      if x2 = a1 then callW (fX4_wantedOn_4 N i0 a1 a2 n (v3 + (1 : Int32)) (v4 + (1 : Int32))) w else
      (ldI w 34 i0 v4 8).bind fun x3 =>
      if x3 = a1 then callW (fX4_wantedOn_4 N i0 a1 a2 n (v3 + (1 : Int32)) (v4 + (1 : Int32))) w else
      callW (fX4_wantedOn_4 N i0 a1 a2 n v3 (v4 + (1 : Int32))) w
    else
    some (v3, w)
noncomputable def pX4_wantedOn (N : Nat) (i0 : Nat) (a1 : Int32) (a2 : Int32) (w : Wd) : Option (Int32 × Wd) :=
  callW (fX4_wantedOn_4 N i0 a1 a2 N (0 : Int32) (0 : Int32)) w
noncomputable def mX4_wantedOn (N : Nat) (as : List AV) (w : Wd) : Option (Int32 × Wd) := xR1 8 as fun i0 t => xI1 t fun a1 t => xI1 t fun a2 t => xN1 t (callW (pX4_wantedOn N i0 a1 a2) w)
set_option maxRecDepth 100000 in
set_option maxHeartbeats 4000000 in
theorem kX4_wantedOn : TK cX4_wantedOn RX4 5 tX4_wantedOn := ⟨by decide +kernel, wok_of [283, 294, 288, 291] (by decide +kernel) (by decide +kernel)⟩
set_option maxRecDepth 100000 in
set_option maxHeartbeats 4000000 in
theorem sX4_wantedOn_4 {N : Nat} {X : XT} (G : GX X cX4_wantedOn RX4) (hn : xnL X = 5) (hC : CRs X tX4_wantedOn (oF []) (oF []) (oF [])) {r : Int32 × Wd} (hr : RTI X cX4_wantedOn r) (i0 : Nat) (a1 : Int32) (a2 : Int32) : ∀ (n : Nat) (v3 : Int32) (v4 : Int32) (w : Wd), fX4_wantedOn_4 N i0 a1 a2 n v3 v4 w = some r → WW X (pcAt tX4_wantedOn 4) [some (.inr (.inr (8, i0))), some (.inl a1), some (.inl a2), some (.inl v3), some (.inl v4)] [] w := by
  intro n
  induction n with
  | zero => intro v3 v4 w h; cases h
  | succ n ih =>
    intro v3 v4 w h
    refine run_sound (r := r) (X := X) (cc := cX4_wantedOn) (own := RX4) (tab := tX4_wantedOn) G (by rw [hn]; exact kX4_wantedOn) (oI := (oF [])) (oL := (oF [])) (oV := (oF [])) (rI := (fun x w => some (x, w))) (rL := (fun _ _ => none)) (rV := (fun _ => none))
      (K := (fun j ls st w => if j = 4 then (lgI ls 3 fun v3 => lgI ls 4 fun v4 => st0 st (callW (fX4_wantedOn_4 N i0 a1 a2 n v3 v4) w)) else none)) (fun x w pc ls hx hd => hr x w pc ls (Option.some.inj hx) hd) (fun _ _ _ _ hx => by cases hx) (fun _ _ _ hx => by cases hx) hC (fun ls => lsb [some (.inr (.inr (8, i0))), some (.inl a1), some (.inl a2), none, none] 0 ls) (keepsP_of rfl) ?_ 33 4 [some (.inr (.inr (8, i0))), some (.inl a1), some (.inl a2), some (.inl v3), some (.inl v4)] [] w ?_ h
    · intro j ls st w hfx h
      obtain ⟨e0, e1, e2, -⟩ : _ = _ ∧ _ = _ ∧ _ = _ ∧ True := hfx
      try dsimp only at h
      by_cases hj : j = 4
      · subst hj
        rw [if_pos rfl] at h
        obtain ⟨v3, e3, h_1⟩ := lgI_some h
        obtain ⟨v4, e4, h_2⟩ := lgI_some h_1
        obtain ⟨rfl, h_3⟩ := st0_some h_2
        clear h h_1 h_2
        have h := h_3
        try rw [callW_eq] at h
        exact WW.le (a := [some (.inr (.inr (8, i0))), some (.inl a1), some (.inl a2), some (.inl v3), some (.inl v4)]) (by rw [hn]; rfl) (show _ = _ ∧ _ = _ ∧ _ = _ ∧ _ = _ ∧ _ = _ ∧ True from ⟨e0, e1, e2, e3, e4, trivial⟩) (ih v3 v4 w h)
      rw [if_neg hj] at h
      cases h
    · exact (show _ = _ ∧ _ = _ ∧ _ = _ ∧ True from ⟨rfl, rfl, rfl, trivial⟩)
set_option maxRecDepth 100000 in
set_option maxHeartbeats 4000000 in
theorem crX4_wantedOn {N : Nat} {X : XT} (G : GX X cX4_wantedOn RX4) (hR : xR X = rmL 1) : CRs X tX4_wantedOn (oF []) (oF []) (oF []) := by
  have hl : tX4_wantedOn.filter isInv = [] := rfl
  intro e he
  rw [hl] at he
  cases he
set_option maxRecDepth 100000 in
set_option maxHeartbeats 4000000 in
theorem MX4_wantedOn (N : Nat) : SndI yX4_wantedOn cX4_wantedOn 5 (some .int) 1 3 true (mX4_wantedOn N) := by
  refine SndI.of tX4_wantedOn (by decide +kernel) rfl rfl ?_ ?_
  · intro as w x h
    obtain ⟨i0, t1, rfl, h_1⟩ := xR1_some h
    obtain ⟨a1, t2, rfl, h_2⟩ := xI1_some h_1
    obtain ⟨a2, t3, rfl, h_3⟩ := xI1_some h_2
    obtain ⟨rfl, h_4⟩ := xN1_some h_3
    clear h h_1 h_2 h_3
    have h := h_4
    rw [callW_eq] at h
    exact ⟨fun _ => ⟨_, _, _, rfl, rfl, _, rfl, rfl⟩, rfl, Nat.le_of_ble_eq_true rfl⟩
  · intro X G hn hR as w r h hr
    have hC := crX4_wantedOn (N := N) G hR
    obtain ⟨i0, t1, rfl, h_1⟩ := xR1_some h
    obtain ⟨a1, t2, rfl, h_2⟩ := xI1_some h_1
    obtain ⟨a2, t3, rfl, h_3⟩ := xI1_some h_2
    obtain ⟨rfl, h_4⟩ := xN1_some h_3
    clear h h_1 h_2 h_3
    have h := h_4
    rw [callW_eq] at h
    refine run_sound (r := r) (X := X) (cc := cX4_wantedOn) (own := RX4) (tab := tX4_wantedOn) G (by rw [hn]; exact kX4_wantedOn) (oI := (oF [])) (oL := (oF [])) (oV := (oF [])) (rI := (fun x w => some (x, w))) (rL := (fun _ _ => none)) (rV := (fun _ => none))
      (K := (fun j ls st w => if j = 4 then (lgI ls 3 fun v3 => lgI ls 4 fun v4 => st0 st (callW (fX4_wantedOn_4 N i0 a1 a2 N v3 v4) w)) else none)) (fun x w pc ls hx hd => hr x w pc ls (Option.some.inj hx) hd) (fun _ _ _ _ hx => by cases hx) (fun _ _ _ hx => by cases hx) hC (fun ls => lsb [some (.inr (.inr (8, i0))), some (.inl a1), some (.inl a2), none, none] 0 ls) (keepsP_of rfl) ?_ 33 0 [some (.inr (.inr (8, i0))), some (.inl a1), some (.inl a2), none, none] [] w ?_ h
    · intro j ls st w hfx h
      obtain ⟨e0, e1, e2, -⟩ : _ = _ ∧ _ = _ ∧ _ = _ ∧ True := hfx
      try dsimp only at h
      by_cases hj : j = 4
      · subst hj
        rw [if_pos rfl] at h
        obtain ⟨v3, e3, h_1⟩ := lgI_some h
        obtain ⟨v4, e4, h_2⟩ := lgI_some h_1
        obtain ⟨rfl, h_3⟩ := st0_some h_2
        clear h h_1 h_2
        have h := h_3
        try rw [callW_eq] at h
        exact WW.le (a := [some (.inr (.inr (8, i0))), some (.inl a1), some (.inl a2), some (.inl v3), some (.inl v4)]) (by rw [hn]; rfl) (show _ = _ ∧ _ = _ ∧ _ = _ ∧ _ = _ ∧ _ = _ ∧ True from ⟨e0, e1, e2, e3, e4, trivial⟩) (sX4_wantedOn_4 G hn hC hr i0 a1 a2 N v3 v4 w h)
      rw [if_neg hj] at h
      cases h
    · exact (show _ = _ ∧ _ = _ ∧ _ = _ ∧ True from ⟨rfl, rfl, rfl, trivial⟩)
-- java/lang/Math.floorMod(II)I
def tJ9_floorMod_7cf53 : List EN := [
  (0, .iload_n 0, 0, 0, 0, 0, 0, []), (1, .iload_n 1, 0, 0, 0, 0, 0, []), (2, .irem, 0, 0, 0, 0, 0, []), (3, .istore_n 2, 0, 0, 0, 0, 0, []),
  (4, .iload_n 0, 0, 0, 0, 0, 0, []), (5, .iload_n 1, 0, 0, 0, 0, 0, []), (6, .ixor, 0, 0, 0, 0, 0, []), (7, .ifCond .ge 11, 0, 14, 0, 0, 0, []),
  (10, .iload_n 2, 0, 0, 0, 0, 0, []), (11, .ifCond .eq 7, 0, 14, 0, 0, 0, []), (14, .iload_n 2, 0, 0, 0, 0, 0, []), (15, .iload_n 1, 0, 0, 0, 0, 0, []),
  (16, .iadd, 0, 0, 0, 0, 0, []), (17, .ireturn, 0, 0, 0, 0, 0, []), (18, .iload_n 2, 0, 0, 0, 0, 0, []), (19, .ireturn, 0, 0, 0, 0, 0, [])]
noncomputable def pJ9_floorMod_7cf53 (N : Nat) (a0 : Int32) (a1 : Int32) (w : Wd) : Option (Int32 × Wd) :=
  if a1 = 0 then none else
  if (a0 ^^^ a1) < 0 then
    if (a0 - a0 / a1 * a1) = 0 then some ((a0 - a0 / a1 * a1), w) else
    some (((a0 - a0 / a1 * a1) + a1), w)
  else
  some ((a0 - a0 / a1 * a1), w)
noncomputable def mJ9_floorMod_7cf53 (N : Nat) (as : List AV) (w : Wd) : Option (Int32 × Wd) := xI1 as fun a0 t => xI1 t fun a1 t => xN1 t (callW (pJ9_floorMod_7cf53 N a0 a1) w)
set_option maxRecDepth 100000 in
set_option maxHeartbeats 4000000 in
theorem kJ9_floorMod_7cf53 : TK cJ9_floorMod_7cf53 RJ9 3 tJ9_floorMod_7cf53 := ⟨by decide +kernel, wok_of [] (by decide +kernel) (by decide +kernel)⟩
set_option maxRecDepth 100000 in
set_option maxHeartbeats 4000000 in
theorem crJ9_floorMod_7cf53 {N : Nat} {X : XT} (G : GX X cJ9_floorMod_7cf53 RJ9) (hR : xR X = rmL 1) : CRs X tJ9_floorMod_7cf53 (oF []) (oF []) (oF []) := by
  have hl : tJ9_floorMod_7cf53.filter isInv = [] := rfl
  intro e he
  rw [hl] at he
  cases he
set_option maxRecDepth 100000 in
set_option maxHeartbeats 4000000 in
theorem MJ9_floorMod_7cf53 (N : Nat) : SndI yJ9_floorMod_7cf53 cJ9_floorMod_7cf53 3 (some .int) 1 2 false (mJ9_floorMod_7cf53 N) := by
  refine SndI.of tJ9_floorMod_7cf53 (by decide +kernel) rfl rfl ?_ ?_
  · intro as w x h
    obtain ⟨a0, t1, rfl, h_1⟩ := xI1_some h
    obtain ⟨a1, t2, rfl, h_2⟩ := xI1_some h_1
    obtain ⟨rfl, h_3⟩ := xN1_some h_2
    clear h h_1 h_2
    have h := h_3
    rw [callW_eq] at h
    exact ⟨(fun z => by cases z), rfl, Nat.le_of_ble_eq_true rfl⟩
  · intro X G hn hR as w r h hr
    have hC := crJ9_floorMod_7cf53 (N := N) G hR
    obtain ⟨a0, t1, rfl, h_1⟩ := xI1_some h
    obtain ⟨a1, t2, rfl, h_2⟩ := xI1_some h_1
    obtain ⟨rfl, h_3⟩ := xN1_some h_2
    clear h h_1 h_2
    have h := h_3
    rw [callW_eq] at h
    refine run_sound (r := r) (X := X) (cc := cJ9_floorMod_7cf53) (own := RJ9) (tab := tJ9_floorMod_7cf53) G (by rw [hn]; exact kJ9_floorMod_7cf53) (oI := (oF [])) (oL := (oF [])) (oV := (oF [])) (rI := (fun x w => some (x, w))) (rL := (fun _ _ => none)) (rV := (fun _ => none))
      (K := (fun j ls st w => none)) (fun x w pc ls hx hd => hr x w pc ls (Option.some.inj hx) hd) (fun _ _ _ _ hx => by cases hx) (fun _ _ _ hx => by cases hx) hC (fun ls => lsb [some (.inl a0), some (.inl a1), none] 0 ls) (keepsP_of rfl) ?_ 18 0 [some (.inl a0), some (.inl a1), none] [] w ?_ h
    · intro j ls st w hfx h
      obtain ⟨e0, e1, -⟩ : _ = _ ∧ _ = _ ∧ True := hfx
      try dsimp only at h
      cases h
    · exact (show _ = _ ∧ _ = _ ∧ True from ⟨rfl, rfl, trivial⟩)

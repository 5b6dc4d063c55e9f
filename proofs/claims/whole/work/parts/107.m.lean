-- MoorGuides.lose(II)Z
def tX11_lose : List EN := [
  (0, .aload_n 0, 0, 0, 0, 0, 0, []), (1, .iload_n 1, 0, 0, 0, 0, 0, []), (2, .invokevirtual 212, 0, 0, 2, 0, 0, []), (5, .ifCond .eq 16, 0, 11, 0, 0, 0, []),
  (8, .iload_n 2, 0, 0, 0, 0, 0, []), (9, .iconst (-1), 0, 0, 0, (-1), 0, []), (10, .if_icmp .eq 13, 0, 13, 0, 0, 0, []), (13, .aload_n 0, 0, 0, 0, 0, 0, []),
  (14, .iload_n 2, 0, 0, 0, 0, 0, []), (15, .invokevirtual 185, 0, 1, 2, 0, 0, []), (18, .ifCond .ne 5, 0, 13, 0, 0, 0, []), (21, .iconst 0, 0, 0, 0, 0, 0, []),
  (22, .ireturn, 0, 0, 0, 0, 0, []), (23, .aload_n 0, 14, 0, 0, 0, 0, []), (24, .iload_n 1, 0, 0, 0, 0, 0, []), (25, .aload_n 0, 0, 0, 0, 0, 0, []),
  (26, .getfield 35, 0, 11, 5, 0, 0, []), (29, .getfield 177, 0, 9, 6, 0, 0, []), (32, .iload_n 1, 0, 0, 0, 0, 0, []), (33, .iaload, 0, 0, 0, 0, 0, []),
  (34, .invokevirtual 233, 0, 0, 3, 0, 0, [(0, 0), (0, 0)]), (37, .aload_n 0, 0, 0, 0, 0, 0, []), (38, .getfield 35, 0, 11, 5, 0, 0, []), (41, .getfield 177, 0, 9, 6, 0, 0, []),
  (44, .iload_n 1, 0, 0, 0, 0, 0, []), (45, .iload_n 2, 0, 0, 0, 0, 0, []), (46, .iastore, 0, 0, 0, 0, 0, []), (47, .iconst 1, 0, 0, 0, 1, 0, []),
  (48, .ireturn, 0, 0, 0, 0, 0, [])]
noncomputable def fX11_lose_13 (N : Nat) (a1 : Int32) (a2 : Int32) (w : Wd) : Option (Int32 × Wd) :=
  (ldI w 63 0 a1 6).bind fun x1 =>
  (callW (pX11_remember N a1 x1) w).bind fun w2 =>
  (stI w2 63 0 a1 6 a2).bind fun w3 =>
  some ((1 : Int32), w3)
noncomputable def pX11_lose (N : Nat) (a1 : Int32) (a2 : Int32) (w : Wd) : Option (Int32 × Wd) :=
  (callW (pX11_isThereTonight N a1) w).bind fun r1 =>
  if r1.1 = 0 then some ((0 : Int32), r1.2) else
  if a2 = (-1 : Int32) then callW (fX11_lose_13 N a1 a2) r1.2 else
  (callW (pX11_isPart N a2) r1.2).bind fun r2 =>
  if r2.1 = 0 then some ((0 : Int32), r2.2) else
  callW (fX11_lose_13 N a1 a2) r2.2
noncomputable def mX11_lose (N : Nat) (as : List AV) (w : Wd) : Option (Int32 × Wd) := xS1 15 as fun t => xI1 t fun a1 t => xI1 t fun a2 t => xN1 t (callW (pX11_lose N a1 a2) w)
set_option maxRecDepth 100000 in
set_option maxHeartbeats 4000000 in
theorem kX11_lose : TK cX11_lose RX11 3 tX11_lose := ⟨by decide +kernel, wok_of [730, 535, 730, 535] (by decide +kernel) (by decide +kernel)⟩
set_option maxRecDepth 100000 in
set_option maxHeartbeats 4000000 in
theorem sX11_lose_13 {N : Nat} {X : XT} (G : GX X cX11_lose RX11) (hn : xnL X = 3) (hC : CRs X tX11_lose (oF [(mX11_isThereTonight N), (mX11_isPart N)]) (oF []) (oF [(mX11_remember N)])) {r : Int32 × Wd} (hr : RTZ X cX11_lose r) (a1 : Int32) (a2 : Int32) : ∀ (w : Wd), fX11_lose_13 N a1 a2 w = some r → WW X (pcAt tX11_lose 13) [some (.inr (.inr (15, 0))), some (.inl a1), some (.inl a2)] [] w := by
  intro w h
  refine run_sound (r := r) (X := X) (cc := cX11_lose) (own := RX11) (tab := tX11_lose) G (by rw [hn]; exact kX11_lose) (oI := (oF [(mX11_isThereTonight N), (mX11_isPart N)])) (oL := (oF [])) (oV := (oF [(mX11_remember N)])) (rI := retZ) (rL := (fun _ _ => none)) (rV := (fun _ => none))
    (K := (fun j ls st w => none)) hr (fun _ _ _ _ hx => by cases hx) (fun _ _ _ hx => by cases hx) hC (fun ls => lsb [some (.inr (.inr (15, 0))), some (.inl a1), some (.inl a2)] 0 ls) (keepsP_of rfl) ?_ 31 13 [some (.inr (.inr (15, 0))), some (.inl a1), some (.inl a2)] [] w ?_ h
  · intro j ls st w hfx h
    obtain ⟨e0, e1, e2, -⟩ : _ = _ ∧ _ = _ ∧ _ = _ ∧ True := hfx
    try dsimp only at h
    cases h
  · exact (show _ = _ ∧ _ = _ ∧ _ = _ ∧ True from ⟨rfl, rfl, rfl, trivial⟩)
set_option maxRecDepth 100000 in
set_option maxHeartbeats 4000000 in
theorem crX11_lose {N : Nat} {X : XT} (G : GX X cX11_lose RX11) (hR : xR X = rmL 3) : CRs X tX11_lose (oF [(mX11_isThereTonight N), (mX11_isPart N)]) (oF []) (oF [(mX11_remember N)]) := by
  have hl : tX11_lose.filter isInv = [(2, .invokevirtual 212, 0, 0, 2, 0, 0, []), (15, .invokevirtual 185, 0, 1, 2, 0, 0, []), (34, .invokevirtual 233, 0, 0, 3, 0, 0, [(0, 0), (0, 0)])] := rfl
  intro e he
  rw [hl] at he
  simp only [List.mem_cons, List.not_mem_nil, or_false] at he
  rcases he with rfl | rfl | rfl
  · exact crI_V (idx := 212) G (by decide +kernel) (MX11_isThereTonight N) (cw_of (ps := [1052, 1054, 35, 146, 1055]) (by decide +kernel) (by decide +kernel)) ⟨by decide +kernel, by decide +kernel, by decide +kernel⟩ (by unfold rmOk; rw [hR]; exact ⟨by decide, by decide⟩)
  · exact crI_V (idx := 185) G (by decide +kernel) (MX11_isPart N) (cw_of (ps := [1004, 1006, 33, 146, 1007]) (by decide +kernel) (by decide +kernel)) ⟨by decide +kernel, by decide +kernel, by decide +kernel⟩ (by unfold rmOk; rw [hR]; exact ⟨by decide, by decide⟩)
  · exact crV_V (idx := 233) G (by decide +kernel) (MX11_remember N) (cw_of (ps := [1116, 1118, 38, 146, 1119]) (by decide +kernel) (by decide +kernel)) ⟨by decide +kernel, by decide +kernel, by decide +kernel⟩ (by unfold rmOk; rw [hR]; exact ⟨by decide, by decide⟩)
set_option maxRecDepth 100000 in
set_option maxHeartbeats 4000000 in
theorem MX11_lose (N : Nat) : SndI yX11_lose cX11_lose 3 (some .boolean) 3 3 true (mX11_lose N) := by
  refine SndI.ofZ tX11_lose (by decide +kernel) rfl rfl ?_ ?_
  · intro as w x h
    obtain ⟨t1, rfl, h_1⟩ := xS1_some h
    obtain ⟨a1, t2, rfl, h_2⟩ := xI1_some h_1
    obtain ⟨a2, t3, rfl, h_3⟩ := xI1_some h_2
    obtain ⟨rfl, h_4⟩ := xN1_some h_3
    clear h h_1 h_2 h_3
    have h := h_4
    rw [callW_eq] at h
    exact ⟨fun _ => ⟨_, _, _, rfl, rfl, _, rfl, rfl⟩, rfl, Nat.le_of_ble_eq_true rfl⟩
  · intro X G hn hR as w r h hr
    have hC := crX11_lose (N := N) G hR
    obtain ⟨t1, rfl, h_1⟩ := xS1_some h
    obtain ⟨a1, t2, rfl, h_2⟩ := xI1_some h_1
    obtain ⟨a2, t3, rfl, h_3⟩ := xI1_some h_2
    obtain ⟨rfl, h_4⟩ := xN1_some h_3
    clear h h_1 h_2 h_3
    have h := h_4
    rw [callW_eq] at h
    refine run_sound (r := r) (X := X) (cc := cX11_lose) (own := RX11) (tab := tX11_lose) G (by rw [hn]; exact kX11_lose) (oI := (oF [(mX11_isThereTonight N), (mX11_isPart N)])) (oL := (oF [])) (oV := (oF [(mX11_remember N)])) (rI := retZ) (rL := (fun _ _ => none)) (rV := (fun _ => none))
      (K := (fun j ls st w => if j = 13 then (st0 st (callW (fX11_lose_13 N a1 a2) w)) else none)) hr (fun _ _ _ _ hx => by cases hx) (fun _ _ _ hx => by cases hx) hC (fun ls => lsb [some (.inr (.inr (15, 0))), some (.inl a1), some (.inl a2)] 0 ls) (keepsP_of rfl) ?_ 31 0 [some (.inr (.inr (15, 0))), some (.inl a1), some (.inl a2)] [] w ?_ h
    · intro j ls st w hfx h
      obtain ⟨e0, e1, e2, -⟩ : _ = _ ∧ _ = _ ∧ _ = _ ∧ True := hfx
      try dsimp only at h
      by_cases hj : j = 13
      · subst hj
        rw [if_pos rfl] at h
        obtain ⟨rfl, h_1⟩ := st0_some h
        clear h
        have h := h_1
        try rw [callW_eq] at h
        exact WW.le (a := [some (.inr (.inr (15, 0))), some (.inl a1), some (.inl a2)]) (by rw [hn]; rfl) (show _ = _ ∧ _ = _ ∧ _ = _ ∧ True from ⟨e0, e1, e2, trivial⟩) (sX11_lose_13 G hn hC hr a1 a2 w h)
      rw [if_neg hj] at h
      cases h
    · exact (show _ = _ ∧ _ = _ ∧ _ = _ ∧ True from ⟨rfl, rfl, rfl, trivial⟩)
-- MoorGuides.nights(I)I
def tX11_nights : List EN := [
  (0, .iload_n 1, 0, 0, 0, 0, 0, []), (1, .ifCond .lt 25, 0, 12, 0, 0, 0, []), (4, .iload_n 1, 0, 0, 0, 0, 0, []), (5, .sipush 200, 0, 0, 0, 200, 0, []),
  (8, .if_icmp .gt 18, 0, 12, 0, 0, 0, []), (11, .aload_n 0, 0, 0, 0, 0, 0, []), (12, .getfield 35, 0, 11, 5, 0, 0, []), (15, .getfield 157, 0, 9, 1, 0, 0, []),
  (18, .iload_n 1, 0, 0, 0, 0, 0, []), (19, .iadd, 0, 0, 0, 0, 0, []), (20, .sipush 1000, 0, 0, 0, 1000, 0, []), (23, .if_icmp .le 5, 0, 14, 0, 0, 0, []),
  (26, .iconst (-1), 0, 0, 0, (-1), 0, []), (27, .ireturn, 0, 0, 0, 0, 0, []), (28, .iconst 0, 0, 0, 0, 0, 0, []), (29, .istore_n 2, 0, 0, 0, 0, 0, []),
  (30, .iload_n 2, 17, 0, 0, 0, 0, []), (31, .iload_n 1, 0, 0, 0, 0, 0, []), (32, .if_icmp .ge 16, 0, 24, 0, 0, 0, []), (35, .aload_n 0, 0, 0, 0, 0, 0, []),
  (36, .getfield 35, 0, 11, 5, 0, 0, []), (39, .invokevirtual 237, 0, 0, 1, 0, 0, [(0, 0), (0, 0)]), (42, .iinc 2 1, 0, 0, 0, 1, 0, []), (45, .goto (-15), 0, 16, 0, 0, 0, []),
  (48, .iload_n 1, 25, 0, 0, 0, 0, []), (49, .ifCond .le 15, 0, 32, 0, 0, 0, []), (52, .aload_n 0, 0, 0, 0, 0, 0, []), (53, .iconst 0, 0, 0, 0, 0, 0, []),
  (54, .putfield 109, 0, 11, 8, 0, 0, []), (57, .aload_n 0, 0, 0, 0, 0, 0, []), (58, .getfield 68, 0, 11, 13, 0, 0, []), (61, .invokevirtual 112, 0, 1, 1, 0, 0, [(0, 0), (0, 0)]),
  (64, .aload_n 0, 0, 0, 0, 0, 0, []), (65, .getfield 35, 0, 11, 5, 0, 0, []), (68, .getfield 157, 0, 9, 1, 0, 0, []), (71, .ireturn, 0, 0, 0, 0, 0, [])]
noncomputable def fX11_nights_24 (N : Nat) (a1 : Int32) (w : Wd) : Option (Int32 × Wd) :=
  if 0 < a1 then
    (callW (pX5_drop N) (setI w 15 0 8 (0 : Int32))).bind fun w1 =>
    some ((gI w1 13 0 1), w1)
  else
  some ((gI w 13 0 1), w)
noncomputable def fX11_nights_16 (N : Nat) (a1 : Int32) : Nat → (Wd → Option (Int32 × Wd)) → Int32 → Wd → Option (Int32 × Wd)
  | 0, _, _, _ => none
  | n + 1, k24, v2, w =>
    if v2 < a1 then
      (callW (pX9_goBy N 0) w).bind fun w1 =>
      callW (fX11_nights_16 N a1 n k24 (v2 + (1 : Int32))) w1
    else
    k24 w
noncomputable def pX11_nights (N : Nat) (a1 : Int32) (w : Wd) : Option (Int32 × Wd) :=
  if a1 < 0 then some ((-1 : Int32), w) else
  if (200 : Int32) < a1 then some ((-1 : Int32), w) else
  if (1000 : Int32) < ((gI w 13 0 1) + a1) then some ((-1 : Int32), w) else
  callW (fX11_nights_16 N a1 N (fX11_nights_24 N a1) (0 : Int32)) w
noncomputable def mX11_nights (N : Nat) (as : List AV) (w : Wd) : Option (Int32 × Wd) := xS1 15 as fun t => xI1 t fun a1 t => xN1 t (callW (pX11_nights N a1) w)
set_option maxRecDepth 100000 in
set_option maxHeartbeats 4000000 in
theorem kX11_nights : TK cX11_nights RX11 3 tX11_nights := ⟨by decide +kernel, wok_of [730, 522, 730, 733, 738, 730, 522] (by decide +kernel) (by decide +kernel)⟩
set_option maxRecDepth 100000 in
set_option maxHeartbeats 4000000 in
theorem sX11_nights_24 {N : Nat} {X : XT} (G : GX X cX11_nights RX11) (hn : xnL X = 3) (hC : CRs X tX11_nights (oF []) (oF []) (oF [(mX9_goBy N), (mX5_drop N)])) {r : Int32 × Wd} (hr : RTI X cX11_nights r) (a1 : Int32) : ∀ (w : Wd), fX11_nights_24 N a1 w = some r → WW X (pcAt tX11_nights 24) [some (.inr (.inr (15, 0))), some (.inl a1), none] [] w := by
  intro w h
  refine run_sound (r := r) (X := X) (cc := cX11_nights) (own := RX11) (tab := tX11_nights) G (by rw [hn]; exact kX11_nights) (oI := (oF [])) (oL := (oF [])) (oV := (oF [(mX9_goBy N), (mX5_drop N)])) (rI := (fun x w => some (x, w))) (rL := (fun _ _ => none)) (rV := (fun _ => none))
    (K := (fun j ls st w => none)) (fun x w pc ls hx hd => hr x w pc ls (Option.some.inj hx) hd) (fun _ _ _ _ hx => by cases hx) (fun _ _ _ hx => by cases hx) hC (fun ls => lsb [some (.inr (.inr (15, 0))), some (.inl a1), none] 0 ls) (keepsP_of rfl) ?_ 38 24 [some (.inr (.inr (15, 0))), some (.inl a1), none] [] w ?_ h
  · intro j ls st w hfx h
    obtain ⟨e0, e1, -⟩ : _ = _ ∧ _ = _ ∧ True := hfx
    try dsimp only at h
    cases h
  · exact (show _ = _ ∧ _ = _ ∧ True from ⟨rfl, rfl, trivial⟩)
set_option maxRecDepth 100000 in
set_option maxHeartbeats 4000000 in
theorem sX11_nights_16 {N : Nat} {X : XT} (G : GX X cX11_nights RX11) (hn : xnL X = 3) (hC : CRs X tX11_nights (oF []) (oF []) (oF [(mX9_goBy N), (mX5_drop N)])) {r : Int32 × Wd} (hr : RTI X cX11_nights r) (a1 : Int32) : ∀ (n : Nat) (k24 : Wd → Option (Int32 × Wd)) (v2 : Int32) (w : Wd), fX11_nights_16 N a1 n k24 v2 w = some r → (∀ (w : Wd), k24 w = some r → WW X (pcAt tX11_nights 24) [some (.inr (.inr (15, 0))), some (.inl a1), none] [] w) → WW X (pcAt tX11_nights 16) [some (.inr (.inr (15, 0))), some (.inl a1), some (.inl v2)] [] w := by
  intro n
  induction n with
  | zero => intro k24 v2 w h h24; cases h
  | succ n ih =>
    intro k24 v2 w h h24
    refine run_sound (r := r) (X := X) (cc := cX11_nights) (own := RX11) (tab := tX11_nights) G (by rw [hn]; exact kX11_nights) (oI := (oF [])) (oL := (oF [])) (oV := (oF [(mX9_goBy N), (mX5_drop N)])) (rI := (fun x w => some (x, w))) (rL := (fun _ _ => none)) (rV := (fun _ => none))
      (K := (fun j ls st w => if j = 16 then (lgI ls 2 fun v2 => st0 st (callW (fX11_nights_16 N a1 n k24 v2) w)) else if j = 24 then (st0 st (k24 w)) else none)) (fun x w pc ls hx hd => hr x w pc ls (Option.some.inj hx) hd) (fun _ _ _ _ hx => by cases hx) (fun _ _ _ hx => by cases hx) hC (fun ls => lsb [some (.inr (.inr (15, 0))), some (.inl a1), none] 0 ls) (keepsP_of rfl) ?_ 38 16 [some (.inr (.inr (15, 0))), some (.inl a1), some (.inl v2)] [] w ?_ h
    · intro j ls st w hfx h
      obtain ⟨e0, e1, -⟩ : _ = _ ∧ _ = _ ∧ True := hfx
      try dsimp only at h
      by_cases hj : j = 16
      · subst hj
        rw [if_pos rfl] at h
        obtain ⟨v2, e2, h_1⟩ := lgI_some h
        obtain ⟨rfl, h_2⟩ := st0_some h_1
        clear h h_1
        have h := h_2
        try rw [callW_eq] at h
        exact WW.le (a := [some (.inr (.inr (15, 0))), some (.inl a1), some (.inl v2)]) (by rw [hn]; rfl) (show _ = _ ∧ _ = _ ∧ _ = _ ∧ True from ⟨e0, e1, e2, trivial⟩) (ih k24 v2 w h h24)
      rw [if_neg hj] at h
      by_cases hj : j = 24
      · subst hj
        rw [if_pos rfl] at h
        obtain ⟨rfl, h_1⟩ := st0_some h
        clear h
        have h := h_1
        try rw [callW_eq] at h
        exact WW.le (a := [some (.inr (.inr (15, 0))), some (.inl a1), none]) (by rw [hn]; rfl) (show _ = _ ∧ _ = _ ∧ True from ⟨e0, e1, trivial⟩) (h24 w h)
      rw [if_neg hj] at h
      cases h
    · exact (show _ = _ ∧ _ = _ ∧ True from ⟨rfl, rfl, trivial⟩)
set_option maxRecDepth 100000 in
set_option maxHeartbeats 4000000 in
theorem crX11_nights {N : Nat} {X : XT} (G : GX X cX11_nights RX11) (hR : xR X = rmL 7) : CRs X tX11_nights (oF []) (oF []) (oF [(mX9_goBy N), (mX5_drop N)]) := by
  have hl : tX11_nights.filter isInv = [(39, .invokevirtual 237, 0, 0, 1, 0, 0, [(0, 0), (0, 0)]), (61, .invokevirtual 112, 0, 1, 1, 0, 0, [(0, 0), (0, 0)])] := rfl
  intro e he
  rw [hl] at he
  simp only [List.mem_cons, List.not_mem_nil, or_false] at he
  rcases he with rfl | rfl
  · exact crV_V (idx := 237) G (by decide +kernel) (MX9_goBy N) (cw_of (ps := [1127, 1128, 1129, 156, 1130]) (by decide +kernel) (by decide +kernel)) ⟨by decide +kernel, by decide +kernel, by decide +kernel⟩ (by unfold rmOk; rw [hR]; exact ⟨by decide, by decide⟩)
  · exact crV_V (idx := 112) G (by decide +kernel) (MX5_drop N) (cw_of (ps := [987, 988, 989, 159, 990]) (by decide +kernel) (by decide +kernel)) ⟨by decide +kernel, by decide +kernel, by decide +kernel⟩ (by unfold rmOk; rw [hR]; exact ⟨by decide, by decide⟩)
set_option maxRecDepth 100000 in
set_option maxHeartbeats 4000000 in
theorem MX11_nights (N : Nat) : SndI yX11_nights cX11_nights 3 (some .int) 7 2 true (mX11_nights N) := by
  refine SndI.of tX11_nights (by decide +kernel) rfl rfl ?_ ?_
  · intro as w x h
    obtain ⟨t1, rfl, h_1⟩ := xS1_some h
    obtain ⟨a1, t2, rfl, h_2⟩ := xI1_some h_1
    obtain ⟨rfl, h_3⟩ := xN1_some h_2
    clear h h_1 h_2
    have h := h_3
    rw [callW_eq] at h
    exact ⟨fun _ => ⟨_, _, _, rfl, rfl, _, rfl, rfl⟩, rfl, Nat.le_of_ble_eq_true rfl⟩
  · intro X G hn hR as w r h hr
    have hC := crX11_nights (N := N) G hR
    obtain ⟨t1, rfl, h_1⟩ := xS1_some h
    obtain ⟨a1, t2, rfl, h_2⟩ := xI1_some h_1
    obtain ⟨rfl, h_3⟩ := xN1_some h_2
    clear h h_1 h_2
    have h := h_3
    rw [callW_eq] at h
    refine run_sound (r := r) (X := X) (cc := cX11_nights) (own := RX11) (tab := tX11_nights) G (by rw [hn]; exact kX11_nights) (oI := (oF [])) (oL := (oF [])) (oV := (oF [(mX9_goBy N), (mX5_drop N)])) (rI := (fun x w => some (x, w))) (rL := (fun _ _ => none)) (rV := (fun _ => none))
      (K := (fun j ls st w => if j = 16 then (lgI ls 2 fun v2 => st0 st (callW (fX11_nights_16 N a1 N (fX11_nights_24 N a1) v2) w)) else none)) (fun x w pc ls hx hd => hr x w pc ls (Option.some.inj hx) hd) (fun _ _ _ _ hx => by cases hx) (fun _ _ _ hx => by cases hx) hC (fun ls => lsb [some (.inr (.inr (15, 0))), some (.inl a1), none] 0 ls) (keepsP_of rfl) ?_ 38 0 [some (.inr (.inr (15, 0))), some (.inl a1), none] [] w ?_ h
    · intro j ls st w hfx h
      obtain ⟨e0, e1, -⟩ : _ = _ ∧ _ = _ ∧ True := hfx
      try dsimp only at h
      by_cases hj : j = 16
      · subst hj
        rw [if_pos rfl] at h
        obtain ⟨v2, e2, h_1⟩ := lgI_some h
        obtain ⟨rfl, h_2⟩ := st0_some h_1
        clear h h_1
        have h := h_2
        try rw [callW_eq] at h
        exact WW.le (a := [some (.inr (.inr (15, 0))), some (.inl a1), some (.inl v2)]) (by rw [hn]; rfl) (show _ = _ ∧ _ = _ ∧ _ = _ ∧ True from ⟨e0, e1, e2, trivial⟩) (sX11_nights_16 G hn hC hr a1 N (fX11_nights_24 N a1) v2 w h (fun w h => (sX11_nights_24 G hn hC hr a1 w h)))
      rw [if_neg hj] at h
      cases h
    · exact (show _ = _ ∧ _ = _ ∧ True from ⟨rfl, rfl, trivial⟩)
-- MoorGuides.isParty(I)Z
def tX11_isParty : List EN := [
  (0, .iload_n 1, 0, 0, 0, 0, 0, []), (1, .ifCond .lt 18, 0, 9, 0, 0, 0, []), (4, .iload_n 1, 0, 0, 0, 0, 0, []), (5, .aload_n 0, 0, 0, 0, 0, 0, []),
  (6, .getfield 16, 0, 11, 2, 0, 0, []), (9, .getfield 278, 0, 4, 5, 0, 0, []), (12, .if_icmp .ge 7, 0, 9, 0, 0, 0, []), (15, .iconst 1, 0, 0, 0, 1, 0, []),
  (16, .goto 4, 0, 10, 0, 0, 0, []), (19, .iconst 0, 0, 0, 0, 0, 0, []), (20, .ireturn, 0, 0, 0, 0, 0, [])]
noncomputable def pX11_isParty (N : Nat) (a1 : Int32) (w : Wd) : Option (Int32 × Wd) :=
  if a1 < 0 then some ((0 : Int32), w) else
  if a1 < (gI w 8 (gR w 15 0 2) 5) then some ((1 : Int32), w) else
  some ((0 : Int32), w)
noncomputable def mX11_isParty (N : Nat) (as : List AV) (w : Wd) : Option (Int32 × Wd) := xS1 15 as fun t => xI1 t fun a1 t => xN1 t (callW (pX11_isParty N a1) w)
set_option maxRecDepth 100000 in
set_option maxHeartbeats 4000000 in
theorem kX11_isParty : TK cX11_isParty RX11 2 tX11_isParty := ⟨by decide +kernel, wok_of [727, 285] (by decide +kernel) (by decide +kernel)⟩
set_option maxRecDepth 100000 in
set_option maxHeartbeats 4000000 in
theorem crX11_isParty {N : Nat} {X : XT} (G : GX X cX11_isParty RX11) (hR : xR X = rmL 1) : CRs X tX11_isParty (oF []) (oF []) (oF []) := by
  have hl : tX11_isParty.filter isInv = [] := rfl
  intro e he
  rw [hl] at he
  cases he
set_option maxRecDepth 100000 in
set_option maxHeartbeats 4000000 in
theorem MX11_isParty (N : Nat) : SndI yX11_isParty cX11_isParty 2 (some .boolean) 1 2 true (mX11_isParty N) := by
  refine SndI.ofZ tX11_isParty (by decide +kernel) rfl rfl ?_ ?_
  · intro as w x h
    obtain ⟨t1, rfl, h_1⟩ := xS1_some h
    obtain ⟨a1, t2, rfl, h_2⟩ := xI1_some h_1
    obtain ⟨rfl, h_3⟩ := xN1_some h_2
    clear h h_1 h_2
    have h := h_3
    rw [callW_eq] at h
    exact ⟨fun _ => ⟨_, _, _, rfl, rfl, _, rfl, rfl⟩, rfl, Nat.le_of_ble_eq_true rfl⟩
  · intro X G hn hR as w r h hr
    have hC := crX11_isParty (N := N) G hR
    obtain ⟨t1, rfl, h_1⟩ := xS1_some h
    obtain ⟨a1, t2, rfl, h_2⟩ := xI1_some h_1
    obtain ⟨rfl, h_3⟩ := xN1_some h_2
    clear h h_1 h_2
    have h := h_3
    rw [callW_eq] at h
    refine run_sound (r := r) (X := X) (cc := cX11_isParty) (own := RX11) (tab := tX11_isParty) G (by rw [hn]; exact kX11_isParty) (oI := (oF [])) (oL := (oF [])) (oV := (oF [])) (rI := retZ) (rL := (fun _ _ => none)) (rV := (fun _ => none))
      (K := (fun j ls st w => none)) hr (fun _ _ _ _ hx => by cases hx) (fun _ _ _ hx => by cases hx) hC (fun ls => lsb [some (.inr (.inr (15, 0))), some (.inl a1)] 0 ls) (keepsP_of rfl) ?_ 13 0 [some (.inr (.inr (15, 0))), some (.inl a1)] [] w ?_ h
    · intro j ls st w hfx h
      obtain ⟨e0, e1, -⟩ : _ = _ ∧ _ = _ ∧ True := hfx
      try dsimp only at h
      cases h
    · exact (show _ = _ ∧ _ = _ ∧ True from ⟨rfl, rfl, trivial⟩)
-- MoorGuides.led(II)I
def tX11_led : List EN := [
  (0, .aload_n 0, 0, 0, 0, 0, 0, []), (1, .iload_n 1, 0, 0, 0, 0, 0, []), (2, .invokevirtual 240, 0, 0, 2, 0, 0, []), (5, .ifCond .eq 12, 0, 9, 0, 0, 0, []),
  (8, .iload_n 2, 0, 0, 0, 0, 0, []), (9, .ifCond .lt 8, 0, 9, 0, 0, 0, []), (12, .iload_n 2, 0, 0, 0, 0, 0, []), (13, .iconst 1, 0, 0, 0, 1, 0, []),
  (14, .if_icmp .le 5, 0, 11, 0, 0, 0, []), (17, .iconst (-1), 0, 0, 0, (-1), 0, []), (18, .ireturn, 0, 0, 0, 0, 0, []), (19, .aload_n 0, 0, 0, 0, 0, 0, []),
  (20, .getfield 54, 0, 11, 11, 0, 0, []), (23, .iload_n 1, 0, 0, 0, 0, 0, []), (24, .invokevirtual 243, 0, 1, 2, 0, 0, []), (27, .ifCond .ne 6, 0, 18, 0, 0, 0, []),
  (30, .bipush (-2), 0, 0, 0, (-2), 0, []), (32, .ireturn, 0, 0, 0, 0, 0, []), (33, .iload_n 2, 0, 0, 0, 0, 0, []), (34, .ifCond .ne 13, 0, 24, 0, 0, 0, []),
  (37, .aload_n 0, 0, 0, 0, 0, 0, []), (38, .getfield 54, 0, 11, 11, 0, 0, []), (41, .getfield 246, 0, 2, 8, 0, 0, []), (44, .goto 10, 0, 27, 0, 0, 0, []),
  (47, .aload_n 0, 0, 0, 0, 0, 0, []), (48, .getfield 54, 0, 11, 11, 0, 0, []), (51, .getfield 249, 0, 2, 7, 0, 0, []), (54, .ireturn, 0, 0, 0, 0, 0, [])]
noncomputable def pX11_led (N : Nat) (a1 : Int32) (a2 : Int32) (w : Wd) : Option (Int32 × Wd) :=
  (callW (pX11_isParty N a1) w).bind fun r1 =>
  if r1.1 = 0 then some ((-1 : Int32), r1.2) else
  if a2 < 0 then some ((-1 : Int32), r1.2) else
  if (1 : Int32) < a2 then some ((-1 : Int32), r1.2) else
  (callW (pX2_find N a1) r1.2).bind fun r2 =>
  if r2.1 = 0 then some ((-2 : Int32), r2.2) else
  if a2 = 0 then some ((gI r2.2 6 0 8), r2.2) else
  some ((gI r2.2 6 0 7), r2.2)
noncomputable def mX11_led (N : Nat) (as : List AV) (w : Wd) : Option (Int32 × Wd) := xS1 15 as fun t => xI1 t fun a1 t => xI1 t fun a2 t => xN1 t (callW (pX11_led N a1 a2) w)
set_option maxRecDepth 100000 in
set_option maxHeartbeats 4000000 in
theorem kX11_led : TK cX11_led RX11 3 tX11_led := ⟨by decide +kernel, wok_of [736, 736, 583, 736, 581] (by decide +kernel) (by decide +kernel)⟩
set_option maxRecDepth 100000 in
set_option maxHeartbeats 4000000 in
theorem crX11_led {N : Nat} {X : XT} (G : GX X cX11_led RX11) (hR : xR X = rmL 6) : CRs X tX11_led (oF [(mX11_isParty N), (mX2_find N)]) (oF []) (oF []) := by
  have hl : tX11_led.filter isInv = [(2, .invokevirtual 240, 0, 0, 2, 0, 0, []), (24, .invokevirtual 243, 0, 1, 2, 0, 0, [])] := rfl
  intro e he
  rw [hl] at he
  simp only [List.mem_cons, List.not_mem_nil, or_false] at he
  rcases he with rfl | rfl
  · exact crI_V (idx := 240) G (by decide +kernel) (MX11_isParty N) (cw_of (ps := [1157, 1159, 41, 146, 1160]) (by decide +kernel) (by decide +kernel)) ⟨by decide +kernel, by decide +kernel, by decide +kernel⟩ (by unfold rmOk; rw [hR]; exact ⟨by decide, by decide⟩)
  · exact crI_V (idx := 243) G (by decide +kernel) (MX2_find N) (cw_of (ps := [1161, 1162, 1163, 157, 1164]) (by decide +kernel) (by decide +kernel)) ⟨by decide +kernel, by decide +kernel, by decide +kernel⟩ (by unfold rmOk; rw [hR]; exact ⟨by decide, by decide⟩)
set_option maxRecDepth 100000 in
set_option maxHeartbeats 4000000 in
theorem MX11_led (N : Nat) : SndI yX11_led cX11_led 3 (some .int) 6 3 true (mX11_led N) := by
  refine SndI.of tX11_led (by decide +kernel) rfl rfl ?_ ?_
  · intro as w x h
    obtain ⟨t1, rfl, h_1⟩ := xS1_some h
    obtain ⟨a1, t2, rfl, h_2⟩ := xI1_some h_1
    obtain ⟨a2, t3, rfl, h_3⟩ := xI1_some h_2
    obtain ⟨rfl, h_4⟩ := xN1_some h_3
    clear h h_1 h_2 h_3
    have h := h_4
    rw [callW_eq] at h
    exact ⟨fun _ => ⟨_, _, _, rfl, rfl, _, rfl, rfl⟩, rfl, Nat.le_of_ble_eq_true rfl⟩
  · intro X G hn hR as w r h hr
    have hC := crX11_led (N := N) G hR
    obtain ⟨t1, rfl, h_1⟩ := xS1_some h
    obtain ⟨a1, t2, rfl, h_2⟩ := xI1_some h_1
    obtain ⟨a2, t3, rfl, h_3⟩ := xI1_some h_2
    obtain ⟨rfl, h_4⟩ := xN1_some h_3
    clear h h_1 h_2 h_3
    have h := h_4
    rw [callW_eq] at h
    refine run_sound (r := r) (X := X) (cc := cX11_led) (own := RX11) (tab := tX11_led) G (by rw [hn]; exact kX11_led) (oI := (oF [(mX11_isParty N), (mX2_find N)])) (oL := (oF [])) (oV := (oF [])) (rI := (fun x w => some (x, w))) (rL := (fun _ _ => none)) (rV := (fun _ => none))
      (K := (fun j ls st w => none)) (fun x w pc ls hx hd => hr x w pc ls (Option.some.inj hx) hd) (fun _ _ _ _ hx => by cases hx) (fun _ _ _ hx => by cases hx) hC (fun ls => lsb [some (.inr (.inr (15, 0))), some (.inl a1), some (.inl a2)] 0 ls) (keepsP_of rfl) ?_ 30 0 [some (.inr (.inr (15, 0))), some (.inl a1), some (.inl a2)] [] w ?_ h
    · intro j ls st w hfx h
      obtain ⟨e0, e1, e2, -⟩ : _ = _ ∧ _ = _ ∧ _ = _ ∧ True := hfx
      try dsimp only at h
      cases h
    · exact (show _ = _ ∧ _ = _ ∧ _ = _ ∧ True from ⟨rfl, rfl, rfl, trivial⟩)
-- MoorGuides.way(III)I
def tX11_way : List EN := [
  (0, .aload_n 0, 0, 0, 0, 0, 0, []), (1, .iload_n 1, 0, 0, 0, 0, 0, []), (2, .invokevirtual 240, 0, 0, 2, 0, 0, []), (5, .ifCond .eq 16, 0, 11, 0, 0, 0, []),
  (8, .iload_n 2, 0, 0, 0, 0, 0, []), (9, .ifCond .lt 12, 0, 11, 0, 0, 0, []), (12, .iload_n 3, 0, 0, 0, 0, 0, []), (13, .ifCond .lt 8, 0, 11, 0, 0, 0, []),
  (16, .iload_n 3, 0, 0, 0, 0, 0, []), (17, .iconst 1, 0, 0, 0, 1, 0, []), (18, .if_icmp .le 5, 0, 13, 0, 0, 0, []), (21, .iconst (-1), 0, 0, 0, (-1), 0, []),
  (22, .ireturn, 0, 0, 0, 0, 0, []), (23, .aload_n 0, 0, 0, 0, 0, 0, []), (24, .getfield 54, 0, 11, 11, 0, 0, []), (27, .iload_n 1, 0, 0, 0, 0, 0, []),
  (28, .invokevirtual 243, 0, 1, 2, 0, 0, []), (31, .ifCond .eq 14, 0, 23, 0, 0, 0, []), (34, .iload_n 2, 0, 0, 0, 0, 0, []), (35, .aload_n 0, 0, 0, 0, 0, 0, []),
  (36, .getfield 54, 0, 11, 11, 0, 0, []), (39, .getfield 249, 0, 2, 7, 0, 0, []), (42, .if_icmp .lt 6, 0, 25, 0, 0, 0, []), (45, .bipush (-2), 0, 0, 0, (-2), 0, []),
  (47, .ireturn, 0, 0, 0, 0, 0, []), (48, .iload_n 3, 0, 0, 0, 0, 0, []), (49, .ifCond .ne 15, 0, 33, 0, 0, 0, []), (52, .aload_n 0, 0, 0, 0, 0, 0, []),
  (53, .getfield 54, 0, 11, 11, 0, 0, []), (56, .getfield 252, 0, 2, 5, 0, 0, []), (59, .iload_n 2, 0, 0, 0, 0, 0, []), (60, .iaload, 0, 0, 0, 0, 0, []),
  (61, .goto 12, 0, 38, 0, 0, 0, []), (64, .aload_n 0, 0, 0, 0, 0, 0, []), (65, .getfield 54, 0, 11, 11, 0, 0, []), (68, .getfield 254, 0, 2, 6, 0, 0, []),
  (71, .iload_n 2, 0, 0, 0, 0, 0, []), (72, .iaload, 0, 0, 0, 0, 0, []), (73, .ireturn, 0, 0, 0, 0, 0, [])]
noncomputable def pX11_way (N : Nat) (a1 : Int32) (a2 : Int32) (a3 : Int32) (w : Wd) : Option (Int32 × Wd) :=
  (callW (pX11_isParty N a1) w).bind fun r1 =>
  if r1.1 = 0 then some ((-1 : Int32), r1.2) else
  if a2 < 0 then some ((-1 : Int32), r1.2) else
  if a3 < 0 then some ((-1 : Int32), r1.2) else
  if (1 : Int32) < a3 then some ((-1 : Int32), r1.2) else
  (callW (pX2_find N a1) r1.2).bind fun r2 =>
  if r2.1 = 0 then some ((-2 : Int32), r2.2) else
  if a2 < (gI r2.2 6 0 7) then
    if a3 = 0 then
      (ldI r2.2 28 0 a2 8).bind fun x3 =>
      some (x3, r2.2)
    else
    (ldI r2.2 29 0 a2 8).bind fun x4 =>
    some (x4, r2.2)
  else
  some ((-2 : Int32), r2.2)
noncomputable def mX11_way (N : Nat) (as : List AV) (w : Wd) : Option (Int32 × Wd) := xS1 15 as fun t => xI1 t fun a1 t => xI1 t fun a2 t => xI1 t fun a3 t => xN1 t (callW (pX11_way N a1 a2 a3) w)
set_option maxRecDepth 100000 in
set_option maxHeartbeats 4000000 in
theorem kX11_way : TK cX11_way RX11 4 tX11_way := ⟨by decide +kernel, wok_of [736, 736, 581, 736, 577, 736, 579] (by decide +kernel) (by decide +kernel)⟩
set_option maxRecDepth 100000 in
set_option maxHeartbeats 4000000 in
theorem crX11_way {N : Nat} {X : XT} (G : GX X cX11_way RX11) (hR : xR X = rmL 6) : CRs X tX11_way (oF [(mX11_isParty N), (mX2_find N)]) (oF []) (oF []) := by
  have hl : tX11_way.filter isInv = [(2, .invokevirtual 240, 0, 0, 2, 0, 0, []), (28, .invokevirtual 243, 0, 1, 2, 0, 0, [])] := rfl
  intro e he
  rw [hl] at he
  simp only [List.mem_cons, List.not_mem_nil, or_false] at he
  rcases he with rfl | rfl
  · exact crI_V (idx := 240) G (by decide +kernel) (MX11_isParty N) (cw_of (ps := [1157, 1159, 41, 146, 1160]) (by decide +kernel) (by decide +kernel)) ⟨by decide +kernel, by decide +kernel, by decide +kernel⟩ (by unfold rmOk; rw [hR]; exact ⟨by decide, by decide⟩)
  · exact crI_V (idx := 243) G (by decide +kernel) (MX2_find N) (cw_of (ps := [1161, 1162, 1163, 157, 1164]) (by decide +kernel) (by decide +kernel)) ⟨by decide +kernel, by decide +kernel, by decide +kernel⟩ (by unfold rmOk; rw [hR]; exact ⟨by decide, by decide⟩)
set_option maxRecDepth 100000 in
set_option maxHeartbeats 4000000 in
theorem MX11_way (N : Nat) : SndI yX11_way cX11_way 4 (some .int) 6 4 true (mX11_way N) := by
  refine SndI.of tX11_way (by decide +kernel) rfl rfl ?_ ?_
  · intro as w x h
    obtain ⟨t1, rfl, h_1⟩ := xS1_some h
    obtain ⟨a1, t2, rfl, h_2⟩ := xI1_some h_1
    obtain ⟨a2, t3, rfl, h_3⟩ := xI1_some h_2
    obtain ⟨a3, t4, rfl, h_4⟩ := xI1_some h_3
    obtain ⟨rfl, h_5⟩ := xN1_some h_4
    clear h h_1 h_2 h_3 h_4
    have h := h_5
    rw [callW_eq] at h
    exact ⟨fun _ => ⟨_, _, _, rfl, rfl, _, rfl, rfl⟩, rfl, Nat.le_of_ble_eq_true rfl⟩
  · intro X G hn hR as w r h hr
    have hC := crX11_way (N := N) G hR
    obtain ⟨t1, rfl, h_1⟩ := xS1_some h
    obtain ⟨a1, t2, rfl, h_2⟩ := xI1_some h_1
    obtain ⟨a2, t3, rfl, h_3⟩ := xI1_some h_2
    obtain ⟨a3, t4, rfl, h_4⟩ := xI1_some h_3
    obtain ⟨rfl, h_5⟩ := xN1_some h_4
    clear h h_1 h_2 h_3 h_4
    have h := h_5
    rw [callW_eq] at h
    refine run_sound (r := r) (X := X) (cc := cX11_way) (own := RX11) (tab := tX11_way) G (by rw [hn]; exact kX11_way) (oI := (oF [(mX11_isParty N), (mX2_find N)])) (oL := (oF [])) (oV := (oF [])) (rI := (fun x w => some (x, w))) (rL := (fun _ _ => none)) (rV := (fun _ => none))
      (K := (fun j ls st w => none)) (fun x w pc ls hx hd => hr x w pc ls (Option.some.inj hx) hd) (fun _ _ _ _ hx => by cases hx) (fun _ _ _ hx => by cases hx) hC (fun ls => lsb [some (.inr (.inr (15, 0))), some (.inl a1), some (.inl a2), some (.inl a3)] 0 ls) (keepsP_of rfl) ?_ 41 0 [some (.inr (.inr (15, 0))), some (.inl a1), some (.inl a2), some (.inl a3)] [] w ?_ h
    · intro j ls st w hfx h
      obtain ⟨e0, e1, e2, e3, -⟩ : _ = _ ∧ _ = _ ∧ _ = _ ∧ _ = _ ∧ True := hfx
      try dsimp only at h
      cases h
    · exact (show _ = _ ∧ _ = _ ∧ _ = _ ∧ _ = _ ∧ True from ⟨rfl, rfl, rfl, rfl, trivial⟩)
-- MoorGuides.round(II)I
def tX11_round : List EN := [
  (0, .aload_n 0, 0, 0, 0, 0, 0, []), (1, .iload_n 1, 0, 0, 0, 0, 0, []), (2, .invokevirtual 240, 0, 0, 2, 0, 0, []), (5, .ifCond .eq 11, 0, 8, 0, 0, 0, []),
  (8, .aload_n 0, 0, 0, 0, 0, 0, []), (9, .iload_n 2, 0, 0, 0, 0, 0, []), (10, .invokevirtual 185, 0, 1, 2, 0, 0, []), (13, .ifCond .ne 5, 0, 10, 0, 0, 0, []),
  (16, .iconst (-1), 0, 0, 0, (-1), 0, []), (17, .ireturn, 0, 0, 0, 0, 0, []), (18, .aload_n 0, 0, 0, 0, 0, 0, []), (19, .getfield 16, 0, 11, 2, 0, 0, []),
  (22, .getfield 257, 0, 4, 6, 0, 0, []), (25, .iload_n 1, 0, 0, 0, 0, 0, []), (26, .iaload, 0, 0, 0, 0, 0, []), (27, .istore_n 3, 0, 0, 0, 0, 0, []),
  (28, .aload_n 0, 0, 0, 0, 0, 0, []), (29, .getfield 16, 0, 11, 2, 0, 0, []), (32, .getfield 260, 0, 4, 7, 0, 0, []), (35, .iload_n 1, 0, 0, 0, 0, 0, []),
  (36, .iaload, 0, 0, 0, 0, 0, []), (37, .istore 4, 0, 0, 0, 0, 0, []), (39, .aload_n 0, 0, 0, 0, 0, 0, []), (40, .getfield 16, 0, 11, 2, 0, 0, []),
  (43, .iload_n 3, 0, 0, 0, 0, 0, []), (44, .iload 4, 0, 0, 0, 0, 0, []), (46, .aload_n 0, 0, 0, 0, 0, 0, []), (47, .getfield 16, 0, 11, 2, 0, 0, []),
  (50, .invokevirtual 204, 0, 2, 1, 0, 0, []), (53, .invokevirtual 208, 0, 3, 4, 0, 0, []), (56, .istore 5, 0, 0, 0, 0, 0, []), (58, .iload 5, 0, 0, 0, 0, 0, []),
  (60, .ifCond .lt 14, 0, 39, 0, 0, 0, []), (63, .iload_n 2, 0, 0, 0, 0, 0, []), (64, .iload_n 3, 0, 0, 0, 0, 0, []), (65, .if_icmp .eq 9, 0, 39, 0, 0, 0, []),
  (68, .iload_n 2, 0, 0, 0, 0, 0, []), (69, .iload 4, 0, 0, 0, 0, 0, []), (71, .if_icmp .ne 5, 0, 41, 0, 0, 0, []), (74, .iconst (-1), 0, 0, 0, (-1), 0, []),
  (75, .ireturn, 0, 0, 0, 0, 0, []), (76, .aload_n 0, 0, 0, 0, 0, 0, []), (77, .getfield 16, 0, 11, 2, 0, 0, []), (80, .iload_n 3, 0, 0, 0, 0, 0, []),
  (81, .iload 4, 0, 0, 0, 0, 0, []), (83, .aload_n 0, 0, 0, 0, 0, 0, []), (84, .getfield 16, 0, 11, 2, 0, 0, []), (87, .invokevirtual 204, 0, 2, 1, 0, 0, []),
  (90, .iconst 1, 0, 0, 0, 1, 0, []), (91, .iload_n 2, 0, 0, 0, 0, 0, []), (92, .ishl, 0, 0, 0, 0, 0, []), (93, .iconst (-1), 0, 0, 0, (-1), 0, []),
  (94, .ixor, 0, 0, 0, 0, 0, []), (95, .iand, 0, 0, 0, 0, 0, []), (96, .invokevirtual 208, 0, 3, 4, 0, 0, []), (99, .istore 6, 0, 0, 0, 0, 0, []),
  (101, .iload 6, 0, 0, 0, 0, 0, []), (103, .ifCond .ge 8, 0, 60, 0, 0, 0, []), (106, .bipush (-2), 0, 0, 0, (-2), 0, []), (108, .goto 8, 0, 63, 0, 0, 0, []),
  (111, .iload 6, 0, 0, 0, 0, 0, []), (113, .iload 5, 0, 0, 0, 0, 0, []), (115, .isub, 0, 0, 0, 0, 0, []), (116, .ireturn, 0, 0, 0, 0, 0, [])]
noncomputable def pX11_round (N : Nat) (a1 : Int32) (a2 : Int32) (w : Wd) : Option (Int32 × Wd) :=
  (callW (pX11_isParty N a1) w).bind fun r1 =>
  if r1.1 = 0 then some ((-1 : Int32), r1.2) else
  (callW (pX11_isPart N a2) r1.2).bind fun r2 =>
  if r2.1 = 0 then some ((-1 : Int32), r2.2) else
  (ldI r2.2 33 (gR r2.2 15 0 2) a1 8).bind fun x3 =>
  (ldI r2.2 34 (gR r2.2 15 0 2) a1 8).bind fun x4 =>
  (callW (pX4_allParts N (gR r2.2 15 0 2)) r2.2).bind fun r5 =>
  (callW (pX4_distance N (gR r2.2 15 0 2) x3 x4 r5.1) r5.2).bind fun r6 =>
  if r6.1 < 0 then some ((-1 : Int32), r6.2) else
  if a2 = x3 then some ((-1 : Int32), r6.2) else
  if a2 = x4 then some ((-1 : Int32), r6.2) else
  (callW (pX4_allParts N (gR r6.2 15 0 2)) r6.2).bind fun r7 =>
  (callW (pX4_distance N (gR r6.2 15 0 2) x3 x4 (r7.1 &&& (((1 : Int32) <<< (a2 &&& (31 : Int32))) ^^^ (-1 : Int32)))) r7.2).bind fun r8 =>
  if r8.1 < 0 then some ((-2 : Int32), r8.2) else
  some ((r8.1 - r6.1), r8.2)
noncomputable def mX11_round (N : Nat) (as : List AV) (w : Wd) : Option (Int32 × Wd) := xS1 15 as fun t => xI1 t fun a1 t => xI1 t fun a2 t => xN1 t (callW (pX11_round N a1 a2) w)
set_option maxRecDepth 100000 in
set_option maxHeartbeats 4000000 in
theorem kX11_round : TK cX11_round RX11 7 tX11_round := ⟨by decide +kernel, wok_of [727, 288, 727, 291, 727, 727, 727, 727] (by decide +kernel) (by decide +kernel)⟩
set_option maxRecDepth 100000 in
set_option maxHeartbeats 4000000 in
theorem crX11_round {N : Nat} {X : XT} (G : GX X cX11_round RX11) (hR : xR X = rmL 2) : CRs X tX11_round (oF [(mX11_isParty N), (mX11_isPart N), (mX4_allParts N), (mX4_distance N)]) (oF []) (oF []) := by
  have hl : tX11_round.filter isInv = [(2, .invokevirtual 240, 0, 0, 2, 0, 0, []), (10, .invokevirtual 185, 0, 1, 2, 0, 0, []), (50, .invokevirtual 204, 0, 2, 1, 0, 0, []), (53, .invokevirtual 208, 0, 3, 4, 0, 0, []), (87, .invokevirtual 204, 0, 2, 1, 0, 0, []), (96, .invokevirtual 208, 0, 3, 4, 0, 0, [])] := rfl
  intro e he
  rw [hl] at he
  simp only [List.mem_cons, List.not_mem_nil, or_false] at he
  rcases he with rfl | rfl | rfl | rfl | rfl | rfl
  · exact crI_V (idx := 240) G (by decide +kernel) (MX11_isParty N) (cw_of (ps := [1157, 1159, 41, 146, 1160]) (by decide +kernel) (by decide +kernel)) ⟨by decide +kernel, by decide +kernel, by decide +kernel⟩ (by unfold rmOk; rw [hR]; exact ⟨by decide, by decide⟩)
  · exact crI_V (idx := 185) G (by decide +kernel) (MX11_isPart N) (cw_of (ps := [1004, 1006, 33, 146, 1007]) (by decide +kernel) (by decide +kernel)) ⟨by decide +kernel, by decide +kernel, by decide +kernel⟩ (by unfold rmOk; rw [hR]; exact ⟨by decide, by decide⟩)
  · exact crI_V (idx := 204) G (by decide +kernel) (MX4_allParts N) (cw_of (ps := [1040, 1041, 1042, 147, 1043]) (by decide +kernel) (by decide +kernel)) ⟨by decide +kernel, by decide +kernel, by decide +kernel⟩ (by unfold rmOk; rw [hR]; exact ⟨by decide, by decide⟩)
  · exact crI_V (idx := 208) G (by decide +kernel) (MX4_distance N) (cw_of (ps := [1044, 1045, 1046, 147, 1047]) (by decide +kernel) (by decide +kernel)) ⟨by decide +kernel, by decide +kernel, by decide +kernel⟩ (by unfold rmOk; rw [hR]; exact ⟨by decide, by decide⟩)
  · exact crI_V (idx := 204) G (by decide +kernel) (MX4_allParts N) (cw_of (ps := [1040, 1041, 1042, 147, 1043]) (by decide +kernel) (by decide +kernel)) ⟨by decide +kernel, by decide +kernel, by decide +kernel⟩ (by unfold rmOk; rw [hR]; exact ⟨by decide, by decide⟩)
  · exact crI_V (idx := 208) G (by decide +kernel) (MX4_distance N) (cw_of (ps := [1044, 1045, 1046, 147, 1047]) (by decide +kernel) (by decide +kernel)) ⟨by decide +kernel, by decide +kernel, by decide +kernel⟩ (by unfold rmOk; rw [hR]; exact ⟨by decide, by decide⟩)
set_option maxRecDepth 100000 in
set_option maxHeartbeats 4000000 in
theorem MX11_round (N : Nat) : SndI yX11_round cX11_round 7 (some .int) 2 3 true (mX11_round N) := by
  refine SndI.of tX11_round (by decide +kernel) rfl rfl ?_ ?_
  · intro as w x h
    obtain ⟨t1, rfl, h_1⟩ := xS1_some h
    obtain ⟨a1, t2, rfl, h_2⟩ := xI1_some h_1
    obtain ⟨a2, t3, rfl, h_3⟩ := xI1_some h_2
    obtain ⟨rfl, h_4⟩ := xN1_some h_3
    clear h h_1 h_2 h_3
    have h := h_4
    rw [callW_eq] at h
    exact ⟨fun _ => ⟨_, _, _, rfl, rfl, _, rfl, rfl⟩, rfl, Nat.le_of_ble_eq_true rfl⟩
  · intro X G hn hR as w r h hr
    have hC := crX11_round (N := N) G hR
    obtain ⟨t1, rfl, h_1⟩ := xS1_some h
    obtain ⟨a1, t2, rfl, h_2⟩ := xI1_some h_1
    obtain ⟨a2, t3, rfl, h_3⟩ := xI1_some h_2
    obtain ⟨rfl, h_4⟩ := xN1_some h_3
    clear h h_1 h_2 h_3
    have h := h_4
    rw [callW_eq] at h
    refine run_sound (r := r) (X := X) (cc := cX11_round) (own := RX11) (tab := tX11_round) G (by rw [hn]; exact kX11_round) (oI := (oF [(mX11_isParty N), (mX11_isPart N), (mX4_allParts N), (mX4_distance N)])) (oL := (oF [])) (oV := (oF [])) (rI := (fun x w => some (x, w))) (rL := (fun _ _ => none)) (rV := (fun _ => none))
      (K := (fun j ls st w => none)) (fun x w pc ls hx hd => hr x w pc ls (Option.some.inj hx) hd) (fun _ _ _ _ hx => by cases hx) (fun _ _ _ hx => by cases hx) hC (fun ls => lsb [some (.inr (.inr (15, 0))), some (.inl a1), some (.inl a2), none, none, none, none] 0 ls) (keepsP_of rfl) ?_ 66 0 [some (.inr (.inr (15, 0))), some (.inl a1), some (.inl a2), none, none, none, none] [] w ?_ h
    · intro j ls st w hfx h
      obtain ⟨e0, e1, e2, -⟩ : _ = _ ∧ _ = _ ∧ _ = _ ∧ True := hfx
      try dsimp only at h
      cases h
    · exact (show _ = _ ∧ _ = _ ∧ _ = _ ∧ True from ⟨rfl, rfl, rfl, trivial⟩)
-- MoorGuides.share(II)I
def tX11_share : List EN := [
  (0, .iload_n 1, 0, 0, 0, 0, 0, []), (1, .invokestatic 201, 0, 0, 1, 0, 0, []), (4, .ifCond .eq 16, 0, 10, 0, 0, 0, []), (7, .iload_n 2, 0, 0, 0, 0, 0, []),
  (8, .iconst (-1), 0, 0, 0, (-1), 0, []), (9, .if_icmp .eq 13, 0, 12, 0, 0, 0, []), (12, .aload_n 0, 0, 0, 0, 0, 0, []), (13, .iload_n 2, 0, 0, 0, 0, 0, []),
  (14, .invokevirtual 240, 0, 1, 2, 0, 0, []), (17, .ifCond .ne 5, 0, 12, 0, 0, 0, []), (20, .iconst (-1), 0, 0, 0, (-1), 0, []), (21, .ireturn, 0, 0, 0, 0, 0, []),
  (22, .aload_n 0, 13, 0, 0, 0, 0, []), (23, .getfield 61, 0, 11, 12, 0, 0, []), (26, .iload_n 1, 0, 0, 0, 0, 0, []), (27, .iconst (-1), 0, 0, 0, (-1), 0, []),
  (28, .invokevirtual 263, 0, 0, 3, 0, 0, [(0, 0), (0, 0)]), (31, .iload_n 2, 0, 0, 0, 0, 0, []), (32, .iconst (-1), 0, 0, 0, (-1), 0, []), (33, .if_icmp .ne 13, 0, 24, 0, 0, 0, []),
  (36, .aload_n 0, 0, 0, 0, 0, 0, []), (37, .getfield 61, 0, 11, 12, 0, 0, []), (40, .invokevirtual 265, 0, 2, 1, 0, 0, []), (43, .goto 12, 0, 29, 0, 0, 0, []),
  (46, .aload_n 0, 0, 0, 0, 0, 0, []), (47, .getfield 61, 0, 11, 12, 0, 0, []), (50, .getfield 268, 0, 8, 4, 0, 0, []), (53, .iload_n 2, 0, 0, 0, 0, 0, []),
  (54, .iaload, 0, 0, 0, 0, 0, []), (55, .ireturn, 0, 0, 0, 0, 0, [])]
noncomputable def fX11_share_12 (N : Nat) (a1 : Int32) (a2 : Int32) (w : Wd) : Option (Int32 × Wd) :=
  (callW (pX8_find N a1 (-1 : Int32)) w).bind fun w1 =>
  if a2 = (-1 : Int32) then
    (callW (pX8_sum N) w1).bind fun r2 =>
    some (r2.1, r2.2)
  else
  (ldI w1 59 0 a2 8).bind fun x3 =>
  some (x3, w1)
noncomputable def pX11_share (N : Nat) (a1 : Int32) (a2 : Int32) (w : Wd) : Option (Int32 × Wd) :=
  (callW (pX11_isNight N a1) w).bind fun r1 =>
  if r1.1 = 0 then some ((-1 : Int32), r1.2) else
  if a2 = (-1 : Int32) then callW (fX11_share_12 N a1 a2) r1.2 else
  (callW (pX11_isParty N a2) r1.2).bind fun r2 =>
  if r2.1 = 0 then some ((-1 : Int32), r2.2) else
  callW (fX11_share_12 N a1 a2) r2.2
noncomputable def mX11_share (N : Nat) (as : List AV) (w : Wd) : Option (Int32 × Wd) := xS1 15 as fun t => xI1 t fun a1 t => xI1 t fun a2 t => xN1 t (callW (pX11_share N a1 a2) w)
set_option maxRecDepth 100000 in
set_option maxHeartbeats 4000000 in
theorem kX11_share : TK cX11_share RX11 3 tX11_share := ⟨by decide +kernel, wok_of [737, 737, 737, 615] (by decide +kernel) (by decide +kernel)⟩
set_option maxRecDepth 100000 in
set_option maxHeartbeats 4000000 in
theorem sX11_share_12 {N : Nat} {X : XT} (G : GX X cX11_share RX11) (hn : xnL X = 3) (hC : CRs X tX11_share (oF [(mX11_isNight N), (mX11_isParty N), (mX8_sum N)]) (oF []) (oF [(mX8_find N)])) {r : Int32 × Wd} (hr : RTI X cX11_share r) (a1 : Int32) (a2 : Int32) : ∀ (w : Wd), fX11_share_12 N a1 a2 w = some r → WW X (pcAt tX11_share 12) [some (.inr (.inr (15, 0))), some (.inl a1), some (.inl a2)] [] w := by
  intro w h
  refine run_sound (r := r) (X := X) (cc := cX11_share) (own := RX11) (tab := tX11_share) G (by rw [hn]; exact kX11_share) (oI := (oF [(mX11_isNight N), (mX11_isParty N), (mX8_sum N)])) (oL := (oF [])) (oV := (oF [(mX8_find N)])) (rI := (fun x w => some (x, w))) (rL := (fun _ _ => none)) (rV := (fun _ => none))
    (K := (fun j ls st w => none)) (fun x w pc ls hx hd => hr x w pc ls (Option.some.inj hx) hd) (fun _ _ _ _ hx => by cases hx) (fun _ _ _ hx => by cases hx) hC (fun ls => lsb [some (.inr (.inr (15, 0))), some (.inl a1), some (.inl a2)] 0 ls) (keepsP_of rfl) ?_ 32 12 [some (.inr (.inr (15, 0))), some (.inl a1), some (.inl a2)] [] w ?_ h
  · intro j ls st w hfx h
    obtain ⟨e0, e1, e2, -⟩ : _ = _ ∧ _ = _ ∧ _ = _ ∧ True := hfx
    try dsimp only at h
    cases h
  · exact (show _ = _ ∧ _ = _ ∧ _ = _ ∧ True from ⟨rfl, rfl, rfl, trivial⟩)
set_option maxRecDepth 100000 in
set_option maxHeartbeats 4000000 in
theorem crX11_share {N : Nat} {X : XT} (G : GX X cX11_share RX11) (hR : xR X = rmL 5) : CRs X tX11_share (oF [(mX11_isNight N), (mX11_isParty N), (mX8_sum N)]) (oF []) (oF [(mX8_find N)]) := by
  have hl : tX11_share.filter isInv = [(1, .invokestatic 201, 0, 0, 1, 0, 0, []), (14, .invokevirtual 240, 0, 1, 2, 0, 0, []), (28, .invokevirtual 263, 0, 0, 3, 0, 0, [(0, 0), (0, 0)]), (40, .invokevirtual 265, 0, 2, 1, 0, 0, [])] := rfl
  intro e he
  rw [hl] at he
  simp only [List.mem_cons, List.not_mem_nil, or_false] at he
  rcases he with rfl | rfl | rfl | rfl
  · exact crI_S (idx := 201) G (by decide +kernel) (MX11_isNight N) (cw_of (ps := [1032, 1033, 146, 1034]) (by decide +kernel) (by decide +kernel)) ⟨by decide +kernel, by decide +kernel, by decide +kernel⟩ (by unfold rmOk; rw [hR]; exact ⟨by decide, by decide⟩)
  · exact crI_V (idx := 240) G (by decide +kernel) (MX11_isParty N) (cw_of (ps := [1157, 1159, 41, 146, 1160]) (by decide +kernel) (by decide +kernel)) ⟨by decide +kernel, by decide +kernel, by decide +kernel⟩ (by unfold rmOk; rw [hR]; exact ⟨by decide, by decide⟩)
  · exact crV_V (idx := 263) G (by decide +kernel) (MX8_find N) (cw_of (ps := [1224, 1225, 1226, 158, 1227]) (by decide +kernel) (by decide +kernel)) ⟨by decide +kernel, by decide +kernel, by decide +kernel⟩ (by unfold rmOk; rw [hR]; exact ⟨by decide, by decide⟩)
  · exact crI_V (idx := 265) G (by decide +kernel) (MX8_sum N) (cw_of (ps := [1246, 1247, 1248, 158, 1249]) (by decide +kernel) (by decide +kernel)) ⟨by decide +kernel, by decide +kernel, by decide +kernel⟩ (by unfold rmOk; rw [hR]; exact ⟨by decide, by decide⟩)
set_option maxRecDepth 100000 in
set_option maxHeartbeats 4000000 in
theorem MX11_share (N : Nat) : SndI yX11_share cX11_share 3 (some .int) 5 3 true (mX11_share N) := by
  refine SndI.of tX11_share (by decide +kernel) rfl rfl ?_ ?_
  · intro as w x h
    obtain ⟨t1, rfl, h_1⟩ := xS1_some h
    obtain ⟨a1, t2, rfl, h_2⟩ := xI1_some h_1
    obtain ⟨a2, t3, rfl, h_3⟩ := xI1_some h_2
    obtain ⟨rfl, h_4⟩ := xN1_some h_3
    clear h h_1 h_2 h_3
    have h := h_4
    rw [callW_eq] at h
    exact ⟨fun _ => ⟨_, _, _, rfl, rfl, _, rfl, rfl⟩, rfl, Nat.le_of_ble_eq_true rfl⟩
  · intro X G hn hR as w r h hr
    have hC := crX11_share (N := N) G hR
    obtain ⟨t1, rfl, h_1⟩ := xS1_some h
    obtain ⟨a1, t2, rfl, h_2⟩ := xI1_some h_1
    obtain ⟨a2, t3, rfl, h_3⟩ := xI1_some h_2
    obtain ⟨rfl, h_4⟩ := xN1_some h_3
    clear h h_1 h_2 h_3
    have h := h_4
    rw [callW_eq] at h
    refine run_sound (r := r) (X := X) (cc := cX11_share) (own := RX11) (tab := tX11_share) G (by rw [hn]; exact kX11_share) (oI := (oF [(mX11_isNight N), (mX11_isParty N), (mX8_sum N)])) (oL := (oF [])) (oV := (oF [(mX8_find N)])) (rI := (fun x w => some (x, w))) (rL := (fun _ _ => none)) (rV := (fun _ => none))
      (K := (fun j ls st w => if j = 12 then (st0 st (callW (fX11_share_12 N a1 a2) w)) else none)) (fun x w pc ls hx hd => hr x w pc ls (Option.some.inj hx) hd) (fun _ _ _ _ hx => by cases hx) (fun _ _ _ hx => by cases hx) hC (fun ls => lsb [some (.inr (.inr (15, 0))), some (.inl a1), some (.inl a2)] 0 ls) (keepsP_of rfl) ?_ 32 0 [some (.inr (.inr (15, 0))), some (.inl a1), some (.inl a2)] [] w ?_ h
    · intro j ls st w hfx h
      obtain ⟨e0, e1, e2, -⟩ : _ = _ ∧ _ = _ ∧ _ = _ ∧ True := hfx
      try dsimp only at h
      by_cases hj : j = 12
      · subst hj
        rw [if_pos rfl] at h
        obtain ⟨rfl, h_1⟩ := st0_some h
        clear h
        have h := h_1
        try rw [callW_eq] at h
        exact WW.le (a := [some (.inr (.inr (15, 0))), some (.inl a1), some (.inl a2)]) (by rw [hn]; rfl) (show _ = _ ∧ _ = _ ∧ _ = _ ∧ True from ⟨e0, e1, e2, trivial⟩) (sX11_share_12 G hn hC hr a1 a2 w h)
      rw [if_neg hj] at h
      cases h
    · exact (show _ = _ ∧ _ = _ ∧ _ = _ ∧ True from ⟨rfl, rfl, rfl, trivial⟩)
-- MoorGuides.worth(II)I
def tX11_worth : List EN := [
  (0, .aload_n 0, 0, 0, 0, 0, 0, []), (1, .iload_n 1, 0, 0, 0, 0, 0, []), (2, .invokevirtual 146, 0, 0, 2, 0, 0, []), (5, .ifCond .eq 10, 0, 7, 0, 0, 0, []),
  (8, .iload_n 2, 0, 0, 0, 0, 0, []), (9, .invokestatic 201, 0, 1, 1, 0, 0, []), (12, .ifCond .ne 5, 0, 9, 0, 0, 0, []), (15, .iconst (-1), 0, 0, 0, (-1), 0, []),
  (16, .ireturn, 0, 0, 0, 0, 0, []), (17, .aload_n 0, 0, 0, 0, 0, 0, []), (18, .getfield 61, 0, 11, 12, 0, 0, []), (21, .iload_n 2, 0, 0, 0, 0, 0, []),
  (22, .iconst (-1), 0, 0, 0, (-1), 0, []), (23, .invokevirtual 263, 0, 0, 3, 0, 0, [(0, 0), (0, 0)]), (26, .aload_n 0, 0, 0, 0, 0, 0, []), (27, .getfield 61, 0, 11, 12, 0, 0, []),
  (30, .invokevirtual 265, 0, 2, 1, 0, 0, []), (33, .istore_n 3, 0, 0, 0, 0, 0, []), (34, .aload_n 0, 0, 0, 0, 0, 0, []), (35, .getfield 61, 0, 11, 12, 0, 0, []),
  (38, .iload_n 2, 0, 0, 0, 0, 0, []), (39, .iload_n 1, 0, 0, 0, 0, 0, []), (40, .invokevirtual 263, 0, 0, 3, 0, 0, [(0, 0), (0, 0)]), (43, .iload_n 3, 0, 0, 0, 0, 0, []),
  (44, .aload_n 0, 0, 0, 0, 0, 0, []), (45, .getfield 61, 0, 11, 12, 0, 0, []), (48, .invokevirtual 265, 0, 2, 1, 0, 0, []), (51, .isub, 0, 0, 0, 0, 0, []),
  (52, .ireturn, 0, 0, 0, 0, 0, [])]
noncomputable def pX11_worth (N : Nat) (a1 : Int32) (a2 : Int32) (w : Wd) : Option (Int32 × Wd) :=
  (callW (pX11_isPerson N a1) w).bind fun r1 =>
  if r1.1 = 0 then some ((-1 : Int32), r1.2) else
  (callW (pX11_isNight N a2) r1.2).bind fun r2 =>
  if r2.1 = 0 then some ((-1 : Int32), r2.2) else
  (callW (pX8_find N a2 (-1 : Int32)) r2.2).bind fun w3 =>
  (callW (pX8_sum N) w3).bind fun r4 =>
  (callW (pX8_find N a2 a1) r4.2).bind fun w5 =>
  (callW (pX8_sum N) w5).bind fun r6 =>
  some ((r4.1 - r6.1), r6.2)
noncomputable def mX11_worth (N : Nat) (as : List AV) (w : Wd) : Option (Int32 × Wd) := xS1 15 as fun t => xI1 t fun a1 t => xI1 t fun a2 t => xN1 t (callW (pX11_worth N a1 a2) w)
set_option maxRecDepth 100000 in
set_option maxHeartbeats 4000000 in
theorem kX11_worth : TK cX11_worth RX11 4 tX11_worth := ⟨by decide +kernel, wok_of [737, 737, 737, 737] (by decide +kernel) (by decide +kernel)⟩
set_option maxRecDepth 100000 in
set_option maxHeartbeats 4000000 in
theorem crX11_worth {N : Nat} {X : XT} (G : GX X cX11_worth RX11) (hR : xR X = rmL 5) : CRs X tX11_worth (oF [(mX11_isPerson N), (mX11_isNight N), (mX8_sum N)]) (oF []) (oF [(mX8_find N)]) := by
  have hl : tX11_worth.filter isInv = [(2, .invokevirtual 146, 0, 0, 2, 0, 0, []), (9, .invokestatic 201, 0, 1, 1, 0, 0, []), (23, .invokevirtual 263, 0, 0, 3, 0, 0, [(0, 0), (0, 0)]), (30, .invokevirtual 265, 0, 2, 1, 0, 0, []), (40, .invokevirtual 263, 0, 0, 3, 0, 0, [(0, 0), (0, 0)]), (48, .invokevirtual 265, 0, 2, 1, 0, 0, [])] := rfl
  intro e he
  rw [hl] at he
  simp only [List.mem_cons, List.not_mem_nil, or_false] at he
  rcases he with rfl | rfl | rfl | rfl | rfl | rfl
  · exact crI_V (idx := 146) G (by decide +kernel) (MX11_isPerson N) (cw_of (ps := [1028, 1030, 34, 146, 1031]) (by decide +kernel) (by decide +kernel)) ⟨by decide +kernel, by decide +kernel, by decide +kernel⟩ (by unfold rmOk; rw [hR]; exact ⟨by decide, by decide⟩)
  · exact crI_S (idx := 201) G (by decide +kernel) (MX11_isNight N) (cw_of (ps := [1032, 1033, 146, 1034]) (by decide +kernel) (by decide +kernel)) ⟨by decide +kernel, by decide +kernel, by decide +kernel⟩ (by unfold rmOk; rw [hR]; exact ⟨by decide, by decide⟩)
  · exact crV_V (idx := 263) G (by decide +kernel) (MX8_find N) (cw_of (ps := [1224, 1225, 1226, 158, 1227]) (by decide +kernel) (by decide +kernel)) ⟨by decide +kernel, by decide +kernel, by decide +kernel⟩ (by unfold rmOk; rw [hR]; exact ⟨by decide, by decide⟩)
  · exact crI_V (idx := 265) G (by decide +kernel) (MX8_sum N) (cw_of (ps := [1246, 1247, 1248, 158, 1249]) (by decide +kernel) (by decide +kernel)) ⟨by decide +kernel, by decide +kernel, by decide +kernel⟩ (by unfold rmOk; rw [hR]; exact ⟨by decide, by decide⟩)
  · exact crV_V (idx := 263) G (by decide +kernel) (MX8_find N) (cw_of (ps := [1224, 1225, 1226, 158, 1227]) (by decide +kernel) (by decide +kernel)) ⟨by decide +kernel, by decide +kernel, by decide +kernel⟩ (by unfold rmOk; rw [hR]; exact ⟨by decide, by decide⟩)
  · exact crI_V (idx := 265) G (by decide +kernel) (MX8_sum N) (cw_of (ps := [1246, 1247, 1248, 158, 1249]) (by decide +kernel) (by decide +kernel)) ⟨by decide +kernel, by decide +kernel, by decide +kernel⟩ (by unfold rmOk; rw [hR]; exact ⟨by decide, by decide⟩)
set_option maxRecDepth 100000 in
set_option maxHeartbeats 4000000 in
theorem MX11_worth (N : Nat) : SndI yX11_worth cX11_worth 4 (some .int) 5 3 true (mX11_worth N) := by
  refine SndI.of tX11_worth (by decide +kernel) rfl rfl ?_ ?_
  · intro as w x h
    obtain ⟨t1, rfl, h_1⟩ := xS1_some h
    obtain ⟨a1, t2, rfl, h_2⟩ := xI1_some h_1
    obtain ⟨a2, t3, rfl, h_3⟩ := xI1_some h_2
    obtain ⟨rfl, h_4⟩ := xN1_some h_3
    clear h h_1 h_2 h_3
    have h := h_4
    rw [callW_eq] at h
    exact ⟨fun _ => ⟨_, _, _, rfl, rfl, _, rfl, rfl⟩, rfl, Nat.le_of_ble_eq_true rfl⟩
  · intro X G hn hR as w r h hr
    have hC := crX11_worth (N := N) G hR
    obtain ⟨t1, rfl, h_1⟩ := xS1_some h
    obtain ⟨a1, t2, rfl, h_2⟩ := xI1_some h_1
    obtain ⟨a2, t3, rfl, h_3⟩ := xI1_some h_2
    obtain ⟨rfl, h_4⟩ := xN1_some h_3
    clear h h_1 h_2 h_3
    have h := h_4
    rw [callW_eq] at h
    refine run_sound (r := r) (X := X) (cc := cX11_worth) (own := RX11) (tab := tX11_worth) G (by rw [hn]; exact kX11_worth) (oI := (oF [(mX11_isPerson N), (mX11_isNight N), (mX8_sum N)])) (oL := (oF [])) (oV := (oF [(mX8_find N)])) (rI := (fun x w => some (x, w))) (rL := (fun _ _ => none)) (rV := (fun _ => none))
      (K := (fun j ls st w => none)) (fun x w pc ls hx hd => hr x w pc ls (Option.some.inj hx) hd) (fun _ _ _ _ hx => by cases hx) (fun _ _ _ hx => by cases hx) hC (fun ls => lsb [some (.inr (.inr (15, 0))), some (.inl a1), some (.inl a2), none] 0 ls) (keepsP_of rfl) ?_ 31 0 [some (.inr (.inr (15, 0))), some (.inl a1), some (.inl a2), none] [] w ?_ h
    · intro j ls st w hfx h
      obtain ⟨e0, e1, e2, -⟩ : _ = _ ∧ _ = _ ∧ _ = _ ∧ True := hfx
      try dsimp only at h
      cases h
    · exact (show _ = _ ∧ _ = _ ∧ _ = _ ∧ True from ⟨rfl, rfl, rfl, trivial⟩)
-- MoorGuides.isPartSet(I)Z
def tX11_isPartSet : List EN := [
  (0, .iload_n 1, 0, 0, 0, 0, 0, []), (1, .aload_n 0, 0, 0, 0, 0, 0, []), (2, .getfield 16, 0, 11, 2, 0, 0, []), (5, .invokevirtual 204, 0, 0, 1, 0, 0, []),
  (8, .iconst (-1), 0, 0, 0, (-1), 0, []), (9, .ixor, 0, 0, 0, 0, 0, []), (10, .iand, 0, 0, 0, 0, 0, []), (11, .ifCond .ne 7, 0, 10, 0, 0, 0, []),
  (14, .iconst 1, 0, 0, 0, 1, 0, []), (15, .goto 4, 0, 11, 0, 0, 0, []), (18, .iconst 0, 0, 0, 0, 0, 0, []), (19, .ireturn, 0, 0, 0, 0, 0, [])]
noncomputable def pX11_isPartSet (N : Nat) (a1 : Int32) (w : Wd) : Option (Int32 × Wd) :=
  (callW (pX4_allParts N (gR w 15 0 2)) w).bind fun r1 =>
  if (a1 &&& (r1.1 ^^^ (-1 : Int32))) = 0 then some ((1 : Int32), r1.2) else
  some ((0 : Int32), r1.2)
noncomputable def mX11_isPartSet (N : Nat) (as : List AV) (w : Wd) : Option (Int32 × Wd) := xS1 15 as fun t => xI1 t fun a1 t => xN1 t (callW (pX11_isPartSet N a1) w)
set_option maxRecDepth 100000 in
set_option maxHeartbeats 4000000 in
theorem kX11_isPartSet : TK cX11_isPartSet RX11 2 tX11_isPartSet := ⟨by decide +kernel, wok_of [727] (by decide +kernel) (by decide +kernel)⟩
set_option maxRecDepth 100000 in
set_option maxHeartbeats 4000000 in
theorem crX11_isPartSet {N : Nat} {X : XT} (G : GX X cX11_isPartSet RX11) (hR : xR X = rmL 2) : CRs X tX11_isPartSet (oF [(mX4_allParts N)]) (oF []) (oF []) := by
  have hl : tX11_isPartSet.filter isInv = [(5, .invokevirtual 204, 0, 0, 1, 0, 0, [])] := rfl
  intro e he
  rw [hl] at he
  simp only [List.mem_cons, List.not_mem_nil, or_false] at he
  rcases he with rfl
  · exact crI_V (idx := 204) G (by decide +kernel) (MX4_allParts N) (cw_of (ps := [1040, 1041, 1042, 147, 1043]) (by decide +kernel) (by decide +kernel)) ⟨by decide +kernel, by decide +kernel, by decide +kernel⟩ (by unfold rmOk; rw [hR]; exact ⟨by decide, by decide⟩)
set_option maxRecDepth 100000 in
set_option maxHeartbeats 4000000 in
theorem MX11_isPartSet (N : Nat) : SndI yX11_isPartSet cX11_isPartSet 2 (some .boolean) 2 2 true (mX11_isPartSet N) := by
  refine SndI.ofZ tX11_isPartSet (by decide +kernel) rfl rfl ?_ ?_
  · intro as w x h
    obtain ⟨t1, rfl, h_1⟩ := xS1_some h
    obtain ⟨a1, t2, rfl, h_2⟩ := xI1_some h_1
    obtain ⟨rfl, h_3⟩ := xN1_some h_2
    clear h h_1 h_2
    have h := h_3
    rw [callW_eq] at h
    exact ⟨fun _ => ⟨_, _, _, rfl, rfl, _, rfl, rfl⟩, rfl, Nat.le_of_ble_eq_true rfl⟩
  · intro X G hn hR as w r h hr
    have hC := crX11_isPartSet (N := N) G hR
    obtain ⟨t1, rfl, h_1⟩ := xS1_some h
    obtain ⟨a1, t2, rfl, h_2⟩ := xI1_some h_1
    obtain ⟨rfl, h_3⟩ := xN1_some h_2
    clear h h_1 h_2
    have h := h_3
    rw [callW_eq] at h
    refine run_sound (r := r) (X := X) (cc := cX11_isPartSet) (own := RX11) (tab := tX11_isPartSet) G (by rw [hn]; exact kX11_isPartSet) (oI := (oF [(mX4_allParts N)])) (oL := (oF [])) (oV := (oF [])) (rI := retZ) (rL := (fun _ _ => none)) (rV := (fun _ => none))
      (K := (fun j ls st w => none)) hr (fun _ _ _ _ hx => by cases hx) (fun _ _ _ hx => by cases hx) hC (fun ls => lsb [some (.inr (.inr (15, 0))), some (.inl a1)] 0 ls) (keepsP_of rfl) ?_ 14 0 [some (.inr (.inr (15, 0))), some (.inl a1)] [] w ?_ h
    · intro j ls st w hfx h
      obtain ⟨e0, e1, -⟩ : _ = _ ∧ _ = _ ∧ True := hfx
      try dsimp only at h
      cases h
    · exact (show _ = _ ∧ _ = _ ∧ True from ⟨rfl, rfl, trivial⟩)
-- MoorGuides.stranger(II)I
def tX11_stranger : List EN := [
  (0, .aload_n 0, 0, 0, 0, 0, 0, []), (1, .iload_n 1, 0, 0, 0, 0, 0, []), (2, .invokevirtual 269, 0, 0, 2, 0, 0, []), (5, .ifCond .eq 10, 0, 7, 0, 0, 0, []),
  (8, .iload_n 2, 0, 0, 0, 0, 0, []), (9, .invokestatic 201, 0, 1, 1, 0, 0, []), (12, .ifCond .ne 5, 0, 9, 0, 0, 0, []), (15, .iconst (-1), 0, 0, 0, (-1), 0, []),
  (16, .ireturn, 0, 0, 0, 0, 0, []), (17, .aload_n 0, 0, 0, 0, 0, 0, []), (18, .getfield 35, 0, 11, 5, 0, 0, []), (21, .iload_n 2, 0, 0, 0, 0, 0, []),
  (22, .invokevirtual 272, 0, 2, 2, 0, 0, []), (25, .istore_n 3, 0, 0, 0, 0, 0, []), (26, .aload_n 0, 0, 0, 0, 0, 0, []), (27, .getfield 16, 0, 11, 2, 0, 0, []),
  (30, .iload_n 2, 0, 0, 0, 0, 0, []), (31, .iload_n 3, 0, 0, 0, 0, 0, []), (32, .iload_n 1, 0, 0, 0, 0, 0, []), (33, .ior, 0, 0, 0, 0, 0, []),
  (34, .invokevirtual 275, 0, 3, 3, 0, 0, []), (37, .aload_n 0, 0, 0, 0, 0, 0, []), (38, .getfield 16, 0, 11, 2, 0, 0, []), (41, .iload_n 2, 0, 0, 0, 0, 0, []),
  (42, .iload_n 3, 0, 0, 0, 0, 0, []), (43, .invokevirtual 275, 0, 3, 3, 0, 0, []), (46, .isub, 0, 0, 0, 0, 0, []), (47, .ireturn, 0, 0, 0, 0, 0, [])]
noncomputable def pX11_stranger (N : Nat) (a1 : Int32) (a2 : Int32) (w : Wd) : Option (Int32 × Wd) :=
  (callW (pX11_isPartSet N a1) w).bind fun r1 =>
  if r1.1 = 0 then some ((-1 : Int32), r1.2) else
  (callW (pX11_isNight N a2) r1.2).bind fun r2 =>
  if r2.1 = 0 then some ((-1 : Int32), r2.2) else
  (callW (pX9_knownByAny N 0 a2) r2.2).bind fun r3 =>
  (callW (pX4_priceLed N (gR r3.2 15 0 2) a2 (r3.1 ||| a1)) r3.2).bind fun r4 =>
  (callW (pX4_priceLed N (gR r4.2 15 0 2) a2 r3.1) r4.2).bind fun r5 =>
  some ((r4.1 - r5.1), r5.2)
noncomputable def mX11_stranger (N : Nat) (as : List AV) (w : Wd) : Option (Int32 × Wd) := xS1 15 as fun t => xI1 t fun a1 t => xI1 t fun a2 t => xN1 t (callW (pX11_stranger N a1 a2) w)
set_option maxRecDepth 100000 in
set_option maxHeartbeats 4000000 in
theorem kX11_stranger : TK cX11_stranger RX11 4 tX11_stranger := ⟨by decide +kernel, wok_of [730, 727, 727] (by decide +kernel) (by decide +kernel)⟩
set_option maxRecDepth 100000 in
set_option maxHeartbeats 4000000 in
theorem crX11_stranger {N : Nat} {X : XT} (G : GX X cX11_stranger RX11) (hR : xR X = rmL 4) : CRs X tX11_stranger (oF [(mX11_isPartSet N), (mX11_isNight N), (mX9_knownByAny N), (mX4_priceLed N)]) (oF []) (oF []) := by
  have hl : tX11_stranger.filter isInv = [(2, .invokevirtual 269, 0, 0, 2, 0, 0, []), (9, .invokestatic 201, 0, 1, 1, 0, 0, []), (22, .invokevirtual 272, 0, 2, 2, 0, 0, []), (34, .invokevirtual 275, 0, 3, 3, 0, 0, []), (43, .invokevirtual 275, 0, 3, 3, 0, 0, [])] := rfl
  intro e he
  rw [hl] at he
  simp only [List.mem_cons, List.not_mem_nil, or_false] at he
  rcases he with rfl | rfl | rfl | rfl | rfl
  · exact crI_V (idx := 269) G (by decide +kernel) (MX11_isPartSet N) (cw_of (ps := [1258, 1260, 55, 146, 1261]) (by decide +kernel) (by decide +kernel)) ⟨by decide +kernel, by decide +kernel, by decide +kernel⟩ (by unfold rmOk; rw [hR]; exact ⟨by decide, by decide⟩)
  · exact crI_S (idx := 201) G (by decide +kernel) (MX11_isNight N) (cw_of (ps := [1032, 1033, 146, 1034]) (by decide +kernel) (by decide +kernel)) ⟨by decide +kernel, by decide +kernel, by decide +kernel⟩ (by unfold rmOk; rw [hR]; exact ⟨by decide, by decide⟩)
  · exact crI_V (idx := 272) G (by decide +kernel) (MX9_knownByAny N) (cw_of (ps := [1262, 1263, 1264, 156, 1265]) (by decide +kernel) (by decide +kernel)) ⟨by decide +kernel, by decide +kernel, by decide +kernel⟩ (by unfold rmOk; rw [hR]; exact ⟨by decide, by decide⟩)
  · exact crI_V (idx := 275) G (by decide +kernel) (MX4_priceLed N) (cw_of (ps := [1266, 1267, 1268, 147, 1269]) (by decide +kernel) (by decide +kernel)) ⟨by decide +kernel, by decide +kernel, by decide +kernel⟩ (by unfold rmOk; rw [hR]; exact ⟨by decide, by decide⟩)
  · exact crI_V (idx := 275) G (by decide +kernel) (MX4_priceLed N) (cw_of (ps := [1266, 1267, 1268, 147, 1269]) (by decide +kernel) (by decide +kernel)) ⟨by decide +kernel, by decide +kernel, by decide +kernel⟩ (by unfold rmOk; rw [hR]; exact ⟨by decide, by decide⟩)
set_option maxRecDepth 100000 in
set_option maxHeartbeats 4000000 in
theorem MX11_stranger (N : Nat) : SndI yX11_stranger cX11_stranger 4 (some .int) 4 3 true (mX11_stranger N) := by
  refine SndI.of tX11_stranger (by decide +kernel) rfl rfl ?_ ?_
  · intro as w x h
    obtain ⟨t1, rfl, h_1⟩ := xS1_some h
    obtain ⟨a1, t2, rfl, h_2⟩ := xI1_some h_1
    obtain ⟨a2, t3, rfl, h_3⟩ := xI1_some h_2
    obtain ⟨rfl, h_4⟩ := xN1_some h_3
    clear h h_1 h_2 h_3
    have h := h_4
    rw [callW_eq] at h
    exact ⟨fun _ => ⟨_, _, _, rfl, rfl, _, rfl, rfl⟩, rfl, Nat.le_of_ble_eq_true rfl⟩
  · intro X G hn hR as w r h hr
    have hC := crX11_stranger (N := N) G hR
    obtain ⟨t1, rfl, h_1⟩ := xS1_some h
    obtain ⟨a1, t2, rfl, h_2⟩ := xI1_some h_1
    obtain ⟨a2, t3, rfl, h_3⟩ := xI1_some h_2
    obtain ⟨rfl, h_4⟩ := xN1_some h_3
    clear h h_1 h_2 h_3
    have h := h_4
    rw [callW_eq] at h
    refine run_sound (r := r) (X := X) (cc := cX11_stranger) (own := RX11) (tab := tX11_stranger) G (by rw [hn]; exact kX11_stranger) (oI := (oF [(mX11_isPartSet N), (mX11_isNight N), (mX9_knownByAny N), (mX4_priceLed N)])) (oL := (oF [])) (oV := (oF [])) (rI := (fun x w => some (x, w))) (rL := (fun _ _ => none)) (rV := (fun _ => none))
      (K := (fun j ls st w => none)) (fun x w pc ls hx hd => hr x w pc ls (Option.some.inj hx) hd) (fun _ _ _ _ hx => by cases hx) (fun _ _ _ hx => by cases hx) hC (fun ls => lsb [some (.inr (.inr (15, 0))), some (.inl a1), some (.inl a2), none] 0 ls) (keepsP_of rfl) ?_ 30 0 [some (.inr (.inr (15, 0))), some (.inl a1), some (.inl a2), none] [] w ?_ h
    · intro j ls st w hfx h
      obtain ⟨e0, e1, e2, -⟩ : _ = _ ∧ _ = _ ∧ _ = _ ∧ True := hfx
      try dsimp only at h
      cases h
    · exact (show _ = _ ∧ _ = _ ∧ _ = _ ∧ True from ⟨rfl, rfl, rfl, trivial⟩)
-- MoorGuides.fewest(II)I
def tX11_fewest : List EN := [
  (0, .iload_n 1, 0, 0, 0, 0, 0, []), (1, .ifCond .lt 25, 0, 14, 0, 0, 0, []), (4, .iload_n 1, 0, 0, 0, 0, 0, []), (5, .iconst 1, 0, 0, 0, 1, 0, []),
  (6, .aload_n 0, 0, 0, 0, 0, 0, []), (7, .getfield 16, 0, 11, 2, 0, 0, []), (10, .getfield 278, 0, 4, 5, 0, 0, []), (13, .ishl, 0, 0, 0, 0, 0, []),
  (14, .if_icmp .ge 12, 0, 14, 0, 0, 0, []), (17, .iload_n 2, 0, 0, 0, 0, 0, []), (18, .ifCond .lt 8, 0, 14, 0, 0, 0, []), (21, .iload_n 2, 0, 0, 0, 0, 0, []),
  (22, .iconst 1, 0, 0, 0, 1, 0, []), (23, .if_icmp .le 5, 0, 16, 0, 0, 0, []), (26, .iconst (-1), 0, 0, 0, (-1), 0, []), (27, .ireturn, 0, 0, 0, 0, 0, []),
  (28, .aload_n 0, 0, 0, 0, 0, 0, []), (29, .getfield 61, 0, 11, 12, 0, 0, []), (32, .iload_n 1, 0, 0, 0, 0, 0, []), (33, .invokevirtual 281, 0, 0, 2, 0, 0, []),
  (36, .istore_n 3, 0, 0, 0, 0, 0, []), (37, .iload_n 3, 0, 0, 0, 0, 0, []), (38, .ifCond .ge 6, 0, 25, 0, 0, 0, []), (41, .bipush (-2), 0, 0, 0, (-2), 0, []),
  (43, .ireturn, 0, 0, 0, 0, 0, []), (44, .iload_n 2, 0, 0, 0, 0, 0, []), (45, .ifCond .ne 10, 0, 30, 0, 0, 0, []), (48, .iload_n 3, 0, 0, 0, 0, 0, []),
  (49, .invokestatic 284, 0, 1, 1, 0, 0, []), (52, .goto 4, 0, 31, 0, 0, 0, []), (55, .iload_n 3, 0, 0, 0, 0, 0, []), (56, .ireturn, 0, 0, 0, 0, 0, [])]
noncomputable def pX11_fewest (N : Nat) (a1 : Int32) (a2 : Int32) (w : Wd) : Option (Int32 × Wd) :=
  if a1 < 0 then some ((-1 : Int32), w) else
  if a1 < ((1 : Int32) <<< ((gI w 8 (gR w 15 0 2) 5) &&& (31 : Int32))) then
    if a2 < 0 then some ((-1 : Int32), w) else
    if (1 : Int32) < a2 then some ((-1 : Int32), w) else
    (callW (pX8_fewestParts N a1) w).bind fun r1 =>
    if r1.1 < 0 then some ((-2 : Int32), r1.2) else
    if a2 = 0 then
      (callW (pJ6_bitCount_0f7a4 N r1.1) r1.2).bind fun r2 =>
      some (r2.1, r2.2)
    else
    some (r1.1, r1.2)
  else
  some ((-1 : Int32), w)
noncomputable def mX11_fewest (N : Nat) (as : List AV) (w : Wd) : Option (Int32 × Wd) := xS1 15 as fun t => xI1 t fun a1 t => xI1 t fun a2 t => xN1 t (callW (pX11_fewest N a1 a2) w)
set_option maxRecDepth 100000 in
set_option maxHeartbeats 4000000 in
theorem kX11_fewest : TK cX11_fewest RX11 4 tX11_fewest := ⟨by decide +kernel, wok_of [727, 285, 737] (by decide +kernel) (by decide +kernel)⟩
set_option maxRecDepth 100000 in
set_option maxHeartbeats 4000000 in
theorem crX11_fewest {N : Nat} {X : XT} (G : GX X cX11_fewest RX11) (hR : xR X = rmL 5) : CRs X tX11_fewest (oF [(mX8_fewestParts N), (mJ6_bitCount_0f7a4 N)]) (oF []) (oF []) := by
  have hl : tX11_fewest.filter isInv = [(33, .invokevirtual 281, 0, 0, 2, 0, 0, []), (49, .invokestatic 284, 0, 1, 1, 0, 0, [])] := rfl
  intro e he
  rw [hl] at he
  simp only [List.mem_cons, List.not_mem_nil, or_false] at he
  rcases he with rfl | rfl
  · exact crI_V (idx := 281) G (by decide +kernel) (MX8_fewestParts N) (cw_of (ps := [1275, 1276, 1277, 158, 1278]) (by decide +kernel) (by decide +kernel)) ⟨by decide +kernel, by decide +kernel, by decide +kernel⟩ (by unfold rmOk; rw [hR]; exact ⟨by decide, by decide⟩)
  · exact crI_S (idx := 284) G (by decide +kernel) (MJ6_bitCount_0f7a4 N) (cw_of (ps := [1286, 1066, 169, 1067]) (by decide +kernel) (by decide +kernel)) ⟨by decide +kernel, by decide +kernel, by decide +kernel⟩ (by unfold rmOk; rw [hR]; exact ⟨by decide, by decide⟩)
set_option maxRecDepth 100000 in
set_option maxHeartbeats 4000000 in
theorem MX11_fewest (N : Nat) : SndI yX11_fewest cX11_fewest 4 (some .int) 5 3 true (mX11_fewest N) := by
  refine SndI.of tX11_fewest (by decide +kernel) rfl rfl ?_ ?_
  · intro as w x h
    obtain ⟨t1, rfl, h_1⟩ := xS1_some h
    obtain ⟨a1, t2, rfl, h_2⟩ := xI1_some h_1
    obtain ⟨a2, t3, rfl, h_3⟩ := xI1_some h_2
    obtain ⟨rfl, h_4⟩ := xN1_some h_3
    clear h h_1 h_2 h_3
    have h := h_4
    rw [callW_eq] at h
    exact ⟨fun _ => ⟨_, _, _, rfl, rfl, _, rfl, rfl⟩, rfl, Nat.le_of_ble_eq_true rfl⟩
  · intro X G hn hR as w r h hr
    have hC := crX11_fewest (N := N) G hR
    obtain ⟨t1, rfl, h_1⟩ := xS1_some h
    obtain ⟨a1, t2, rfl, h_2⟩ := xI1_some h_1
    obtain ⟨a2, t3, rfl, h_3⟩ := xI1_some h_2
    obtain ⟨rfl, h_4⟩ := xN1_some h_3
    clear h h_1 h_2 h_3
    have h := h_4
    rw [callW_eq] at h
    refine run_sound (r := r) (X := X) (cc := cX11_fewest) (own := RX11) (tab := tX11_fewest) G (by rw [hn]; exact kX11_fewest) (oI := (oF [(mX8_fewestParts N), (mJ6_bitCount_0f7a4 N)])) (oL := (oF [])) (oV := (oF [])) (rI := (fun x w => some (x, w))) (rL := (fun _ _ => none)) (rV := (fun _ => none))
      (K := (fun j ls st w => none)) (fun x w pc ls hx hd => hr x w pc ls (Option.some.inj hx) hd) (fun _ _ _ _ hx => by cases hx) (fun _ _ _ hx => by cases hx) hC (fun ls => lsb [some (.inr (.inr (15, 0))), some (.inl a1), some (.inl a2), none] 0 ls) (keepsP_of rfl) ?_ 34 0 [some (.inr (.inr (15, 0))), some (.inl a1), some (.inl a2), none] [] w ?_ h
    · intro j ls st w hfx h
      obtain ⟨e0, e1, e2, -⟩ : _ = _ ∧ _ = _ ∧ _ = _ ∧ True := hfx
      try dsimp only at h
      cases h
    · exact (show _ = _ ∧ _ = _ ∧ _ = _ ∧ True from ⟨rfl, rfl, rfl, trivial⟩)
-- MoorGuides.isOrder(II)Z
def tX11_isOrder : List EN := [
  (0, .iload_n 2, 0, 0, 0, 0, 0, []), (1, .ifCond .eq 48, 0, 25, 0, 0, 0, []), (4, .aload_n 0, 0, 0, 0, 0, 0, []), (5, .iload_n 2, 0, 0, 0, 0, 0, []),
  (6, .invokevirtual 269, 0, 0, 2, 0, 0, []), (9, .ifCond .eq 40, 0, 25, 0, 0, 0, []), (12, .aload_n 0, 0, 0, 0, 0, 0, []), (13, .iload_n 1, 0, 0, 0, 0, 0, []),
  (14, .invokevirtual 212, 0, 1, 2, 0, 0, []), (17, .ifCond .eq 32, 0, 25, 0, 0, 0, []), (20, .aload_n 0, 0, 0, 0, 0, 0, []), (21, .getfield 35, 0, 11, 5, 0, 0, []),
  (24, .iload_n 1, 0, 0, 0, 0, 0, []), (25, .aload_n 0, 0, 0, 0, 0, 0, []), (26, .getfield 35, 0, 11, 5, 0, 0, []), (29, .getfield 157, 0, 9, 1, 0, 0, []),
  (32, .iload_n 2, 0, 0, 0, 0, 0, []), (33, .invokestatic 284, 0, 2, 1, 0, 0, []), (36, .iadd, 0, 0, 0, 0, 0, []), (37, .iconst 1, 0, 0, 0, 1, 0, []),
  (38, .isub, 0, 0, 0, 0, 0, []), (39, .invokevirtual 160, 0, 3, 3, 0, 0, []), (42, .ifCond .eq 7, 0, 25, 0, 0, 0, []), (45, .iconst 1, 0, 0, 0, 1, 0, []),
  (46, .goto 4, 0, 26, 0, 0, 0, []), (49, .iconst 0, 0, 0, 0, 0, 0, []), (50, .ireturn, 0, 0, 0, 0, 0, [])]
noncomputable def pX11_isOrder (N : Nat) (a1 : Int32) (a2 : Int32) (w : Wd) : Option (Int32 × Wd) :=
  if a2 = 0 then some ((0 : Int32), w) else
  (callW (pX11_isPartSet N a2) w).bind fun r1 =>
  if r1.1 = 0 then some ((0 : Int32), r1.2) else
  (callW (pX11_isThereTonight N a1) r1.2).bind fun r2 =>
  if r2.1 = 0 then some ((0 : Int32), r2.2) else
  (callW (pJ6_bitCount_0f7a4 N a2) r2.2).bind fun r3 =>
  (callW (pX9_isThere N 0 a1 (((gI r2.2 13 0 1) + r3.1) - (1 : Int32))) r3.2).bind fun r4 =>
  if r4.1 = 0 then some ((0 : Int32), r4.2) else
  some ((1 : Int32), r4.2)
noncomputable def mX11_isOrder (N : Nat) (as : List AV) (w : Wd) : Option (Int32 × Wd) := xS1 15 as fun t => xI1 t fun a1 t => xI1 t fun a2 t => xN1 t (callW (pX11_isOrder N a1 a2) w)
set_option maxRecDepth 100000 in
set_option maxHeartbeats 4000000 in
theorem kX11_isOrder : TK cX11_isOrder RX11 3 tX11_isOrder := ⟨by decide +kernel, wok_of [730, 730, 522] (by decide +kernel) (by decide +kernel)⟩
set_option maxRecDepth 100000 in
set_option maxHeartbeats 4000000 in
theorem crX11_isOrder {N : Nat} {X : XT} (G : GX X cX11_isOrder RX11) (hR : xR X = rmL 3) : CRs X tX11_isOrder (oF [(mX11_isPartSet N), (mX11_isThereTonight N), (mJ6_bitCount_0f7a4 N), (mX9_isThere N)]) (oF []) (oF []) := by
  have hl : tX11_isOrder.filter isInv = [(6, .invokevirtual 269, 0, 0, 2, 0, 0, []), (14, .invokevirtual 212, 0, 1, 2, 0, 0, []), (33, .invokestatic 284, 0, 2, 1, 0, 0, []), (39, .invokevirtual 160, 0, 3, 3, 0, 0, [])] := rfl
  intro e he
  rw [hl] at he
  simp only [List.mem_cons, List.not_mem_nil, or_false] at he
  rcases he with rfl | rfl | rfl | rfl
  · exact crI_V (idx := 269) G (by decide +kernel) (MX11_isPartSet N) (cw_of (ps := [1258, 1260, 55, 146, 1261]) (by decide +kernel) (by decide +kernel)) ⟨by decide +kernel, by decide +kernel, by decide +kernel⟩ (by unfold rmOk; rw [hR]; exact ⟨by decide, by decide⟩)
  · exact crI_V (idx := 212) G (by decide +kernel) (MX11_isThereTonight N) (cw_of (ps := [1052, 1054, 35, 146, 1055]) (by decide +kernel) (by decide +kernel)) ⟨by decide +kernel, by decide +kernel, by decide +kernel⟩ (by unfold rmOk; rw [hR]; exact ⟨by decide, by decide⟩)
  · exact crI_S (idx := 284) G (by decide +kernel) (MJ6_bitCount_0f7a4 N) (cw_of (ps := [1286, 1066, 169, 1067]) (by decide +kernel) (by decide +kernel)) ⟨by decide +kernel, by decide +kernel, by decide +kernel⟩ (by unfold rmOk; rw [hR]; exact ⟨by decide, by decide⟩)
  · exact crI_V (idx := 160) G (by decide +kernel) (MX9_isThere N) (cw_of (ps := [1056, 1021, 1022, 156, 1023]) (by decide +kernel) (by decide +kernel)) ⟨by decide +kernel, by decide +kernel, by decide +kernel⟩ (by unfold rmOk; rw [hR]; exact ⟨by decide, by decide⟩)
set_option maxRecDepth 100000 in
set_option maxHeartbeats 4000000 in
theorem MX11_isOrder (N : Nat) : SndI yX11_isOrder cX11_isOrder 3 (some .boolean) 3 3 true (mX11_isOrder N) := by
  refine SndI.ofZ tX11_isOrder (by decide +kernel) rfl rfl ?_ ?_
  · intro as w x h
    obtain ⟨t1, rfl, h_1⟩ := xS1_some h
    obtain ⟨a1, t2, rfl, h_2⟩ := xI1_some h_1
    obtain ⟨a2, t3, rfl, h_3⟩ := xI1_some h_2
    obtain ⟨rfl, h_4⟩ := xN1_some h_3
    clear h h_1 h_2 h_3
    have h := h_4
    rw [callW_eq] at h
    exact ⟨fun _ => ⟨_, _, _, rfl, rfl, _, rfl, rfl⟩, rfl, Nat.le_of_ble_eq_true rfl⟩
  · intro X G hn hR as w r h hr
    have hC := crX11_isOrder (N := N) G hR
    obtain ⟨t1, rfl, h_1⟩ := xS1_some h
    obtain ⟨a1, t2, rfl, h_2⟩ := xI1_some h_1
    obtain ⟨a2, t3, rfl, h_3⟩ := xI1_some h_2
    obtain ⟨rfl, h_4⟩ := xN1_some h_3
    clear h h_1 h_2 h_3
    have h := h_4
    rw [callW_eq] at h
    refine run_sound (r := r) (X := X) (cc := cX11_isOrder) (own := RX11) (tab := tX11_isOrder) G (by rw [hn]; exact kX11_isOrder) (oI := (oF [(mX11_isPartSet N), (mX11_isThereTonight N), (mJ6_bitCount_0f7a4 N), (mX9_isThere N)])) (oL := (oF [])) (oV := (oF [])) (rI := retZ) (rL := (fun _ _ => none)) (rV := (fun _ => none))
      (K := (fun j ls st w => none)) hr (fun _ _ _ _ hx => by cases hx) (fun _ _ _ hx => by cases hx) hC (fun ls => lsb [some (.inr (.inr (15, 0))), some (.inl a1), some (.inl a2)] 0 ls) (keepsP_of rfl) ?_ 29 0 [some (.inr (.inr (15, 0))), some (.inl a1), some (.inl a2)] [] w ?_ h
    · intro j ls st w hfx h
      obtain ⟨e0, e1, e2, -⟩ : _ = _ ∧ _ = _ ∧ _ = _ ∧ True := hfx
      try dsimp only at h
      cases h
    · exact (show _ = _ ∧ _ = _ ∧ _ = _ ∧ True from ⟨rfl, rfl, rfl, trivial⟩)
-- MoorGuides.isMaster(I)Z
def tX11_isMaster : List EN := [
  (0, .iload_n 0, 0, 0, 0, 0, 0, []), (1, .ifCond .lt 12, 0, 7, 0, 0, 0, []), (4, .iload_n 0, 0, 0, 0, 0, 0, []), (5, .iconst 4, 0, 0, 0, 4, 0, []),
  (6, .if_icmp .ge 7, 0, 7, 0, 0, 0, []), (9, .iconst 1, 0, 0, 0, 1, 0, []), (10, .goto 4, 0, 8, 0, 0, 0, []), (13, .iconst 0, 0, 0, 0, 0, 0, []),
  (14, .ireturn, 0, 0, 0, 0, 0, [])]
noncomputable def pX11_isMaster (N : Nat) (a0 : Int32) (w : Wd) : Option (Int32 × Wd) :=
  if a0 < 0 then some ((0 : Int32), w) else
  if a0 < (4 : Int32) then some ((1 : Int32), w) else
  some ((0 : Int32), w)
noncomputable def mX11_isMaster (N : Nat) (as : List AV) (w : Wd) : Option (Int32 × Wd) := xI1 as fun a0 t => xN1 t (callW (pX11_isMaster N a0) w)
set_option maxRecDepth 100000 in
set_option maxHeartbeats 4000000 in
theorem kX11_isMaster : TK cX11_isMaster RX11 1 tX11_isMaster := ⟨by decide +kernel, wok_of [] (by decide +kernel) (by decide +kernel)⟩
set_option maxRecDepth 100000 in
set_option maxHeartbeats 4000000 in
theorem crX11_isMaster {N : Nat} {X : XT} (G : GX X cX11_isMaster RX11) (hR : xR X = rmL 1) : CRs X tX11_isMaster (oF []) (oF []) (oF []) := by
  have hl : tX11_isMaster.filter isInv = [] := rfl
  intro e he
  rw [hl] at he
  cases he
set_option maxRecDepth 100000 in
set_option maxHeartbeats 4000000 in
theorem MX11_isMaster (N : Nat) : SndI yX11_isMaster cX11_isMaster 1 (some .boolean) 1 1 false (mX11_isMaster N) := by
  refine SndI.ofZ tX11_isMaster (by decide +kernel) rfl rfl ?_ ?_
  · intro as w x h
    obtain ⟨a0, t1, rfl, h_1⟩ := xI1_some h
    obtain ⟨rfl, h_2⟩ := xN1_some h_1
    clear h h_1
    have h := h_2
    rw [callW_eq] at h
    exact ⟨(fun z => by cases z), rfl, Nat.le_of_ble_eq_true rfl⟩
  · intro X G hn hR as w r h hr
    have hC := crX11_isMaster (N := N) G hR
    obtain ⟨a0, t1, rfl, h_1⟩ := xI1_some h
    obtain ⟨rfl, h_2⟩ := xN1_some h_1
    clear h h_1
    have h := h_2
    rw [callW_eq] at h
    refine run_sound (r := r) (X := X) (cc := cX11_isMaster) (own := RX11) (tab := tX11_isMaster) G (by rw [hn]; exact kX11_isMaster) (oI := (oF [])) (oL := (oF [])) (oV := (oF [])) (rI := retZ) (rL := (fun _ _ => none)) (rV := (fun _ => none))
      (K := (fun j ls st w => none)) hr (fun _ _ _ _ hx => by cases hx) (fun _ _ _ hx => by cases hx) hC (fun ls => lsb [some (.inl a0)] 0 ls) (keepsP_of rfl) ?_ 11 0 [some (.inl a0)] [] w ?_ h
    · intro j ls st w hfx h
      obtain ⟨e0, -⟩ : _ = _ ∧ True := hfx
      try dsimp only at h
      cases h
    · exact (show _ = _ ∧ True from ⟨rfl, trivial⟩)
-- MoorGuides.pick(II)I
def tX11_pick : List EN := [
  (0, .iload_n 1, 0, 0, 0, 0, 0, []), (1, .invokestatic 306, 0, 0, 1, 0, 0, []), (4, .ifCond .eq 12, 0, 8, 0, 0, 0, []), (7, .iload_n 2, 0, 0, 0, 0, 0, []),
  (8, .ifCond .lt 8, 0, 8, 0, 0, 0, []), (11, .iload_n 2, 0, 0, 0, 0, 0, []), (12, .iconst 1, 0, 0, 0, 1, 0, []), (13, .if_icmp .le 5, 0, 10, 0, 0, 0, []),
  (16, .iconst (-1), 0, 0, 0, (-1), 0, []), (17, .ireturn, 0, 0, 0, 0, 0, []), (18, .aload_n 0, 0, 0, 0, 0, 0, []), (19, .getfield 75, 0, 11, 14, 0, 0, []),
  (22, .aload_n 0, 0, 0, 0, 0, 0, []), (23, .getfield 35, 0, 11, 5, 0, 0, []), (26, .iload_n 1, 0, 0, 0, 0, 0, []), (27, .invokevirtual 309, 0, 1, 3, 0, 0, []),
  (30, .ifCond .ne 6, 0, 19, 0, 0, 0, []), (33, .bipush (-2), 0, 0, 0, (-2), 0, []), (35, .ireturn, 0, 0, 0, 0, 0, []), (36, .iload_n 2, 0, 0, 0, 0, 0, []),
  (37, .ifCond .ne 13, 0, 25, 0, 0, 0, []), (40, .aload_n 0, 0, 0, 0, 0, 0, []), (41, .getfield 75, 0, 11, 14, 0, 0, []), (44, .getfield 313, 0, 3, 1, 0, 0, []),
  (47, .goto 10, 0, 28, 0, 0, 0, []), (50, .aload_n 0, 0, 0, 0, 0, 0, []), (51, .getfield 75, 0, 11, 14, 0, 0, []), (54, .getfield 316, 0, 3, 2, 0, 0, []),
  (57, .ireturn, 0, 0, 0, 0, 0, [])]
noncomputable def pX11_pick (N : Nat) (a1 : Int32) (a2 : Int32) (w : Wd) : Option (Int32 × Wd) :=
  (callW (pX11_isMaster N a1) w).bind fun r1 =>
  if r1.1 = 0 then some ((-1 : Int32), r1.2) else
  if a2 < 0 then some ((-1 : Int32), r1.2) else
  if (1 : Int32) < a2 then some ((-1 : Int32), r1.2) else
  (callW (pX3_choose N 0 a1) r1.2).bind fun r2 =>
  if r2.1 = 0 then some ((-2 : Int32), r2.2) else
  if a2 = 0 then some ((gI r2.2 7 0 1), r2.2) else
  some ((gI r2.2 7 0 2), r2.2)
noncomputable def mX11_pick (N : Nat) (as : List AV) (w : Wd) : Option (Int32 × Wd) := xS1 15 as fun t => xI1 t fun a1 t => xI1 t fun a2 t => xN1 t (callW (pX11_pick N a1 a2) w)
set_option maxRecDepth 100000 in
set_option maxHeartbeats 4000000 in
theorem kX11_pick : TK cX11_pick RX11 3 tX11_pick := ⟨by decide +kernel, wok_of [739, 730, 739, 683, 739, 685] (by decide +kernel) (by decide +kernel)⟩
set_option maxRecDepth 100000 in
set_option maxHeartbeats 4000000 in
theorem crX11_pick {N : Nat} {X : XT} (G : GX X cX11_pick RX11) (hR : xR X = rmL 7) : CRs X tX11_pick (oF [(mX11_isMaster N), (mX3_choose N)]) (oF []) (oF []) := by
  have hl : tX11_pick.filter isInv = [(1, .invokestatic 306, 0, 0, 1, 0, 0, []), (27, .invokevirtual 309, 0, 1, 3, 0, 0, [])] := rfl
  intro e he
  rw [hl] at he
  simp only [List.mem_cons, List.not_mem_nil, or_false] at he
  rcases he with rfl | rfl
  · exact crI_S (idx := 306) G (by decide +kernel) (MX11_isMaster N) (cw_of (ps := [1366, 1367, 146, 1368]) (by decide +kernel) (by decide +kernel)) ⟨by decide +kernel, by decide +kernel, by decide +kernel⟩ (by unfold rmOk; rw [hR]; exact ⟨by decide, by decide⟩)
  · exact crI_V (idx := 309) G (by decide +kernel) (MX3_choose N) (cw_of (ps := [1369, 1370, 1371, 160, 1372]) (by decide +kernel) (by decide +kernel)) ⟨by decide +kernel, by decide +kernel, by decide +kernel⟩ (by unfold rmOk; rw [hR]; exact ⟨by decide, by decide⟩)
set_option maxRecDepth 100000 in
set_option maxHeartbeats 4000000 in
theorem MX11_pick (N : Nat) : SndI yX11_pick cX11_pick 3 (some .int) 7 3 true (mX11_pick N) := by
  refine SndI.of tX11_pick (by decide +kernel) rfl rfl ?_ ?_
  · intro as w x h
    obtain ⟨t1, rfl, h_1⟩ := xS1_some h
    obtain ⟨a1, t2, rfl, h_2⟩ := xI1_some h_1
    obtain ⟨a2, t3, rfl, h_3⟩ := xI1_some h_2
    obtain ⟨rfl, h_4⟩ := xN1_some h_3
    clear h h_1 h_2 h_3
    have h := h_4
    rw [callW_eq] at h
    exact ⟨fun _ => ⟨_, _, _, rfl, rfl, _, rfl, rfl⟩, rfl, Nat.le_of_ble_eq_true rfl⟩
  · intro X G hn hR as w r h hr
    have hC := crX11_pick (N := N) G hR
    obtain ⟨t1, rfl, h_1⟩ := xS1_some h
    obtain ⟨a1, t2, rfl, h_2⟩ := xI1_some h_1
    obtain ⟨a2, t3, rfl, h_3⟩ := xI1_some h_2
    obtain ⟨rfl, h_4⟩ := xN1_some h_3
    clear h h_1 h_2 h_3
    have h := h_4
    rw [callW_eq] at h
    refine run_sound (r := r) (X := X) (cc := cX11_pick) (own := RX11) (tab := tX11_pick) G (by rw [hn]; exact kX11_pick) (oI := (oF [(mX11_isMaster N), (mX3_choose N)])) (oL := (oF [])) (oV := (oF [])) (rI := (fun x w => some (x, w))) (rL := (fun _ _ => none)) (rV := (fun _ => none))
      (K := (fun j ls st w => none)) (fun x w pc ls hx hd => hr x w pc ls (Option.some.inj hx) hd) (fun _ _ _ _ hx => by cases hx) (fun _ _ _ hx => by cases hx) hC (fun ls => lsb [some (.inr (.inr (15, 0))), some (.inl a1), some (.inl a2)] 0 ls) (keepsP_of rfl) ?_ 31 0 [some (.inr (.inr (15, 0))), some (.inl a1), some (.inl a2)] [] w ?_ h
    · intro j ls st w hfx h
      obtain ⟨e0, e1, e2, -⟩ : _ = _ ∧ _ = _ ∧ _ = _ ∧ True := hfx
      try dsimp only at h
      cases h
    · exact (show _ = _ ∧ _ = _ ∧ _ = _ ∧ True from ⟨rfl, rfl, rfl, trivial⟩)
-- MoorGuides.season(IIII)I
def tX11_season : List EN := [
  (0, .iload_n 1, 0, 0, 0, 0, 0, []), (1, .invokestatic 306, 0, 0, 1, 0, 0, []), (4, .ifCond .eq 29, 0, 16, 0, 0, 0, []), (7, .iload_n 2, 0, 0, 0, 0, 0, []),
  (8, .ifCond .lt 25, 0, 16, 0, 0, 0, []), (11, .iload_n 3, 0, 0, 0, 0, 0, []), (12, .iconst 1, 0, 0, 0, 1, 0, []), (13, .if_icmp .lt 20, 0, 16, 0, 0, 0, []),
  (16, .iload_n 3, 0, 0, 0, 0, 0, []), (17, .bipush 50, 0, 0, 0, 50, 0, []), (19, .if_icmp .gt 14, 0, 16, 0, 0, 0, []), (22, .iload 4, 0, 0, 0, 0, 0, []),
  (24, .ifCond .lt 9, 0, 16, 0, 0, 0, []), (27, .iload 4, 0, 0, 0, 0, 0, []), (29, .iconst 2, 0, 0, 0, 2, 0, []), (30, .if_icmp .le 7, 0, 18, 0, 0, 0, []),
  (33, .ldc_w 319, 0, 0, 0, (-2147483648), 0, []), (36, .ireturn, 0, 0, 0, 0, 0, []), (37, .aload_n 0, 0, 0, 0, 0, 0, []), (38, .getfield 75, 0, 11, 14, 0, 0, []),
  (41, .aload_n 0, 0, 0, 0, 0, 0, []), (42, .getfield 35, 0, 11, 5, 0, 0, []), (45, .iload_n 1, 0, 0, 0, 0, 0, []), (46, .iload_n 2, 0, 0, 0, 0, 0, []),
  (47, .iload_n 3, 0, 0, 0, 0, 0, []), (48, .invokevirtual 320, 0, 0, 5, 0, 0, [(0, 0), (0, 0)]), (51, .iload 4, 0, 0, 0, 0, 0, []), (53, .ifCond .ne 11, 0, 32, 0, 0, 0, []),
  (56, .aload_n 0, 0, 0, 0, 0, 0, []), (57, .getfield 75, 0, 11, 14, 0, 0, []), (60, .getfield 324, 0, 3, 3, 0, 0, []), (63, .ireturn, 0, 0, 0, 0, 0, []),
  (64, .iload 4, 0, 0, 0, 0, 0, []), (66, .iconst 1, 0, 0, 0, 1, 0, []), (67, .if_icmp .ne 17, 0, 41, 0, 0, 0, []), (70, .aload_n 0, 0, 0, 0, 0, 0, []),
  (71, .getfield 75, 0, 11, 14, 0, 0, []), (74, .aload_n 0, 0, 0, 0, 0, 0, []), (75, .getfield 35, 0, 11, 5, 0, 0, []), (78, .invokevirtual 327, 0, 1, 2, 0, 0, []),
  (81, .goto 10, 0, 44, 0, 0, 0, []), (84, .aload_n 0, 0, 0, 0, 0, 0, []), (85, .getfield 75, 0, 11, 14, 0, 0, []), (88, .getfield 331, 0, 3, 4, 0, 0, []),
  (91, .ireturn, 0, 0, 0, 0, 0, [])]
noncomputable def pX11_season (N : Nat) (a1 : Int32) (a2 : Int32) (a3 : Int32) (a4 : Int32) (w : Wd) : Option (Int32 × Wd) :=
  (callW (pX11_isMaster N a1) w).bind fun r1 =>
  if r1.1 = 0 then some ((-2147483648 : Int32), r1.2) else
  if a2 < 0 then some ((-2147483648 : Int32), r1.2) else
  if a3 < (1 : Int32) then some ((-2147483648 : Int32), r1.2) else
  if (50 : Int32) < a3 then some ((-2147483648 : Int32), r1.2) else
  if a4 < 0 then some ((-2147483648 : Int32), r1.2) else
  if (2 : Int32) < a4 then some ((-2147483648 : Int32), r1.2) else
  (callW (pX3_play N 0 a1 a2 a3) r1.2).bind fun w2 =>
  if a4 = 0 then some ((gI w2 7 0 3), w2) else
  if a4 = (1 : Int32) then
    (callW (pX3_newlyGone N 0) w2).bind fun r3 =>
    some (r3.1, r3.2)
  else
  some ((gI w2 7 0 4), w2)
noncomputable def mX11_season (N : Nat) (as : List AV) (w : Wd) : Option (Int32 × Wd) := xS1 15 as fun t => xI1 t fun a1 t => xI1 t fun a2 t => xI1 t fun a3 t => xI1 t fun a4 t => xN1 t (callW (pX11_season N a1 a2 a3 a4) w)
set_option maxRecDepth 100000 in
set_option maxHeartbeats 4000000 in
theorem kX11_season : TK cX11_season RX11 5 tX11_season := ⟨by decide +kernel, wok_of [1388, 739, 730, 739, 687, 739, 730, 739, 689] (by decide +kernel) (by decide +kernel)⟩
set_option maxRecDepth 100000 in
set_option maxHeartbeats 4000000 in
theorem crX11_season {N : Nat} {X : XT} (G : GX X cX11_season RX11) (hR : xR X = rmL 8) : CRs X tX11_season (oF [(mX11_isMaster N), (mX3_newlyGone N)]) (oF []) (oF [(mX3_play N)]) := by
  have hl : tX11_season.filter isInv = [(1, .invokestatic 306, 0, 0, 1, 0, 0, []), (48, .invokevirtual 320, 0, 0, 5, 0, 0, [(0, 0), (0, 0)]), (78, .invokevirtual 327, 0, 1, 2, 0, 0, [])] := rfl
  intro e he
  rw [hl] at he
  simp only [List.mem_cons, List.not_mem_nil, or_false] at he
  rcases he with rfl | rfl | rfl
  · exact crI_S (idx := 306) G (by decide +kernel) (MX11_isMaster N) (cw_of (ps := [1366, 1367, 146, 1368]) (by decide +kernel) (by decide +kernel)) ⟨by decide +kernel, by decide +kernel, by decide +kernel⟩ (by unfold rmOk; rw [hR]; exact ⟨by decide, by decide⟩)
  · exact crV_V (idx := 320) G (by decide +kernel) (MX3_play N) (cw_of (ps := [1389, 1390, 1391, 160, 1392]) (by decide +kernel) (by decide +kernel)) ⟨by decide +kernel, by decide +kernel, by decide +kernel⟩ (by unfold rmOk; rw [hR]; exact ⟨by decide, by decide⟩)
  · exact crI_V (idx := 327) G (by decide +kernel) (MX3_newlyGone N) (cw_of (ps := [1407, 1408, 1409, 160, 1410]) (by decide +kernel) (by decide +kernel)) ⟨by decide +kernel, by decide +kernel, by decide +kernel⟩ (by unfold rmOk; rw [hR]; exact ⟨by decide, by decide⟩)
set_option maxRecDepth 100000 in
set_option maxHeartbeats 4000000 in
theorem MX11_season (N : Nat) : SndI yX11_season cX11_season 5 (some .int) 8 5 true (mX11_season N) := by
  refine SndI.of tX11_season (by decide +kernel) rfl rfl ?_ ?_
  · intro as w x h
    obtain ⟨t1, rfl, h_1⟩ := xS1_some h
    obtain ⟨a1, t2, rfl, h_2⟩ := xI1_some h_1
    obtain ⟨a2, t3, rfl, h_3⟩ := xI1_some h_2
    obtain ⟨a3, t4, rfl, h_4⟩ := xI1_some h_3
    obtain ⟨a4, t5, rfl, h_5⟩ := xI1_some h_4
    obtain ⟨rfl, h_6⟩ := xN1_some h_5
    clear h h_1 h_2 h_3 h_4 h_5
    have h := h_6
    rw [callW_eq] at h
    exact ⟨fun _ => ⟨_, _, _, rfl, rfl, _, rfl, rfl⟩, rfl, Nat.le_of_ble_eq_true rfl⟩
  · intro X G hn hR as w r h hr
    have hC := crX11_season (N := N) G hR
    obtain ⟨t1, rfl, h_1⟩ := xS1_some h
    obtain ⟨a1, t2, rfl, h_2⟩ := xI1_some h_1
    obtain ⟨a2, t3, rfl, h_3⟩ := xI1_some h_2
    obtain ⟨a3, t4, rfl, h_4⟩ := xI1_some h_3
    obtain ⟨a4, t5, rfl, h_5⟩ := xI1_some h_4
    obtain ⟨rfl, h_6⟩ := xN1_some h_5
    clear h h_1 h_2 h_3 h_4 h_5
    have h := h_6
    rw [callW_eq] at h
    refine run_sound (r := r) (X := X) (cc := cX11_season) (own := RX11) (tab := tX11_season) G (by rw [hn]; exact kX11_season) (oI := (oF [(mX11_isMaster N), (mX3_newlyGone N)])) (oL := (oF [])) (oV := (oF [(mX3_play N)])) (rI := (fun x w => some (x, w))) (rL := (fun _ _ => none)) (rV := (fun _ => none))
      (K := (fun j ls st w => none)) (fun x w pc ls hx hd => hr x w pc ls (Option.some.inj hx) hd) (fun _ _ _ _ hx => by cases hx) (fun _ _ _ hx => by cases hx) hC (fun ls => lsb [some (.inr (.inr (15, 0))), some (.inl a1), some (.inl a2), some (.inl a3), some (.inl a4)] 0 ls) (keepsP_of rfl) ?_ 47 0 [some (.inr (.inr (15, 0))), some (.inl a1), some (.inl a2), some (.inl a3), some (.inl a4)] [] w ?_ h
    · intro j ls st w hfx h
      obtain ⟨e0, e1, e2, e3, e4, -⟩ : _ = _ ∧ _ = _ ∧ _ = _ ∧ _ = _ ∧ _ = _ ∧ True := hfx
      try dsimp only at h
      cases h
    · exact (show _ = _ ∧ _ = _ ∧ _ = _ ∧ _ = _ ∧ _ = _ ∧ True from ⟨rfl, rfl, rfl, rfl, rfl, trivial⟩)
-- MoorGuides.claim(III)I
def tX11_claim : List EN := [
  (0, .aload_n 0, 0, 0, 0, 0, 0, []), (1, .iload_n 1, 0, 0, 0, 0, 0, []), (2, .invokevirtual 146, 0, 0, 2, 0, 0, []), (5, .ifCond .eq 18, 0, 11, 0, 0, 0, []),
  (8, .iload_n 2, 0, 0, 0, 0, 0, []), (9, .invokestatic 201, 0, 1, 1, 0, 0, []), (12, .ifCond .eq 11, 0, 11, 0, 0, 0, []), (15, .aload_n 0, 0, 0, 0, 0, 0, []),
  (16, .iload_n 3, 0, 0, 0, 0, 0, []), (17, .invokevirtual 185, 0, 2, 2, 0, 0, []), (20, .ifCond .ne 5, 0, 13, 0, 0, 0, []), (23, .iconst (-1), 0, 0, 0, (-1), 0, []),
  (24, .ireturn, 0, 0, 0, 0, 0, []), (25, .aload_n 0, 0, 0, 0, 0, 0, []), (26, .getfield 82, 0, 11, 15, 0, 0, []), (29, .aload_n 0, 0, 0, 0, 0, 0, []),
  (30, .getfield 16, 0, 11, 2, 0, 0, []), (33, .iload_n 1, 0, 0, 0, 0, 0, []), (34, .iload_n 2, 0, 0, 0, 0, 0, []), (35, .iload_n 3, 0, 0, 0, 0, 0, []),
  (36, .invokevirtual 334, 0, 3, 5, 0, 0, []), (39, .ireturn, 0, 0, 0, 0, 0, [])]
noncomputable def pX11_claim (N : Nat) (a1 : Int32) (a2 : Int32) (a3 : Int32) (w : Wd) : Option (Int32 × Wd) :=
  (callW (pX11_isPerson N a1) w).bind fun r1 =>
  if r1.1 = 0 then some ((-1 : Int32), r1.2) else
  (callW (pX11_isNight N a2) r1.2).bind fun r2 =>
  if r2.1 = 0 then some ((-1 : Int32), r2.2) else
  (callW (pX11_isPart N a3) r2.2).bind fun r3 =>
  if r3.1 = 0 then some ((-1 : Int32), r3.2) else
  (callW (pX0_add N (gR r3.2 15 0 2) a1 a2 a3) r3.2).bind fun r4 =>
  some (r4.1, r4.2)
noncomputable def mX11_claim (N : Nat) (as : List AV) (w : Wd) : Option (Int32 × Wd) := xS1 15 as fun t => xI1 t fun a1 t => xI1 t fun a2 t => xI1 t fun a3 t => xN1 t (callW (pX11_claim N a1 a2 a3) w)
set_option maxRecDepth 100000 in
set_option maxHeartbeats 4000000 in
theorem kX11_claim : TK cX11_claim RX11 4 tX11_claim := ⟨by decide +kernel, wok_of [740, 727] (by decide +kernel) (by decide +kernel)⟩
set_option maxRecDepth 100000 in
set_option maxHeartbeats 4000000 in
theorem crX11_claim {N : Nat} {X : XT} (G : GX X cX11_claim RX11) (hR : xR X = rmL 5) : CRs X tX11_claim (oF [(mX11_isPerson N), (mX11_isNight N), (mX11_isPart N), (mX0_add N)]) (oF []) (oF []) := by
  have hl : tX11_claim.filter isInv = [(2, .invokevirtual 146, 0, 0, 2, 0, 0, []), (9, .invokestatic 201, 0, 1, 1, 0, 0, []), (17, .invokevirtual 185, 0, 2, 2, 0, 0, []), (36, .invokevirtual 334, 0, 3, 5, 0, 0, [])] := rfl
  intro e he
  rw [hl] at he
  simp only [List.mem_cons, List.not_mem_nil, or_false] at he
  rcases he with rfl | rfl | rfl | rfl
  · exact crI_V (idx := 146) G (by decide +kernel) (MX11_isPerson N) (cw_of (ps := [1028, 1030, 34, 146, 1031]) (by decide +kernel) (by decide +kernel)) ⟨by decide +kernel, by decide +kernel, by decide +kernel⟩ (by unfold rmOk; rw [hR]; exact ⟨by decide, by decide⟩)
  · exact crI_S (idx := 201) G (by decide +kernel) (MX11_isNight N) (cw_of (ps := [1032, 1033, 146, 1034]) (by decide +kernel) (by decide +kernel)) ⟨by decide +kernel, by decide +kernel, by decide +kernel⟩ (by unfold rmOk; rw [hR]; exact ⟨by decide, by decide⟩)
  · exact crI_V (idx := 185) G (by decide +kernel) (MX11_isPart N) (cw_of (ps := [1004, 1006, 33, 146, 1007]) (by decide +kernel) (by decide +kernel)) ⟨by decide +kernel, by decide +kernel, by decide +kernel⟩ (by unfold rmOk; rw [hR]; exact ⟨by decide, by decide⟩)
  · exact crI_V (idx := 334) G (by decide +kernel) (MX0_add N) (cw_of (ps := [1415, 1416, 1417, 161, 1418]) (by decide +kernel) (by decide +kernel)) ⟨by decide +kernel, by decide +kernel, by decide +kernel⟩ (by unfold rmOk; rw [hR]; exact ⟨by decide, by decide⟩)
set_option maxRecDepth 100000 in
set_option maxHeartbeats 4000000 in
theorem MX11_claim (N : Nat) : SndI yX11_claim cX11_claim 4 (some .int) 5 4 true (mX11_claim N) := by
  refine SndI.of tX11_claim (by decide +kernel) rfl rfl ?_ ?_
  · intro as w x h
    obtain ⟨t1, rfl, h_1⟩ := xS1_some h
    obtain ⟨a1, t2, rfl, h_2⟩ := xI1_some h_1
    obtain ⟨a2, t3, rfl, h_3⟩ := xI1_some h_2
    obtain ⟨a3, t4, rfl, h_4⟩ := xI1_some h_3
    obtain ⟨rfl, h_5⟩ := xN1_some h_4
    clear h h_1 h_2 h_3 h_4
    have h := h_5
    rw [callW_eq] at h
    exact ⟨fun _ => ⟨_, _, _, rfl, rfl, _, rfl, rfl⟩, rfl, Nat.le_of_ble_eq_true rfl⟩
  · intro X G hn hR as w r h hr
    have hC := crX11_claim (N := N) G hR
    obtain ⟨t1, rfl, h_1⟩ := xS1_some h
    obtain ⟨a1, t2, rfl, h_2⟩ := xI1_some h_1
    obtain ⟨a2, t3, rfl, h_3⟩ := xI1_some h_2
    obtain ⟨a3, t4, rfl, h_4⟩ := xI1_some h_3
    obtain ⟨rfl, h_5⟩ := xN1_some h_4
    clear h h_1 h_2 h_3 h_4
    have h := h_5
    rw [callW_eq] at h
    refine run_sound (r := r) (X := X) (cc := cX11_claim) (own := RX11) (tab := tX11_claim) G (by rw [hn]; exact kX11_claim) (oI := (oF [(mX11_isPerson N), (mX11_isNight N), (mX11_isPart N), (mX0_add N)])) (oL := (oF [])) (oV := (oF [])) (rI := (fun x w => some (x, w))) (rL := (fun _ _ => none)) (rV := (fun _ => none))
      (K := (fun j ls st w => none)) (fun x w pc ls hx hd => hr x w pc ls (Option.some.inj hx) hd) (fun _ _ _ _ hx => by cases hx) (fun _ _ _ hx => by cases hx) hC (fun ls => lsb [some (.inr (.inr (15, 0))), some (.inl a1), some (.inl a2), some (.inl a3)] 0 ls) (keepsP_of rfl) ?_ 24 0 [some (.inr (.inr (15, 0))), some (.inl a1), some (.inl a2), some (.inl a3)] [] w ?_ h
    · intro j ls st w hfx h
      obtain ⟨e0, e1, e2, e3, -⟩ : _ = _ ∧ _ = _ ∧ _ = _ ∧ _ = _ ∧ True := hfx
      try dsimp only at h
      cases h
    · exact (show _ = _ ∧ _ = _ ∧ _ = _ ∧ _ = _ ∧ True from ⟨rfl, rfl, rfl, rfl, trivial⟩)
-- MoorGuides.wrongly()I
def tX11_wrongly : List EN := [
  (0, .aload_n 0, 0, 0, 0, 0, 0, []), (1, .getfield 82, 0, 11, 15, 0, 0, []), (4, .invokevirtual 338, 0, 0, 1, 0, 0, []), (7, .ireturn, 0, 0, 0, 0, 0, [])]
noncomputable def pX11_wrongly (N : Nat) (w : Wd) : Option (Int32 × Wd) :=
  (callW (pX0_falseOnes N) w).bind fun r1 =>
  some (r1.1, r1.2)
noncomputable def mX11_wrongly (N : Nat) (as : List AV) (w : Wd) : Option (Int32 × Wd) := xS1 15 as fun t => xN1 t (callW (pX11_wrongly N) w)
set_option maxRecDepth 100000 in
set_option maxHeartbeats 4000000 in
theorem kX11_wrongly : TK cX11_wrongly RX11 1 tX11_wrongly := ⟨by decide +kernel, wok_of [740] (by decide +kernel) (by decide +kernel)⟩
set_option maxRecDepth 100000 in
set_option maxHeartbeats 4000000 in
theorem crX11_wrongly {N : Nat} {X : XT} (G : GX X cX11_wrongly RX11) (hR : xR X = rmL 3) : CRs X tX11_wrongly (oF [(mX0_falseOnes N)]) (oF []) (oF []) := by
  have hl : tX11_wrongly.filter isInv = [(4, .invokevirtual 338, 0, 0, 1, 0, 0, [])] := rfl
  intro e he
  rw [hl] at he
  simp only [List.mem_cons, List.not_mem_nil, or_false] at he
  rcases he with rfl
  · exact crI_V (idx := 338) G (by decide +kernel) (MX0_falseOnes N) (cw_of (ps := [1428, 1429, 1430, 161, 1431]) (by decide +kernel) (by decide +kernel)) ⟨by decide +kernel, by decide +kernel, by decide +kernel⟩ (by unfold rmOk; rw [hR]; exact ⟨by decide, by decide⟩)
set_option maxRecDepth 100000 in
set_option maxHeartbeats 4000000 in
theorem MX11_wrongly (N : Nat) : SndI yX11_wrongly cX11_wrongly 1 (some .int) 3 1 true (mX11_wrongly N) := by
  refine SndI.of tX11_wrongly (by decide +kernel) rfl rfl ?_ ?_
  · intro as w x h
    obtain ⟨t1, rfl, h_1⟩ := xS1_some h
    obtain ⟨rfl, h_2⟩ := xN1_some h_1
    clear h h_1
    have h := h_2
    rw [callW_eq] at h
    exact ⟨fun _ => ⟨_, _, _, rfl, rfl, _, rfl, rfl⟩, rfl, Nat.le_of_ble_eq_true rfl⟩
  · intro X G hn hR as w r h hr
    have hC := crX11_wrongly (N := N) G hR
    obtain ⟨t1, rfl, h_1⟩ := xS1_some h
    obtain ⟨rfl, h_2⟩ := xN1_some h_1
    clear h h_1
    have h := h_2
    rw [callW_eq] at h
    refine run_sound (r := r) (X := X) (cc := cX11_wrongly) (own := RX11) (tab := tX11_wrongly) G (by rw [hn]; exact kX11_wrongly) (oI := (oF [(mX0_falseOnes N)])) (oL := (oF [])) (oV := (oF [])) (rI := (fun x w => some (x, w))) (rL := (fun _ _ => none)) (rV := (fun _ => none))
      (K := (fun j ls st w => none)) (fun x w pc ls hx hd => hr x w pc ls (Option.some.inj hx) hd) (fun _ _ _ _ hx => by cases hx) (fun _ _ _ hx => by cases hx) hC (fun ls => lsb [some (.inr (.inr (15, 0)))] 0 ls) (keepsP_of rfl) ?_ 6 0 [some (.inr (.inr (15, 0)))] [] w ?_ h
    · intro j ls st w hfx h
      obtain ⟨e0, -⟩ : _ = _ ∧ True := hfx
      try dsimp only at h
      cases h
    · exact (show _ = _ ∧ True from ⟨rfl, trivial⟩)
-- MoorGuides.against(I)I
def tX11_against : List EN := [
  (0, .iload_n 1, 0, 0, 0, 0, 0, []), (1, .ifCond .lt 29, 0, 14, 0, 0, 0, []), (4, .iload_n 1, 0, 0, 0, 0, 0, []), (5, .aload_n 0, 0, 0, 0, 0, 0, []),
  (6, .getfield 82, 0, 11, 15, 0, 0, []), (9, .getfield 341, 0, 0, 0, 0, 0, []), (12, .if_icmp .ge 18, 0, 14, 0, 0, 0, []), (15, .aload_n 0, 0, 0, 0, 0, 0, []),
  (16, .getfield 82, 0, 11, 15, 0, 0, []), (19, .getfield 342, 0, 0, 4, 0, 0, []), (22, .iload_n 1, 0, 0, 0, 0, 0, []), (23, .iaload, 0, 0, 0, 0, 0, []),
  (24, .invokestatic 284, 0, 0, 1, 0, 0, []), (27, .goto 4, 0, 15, 0, 0, 0, []), (30, .iconst (-1), 0, 0, 0, (-1), 0, []), (31, .ireturn, 0, 0, 0, 0, 0, [])]
noncomputable def pX11_against (N : Nat) (a1 : Int32) (w : Wd) : Option (Int32 × Wd) :=
  if a1 < 0 then some ((-1 : Int32), w) else
  if a1 < (gI w 4 0 0) then
    (ldI w 20 0 a1 12).bind fun x1 =>
    (callW (pJ6_bitCount_0f7a4 N x1) w).bind fun r2 =>
    some (r2.1, r2.2)
  else
  some ((-1 : Int32), w)
noncomputable def mX11_against (N : Nat) (as : List AV) (w : Wd) : Option (Int32 × Wd) := xS1 15 as fun t => xI1 t fun a1 t => xN1 t (callW (pX11_against N a1) w)
set_option maxRecDepth 100000 in
set_option maxHeartbeats 4000000 in
theorem kX11_against : TK cX11_against RX11 2 tX11_against := ⟨by decide +kernel, wok_of [740, 708, 740, 713] (by decide +kernel) (by decide +kernel)⟩
set_option maxRecDepth 100000 in
set_option maxHeartbeats 4000000 in
theorem crX11_against {N : Nat} {X : XT} (G : GX X cX11_against RX11) (hR : xR X = rmL 2) : CRs X tX11_against (oF [(mJ6_bitCount_0f7a4 N)]) (oF []) (oF []) := by
  have hl : tX11_against.filter isInv = [(24, .invokestatic 284, 0, 0, 1, 0, 0, [])] := rfl
  intro e he
  rw [hl] at he
  simp only [List.mem_cons, List.not_mem_nil, or_false] at he
  rcases he with rfl
  · exact crI_S (idx := 284) G (by decide +kernel) (MJ6_bitCount_0f7a4 N) (cw_of (ps := [1286, 1066, 169, 1067]) (by decide +kernel) (by decide +kernel)) ⟨by decide +kernel, by decide +kernel, by decide +kernel⟩ (by unfold rmOk; rw [hR]; exact ⟨by decide, by decide⟩)
set_option maxRecDepth 100000 in
set_option maxHeartbeats 4000000 in
theorem MX11_against (N : Nat) : SndI yX11_against cX11_against 2 (some .int) 2 2 true (mX11_against N) := by
  refine SndI.of tX11_against (by decide +kernel) rfl rfl ?_ ?_
  · intro as w x h
    obtain ⟨t1, rfl, h_1⟩ := xS1_some h
    obtain ⟨a1, t2, rfl, h_2⟩ := xI1_some h_1
    obtain ⟨rfl, h_3⟩ := xN1_some h_2
    clear h h_1 h_2
    have h := h_3
    rw [callW_eq] at h
    exact ⟨fun _ => ⟨_, _, _, rfl, rfl, _, rfl, rfl⟩, rfl, Nat.le_of_ble_eq_true rfl⟩
  · intro X G hn hR as w r h hr
    have hC := crX11_against (N := N) G hR
    obtain ⟨t1, rfl, h_1⟩ := xS1_some h
    obtain ⟨a1, t2, rfl, h_2⟩ := xI1_some h_1
    obtain ⟨rfl, h_3⟩ := xN1_some h_2
    clear h h_1 h_2
    have h := h_3
    rw [callW_eq] at h
    refine run_sound (r := r) (X := X) (cc := cX11_against) (own := RX11) (tab := tX11_against) G (by rw [hn]; exact kX11_against) (oI := (oF [(mJ6_bitCount_0f7a4 N)])) (oL := (oF [])) (oV := (oF [])) (rI := (fun x w => some (x, w))) (rL := (fun _ _ => none)) (rV := (fun _ => none))
      (K := (fun j ls st w => none)) (fun x w pc ls hx hd => hr x w pc ls (Option.some.inj hx) hd) (fun _ _ _ _ hx => by cases hx) (fun _ _ _ hx => by cases hx) hC (fun ls => lsb [some (.inr (.inr (15, 0))), some (.inl a1)] 0 ls) (keepsP_of rfl) ?_ 18 0 [some (.inr (.inr (15, 0))), some (.inl a1)] [] w ?_ h
    · intro j ls st w hfx h
      obtain ⟨e0, e1, -⟩ : _ = _ ∧ _ = _ ∧ True := hfx
      try dsimp only at h
      cases h
    · exact (show _ = _ ∧ _ = _ ∧ True from ⟨rfl, rfl, trivial⟩)
-- MoorGuides.slide(I)I
def tX11_slide : List EN := [
  (0, .aload_n 0, 0, 0, 0, 0, 0, []), (1, .iload_n 1, 0, 0, 0, 0, 0, []), (2, .invokevirtual 185, 0, 0, 2, 0, 0, []), (5, .ifCond .eq 21, 0, 12, 0, 0, 0, []),
  (8, .aload_n 0, 0, 0, 0, 0, 0, []), (9, .getfield 35, 0, 11, 5, 0, 0, []), (12, .iload_n 1, 0, 0, 0, 0, 0, []), (13, .aload_n 0, 0, 0, 0, 0, 0, []),
  (14, .getfield 35, 0, 11, 5, 0, 0, []), (17, .getfield 157, 0, 9, 1, 0, 0, []), (20, .invokevirtual 345, 0, 1, 3, 0, 0, []), (23, .ifCond .ne 5, 0, 14, 0, 0, 0, []),
  (26, .iconst (-1), 0, 0, 0, (-1), 0, []), (27, .ireturn, 0, 0, 0, 0, 0, []), (28, .aload_n 0, 0, 0, 0, 0, 0, []), (29, .iconst (-1), 0, 0, 0, (-1), 0, []),
  (30, .iconst (-1), 0, 0, 0, (-1), 0, []), (31, .invokevirtual 233, 0, 0, 3, 0, 0, [(0, 0), (0, 0)]), (34, .aload_n 0, 0, 0, 0, 0, 0, []), (35, .getfield 68, 0, 11, 13, 0, 0, []),
  (38, .invokevirtual 112, 0, 1, 1, 0, 0, [(0, 0), (0, 0)]), (41, .aload_n 0, 0, 0, 0, 0, 0, []), (42, .getfield 35, 0, 11, 5, 0, 0, []), (45, .getfield 348, 0, 9, 7, 0, 0, []),
  (48, .ireturn, 0, 0, 0, 0, 0, [])]
noncomputable def pX11_slide (N : Nat) (a1 : Int32) (w : Wd) : Option (Int32 × Wd) :=
  (callW (pX11_isPart N a1) w).bind fun r1 =>
  if r1.1 = 0 then some ((-1 : Int32), r1.2) else
  (callW (pX9_addSlide N 0 a1 (gI r1.2 13 0 1)) r1.2).bind fun r2 =>
  if r2.1 = 0 then some ((-1 : Int32), r2.2) else
  (callW (pX11_remember N (-1 : Int32) (-1 : Int32)) r2.2).bind fun w3 =>
  (callW (pX5_drop N) w3).bind fun w4 =>
  some ((gI w4 13 0 7), w4)
noncomputable def mX11_slide (N : Nat) (as : List AV) (w : Wd) : Option (Int32 × Wd) := xS1 15 as fun t => xI1 t fun a1 t => xN1 t (callW (pX11_slide N a1) w)
set_option maxRecDepth 100000 in
set_option maxHeartbeats 4000000 in
theorem kX11_slide : TK cX11_slide RX11 2 tX11_slide := ⟨by decide +kernel, wok_of [730, 730, 522, 738, 730, 537] (by decide +kernel) (by decide +kernel)⟩
set_option maxRecDepth 100000 in
set_option maxHeartbeats 4000000 in
theorem crX11_slide {N : Nat} {X : XT} (G : GX X cX11_slide RX11) (hR : xR X = rmL 2) : CRs X tX11_slide (oF [(mX11_isPart N), (mX9_addSlide N)]) (oF []) (oF [(mX11_remember N), (mX5_drop N)]) := by
  have hl : tX11_slide.filter isInv = [(2, .invokevirtual 185, 0, 0, 2, 0, 0, []), (20, .invokevirtual 345, 0, 1, 3, 0, 0, []), (31, .invokevirtual 233, 0, 0, 3, 0, 0, [(0, 0), (0, 0)]), (38, .invokevirtual 112, 0, 1, 1, 0, 0, [(0, 0), (0, 0)])] := rfl
  intro e he
  rw [hl] at he
  simp only [List.mem_cons, List.not_mem_nil, or_false] at he
  rcases he with rfl | rfl | rfl | rfl
  · exact crI_V (idx := 185) G (by decide +kernel) (MX11_isPart N) (cw_of (ps := [1004, 1006, 33, 146, 1007]) (by decide +kernel) (by decide +kernel)) ⟨by decide +kernel, by decide +kernel, by decide +kernel⟩ (by unfold rmOk; rw [hR]; exact ⟨by decide, by decide⟩)
  · exact crI_V (idx := 345) G (by decide +kernel) (MX9_addSlide N) (cw_of (ps := [1445, 511, 512, 156, 513]) (by decide +kernel) (by decide +kernel)) ⟨by decide +kernel, by decide +kernel, by decide +kernel⟩ (by unfold rmOk; rw [hR]; exact ⟨by decide, by decide⟩)
  · exact crV_V (idx := 233) G (by decide +kernel) (MX11_remember N) (cw_of (ps := [1116, 1118, 38, 146, 1119]) (by decide +kernel) (by decide +kernel)) ⟨by decide +kernel, by decide +kernel, by decide +kernel⟩ (by unfold rmOk; rw [hR]; exact ⟨by decide, by decide⟩)
  · exact crV_V (idx := 112) G (by decide +kernel) (MX5_drop N) (cw_of (ps := [987, 988, 989, 159, 990]) (by decide +kernel) (by decide +kernel)) ⟨by decide +kernel, by decide +kernel, by decide +kernel⟩ (by unfold rmOk; rw [hR]; exact ⟨by decide, by decide⟩)
set_option maxRecDepth 100000 in
set_option maxHeartbeats 4000000 in
theorem MX11_slide (N : Nat) : SndI yX11_slide cX11_slide 2 (some .int) 2 2 true (mX11_slide N) := by
  refine SndI.of tX11_slide (by decide +kernel) rfl rfl ?_ ?_
  · intro as w x h
    obtain ⟨t1, rfl, h_1⟩ := xS1_some h
    obtain ⟨a1, t2, rfl, h_2⟩ := xI1_some h_1
    obtain ⟨rfl, h_3⟩ := xN1_some h_2
    clear h h_1 h_2
    have h := h_3
    rw [callW_eq] at h
    exact ⟨fun _ => ⟨_, _, _, rfl, rfl, _, rfl, rfl⟩, rfl, Nat.le_of_ble_eq_true rfl⟩
  · intro X G hn hR as w r h hr
    have hC := crX11_slide (N := N) G hR
    obtain ⟨t1, rfl, h_1⟩ := xS1_some h
    obtain ⟨a1, t2, rfl, h_2⟩ := xI1_some h_1
    obtain ⟨rfl, h_3⟩ := xN1_some h_2
    clear h h_1 h_2
    have h := h_3
    rw [callW_eq] at h
    refine run_sound (r := r) (X := X) (cc := cX11_slide) (own := RX11) (tab := tX11_slide) G (by rw [hn]; exact kX11_slide) (oI := (oF [(mX11_isPart N), (mX9_addSlide N)])) (oL := (oF [])) (oV := (oF [(mX11_remember N), (mX5_drop N)])) (rI := (fun x w => some (x, w))) (rL := (fun _ _ => none)) (rV := (fun _ => none))
      (K := (fun j ls st w => none)) (fun x w pc ls hx hd => hr x w pc ls (Option.some.inj hx) hd) (fun _ _ _ _ hx => by cases hx) (fun _ _ _ hx => by cases hx) hC (fun ls => lsb [some (.inr (.inr (15, 0))), some (.inl a1)] 0 ls) (keepsP_of rfl) ?_ 27 0 [some (.inr (.inr (15, 0))), some (.inl a1)] [] w ?_ h
    · intro j ls st w hfx h
      obtain ⟨e0, e1, -⟩ : _ = _ ∧ _ = _ ∧ True := hfx
      try dsimp only at h
      cases h
    · exact (show _ = _ ∧ _ = _ ∧ True from ⟨rfl, rfl, trivial⟩)
-- MoorGuides.undo()I
def tX11_undo : List EN := [
  (0, .aload_n 0, 0, 0, 0, 0, 0, []), (1, .getfield 109, 0, 11, 8, 0, 0, []), (4, .ifCond .ne 5, 0, 5, 0, 0, 0, []), (7, .iconst (-1), 0, 0, 0, (-1), 0, []),
  (8, .ireturn, 0, 0, 0, 0, 0, []), (9, .aload_n 0, 0, 0, 0, 0, 0, []), (10, .dup, 0, 0, 0, 0, 0, []), (11, .getfield 109, 0, 11, 8, 0, 0, []),
  (14, .iconst 1, 0, 0, 0, 1, 0, []), (15, .isub, 0, 0, 0, 0, 0, []), (16, .putfield 109, 0, 11, 8, 0, 0, []), (19, .aload_n 0, 0, 0, 0, 0, 0, []),
  (20, .getfield 42, 0, 11, 9, 0, 0, []), (23, .aload_n 0, 0, 0, 0, 0, 0, []), (24, .getfield 109, 0, 11, 8, 0, 0, []), (27, .iaload, 0, 0, 0, 0, 0, []),
  (28, .istore_n 1, 0, 0, 0, 0, 0, []), (29, .iload_n 1, 0, 0, 0, 0, 0, []), (30, .iconst (-1), 0, 0, 0, (-1), 0, []), (31, .if_icmp .ne 19, 0, 28, 0, 0, 0, []),
  (34, .aload_n 0, 0, 0, 0, 0, 0, []), (35, .getfield 35, 0, 11, 5, 0, 0, []), (38, .dup, 0, 0, 0, 0, 0, []), (39, .getfield 348, 0, 9, 7, 0, 0, []),
  (42, .iconst 1, 0, 0, 0, 1, 0, []), (43, .isub, 0, 0, 0, 0, 0, []), (44, .putfield 348, 0, 9, 7, 0, 0, []), (47, .goto 21, 0, 38, 0, 0, 0, []),
  (50, .aload_n 0, 0, 0, 0, 0, 0, []), (51, .getfield 35, 0, 11, 5, 0, 0, []), (54, .getfield 177, 0, 9, 6, 0, 0, []), (57, .iload_n 1, 0, 0, 0, 0, 0, []),
  (58, .aload_n 0, 0, 0, 0, 0, 0, []), (59, .getfield 46, 0, 11, 10, 0, 0, []), (62, .aload_n 0, 0, 0, 0, 0, 0, []), (63, .getfield 109, 0, 11, 8, 0, 0, []),
  (66, .iaload, 0, 0, 0, 0, 0, []), (67, .iastore, 0, 0, 0, 0, 0, []), (68, .aload_n 0, 39, 0, 0, 0, 0, []), (69, .getfield 68, 0, 11, 13, 0, 0, []),
  (72, .invokevirtual 112, 0, 0, 1, 0, 0, [(0, 0), (0, 0)]), (75, .aload_n 0, 0, 0, 0, 0, 0, []), (76, .getfield 109, 0, 11, 8, 0, 0, []), (79, .ireturn, 0, 0, 0, 0, 0, [])]
noncomputable def fX11_undo_38 (N : Nat) (w : Wd) : Option (Int32 × Wd) :=
  (callW (pX5_drop N) w).bind fun w1 =>
  some ((gI w1 15 0 8), w1)
noncomputable def pX11_undo (N : Nat) (w : Wd) : Option (Int32 × Wd) :=
  if (gI w 15 0 8) = 0 then some ((-1 : Int32), w) else
  (ldI (setI w 15 0 8 ((gI w 15 0 8) - (1 : Int32))) 71 0 (gI (setI w 15 0 8 ((gI w 15 0 8) - (1 : Int32))) 15 0 8) 20).bind fun x1 =>
  if x1 = (-1 : Int32) then
    callW (fX11_undo_38 N) (setI (setI w 15 0 8 ((gI w 15 0 8) - (1 : Int32))) 13 0 7 ((gI (setI w 15 0 8 ((gI w 15 0 8) - (1 : Int32))) 13 0 7) - (1 : Int32)))
  else
  (ldI (setI w 15 0 8 ((gI w 15 0 8) - (1 : Int32))) 72 0 (gI (setI w 15 0 8 ((gI w 15 0 8) - (1 : Int32))) 15 0 8) 20).bind fun x2 =>
  (stI (setI w 15 0 8 ((gI w 15 0 8) - (1 : Int32))) 63 0 x1 6 x2).bind fun w3 =>
  callW (fX11_undo_38 N) w3
noncomputable def mX11_undo (N : Nat) (as : List AV) (w : Wd) : Option (Int32 × Wd) := xS1 15 as fun t => xN1 t (callW (pX11_undo N) w)
set_option maxRecDepth 100000 in
set_option maxHeartbeats 4000000 in
theorem kX11_undo : TK cX11_undo RX11 2 tX11_undo := ⟨by decide +kernel, wok_of [733, 733, 733, 734, 733, 730, 537, 537, 730, 535, 735, 733, 738, 733] (by decide +kernel) (by decide +kernel)⟩
set_option maxRecDepth 100000 in
set_option maxHeartbeats 4000000 in
theorem sX11_undo_38 {N : Nat} {X : XT} (G : GX X cX11_undo RX11) (hn : xnL X = 2) (hC : CRs X tX11_undo (oF []) (oF []) (oF [(mX5_drop N)])) {r : Int32 × Wd} (hr : RTI X cX11_undo r)  : ∀ (w : Wd), fX11_undo_38 N w = some r → WW X (pcAt tX11_undo 38) [some (.inr (.inr (15, 0))), none] [] w := by
  intro w h
  refine run_sound (r := r) (X := X) (cc := cX11_undo) (own := RX11) (tab := tX11_undo) G (by rw [hn]; exact kX11_undo) (oI := (oF [])) (oL := (oF [])) (oV := (oF [(mX5_drop N)])) (rI := (fun x w => some (x, w))) (rL := (fun _ _ => none)) (rV := (fun _ => none))
    (K := (fun j ls st w => none)) (fun x w pc ls hx hd => hr x w pc ls (Option.some.inj hx) hd) (fun _ _ _ _ hx => by cases hx) (fun _ _ _ hx => by cases hx) hC (fun ls => lsb [some (.inr (.inr (15, 0))), none] 0 ls) (keepsP_of rfl) ?_ 46 38 [some (.inr (.inr (15, 0))), none] [] w ?_ h
  · intro j ls st w hfx h
    obtain ⟨e0, -⟩ : _ = _ ∧ True := hfx
    try dsimp only at h
    cases h
  · exact (show _ = _ ∧ True from ⟨rfl, trivial⟩)
set_option maxRecDepth 100000 in
set_option maxHeartbeats 4000000 in
theorem crX11_undo {N : Nat} {X : XT} (G : GX X cX11_undo RX11) (hR : xR X = rmL 2) : CRs X tX11_undo (oF []) (oF []) (oF [(mX5_drop N)]) := by
  have hl : tX11_undo.filter isInv = [(72, .invokevirtual 112, 0, 0, 1, 0, 0, [(0, 0), (0, 0)])] := rfl
  intro e he
  rw [hl] at he
  simp only [List.mem_cons, List.not_mem_nil, or_false] at he
  rcases he with rfl
  · exact crV_V (idx := 112) G (by decide +kernel) (MX5_drop N) (cw_of (ps := [987, 988, 989, 159, 990]) (by decide +kernel) (by decide +kernel)) ⟨by decide +kernel, by decide +kernel, by decide +kernel⟩ (by unfold rmOk; rw [hR]; exact ⟨by decide, by decide⟩)
set_option maxRecDepth 100000 in
set_option maxHeartbeats 4000000 in
theorem MX11_undo (N : Nat) : SndI yX11_undo cX11_undo 2 (some .int) 2 1 true (mX11_undo N) := by
  refine SndI.of tX11_undo (by decide +kernel) rfl rfl ?_ ?_
  · intro as w x h
    obtain ⟨t1, rfl, h_1⟩ := xS1_some h
    obtain ⟨rfl, h_2⟩ := xN1_some h_1
    clear h h_1
    have h := h_2
    rw [callW_eq] at h
    exact ⟨fun _ => ⟨_, _, _, rfl, rfl, _, rfl, rfl⟩, rfl, Nat.le_of_ble_eq_true rfl⟩
  · intro X G hn hR as w r h hr
    have hC := crX11_undo (N := N) G hR
    obtain ⟨t1, rfl, h_1⟩ := xS1_some h
    obtain ⟨rfl, h_2⟩ := xN1_some h_1
    clear h h_1
    have h := h_2
    rw [callW_eq] at h
    refine run_sound (r := r) (X := X) (cc := cX11_undo) (own := RX11) (tab := tX11_undo) G (by rw [hn]; exact kX11_undo) (oI := (oF [])) (oL := (oF [])) (oV := (oF [(mX5_drop N)])) (rI := (fun x w => some (x, w))) (rL := (fun _ _ => none)) (rV := (fun _ => none))
      (K := (fun j ls st w => if j = 38 then (st0 st (callW (fX11_undo_38 N) w)) else none)) (fun x w pc ls hx hd => hr x w pc ls (Option.some.inj hx) hd) (fun _ _ _ _ hx => by cases hx) (fun _ _ _ hx => by cases hx) hC (fun ls => lsb [some (.inr (.inr (15, 0))), none] 0 ls) (keepsP_of rfl) ?_ 46 0 [some (.inr (.inr (15, 0))), none] [] w ?_ h
    · intro j ls st w hfx h
      obtain ⟨e0, -⟩ : _ = _ ∧ True := hfx
      try dsimp only at h
      by_cases hj : j = 38
      · subst hj
        rw [if_pos rfl] at h
        obtain ⟨rfl, h_1⟩ := st0_some h
        clear h
        have h := h_1
        try rw [callW_eq] at h
        exact WW.le (a := [some (.inr (.inr (15, 0))), none]) (by rw [hn]; rfl) (show _ = _ ∧ True from ⟨e0, trivial⟩) (sX11_undo_38 G hn hC hr w h)
      rw [if_neg hj] at h
      cases h
    · exact (show _ = _ ∧ True from ⟨rfl, trivial⟩)
-- MoorGuides.keep()I
def tX11_keep : List EN := [
  (0, .aload_n 0, 0, 0, 0, 0, 0, []), (1, .getfield 39, 0, 11, 6, 0, 0, []), (4, .aload_n 0, 0, 0, 0, 0, 0, []), (5, .getfield 35, 0, 11, 5, 0, 0, []),
  (8, .invokevirtual 351, 0, 0, 2, 0, 0, [(0, 0), (0, 0)]), (11, .aload_n 0, 0, 0, 0, 0, 0, []), (12, .iconst 1, 0, 0, 0, 1, 0, []), (13, .putfield 105, 0, 11, 7, 0, 0, [(0, 0)]),
  (16, .aload_n 0, 0, 0, 0, 0, 0, []), (17, .getfield 35, 0, 11, 5, 0, 0, []), (20, .getfield 157, 0, 9, 1, 0, 0, []), (23, .ireturn, 0, 0, 0, 0, 0, [])]
noncomputable def pX11_keep (N : Nat) (w : Wd) : Option (Int32 × Wd) :=
  (callW (pX9_copyFrom N 1 0) w).bind fun w1 =>
  some ((gI (setI w1 15 0 7 (1 : Int32)) 13 0 1), (setI w1 15 0 7 (1 : Int32)))
noncomputable def mX11_keep (N : Nat) (as : List AV) (w : Wd) : Option (Int32 × Wd) := xS1 15 as fun t => xN1 t (callW (pX11_keep N) w)
set_option maxRecDepth 100000 in
set_option maxHeartbeats 4000000 in
theorem kX11_keep : TK cX11_keep RX11 1 tX11_keep := ⟨by decide +kernel, wok_of [731, 730, 732, 730, 522] (by decide +kernel) (by decide +kernel)⟩
set_option maxRecDepth 100000 in
set_option maxHeartbeats 4000000 in
theorem crX11_keep {N : Nat} {X : XT} (G : GX X cX11_keep RX11) (hR : xR X = rmL 2) : CRs X tX11_keep (oF []) (oF []) (oF [(mX9_copyFrom N)]) := by
  have hl : tX11_keep.filter isInv = [(8, .invokevirtual 351, 0, 0, 2, 0, 0, [(0, 0), (0, 0)])] := rfl
  intro e he
  rw [hl] at he
  simp only [List.mem_cons, List.not_mem_nil, or_false] at he
  rcases he with rfl
  · exact crV_V (idx := 351) G (by decide +kernel) (MX9_copyFrom N) (cw_of (ps := [1454, 1394, 1395, 156, 1396]) (by decide +kernel) (by decide +kernel)) ⟨by decide +kernel, by decide +kernel, by decide +kernel⟩ (by unfold rmOk; rw [hR]; exact ⟨by decide, by decide⟩)
set_option maxRecDepth 100000 in
set_option maxHeartbeats 4000000 in
theorem MX11_keep (N : Nat) : SndI yX11_keep cX11_keep 1 (some .int) 2 1 true (mX11_keep N) := by
  refine SndI.of tX11_keep (by decide +kernel) rfl rfl ?_ ?_
  · intro as w x h
    obtain ⟨t1, rfl, h_1⟩ := xS1_some h
    obtain ⟨rfl, h_2⟩ := xN1_some h_1
    clear h h_1
    have h := h_2
    rw [callW_eq] at h
    exact ⟨fun _ => ⟨_, _, _, rfl, rfl, _, rfl, rfl⟩, rfl, Nat.le_of_ble_eq_true rfl⟩
  · intro X G hn hR as w r h hr
    have hC := crX11_keep (N := N) G hR
    obtain ⟨t1, rfl, h_1⟩ := xS1_some h
    obtain ⟨rfl, h_2⟩ := xN1_some h_1
    clear h h_1
    have h := h_2
    rw [callW_eq] at h
    refine run_sound (r := r) (X := X) (cc := cX11_keep) (own := RX11) (tab := tX11_keep) G (by rw [hn]; exact kX11_keep) (oI := (oF [])) (oL := (oF [])) (oV := (oF [(mX9_copyFrom N)])) (rI := (fun x w => some (x, w))) (rL := (fun _ _ => none)) (rV := (fun _ => none))
      (K := (fun j ls st w => none)) (fun x w pc ls hx hd => hr x w pc ls (Option.some.inj hx) hd) (fun _ _ _ _ hx => by cases hx) (fun _ _ _ hx => by cases hx) hC (fun ls => lsb [some (.inr (.inr (15, 0)))] 0 ls) (keepsP_of rfl) ?_ 14 0 [some (.inr (.inr (15, 0)))] [] w ?_ h
    · intro j ls st w hfx h
      obtain ⟨e0, -⟩ : _ = _ ∧ True := hfx
      try dsimp only at h
      cases h
    · exact (show _ = _ ∧ True from ⟨rfl, trivial⟩)
-- MoorGuides.back()I
def tX11_back : List EN := [
  (0, .aload_n 0, 0, 0, 0, 0, 0, []), (1, .getfield 105, 0, 11, 7, 0, 0, []), (4, .ifCond .ne 5, 0, 5, 0, 0, 0, []), (7, .iconst (-1), 0, 0, 0, (-1), 0, []),
  (8, .ireturn, 0, 0, 0, 0, 0, []), (9, .aload_n 0, 0, 0, 0, 0, 0, []), (10, .getfield 35, 0, 11, 5, 0, 0, []), (13, .aload_n 0, 0, 0, 0, 0, 0, []),
  (14, .getfield 39, 0, 11, 6, 0, 0, []), (17, .invokevirtual 351, 0, 0, 2, 0, 0, [(0, 0), (0, 0)]), (20, .aload_n 0, 0, 0, 0, 0, 0, []), (21, .iconst 0, 0, 0, 0, 0, 0, []),
  (22, .putfield 109, 0, 11, 8, 0, 0, []), (25, .aload_n 0, 0, 0, 0, 0, 0, []), (26, .getfield 68, 0, 11, 13, 0, 0, []), (29, .invokevirtual 112, 0, 1, 1, 0, 0, [(0, 0), (0, 0)]),
  (32, .aload_n 0, 0, 0, 0, 0, 0, []), (33, .getfield 35, 0, 11, 5, 0, 0, []), (36, .getfield 157, 0, 9, 1, 0, 0, []), (39, .ireturn, 0, 0, 0, 0, 0, [])]
noncomputable def pX11_back (N : Nat) (w : Wd) : Option (Int32 × Wd) :=
  if (gI w 15 0 7) = 0 then some ((-1 : Int32), w) else
  (callW (pX9_copyFrom N 0 1) w).bind fun w1 =>
  (callW (pX5_drop N) (setI w1 15 0 8 (0 : Int32))).bind fun w2 =>
  some ((gI w2 13 0 1), w2)
noncomputable def mX11_back (N : Nat) (as : List AV) (w : Wd) : Option (Int32 × Wd) := xS1 15 as fun t => xN1 t (callW (pX11_back N) w)
set_option maxRecDepth 100000 in
set_option maxHeartbeats 4000000 in
theorem kX11_back : TK cX11_back RX11 1 tX11_back := ⟨by decide +kernel, wok_of [732, 730, 731, 733, 738, 730, 522] (by decide +kernel) (by decide +kernel)⟩
set_option maxRecDepth 100000 in
set_option maxHeartbeats 4000000 in
theorem crX11_back {N : Nat} {X : XT} (G : GX X cX11_back RX11) (hR : xR X = rmL 2) : CRs X tX11_back (oF []) (oF []) (oF [(mX9_copyFrom N), (mX5_drop N)]) := by
  have hl : tX11_back.filter isInv = [(17, .invokevirtual 351, 0, 0, 2, 0, 0, [(0, 0), (0, 0)]), (29, .invokevirtual 112, 0, 1, 1, 0, 0, [(0, 0), (0, 0)])] := rfl
  intro e he
  rw [hl] at he
  simp only [List.mem_cons, List.not_mem_nil, or_false] at he
  rcases he with rfl | rfl
  · exact crV_V (idx := 351) G (by decide +kernel) (MX9_copyFrom N) (cw_of (ps := [1454, 1394, 1395, 156, 1396]) (by decide +kernel) (by decide +kernel)) ⟨by decide +kernel, by decide +kernel, by decide +kernel⟩ (by unfold rmOk; rw [hR]; exact ⟨by decide, by decide⟩)
  · exact crV_V (idx := 112) G (by decide +kernel) (MX5_drop N) (cw_of (ps := [987, 988, 989, 159, 990]) (by decide +kernel) (by decide +kernel)) ⟨by decide +kernel, by decide +kernel, by decide +kernel⟩ (by unfold rmOk; rw [hR]; exact ⟨by decide, by decide⟩)
set_option maxRecDepth 100000 in
set_option maxHeartbeats 4000000 in
theorem MX11_back (N : Nat) : SndI yX11_back cX11_back 1 (some .int) 2 1 true (mX11_back N) := by
  refine SndI.of tX11_back (by decide +kernel) rfl rfl ?_ ?_
  · intro as w x h
    obtain ⟨t1, rfl, h_1⟩ := xS1_some h
    obtain ⟨rfl, h_2⟩ := xN1_some h_1
    clear h h_1
    have h := h_2
    rw [callW_eq] at h
    exact ⟨fun _ => ⟨_, _, _, rfl, rfl, _, rfl, rfl⟩, rfl, Nat.le_of_ble_eq_true rfl⟩
  · intro X G hn hR as w r h hr
    have hC := crX11_back (N := N) G hR
    obtain ⟨t1, rfl, h_1⟩ := xS1_some h
    obtain ⟨rfl, h_2⟩ := xN1_some h_1
    clear h h_1
    have h := h_2
    rw [callW_eq] at h
    refine run_sound (r := r) (X := X) (cc := cX11_back) (own := RX11) (tab := tX11_back) G (by rw [hn]; exact kX11_back) (oI := (oF [])) (oL := (oF [])) (oV := (oF [(mX9_copyFrom N), (mX5_drop N)])) (rI := (fun x w => some (x, w))) (rL := (fun _ _ => none)) (rV := (fun _ => none))
      (K := (fun j ls st w => none)) (fun x w pc ls hx hd => hr x w pc ls (Option.some.inj hx) hd) (fun _ _ _ _ hx => by cases hx) (fun _ _ _ hx => by cases hx) hC (fun ls => lsb [some (.inr (.inr (15, 0)))] 0 ls) (keepsP_of rfl) ?_ 22 0 [some (.inr (.inr (15, 0)))] [] w ?_ h
    · intro j ls st w hfx h
      obtain ⟨e0, -⟩ : _ = _ ∧ True := hfx
      try dsimp only at h
      cases h
    · exact (show _ = _ ∧ True from ⟨rfl, trivial⟩)
-- MoorGuides.count(I)I
def tX11_count : List EN := [
  (0, .iload_n 1, 0, 0, 0, 0, 0, []), (1, .tableswitch 138 0 9 #[55, 63, 74, 82, 90, 98, 106, 114, 125, 130], 0, 43, 55, 0, 0, [(0, 2), (1, 6), (2, 11), (3, 15), (4, 19), (5, 23), (6, 27), (7, 31), (8, 36), (9, 39)]), (56, .aload_n 0, 0, 0, 0, 0, 0, []), (57, .getfield 16, 0, 11, 2, 0, 0, []),
  (60, .getfield 127, 0, 4, 0, 0, 0, []), (63, .ireturn, 0, 0, 0, 0, 0, []), (64, .aload_n 0, 0, 0, 0, 0, 0, []), (65, .getfield 16, 0, 11, 2, 0, 0, []),
  (68, .getfield 134, 0, 4, 4, 0, 0, []), (71, .getfield 143, 0, 6, 0, 0, 0, []), (74, .ireturn, 0, 0, 0, 0, 0, []), (75, .aload_n 0, 0, 0, 0, 0, 0, []),
  (76, .getfield 16, 0, 11, 2, 0, 0, []), (79, .getfield 278, 0, 4, 5, 0, 0, []), (82, .ireturn, 0, 0, 0, 0, 0, []), (83, .aload_n 0, 0, 0, 0, 0, 0, []),
  (84, .getfield 35, 0, 11, 5, 0, 0, []), (87, .getfield 348, 0, 9, 7, 0, 0, []), (90, .ireturn, 0, 0, 0, 0, 0, []), (91, .aload_n 0, 0, 0, 0, 0, 0, []),
  (92, .getfield 16, 0, 11, 2, 0, 0, []), (95, .invokevirtual 354, 0, 0, 1, 0, 0, []), (98, .ireturn, 0, 0, 0, 0, 0, []), (99, .aload_n 0, 0, 0, 0, 0, 0, []),
  (100, .getfield 35, 0, 11, 5, 0, 0, []), (103, .getfield 157, 0, 9, 1, 0, 0, []), (106, .ireturn, 0, 0, 0, 0, 0, []), (107, .aload_n 0, 0, 0, 0, 0, 0, []),
  (108, .getfield 82, 0, 11, 15, 0, 0, []), (111, .getfield 341, 0, 0, 0, 0, 0, []), (114, .ireturn, 0, 0, 0, 0, 0, []), (115, .aload_n 0, 0, 0, 0, 0, 0, []),
  (116, .getfield 35, 0, 11, 5, 0, 0, []), (119, .getfield 164, 0, 9, 3, 0, 0, []), (122, .invokestatic 284, 0, 1, 1, 0, 0, []), (125, .ireturn, 0, 0, 0, 0, 0, []),
  (126, .aload_n 0, 0, 0, 0, 0, 0, []), (127, .getfield 109, 0, 11, 8, 0, 0, []), (130, .ireturn, 0, 0, 0, 0, 0, []), (131, .aload_n 0, 0, 0, 0, 0, 0, []),
  (132, .getfield 16, 0, 11, 2, 0, 0, []), (135, .getfield 357, 0, 4, 15, 0, 0, []), (138, .ireturn, 0, 0, 0, 0, 0, []), (139, .iconst (-1), 0, 0, 0, (-1), 0, []),
  (140, .ireturn, 0, 0, 0, 0, 0, [])]
noncomputable def pX11_count (N : Nat) (a1 : Int32) (w : Wd) : Option (Int32 × Wd) :=
  if a1 = (0 : Int32) then some ((gI w 8 (gR w 15 0 2) 0), w) else
  if a1 = (1 : Int32) then some ((gI w 10 (gR w 15 0 2) 0), w) else
  if a1 = (2 : Int32) then some ((gI w 8 (gR w 15 0 2) 5), w) else
  if a1 = (3 : Int32) then some ((gI w 13 0 7), w) else
  if a1 = (4 : Int32) then
    (callW (pX4_knots N (gR w 15 0 2)) w).bind fun r1 =>
    some (r1.1, r1.2)
  else
  if a1 = (5 : Int32) then some ((gI w 13 0 1), w) else
  if a1 = (6 : Int32) then some ((gI w 4 0 0), w) else
  if a1 = (7 : Int32) then
    (callW (pJ6_bitCount_0f7a4 N (gI w 13 0 3)) w).bind fun r2 =>
    some (r2.1, r2.2)
  else
  if a1 = (8 : Int32) then some ((gI w 15 0 8), w) else
  if a1 = (9 : Int32) then some ((gI w 8 (gR w 15 0 2) 15), w) else
  some ((-1 : Int32), w)
noncomputable def mX11_count (N : Nat) (as : List AV) (w : Wd) : Option (Int32 × Wd) := xS1 15 as fun t => xI1 t fun a1 t => xN1 t (callW (pX11_count N a1) w)
set_option maxRecDepth 100000 in
set_option maxHeartbeats 4000000 in
theorem kX11_count : TK cX11_count RX11 2 tX11_count := ⟨by decide +kernel, wok_of [727, 259, 727, 279, 195, 727, 285, 730, 537, 727, 730, 522, 740, 708, 730, 527, 733, 727, 312] (by decide +kernel) (by decide +kernel)⟩
set_option maxRecDepth 100000 in
set_option maxHeartbeats 4000000 in
theorem crX11_count {N : Nat} {X : XT} (G : GX X cX11_count RX11) (hR : xR X = rmL 2) : CRs X tX11_count (oF [(mX4_knots N), (mJ6_bitCount_0f7a4 N)]) (oF []) (oF []) := by
  have hl : tX11_count.filter isInv = [(95, .invokevirtual 354, 0, 0, 1, 0, 0, []), (122, .invokestatic 284, 0, 1, 1, 0, 0, [])] := rfl
  intro e he
  rw [hl] at he
  simp only [List.mem_cons, List.not_mem_nil, or_false] at he
  rcases he with rfl | rfl
  · exact crI_V (idx := 354) G (by decide +kernel) (MX4_knots N) (cw_of (ps := [1463, 1464, 1465, 147, 1466]) (by decide +kernel) (by decide +kernel)) ⟨by decide +kernel, by decide +kernel, by decide +kernel⟩ (by unfold rmOk; rw [hR]; exact ⟨by decide, by decide⟩)
  · exact crI_S (idx := 284) G (by decide +kernel) (MJ6_bitCount_0f7a4 N) (cw_of (ps := [1286, 1066, 169, 1067]) (by decide +kernel) (by decide +kernel)) ⟨by decide +kernel, by decide +kernel, by decide +kernel⟩ (by unfold rmOk; rw [hR]; exact ⟨by decide, by decide⟩)
set_option maxRecDepth 100000 in
set_option maxHeartbeats 4000000 in
theorem MX11_count (N : Nat) : SndI yX11_count cX11_count 2 (some .int) 2 2 true (mX11_count N) := by
  refine SndI.of tX11_count (by decide +kernel) rfl rfl ?_ ?_
  · intro as w x h
    obtain ⟨t1, rfl, h_1⟩ := xS1_some h
    obtain ⟨a1, t2, rfl, h_2⟩ := xI1_some h_1
    obtain ⟨rfl, h_3⟩ := xN1_some h_2
    clear h h_1 h_2
    have h := h_3
    rw [callW_eq] at h
    exact ⟨fun _ => ⟨_, _, _, rfl, rfl, _, rfl, rfl⟩, rfl, Nat.le_of_ble_eq_true rfl⟩
  · intro X G hn hR as w r h hr
    have hC := crX11_count (N := N) G hR
    obtain ⟨t1, rfl, h_1⟩ := xS1_some h
    obtain ⟨a1, t2, rfl, h_2⟩ := xI1_some h_1
    obtain ⟨rfl, h_3⟩ := xN1_some h_2
    clear h h_1 h_2
    have h := h_3
    rw [callW_eq] at h
    refine run_sound (r := r) (X := X) (cc := cX11_count) (own := RX11) (tab := tX11_count) G (by rw [hn]; exact kX11_count) (oI := (oF [(mX4_knots N), (mJ6_bitCount_0f7a4 N)])) (oL := (oF [])) (oV := (oF [])) (rI := (fun x w => some (x, w))) (rL := (fun _ _ => none)) (rV := (fun _ => none))
      (K := (fun j ls st w => none)) (fun x w pc ls hx hd => hr x w pc ls (Option.some.inj hx) hd) (fun _ _ _ _ hx => by cases hx) (fun _ _ _ hx => by cases hx) hC (fun ls => lsb [some (.inr (.inr (15, 0))), some (.inl a1)] 0 ls) (keepsP_of rfl) ?_ 47 0 [some (.inr (.inr (15, 0))), some (.inl a1)] [] w ?_ h
    · intro j ls st w hfx h
      obtain ⟨e0, e1, -⟩ : _ = _ ∧ _ = _ ∧ True := hfx
      try dsimp only at h
      cases h
    · exact (show _ = _ ∧ _ = _ ∧ True from ⟨rfl, rfl, trivial⟩)
-- MoorGuidesModel.thrown()I
def tX12_thrown : List EN := [
  (0, .aload_n 0, 0, 0, 0, 0, 0, []), (1, .getfield 196, 0, 12, 2, 0, 0, []), (4, .ireturn, 0, 0, 0, 0, 0, [])]
noncomputable def pX12_thrown (N : Nat) (w : Wd) : Option (Int32 × Wd) :=
  some ((gI w 16 0 2), w)
noncomputable def mX12_thrown (N : Nat) (as : List AV) (w : Wd) : Option (Int32 × Wd) := xS1 16 as fun t => xN1 t (callW (pX12_thrown N) w)
set_option maxRecDepth 100000 in
set_option maxHeartbeats 4000000 in
theorem kX12_thrown : TK cX12_thrown RX12 1 tX12_thrown := ⟨by decide +kernel, wok_of [1592] (by decide +kernel) (by decide +kernel)⟩
set_option maxRecDepth 100000 in
set_option maxHeartbeats 4000000 in
theorem crX12_thrown {N : Nat} {X : XT} (G : GX X cX12_thrown RX12) (hR : xR X = rmL 1) : CRs X tX12_thrown (oF []) (oF []) (oF []) := by
  have hl : tX12_thrown.filter isInv = [] := rfl
  intro e he
  rw [hl] at he
  cases he
set_option maxRecDepth 100000 in
set_option maxHeartbeats 4000000 in
theorem MX12_thrown (N : Nat) : SndI yX12_thrown cX12_thrown 1 (some .int) 1 1 true (mX12_thrown N) := by
  refine SndI.of tX12_thrown (by decide +kernel) rfl rfl ?_ ?_
  · intro as w x h
    obtain ⟨t1, rfl, h_1⟩ := xS1_some h
    obtain ⟨rfl, h_2⟩ := xN1_some h_1
    clear h h_1
    have h := h_2
    rw [callW_eq] at h
    exact ⟨fun _ => ⟨_, _, _, rfl, rfl, _, rfl, rfl⟩, rfl, Nat.le_of_ble_eq_true rfl⟩
  · intro X G hn hR as w r h hr
    have hC := crX12_thrown (N := N) G hR
    obtain ⟨t1, rfl, h_1⟩ := xS1_some h
    obtain ⟨rfl, h_2⟩ := xN1_some h_1
    clear h h_1
    have h := h_2
    rw [callW_eq] at h
    refine run_sound (r := r) (X := X) (cc := cX12_thrown) (own := RX12) (tab := tX12_thrown) G (by rw [hn]; exact kX12_thrown) (oI := (oF [])) (oL := (oF [])) (oV := (oF [])) (rI := (fun x w => some (x, w))) (rL := (fun _ _ => none)) (rV := (fun _ => none))
      (K := (fun j ls st w => none)) (fun x w pc ls hx hd => hr x w pc ls (Option.some.inj hx) hd) (fun _ _ _ _ hx => by cases hx) (fun _ _ _ hx => by cases hx) hC (fun ls => lsb [some (.inr (.inr (16, 0)))] 0 ls) (keepsP_of rfl) ?_ 5 0 [some (.inr (.inr (16, 0)))] [] w ?_ h
    · intro j ls st w hfx h
      obtain ⟨e0, -⟩ : _ = _ ∧ True := hfx
      try dsimp only at h
      cases h
    · exact (show _ = _ ∧ True from ⟨rfl, trivial⟩)

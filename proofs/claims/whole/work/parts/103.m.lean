-- MoorGuides$People.clear()V
def tX6_clear : List EN := [
  (0, .aload_n 0, 0, 0, 0, 0, 0, []), (1, .iconst 0, 0, 0, 0, 0, 0, []), (2, .putfield 30, 0, 6, 0, 0, 0, []), (5, .iconst 0, 0, 0, 0, 0, 0, []),
  (6, .istore_n 1, 0, 0, 0, 0, 0, []), (7, .iload_n 1, 6, 0, 0, 0, 0, []), (8, .bipush 6, 0, 0, 0, 6, 0, []), (10, .if_icmp .ge 48, 0, 35, 0, 0, 0, []),
  (13, .aload_n 0, 0, 0, 0, 0, 0, []), (14, .getfield 15, 0, 6, 2, 0, 0, []), (17, .iload_n 1, 0, 0, 0, 0, 0, []), (18, .iconst 0, 0, 0, 0, 0, 0, []),
  (19, .iastore, 0, 0, 0, 0, 0, []), (20, .aload_n 0, 0, 0, 0, 0, 0, []), (21, .getfield 18, 0, 6, 3, 0, 0, []), (24, .iload_n 1, 0, 0, 0, 0, 0, []),
  (25, .iconst 1, 0, 0, 0, 1, 0, []), (26, .iastore, 0, 0, 0, 0, 0, []), (27, .aload_n 0, 0, 0, 0, 0, 0, []), (28, .getfield 21, 0, 6, 4, 0, 0, []),
  (31, .iload_n 1, 0, 0, 0, 0, 0, []), (32, .iconst 0, 0, 0, 0, 0, 0, []), (33, .iastore, 0, 0, 0, 0, 0, []), (34, .aload_n 0, 0, 0, 0, 0, 0, []),
  (35, .getfield 24, 0, 6, 5, 0, 0, []), (38, .iload_n 1, 0, 0, 0, 0, 0, []), (39, .sipush 999, 0, 0, 0, 999, 0, []), (42, .iastore, 0, 0, 0, 0, 0, []),
  (43, .aload_n 0, 0, 0, 0, 0, 0, []), (44, .getfield 27, 0, 6, 6, 0, 0, []), (47, .iload_n 1, 0, 0, 0, 0, 0, []), (48, .sipush 999, 0, 0, 0, 999, 0, []),
  (51, .iastore, 0, 0, 0, 0, 0, []), (52, .iinc 1 1, 0, 0, 0, 1, 0, []), (55, .goto (-48), 0, 5, 0, 0, 0, []), (58, .return_, 0, 0, 0, 0, 0, [])]
noncomputable def fX6_clear_5 (N : Nat) (i0 : Nat) : Nat → Int32 → Wd → Option (Wd)
  | 0, _, _ => none
  | n + 1, v1, w =>
    if v1 < (6 : Int32) then
      (stI w 49 i0 v1 6 (0 : Int32)).bind fun w1 =>
      (stI w1 50 i0 v1 6 (1 : Int32)).bind fun w2 =>
      (stI w2 51 i0 v1 6 (0 : Int32)).bind fun w3 =>
      (stI w3 52 i0 v1 6 (999 : Int32)).bind fun w4 =>
      (stI w4 53 i0 v1 6 (999 : Int32)).bind fun w5 =>
      callW (fX6_clear_5 N i0 n (v1 + (1 : Int32))) w5
    else
    some w
noncomputable def pX6_clear (N : Nat) (i0 : Nat) (w : Wd) : Option (Wd) :=
  callW (fX6_clear_5 N i0 N (0 : Int32)) (setI w 10 i0 0 (0 : Int32))
noncomputable def mX6_clear (N : Nat) (as : List AV) (w : Wd) : Option (Wd) := xR1 10 as fun i0 t => xN1 t (callW (pX6_clear N i0) w)
set_option maxRecDepth 100000 in
set_option maxHeartbeats 4000000 in
theorem kX6_clear : TK cX6_clear RX6 2 tX6_clear := ⟨by decide +kernel, wok_of [193, 203, 206, 211, 214, 217] (by decide +kernel) (by decide +kernel)⟩
set_option maxRecDepth 100000 in
set_option maxHeartbeats 4000000 in
theorem sX6_clear_5 {N : Nat} {X : XT} (G : GX X cX6_clear RX6) (hn : xnL X = 2) (hC : CRs X tX6_clear (oF []) (oF []) (oF [])) {r : Wd} (hr : RTV X cX6_clear r) (i0 : Nat) : ∀ (n : Nat) (v1 : Int32) (w : Wd), fX6_clear_5 N i0 n v1 w = some r → WW X (pcAt tX6_clear 5) [some (.inr (.inr (10, i0))), some (.inl v1)] [] w := by
  intro n
  induction n with
  | zero => intro v1 w h; cases h
  | succ n ih =>
    intro v1 w h
    refine run_sound (r := r) (X := X) (cc := cX6_clear) (own := RX6) (tab := tX6_clear) G (by rw [hn]; exact kX6_clear) (oI := (oF [])) (oL := (oF [])) (oV := (oF [])) (rI := (fun _ _ => none)) (rL := (fun _ _ => none)) (rV := (fun w => some w))
      (K := (fun j ls st w => if j = 5 then (lgI ls 1 fun v1 => st0 st (callW (fX6_clear_5 N i0 n v1) w)) else none)) (fun _ _ _ _ hx => by cases hx) (fun _ _ _ _ hx => by cases hx) (fun w pc ls hx hd => hr w pc ls (Option.some.inj hx) hd) hC (fun ls => lsb [some (.inr (.inr (10, i0))), none] 0 ls) (keepsP_of rfl) ?_ 38 5 [some (.inr (.inr (10, i0))), some (.inl v1)] [] w ?_ h
    · intro j ls st w hfx h
      obtain ⟨e0, -⟩ : _ = _ ∧ True := hfx
      try dsimp only at h
      by_cases hj : j = 5
      · subst hj
        rw [if_pos rfl] at h
        obtain ⟨v1, e1, h_1⟩ := lgI_some h
        obtain ⟨rfl, h_2⟩ := st0_some h_1
        clear h h_1
        have h := h_2
        try rw [callW_eq] at h
        exact WW.le (a := [some (.inr (.inr (10, i0))), some (.inl v1)]) (by rw [hn]; rfl) (show _ = _ ∧ _ = _ ∧ True from ⟨e0, e1, trivial⟩) (ih v1 w h)
      rw [if_neg hj] at h
      cases h
    · exact (show _ = _ ∧ True from ⟨rfl, trivial⟩)
set_option maxRecDepth 100000 in
set_option maxHeartbeats 4000000 in
theorem crX6_clear {N : Nat} {X : XT} (G : GX X cX6_clear RX6) (hR : xR X = rmL 1) : CRs X tX6_clear (oF []) (oF []) (oF []) := by
  have hl : tX6_clear.filter isInv = [] := rfl
  intro e he
  rw [hl] at he
  cases he
set_option maxRecDepth 100000 in
set_option maxHeartbeats 4000000 in
theorem MX6_clear (N : Nat) : SndV yX6_clear cX6_clear 2 none 1 1 true (mX6_clear N) := by
  refine SndV.of tX6_clear (by decide +kernel) rfl rfl ?_ ?_
  · intro as w x h
    obtain ⟨i0, t1, rfl, h_1⟩ := xR1_some h
    obtain ⟨rfl, h_2⟩ := xN1_some h_1
    clear h h_1
    have h := h_2
    rw [callW_eq] at h
    exact ⟨fun _ => ⟨_, _, _, rfl, rfl, _, rfl, rfl⟩, rfl, Nat.le_of_ble_eq_true rfl⟩
  · intro X G hn hR as w r h hr
    have hC := crX6_clear (N := N) G hR
    obtain ⟨i0, t1, rfl, h_1⟩ := xR1_some h
    obtain ⟨rfl, h_2⟩ := xN1_some h_1
    clear h h_1
    have h := h_2
    rw [callW_eq] at h
    refine run_sound (r := r) (X := X) (cc := cX6_clear) (own := RX6) (tab := tX6_clear) G (by rw [hn]; exact kX6_clear) (oI := (oF [])) (oL := (oF [])) (oV := (oF [])) (rI := (fun _ _ => none)) (rL := (fun _ _ => none)) (rV := (fun w => some w))
      (K := (fun j ls st w => if j = 5 then (lgI ls 1 fun v1 => st0 st (callW (fX6_clear_5 N i0 N v1) w)) else none)) (fun _ _ _ _ hx => by cases hx) (fun _ _ _ _ hx => by cases hx) (fun w pc ls hx hd => hr w pc ls (Option.some.inj hx) hd) hC (fun ls => lsb [some (.inr (.inr (10, i0))), none] 0 ls) (keepsP_of rfl) ?_ 38 0 [some (.inr (.inr (10, i0))), none] [] w ?_ h
    · intro j ls st w hfx h
      obtain ⟨e0, -⟩ : _ = _ ∧ True := hfx
      try dsimp only at h
      by_cases hj : j = 5
      · subst hj
        rw [if_pos rfl] at h
        obtain ⟨v1, e1, h_1⟩ := lgI_some h
        obtain ⟨rfl, h_2⟩ := st0_some h_1
        clear h h_1
        have h := h_2
        try rw [callW_eq] at h
        exact WW.le (a := [some (.inr (.inr (10, i0))), some (.inl v1)]) (by rw [hn]; rfl) (show _ = _ ∧ _ = _ ∧ True from ⟨e0, e1, trivial⟩) (sX6_clear_5 G hn hC hr i0 N v1 w h)
      rw [if_neg hj] at h
      cases h
    · exact (show _ = _ ∧ True from ⟨rfl, trivial⟩)
-- MoorGuides$Moor.clear()V
def tX4_clear : List EN := [
  (0, .aload_n 0, 0, 0, 0, 0, 0, []), (1, .iconst 0, 0, 0, 0, 0, 0, []), (2, .putfield 59, 0, 4, 0, 0, 0, []), (5, .aload_n 0, 0, 0, 0, 0, 0, []),
  (6, .getfield 24, 0, 4, 4, 0, 0, []), (9, .invokevirtual 63, 0, 0, 1, 0, 0, [(0, 0), (0, 0)]), (12, .aload_n 0, 0, 0, 0, 0, 0, []), (13, .iconst 0, 0, 0, 0, 0, 0, []),
  (14, .putfield 66, 0, 4, 5, 0, 0, []), (17, .aload_n 0, 0, 0, 0, 0, 0, []), (18, .iconst 0, 0, 0, 0, 0, 0, []), (19, .putfield 69, 0, 4, 10, 0, 0, []),
  (22, .aload_n 0, 0, 0, 0, 0, 0, []), (23, .iconst 0, 0, 0, 0, 0, 0, []), (24, .putfield 72, 0, 4, 12, 0, 0, []), (27, .aload_n 0, 0, 0, 0, 0, 0, []),
  (28, .iconst 0, 0, 0, 0, 0, 0, []), (29, .putfield 75, 0, 4, 15, 0, 0, []), (32, .aload_n 0, 0, 0, 0, 0, 0, []), (33, .iconst 0, 0, 0, 0, 0, 0, []),
  (34, .putfield 78, 0, 4, 16, 0, 0, []), (37, .aload_n 0, 0, 0, 0, 0, 0, []), (38, .iconst 0, 0, 0, 0, 0, 0, []), (39, .putfield 81, 0, 4, 17, 0, 0, []),
  (42, .aload_n 0, 0, 0, 0, 0, 0, []), (43, .getfield 52, 0, 4, 18, 0, 0, []), (46, .iconst 0, 0, 0, 0, 0, 0, []), (47, .putfield 84, 0, 1, 2, 0, 0, []),
  (50, .aload_n 0, 0, 0, 0, 0, 0, []), (51, .getfield 56, 0, 4, 19, 0, 0, []), (54, .iconst 0, 0, 0, 0, 0, 0, []), (55, .putfield 84, 0, 1, 2, 0, 0, []),
  (58, .return_, 0, 0, 0, 0, 0, [])]
noncomputable def pX4_clear (N : Nat) (i0 : Nat) (w : Wd) : Option (Wd) :=
  (callW (pX6_clear N i0) (setI w 8 i0 0 (0 : Int32))).bind fun w1 =>
  let w2 : Wd := (setI (setI (setI (setI (setI (setI w1 8 i0 5 (0 : Int32)) 8 i0 10 (0 : Int32)) 8 i0 12 (0 : Int32)) 8 i0 15 (0 : Int32)) 8 i0 16 (0 : Int32)) 8 i0 17 (0 : Int32))
  some (setI (setI w2 5 (2 * i0 + 0) 2 (0 : Int32)) 5 (2 * i0 + 1) 2 (0 : Int32))
noncomputable def mX4_clear (N : Nat) (as : List AV) (w : Wd) : Option (Wd) := xR1 8 as fun i0 t => xN1 t (callW (pX4_clear N i0) w)
set_option maxRecDepth 100000 in
set_option maxHeartbeats 4000000 in
theorem kX4_clear : TK cX4_clear RX4 1 tX4_clear := ⟨by decide +kernel, wok_of [257, 276, 283, 301, 305, 312, 316, 318, 319, 246, 323, 246] (by decide +kernel) (by decide +kernel)⟩
set_option maxRecDepth 100000 in
set_option maxHeartbeats 4000000 in
theorem crX4_clear {N : Nat} {X : XT} (G : GX X cX4_clear RX4) (hR : xR X = rmL 2) : CRs X tX4_clear (oF []) (oF []) (oF [(mX6_clear N)]) := by
  have hl : tX4_clear.filter isInv = [(9, .invokevirtual 63, 0, 0, 1, 0, 0, [(0, 0), (0, 0)])] := rfl
  intro e he
  rw [hl] at he
  simp only [List.mem_cons, List.not_mem_nil, or_false] at he
  rcases he with rfl
  · exact crV_V (idx := 63) G (by decide +kernel) (MX6_clear N) (cw_of (ps := [795, 796, 797, 150, 798]) (by decide +kernel) (by decide +kernel)) ⟨by decide +kernel, by decide +kernel, by decide +kernel⟩ (by unfold rmOk; rw [hR]; exact ⟨by decide, by decide⟩)
set_option maxRecDepth 100000 in
set_option maxHeartbeats 4000000 in
theorem MX4_clear (N : Nat) : SndV yX4_clear cX4_clear 1 none 2 1 true (mX4_clear N) := by
  refine SndV.of tX4_clear (by decide +kernel) rfl rfl ?_ ?_
  · intro as w x h
    obtain ⟨i0, t1, rfl, h_1⟩ := xR1_some h
    obtain ⟨rfl, h_2⟩ := xN1_some h_1
    clear h h_1
    have h := h_2
    rw [callW_eq] at h
    exact ⟨fun _ => ⟨_, _, _, rfl, rfl, _, rfl, rfl⟩, rfl, Nat.le_of_ble_eq_true rfl⟩
  · intro X G hn hR as w r h hr
    have hC := crX4_clear (N := N) G hR
    obtain ⟨i0, t1, rfl, h_1⟩ := xR1_some h
    obtain ⟨rfl, h_2⟩ := xN1_some h_1
    clear h h_1
    have h := h_2
    rw [callW_eq] at h
    refine run_sound (r := r) (X := X) (cc := cX4_clear) (own := RX4) (tab := tX4_clear) G (by rw [hn]; exact kX4_clear) (oI := (oF [])) (oL := (oF [])) (oV := (oF [(mX6_clear N)])) (rI := (fun _ _ => none)) (rL := (fun _ _ => none)) (rV := (fun w => some w))
      (K := (fun j ls st w => none)) (fun _ _ _ _ hx => by cases hx) (fun _ _ _ _ hx => by cases hx) (fun w pc ls hx hd => hr w pc ls (Option.some.inj hx) hd) hC (fun ls => lsb [some (.inr (.inr (8, i0)))] 0 ls) (keepsP_of rfl) ?_ 35 0 [some (.inr (.inr (8, i0)))] [] w ?_ h
    · intro j ls st w hfx h
      obtain ⟨e0, -⟩ : _ = _ ∧ True := hfx
      try dsimp only at h
      cases h
    · exact (show _ = _ ∧ True from ⟨rfl, trivial⟩)
-- MoorGuides$Moor.addPart(II)V
def tX4_addPart : List EN := [
  (0, .aload_n 0, 0, 0, 0, 0, 0, []), (1, .getfield 59, 0, 4, 0, 0, 0, []), (4, .bipush 8, 0, 0, 0, 8, 0, []), (6, .if_icmp .lt 4, 0, 5, 0, 0, 0, []),
  (9, .return_, 0, 0, 0, 0, 0, []), (10, .aload_n 0, 0, 0, 0, 0, 0, []), (11, .getfield 15, 0, 4, 2, 0, 0, []), (14, .aload_n 0, 0, 0, 0, 0, 0, []),
  (15, .getfield 59, 0, 4, 0, 0, 0, []), (18, .iload_n 1, 0, 0, 0, 0, 0, []), (19, .iastore, 0, 0, 0, 0, 0, []), (20, .aload_n 0, 0, 0, 0, 0, 0, []),
  (21, .getfield 18, 0, 4, 3, 0, 0, []), (24, .aload_n 0, 0, 0, 0, 0, 0, []), (25, .getfield 59, 0, 4, 0, 0, 0, []), (28, .iload_n 2, 0, 0, 0, 0, 0, []),
  (29, .iastore, 0, 0, 0, 0, 0, []), (30, .iconst 0, 0, 0, 0, 0, 0, []), (31, .istore_n 3, 0, 0, 0, 0, 0, []), (32, .iload_n 3, 20, 0, 0, 0, 0, []),
  (33, .aload_n 0, 0, 0, 0, 0, 0, []), (34, .getfield 59, 0, 4, 0, 0, 0, []), (37, .if_icmp .ge 32, 0, 42, 0, 0, 0, []), (40, .iload_n 2, 0, 0, 0, 0, 0, []),
  (41, .iload_n 3, 0, 0, 0, 0, 0, []), (42, .ishr, 0, 0, 0, 0, 0, []), (43, .iconst 1, 0, 0, 0, 1, 0, []), (44, .iand, 0, 0, 0, 0, 0, []),
  (45, .ifCond .eq 18, 0, 40, 0, 0, 0, []), (48, .aload_n 0, 0, 0, 0, 0, 0, []), (49, .getfield 18, 0, 4, 3, 0, 0, []), (52, .iload_n 3, 0, 0, 0, 0, 0, []),
  (53, .dup2, 0, 0, 0, 0, 0, []), (54, .iaload, 0, 0, 0, 0, 0, []), (55, .iconst 1, 0, 0, 0, 1, 0, []), (56, .aload_n 0, 0, 0, 0, 0, 0, []),
  (57, .getfield 59, 0, 4, 0, 0, 0, []), (60, .ishl, 0, 0, 0, 0, 0, []), (61, .ior, 0, 0, 0, 0, 0, []), (62, .iastore, 0, 0, 0, 0, 0, []),
  (63, .iinc 3 1, 0, 0, 0, 1, 0, []), (66, .goto (-34), 0, 19, 0, 0, 0, []), (69, .aload_n 0, 43, 0, 0, 0, 0, []), (70, .dup, 0, 0, 0, 0, 0, []),
  (71, .getfield 59, 0, 4, 0, 0, 0, []), (74, .iconst 1, 0, 0, 0, 1, 0, []), (75, .iadd, 0, 0, 0, 0, 0, []), (76, .putfield 59, 0, 4, 0, 0, 0, []),
  (79, .return_, 0, 0, 0, 0, 0, [])]
noncomputable def fX4_addPart_42 (N : Nat) (i0 : Nat) (w : Wd) : Option (Wd) :=
  some (setI w 8 i0 0 ((gI w 8 i0 0) + (1 : Int32)))
noncomputable def fX4_addPart_19 (N : Nat) (i0 : Nat) (a2 : Int32) : Nat → (Wd → Option (Wd)) → Int32 → Wd → Option (Wd)
  | 0, _, _, _ => none
  | n + 1, k42, v3, w =>
    if v3 < (gI w 8 i0 0) then
      if ((a2 >>> (v3 &&& (31 : Int32))) &&& (1 : Int32)) = 0 then callW (fX4_addPart_19 N i0 a2 n k42 (v3 + (1 : Int32))) w else
      (ldI w 32 i0 v3 8).bind fun x1 =>
      (stI w 32 i0 v3 8 (x1 ||| ((1 : Int32) <<< ((gI w 8 i0 0) &&& (31 : Int32))))).bind fun w2 =>
      callW (fX4_addPart_19 N i0 a2 n k42 (v3 + (1 : Int32))) w2
    else
    k42 w
noncomputable def pX4_addPart (N : Nat) (i0 : Nat) (a1 : Int32) (a2 : Int32) (w : Wd) : Option (Wd) :=
  if (gI w 8 i0 0) < (8 : Int32) then
    (stI w 31 i0 (gI w 8 i0 0) 8 a1).bind fun w1 =>
    (stI w1 32 i0 (gI w1 8 i0 0) 8 a2).bind fun w2 =>
    callW (fX4_addPart_19 N i0 a2 N (fX4_addPart_42 N i0) (0 : Int32)) w2
  else
  some w
noncomputable def mX4_addPart (N : Nat) (as : List AV) (w : Wd) : Option (Wd) := xR1 8 as fun i0 t => xI1 t fun a1 t => xI1 t fun a2 t => xN1 t (callW (pX4_addPart N i0 a1 a2) w)
set_option maxRecDepth 100000 in
set_option maxHeartbeats 4000000 in
theorem kX4_addPart : TK cX4_addPart RX4 4 tX4_addPart := ⟨by decide +kernel, wok_of [257, 267, 257, 270, 257, 257, 270, 257, 257, 257] (by decide +kernel) (by decide +kernel)⟩
set_option maxRecDepth 100000 in
set_option maxHeartbeats 4000000 in
theorem sX4_addPart_42 {N : Nat} {X : XT} (G : GX X cX4_addPart RX4) (hn : xnL X = 4) (hC : CRs X tX4_addPart (oF []) (oF []) (oF [])) {r : Wd} (hr : RTV X cX4_addPart r) (i0 : Nat) (a1 : Int32) (a2 : Int32) : ∀ (w : Wd), fX4_addPart_42 N i0 w = some r → WW X (pcAt tX4_addPart 42) [some (.inr (.inr (8, i0))), some (.inl a1), some (.inl a2), none] [] w := by
  intro w h
  refine run_sound (r := r) (X := X) (cc := cX4_addPart) (own := RX4) (tab := tX4_addPart) G (by rw [hn]; exact kX4_addPart) (oI := (oF [])) (oL := (oF [])) (oV := (oF [])) (rI := (fun _ _ => none)) (rL := (fun _ _ => none)) (rV := (fun w => some w))
    (K := (fun j ls st w => none)) (fun _ _ _ _ hx => by cases hx) (fun _ _ _ _ hx => by cases hx) (fun w pc ls hx hd => hr w pc ls (Option.some.inj hx) hd) hC (fun ls => lsb [some (.inr (.inr (8, i0))), some (.inl a1), some (.inl a2), none] 0 ls) (keepsP_of rfl) ?_ 51 42 [some (.inr (.inr (8, i0))), some (.inl a1), some (.inl a2), none] [] w ?_ h
  · intro j ls st w hfx h
    obtain ⟨e0, e1, e2, -⟩ : _ = _ ∧ _ = _ ∧ _ = _ ∧ True := hfx
    try dsimp only at h
    cases h
  · exact (show _ = _ ∧ _ = _ ∧ _ = _ ∧ True from ⟨rfl, rfl, rfl, trivial⟩)
set_option maxRecDepth 100000 in
set_option maxHeartbeats 4000000 in
theorem sX4_addPart_19 {N : Nat} {X : XT} (G : GX X cX4_addPart RX4) (hn : xnL X = 4) (hC : CRs X tX4_addPart (oF []) (oF []) (oF [])) {r : Wd} (hr : RTV X cX4_addPart r) (i0 : Nat) (a1 : Int32) (a2 : Int32) : ∀ (n : Nat) (k42 : Wd → Option (Wd)) (v3 : Int32) (w : Wd), fX4_addPart_19 N i0 a2 n k42 v3 w = some r → (∀ (w : Wd), k42 w = some r → WW X (pcAt tX4_addPart 42) [some (.inr (.inr (8, i0))), some (.inl a1), some (.inl a2), none] [] w) → WW X (pcAt tX4_addPart 19) [some (.inr (.inr (8, i0))), some (.inl a1), some (.inl a2), some (.inl v3)] [] w := by
  intro n
  induction n with
  | zero => intro k42 v3 w h h42; cases h
  | succ n ih =>
    intro k42 v3 w h h42
    refine run_sound (r := r) (X := X) (cc := cX4_addPart) (own := RX4) (tab := tX4_addPart) G (by rw [hn]; exact kX4_addPart) (oI := (oF [])) (oL := (oF [])) (oV := (oF [])) (rI := (fun _ _ => none)) (rL := (fun _ _ => none)) (rV := (fun w => some w))
      (K := (fun j ls st w => if j = 19 then (lgI ls 3 fun v3 => st0 st (callW (fX4_addPart_19 N i0 a2 n k42 v3) w)) else if j = 42 then (st0 st (k42 w)) else none)) (fun _ _ _ _ hx => by cases hx) (fun _ _ _ _ hx => by cases hx) (fun w pc ls hx hd => hr w pc ls (Option.some.inj hx) hd) hC (fun ls => lsb [some (.inr (.inr (8, i0))), some (.inl a1), some (.inl a2), none] 0 ls) (keepsP_of rfl) ?_ 51 19 [some (.inr (.inr (8, i0))), some (.inl a1), some (.inl a2), some (.inl v3)] [] w ?_ h
    · intro j ls st w hfx h
      obtain ⟨e0, e1, e2, -⟩ : _ = _ ∧ _ = _ ∧ _ = _ ∧ True := hfx
      try dsimp only at h
      by_cases hj : j = 19
      · subst hj
        rw [if_pos rfl] at h
        obtain ⟨v3, e3, h_1⟩ := lgI_some h
        obtain ⟨rfl, h_2⟩ := st0_some h_1
        clear h h_1
        have h := h_2
        try rw [callW_eq] at h
        exact WW.le (a := [some (.inr (.inr (8, i0))), some (.inl a1), some (.inl a2), some (.inl v3)]) (by rw [hn]; rfl) (show _ = _ ∧ _ = _ ∧ _ = _ ∧ _ = _ ∧ True from ⟨e0, e1, e2, e3, trivial⟩) (ih k42 v3 w h h42)
      rw [if_neg hj] at h
      by_cases hj : j = 42
      · subst hj
        rw [if_pos rfl] at h
        obtain ⟨rfl, h_1⟩ := st0_some h
        clear h
        have h := h_1
        try rw [callW_eq] at h
        exact WW.le (a := [some (.inr (.inr (8, i0))), some (.inl a1), some (.inl a2), none]) (by rw [hn]; rfl) (show _ = _ ∧ _ = _ ∧ _ = _ ∧ True from ⟨e0, e1, e2, trivial⟩) (h42 w h)
      rw [if_neg hj] at h
      cases h
    · exact (show _ = _ ∧ _ = _ ∧ _ = _ ∧ True from ⟨rfl, rfl, rfl, trivial⟩)
set_option maxRecDepth 100000 in
set_option maxHeartbeats 4000000 in
theorem crX4_addPart {N : Nat} {X : XT} (G : GX X cX4_addPart RX4) (hR : xR X = rmL 1) : CRs X tX4_addPart (oF []) (oF []) (oF []) := by
  have hl : tX4_addPart.filter isInv = [] := rfl
  intro e he
  rw [hl] at he
  cases he
set_option maxRecDepth 100000 in
set_option maxHeartbeats 4000000 in
theorem MX4_addPart (N : Nat) : SndV yX4_addPart cX4_addPart 4 none 1 3 true (mX4_addPart N) := by
  refine SndV.of tX4_addPart (by decide +kernel) rfl rfl ?_ ?_
  · intro as w x h
    obtain ⟨i0, t1, rfl, h_1⟩ := xR1_some h
    obtain ⟨a1, t2, rfl, h_2⟩ := xI1_some h_1
    obtain ⟨a2, t3, rfl, h_3⟩ := xI1_some h_2
    obtain ⟨rfl, h_4⟩ := xN1_some h_3
    clear h h_1 h_2 h_3
    have h := h_4
    rw [callW_eq] at h
    exact ⟨fun _ => ⟨_, _, _, rfl, rfl, _, rfl, rfl⟩, rfl, Nat.le_of_ble_eq_true rfl⟩
  · intro X G hn hR as w r h hr
    have hC := crX4_addPart (N := N) G hR
    obtain ⟨i0, t1, rfl, h_1⟩ := xR1_some h
    obtain ⟨a1, t2, rfl, h_2⟩ := xI1_some h_1
    obtain ⟨a2, t3, rfl, h_3⟩ := xI1_some h_2
    obtain ⟨rfl, h_4⟩ := xN1_some h_3
    clear h h_1 h_2 h_3
    have h := h_4
    rw [callW_eq] at h
    refine run_sound (r := r) (X := X) (cc := cX4_addPart) (own := RX4) (tab := tX4_addPart) G (by rw [hn]; exact kX4_addPart) (oI := (oF [])) (oL := (oF [])) (oV := (oF [])) (rI := (fun _ _ => none)) (rL := (fun _ _ => none)) (rV := (fun w => some w))
      (K := (fun j ls st w => if j = 19 then (lgI ls 3 fun v3 => st0 st (callW (fX4_addPart_19 N i0 a2 N (fX4_addPart_42 N i0) v3) w)) else none)) (fun _ _ _ _ hx => by cases hx) (fun _ _ _ _ hx => by cases hx) (fun w pc ls hx hd => hr w pc ls (Option.some.inj hx) hd) hC (fun ls => lsb [some (.inr (.inr (8, i0))), some (.inl a1), some (.inl a2), none] 0 ls) (keepsP_of rfl) ?_ 51 0 [some (.inr (.inr (8, i0))), some (.inl a1), some (.inl a2), none] [] w ?_ h
    · intro j ls st w hfx h
      obtain ⟨e0, e1, e2, -⟩ : _ = _ ∧ _ = _ ∧ _ = _ ∧ True := hfx
      try dsimp only at h
      by_cases hj : j = 19
      · subst hj
        rw [if_pos rfl] at h
        obtain ⟨v3, e3, h_1⟩ := lgI_some h
        obtain ⟨rfl, h_2⟩ := st0_some h_1
        clear h h_1
        have h := h_2
        try rw [callW_eq] at h
        exact WW.le (a := [some (.inr (.inr (8, i0))), some (.inl a1), some (.inl a2), some (.inl v3)]) (by rw [hn]; rfl) (show _ = _ ∧ _ = _ ∧ _ = _ ∧ _ = _ ∧ True from ⟨e0, e1, e2, e3, trivial⟩) (sX4_addPart_19 G hn hC hr i0 a1 a2 N (fX4_addPart_42 N i0) v3 w h (fun w h => (sX4_addPart_42 G hn hC hr i0 a1 a2 w h)))
      rw [if_neg hj] at h
      cases h
    · exact (show _ = _ ∧ _ = _ ∧ _ = _ ∧ True from ⟨rfl, rfl, rfl, trivial⟩)
-- MoorGuides$Moor.addParty(IIII)V
def tX4_addParty : List EN := [
  (0, .aload_n 0, 0, 0, 0, 0, 0, []), (1, .getfield 66, 0, 4, 5, 0, 0, []), (4, .bipush 8, 0, 0, 0, 8, 0, []), (6, .if_icmp .lt 4, 0, 5, 0, 0, 0, []),
  (9, .return_, 0, 0, 0, 0, 0, []), (10, .aload_n 0, 0, 0, 0, 0, 0, []), (11, .getfield 28, 0, 4, 6, 0, 0, []), (14, .aload_n 0, 0, 0, 0, 0, 0, []),
  (15, .getfield 66, 0, 4, 5, 0, 0, []), (18, .iload_n 1, 0, 0, 0, 0, 0, []), (19, .iastore, 0, 0, 0, 0, 0, []), (20, .aload_n 0, 0, 0, 0, 0, 0, []),
  (21, .getfield 31, 0, 4, 7, 0, 0, []), (24, .aload_n 0, 0, 0, 0, 0, 0, []), (25, .getfield 66, 0, 4, 5, 0, 0, []), (28, .iload_n 2, 0, 0, 0, 0, 0, []),
  (29, .iastore, 0, 0, 0, 0, 0, []), (30, .aload_n 0, 0, 0, 0, 0, 0, []), (31, .getfield 34, 0, 4, 8, 0, 0, []), (34, .aload_n 0, 0, 0, 0, 0, 0, []),
  (35, .getfield 66, 0, 4, 5, 0, 0, []), (38, .iload_n 3, 0, 0, 0, 0, 0, []), (39, .iastore, 0, 0, 0, 0, 0, []), (40, .aload_n 0, 0, 0, 0, 0, 0, []),
  (41, .getfield 37, 0, 4, 9, 0, 0, []), (44, .aload_n 0, 0, 0, 0, 0, 0, []), (45, .getfield 66, 0, 4, 5, 0, 0, []), (48, .iload 4, 0, 0, 0, 0, 0, []),
  (50, .iastore, 0, 0, 0, 0, 0, []), (51, .aload_n 0, 0, 0, 0, 0, 0, []), (52, .dup, 0, 0, 0, 0, 0, []), (53, .getfield 66, 0, 4, 5, 0, 0, []),
  (56, .iconst 1, 0, 0, 0, 1, 0, []), (57, .iadd, 0, 0, 0, 0, 0, []), (58, .putfield 66, 0, 4, 5, 0, 0, []), (61, .return_, 0, 0, 0, 0, 0, [])]
noncomputable def pX4_addParty (N : Nat) (i0 : Nat) (a1 : Int32) (a2 : Int32) (a3 : Int32) (a4 : Int32) (w : Wd) : Option (Wd) :=
  if (gI w 8 i0 5) < (8 : Int32) then
    (stI w 33 i0 (gI w 8 i0 5) 8 a1).bind fun w1 =>
    (stI w1 34 i0 (gI w1 8 i0 5) 8 a2).bind fun w2 =>
    (stI w2 35 i0 (gI w2 8 i0 5) 8 a3).bind fun w3 =>
    (stI w3 36 i0 (gI w3 8 i0 5) 8 a4).bind fun w4 =>
    some (setI w4 8 i0 5 ((gI w4 8 i0 5) + (1 : Int32)))
  else
  some w
noncomputable def mX4_addParty (N : Nat) (as : List AV) (w : Wd) : Option (Wd) := xR1 8 as fun i0 t => xI1 t fun a1 t => xI1 t fun a2 t => xI1 t fun a3 t => xI1 t fun a4 t => xN1 t (callW (pX4_addParty N i0 a1 a2 a3 a4) w)
set_option maxRecDepth 100000 in
set_option maxHeartbeats 4000000 in
theorem kX4_addParty : TK cX4_addParty RX4 5 tX4_addParty := ⟨by decide +kernel, wok_of [283, 288, 283, 291, 283, 294, 283, 298, 283, 283, 283] (by decide +kernel) (by decide +kernel)⟩
set_option maxRecDepth 100000 in
set_option maxHeartbeats 4000000 in
theorem crX4_addParty {N : Nat} {X : XT} (G : GX X cX4_addParty RX4) (hR : xR X = rmL 1) : CRs X tX4_addParty (oF []) (oF []) (oF []) := by
  have hl : tX4_addParty.filter isInv = [] := rfl
  intro e he
  rw [hl] at he
  cases he
set_option maxRecDepth 100000 in
set_option maxHeartbeats 4000000 in
theorem MX4_addParty (N : Nat) : SndV yX4_addParty cX4_addParty 5 none 1 5 true (mX4_addParty N) := by
  refine SndV.of tX4_addParty (by decide +kernel) rfl rfl ?_ ?_
  · intro as w x h
    obtain ⟨i0, t1, rfl, h_1⟩ := xR1_some h
    obtain ⟨a1, t2, rfl, h_2⟩ := xI1_some h_1
    obtain ⟨a2, t3, rfl, h_3⟩ := xI1_some h_2
    obtain ⟨a3, t4, rfl, h_4⟩ := xI1_some h_3
    obtain ⟨a4, t5, rfl, h_5⟩ := xI1_some h_4
    obtain ⟨rfl, h_6⟩ := xN1_some h_5
    clear h h_1 h_2 h_3 h_4 h_5
    have h := h_6
    rw [callW_eq] at h
    exact ⟨fun _ => ⟨_, _, _, rfl, rfl, _, rfl, rfl⟩, rfl, Nat.le_of_ble_eq_true rfl⟩
  · intro X G hn hR as w r h hr
    have hC := crX4_addParty (N := N) G hR
    obtain ⟨i0, t1, rfl, h_1⟩ := xR1_some h
    obtain ⟨a1, t2, rfl, h_2⟩ := xI1_some h_1
    obtain ⟨a2, t3, rfl, h_3⟩ := xI1_some h_2
    obtain ⟨a3, t4, rfl, h_4⟩ := xI1_some h_3
    obtain ⟨a4, t5, rfl, h_5⟩ := xI1_some h_4
    obtain ⟨rfl, h_6⟩ := xN1_some h_5
    clear h h_1 h_2 h_3 h_4 h_5
    have h := h_6
    rw [callW_eq] at h
    refine run_sound (r := r) (X := X) (cc := cX4_addParty) (own := RX4) (tab := tX4_addParty) G (by rw [hn]; exact kX4_addParty) (oI := (oF [])) (oL := (oF [])) (oV := (oF [])) (rI := (fun _ _ => none)) (rL := (fun _ _ => none)) (rV := (fun w => some w))
      (K := (fun j ls st w => none)) (fun _ _ _ _ hx => by cases hx) (fun _ _ _ _ hx => by cases hx) (fun w pc ls hx hd => hr w pc ls (Option.some.inj hx) hd) hC (fun ls => lsb [some (.inr (.inr (8, i0))), some (.inl a1), some (.inl a2), some (.inl a3), some (.inl a4)] 0 ls) (keepsP_of rfl) ?_ 38 0 [some (.inr (.inr (8, i0))), some (.inl a1), some (.inl a2), some (.inl a3), some (.inl a4)] [] w ?_ h
    · intro j ls st w hfx h
      obtain ⟨e0, e1, e2, e3, e4, -⟩ : _ = _ ∧ _ = _ ∧ _ = _ ∧ _ = _ ∧ _ = _ ∧ True := hfx
      try dsimp only at h
      cases h
    · exact (show _ = _ ∧ _ = _ ∧ _ = _ ∧ _ = _ ∧ _ = _ ∧ True from ⟨rfl, rfl, rfl, rfl, rfl, trivial⟩)
-- MoorGuides$Moor.addSlide(II)V
def tX4_addSlide : List EN := [
  (0, .aload_n 0, 0, 0, 0, 0, 0, []), (1, .getfield 72, 0, 4, 12, 0, 0, []), (4, .iconst 4, 0, 0, 0, 4, 0, []), (5, .if_icmp .lt 4, 0, 5, 0, 0, 0, []),
  (8, .return_, 0, 0, 0, 0, 0, []), (9, .aload_n 0, 0, 0, 0, 0, 0, []), (10, .getfield 43, 0, 4, 13, 0, 0, []), (13, .aload_n 0, 0, 0, 0, 0, 0, []),
  (14, .getfield 72, 0, 4, 12, 0, 0, []), (17, .iload_n 1, 0, 0, 0, 0, 0, []), (18, .iastore, 0, 0, 0, 0, 0, []), (19, .aload_n 0, 0, 0, 0, 0, 0, []),
  (20, .getfield 46, 0, 4, 14, 0, 0, []), (23, .aload_n 0, 0, 0, 0, 0, 0, []), (24, .getfield 72, 0, 4, 12, 0, 0, []), (27, .iload_n 2, 0, 0, 0, 0, 0, []),
  (28, .iastore, 0, 0, 0, 0, 0, []), (29, .aload_n 0, 0, 0, 0, 0, 0, []), (30, .dup, 0, 0, 0, 0, 0, []), (31, .getfield 72, 0, 4, 12, 0, 0, []),
  (34, .iconst 1, 0, 0, 0, 1, 0, []), (35, .iadd, 0, 0, 0, 0, 0, []), (36, .putfield 72, 0, 4, 12, 0, 0, []), (39, .return_, 0, 0, 0, 0, 0, [])]
noncomputable def pX4_addSlide (N : Nat) (i0 : Nat) (a1 : Int32) (a2 : Int32) (w : Wd) : Option (Wd) :=
  if (gI w 8 i0 12) < (4 : Int32) then
    (stI w 38 i0 (gI w 8 i0 12) 4 a1).bind fun w1 =>
    (stI w1 39 i0 (gI w1 8 i0 12) 4 a2).bind fun w2 =>
    some (setI w2 8 i0 12 ((gI w2 8 i0 12) + (1 : Int32)))
  else
  some w
noncomputable def mX4_addSlide (N : Nat) (as : List AV) (w : Wd) : Option (Wd) := xR1 8 as fun i0 t => xI1 t fun a1 t => xI1 t fun a2 t => xN1 t (callW (pX4_addSlide N i0 a1 a2) w)
set_option maxRecDepth 100000 in
set_option maxHeartbeats 4000000 in
theorem kX4_addSlide : TK cX4_addSlide RX4 3 tX4_addSlide := ⟨by decide +kernel, wok_of [305, 308, 305, 310, 305, 305, 305] (by decide +kernel) (by decide +kernel)⟩
set_option maxRecDepth 100000 in
set_option maxHeartbeats 4000000 in
theorem crX4_addSlide {N : Nat} {X : XT} (G : GX X cX4_addSlide RX4) (hR : xR X = rmL 1) : CRs X tX4_addSlide (oF []) (oF []) (oF []) := by
  have hl : tX4_addSlide.filter isInv = [] := rfl
  intro e he
  rw [hl] at he
  cases he
set_option maxRecDepth 100000 in
set_option maxHeartbeats 4000000 in
theorem MX4_addSlide (N : Nat) : SndV yX4_addSlide cX4_addSlide 3 none 1 3 true (mX4_addSlide N) := by
  refine SndV.of tX4_addSlide (by decide +kernel) rfl rfl ?_ ?_
  · intro as w x h
    obtain ⟨i0, t1, rfl, h_1⟩ := xR1_some h
    obtain ⟨a1, t2, rfl, h_2⟩ := xI1_some h_1
    obtain ⟨a2, t3, rfl, h_3⟩ := xI1_some h_2
    obtain ⟨rfl, h_4⟩ := xN1_some h_3
    clear h h_1 h_2 h_3
    have h := h_4
    rw [callW_eq] at h
    exact ⟨fun _ => ⟨_, _, _, rfl, rfl, _, rfl, rfl⟩, rfl, Nat.le_of_ble_eq_true rfl⟩
  · intro X G hn hR as w r h hr
    have hC := crX4_addSlide (N := N) G hR
    obtain ⟨i0, t1, rfl, h_1⟩ := xR1_some h
    obtain ⟨a1, t2, rfl, h_2⟩ := xI1_some h_1
    obtain ⟨a2, t3, rfl, h_3⟩ := xI1_some h_2
    obtain ⟨rfl, h_4⟩ := xN1_some h_3
    clear h h_1 h_2 h_3
    have h := h_4
    rw [callW_eq] at h
    refine run_sound (r := r) (X := X) (cc := cX4_addSlide) (own := RX4) (tab := tX4_addSlide) G (by rw [hn]; exact kX4_addSlide) (oI := (oF [])) (oL := (oF [])) (oV := (oF [])) (rI := (fun _ _ => none)) (rL := (fun _ _ => none)) (rV := (fun w => some w))
      (K := (fun j ls st w => none)) (fun _ _ _ _ hx => by cases hx) (fun _ _ _ _ hx => by cases hx) (fun w pc ls hx hd => hr w pc ls (Option.some.inj hx) hd) hC (fun ls => lsb [some (.inr (.inr (8, i0))), some (.inl a1), some (.inl a2)] 0 ls) (keepsP_of rfl) ?_ 26 0 [some (.inr (.inr (8, i0))), some (.inl a1), some (.inl a2)] [] w ?_ h
    · intro j ls st w hfx h
      obtain ⟨e0, e1, e2, -⟩ : _ = _ ∧ _ = _ ∧ _ = _ ∧ True := hfx
      try dsimp only at h
      cases h
    · exact (show _ = _ ∧ _ = _ ∧ _ = _ ∧ True from ⟨rfl, rfl, rfl, trivial⟩)
-- MoorGuides$Moor.countKnot()Z
def tX4_countKnot : List EN := [
  (0, .aload_n 0, 0, 0, 0, 0, 0, []), (1, .getfield 81, 0, 4, 17, 0, 0, []), (4, .bipush 64, 0, 0, 0, 64, 0, []), (6, .if_icmp .lt 5, 0, 6, 0, 0, 0, []),
  (9, .iconst 0, 0, 0, 0, 0, 0, []), (10, .ireturn, 0, 0, 0, 0, 0, []), (11, .aload_n 0, 0, 0, 0, 0, 0, []), (12, .dup, 0, 0, 0, 0, 0, []),
  (13, .getfield 81, 0, 4, 17, 0, 0, []), (16, .iconst 1, 0, 0, 0, 1, 0, []), (17, .iadd, 0, 0, 0, 0, 0, []), (18, .putfield 81, 0, 4, 17, 0, 0, []),
  (21, .iconst 1, 0, 0, 0, 1, 0, []), (22, .ireturn, 0, 0, 0, 0, 0, [])]
noncomputable def pX4_countKnot (N : Nat) (i0 : Nat) (w : Wd) : Option (Int32 × Wd) :=
  if (gI w 8 i0 17) < (64 : Int32) then some ((1 : Int32), (setI w 8 i0 17 ((gI w 8 i0 17) + (1 : Int32)))) else
  some ((0 : Int32), w)
noncomputable def mX4_countKnot (N : Nat) (as : List AV) (w : Wd) : Option (Int32 × Wd) := xR1 8 as fun i0 t => xN1 t (callW (pX4_countKnot N i0) w)
set_option maxRecDepth 100000 in
set_option maxHeartbeats 4000000 in
theorem kX4_countKnot : TK cX4_countKnot RX4 1 tX4_countKnot := ⟨by decide +kernel, wok_of [318, 318, 318] (by decide +kernel) (by decide +kernel)⟩
set_option maxRecDepth 100000 in
set_option maxHeartbeats 4000000 in
theorem crX4_countKnot {N : Nat} {X : XT} (G : GX X cX4_countKnot RX4) (hR : xR X = rmL 1) : CRs X tX4_countKnot (oF []) (oF []) (oF []) := by
  have hl : tX4_countKnot.filter isInv = [] := rfl
  intro e he
  rw [hl] at he
  cases he
set_option maxRecDepth 100000 in
set_option maxHeartbeats 4000000 in
theorem MX4_countKnot (N : Nat) : SndI yX4_countKnot cX4_countKnot 1 (some .boolean) 1 1 true (mX4_countKnot N) := by
  refine SndI.ofZ tX4_countKnot (by decide +kernel) rfl rfl ?_ ?_
  · intro as w x h
    obtain ⟨i0, t1, rfl, h_1⟩ := xR1_some h
    obtain ⟨rfl, h_2⟩ := xN1_some h_1
    clear h h_1
    have h := h_2
    rw [callW_eq] at h
    exact ⟨fun _ => ⟨_, _, _, rfl, rfl, _, rfl, rfl⟩, rfl, Nat.le_of_ble_eq_true rfl⟩
  · intro X G hn hR as w r h hr
    have hC := crX4_countKnot (N := N) G hR
    obtain ⟨i0, t1, rfl, h_1⟩ := xR1_some h
    obtain ⟨rfl, h_2⟩ := xN1_some h_1
    clear h h_1
    have h := h_2
    rw [callW_eq] at h
    refine run_sound (r := r) (X := X) (cc := cX4_countKnot) (own := RX4) (tab := tX4_countKnot) G (by rw [hn]; exact kX4_countKnot) (oI := (oF [])) (oL := (oF [])) (oV := (oF [])) (rI := retZ) (rL := (fun _ _ => none)) (rV := (fun _ => none))
      (K := (fun j ls st w => none)) hr (fun _ _ _ _ hx => by cases hx) (fun _ _ _ hx => by cases hx) hC (fun ls => lsb [some (.inr (.inr (8, i0)))] 0 ls) (keepsP_of rfl) ?_ 16 0 [some (.inr (.inr (8, i0)))] [] w ?_ h
    · intro j ls st w hfx h
      obtain ⟨e0, -⟩ : _ = _ ∧ True := hfx
      try dsimp only at h
      cases h
    · exact (show _ = _ ∧ True from ⟨rfl, trivial⟩)
-- MoorGuides$Moor.knots()I
def tX4_knots : List EN := [
  (0, .aload_n 0, 0, 0, 0, 0, 0, []), (1, .getfield 81, 0, 4, 17, 0, 0, []), (4, .ireturn, 0, 0, 0, 0, 0, [])]
noncomputable def pX4_knots (N : Nat) (i0 : Nat) (w : Wd) : Option (Int32 × Wd) :=
  some ((gI w 8 i0 17), w)
noncomputable def mX4_knots (N : Nat) (as : List AV) (w : Wd) : Option (Int32 × Wd) := xR1 8 as fun i0 t => xN1 t (callW (pX4_knots N i0) w)
set_option maxRecDepth 100000 in
set_option maxHeartbeats 4000000 in
theorem kX4_knots : TK cX4_knots RX4 1 tX4_knots := ⟨by decide +kernel, wok_of [318] (by decide +kernel) (by decide +kernel)⟩
set_option maxRecDepth 100000 in
set_option maxHeartbeats 4000000 in
theorem crX4_knots {N : Nat} {X : XT} (G : GX X cX4_knots RX4) (hR : xR X = rmL 1) : CRs X tX4_knots (oF []) (oF []) (oF []) := by
  have hl : tX4_knots.filter isInv = [] := rfl
  intro e he
  rw [hl] at he
  cases he
set_option maxRecDepth 100000 in
set_option maxHeartbeats 4000000 in
theorem MX4_knots (N : Nat) : SndI yX4_knots cX4_knots 1 (some .int) 1 1 true (mX4_knots N) := by
  refine SndI.of tX4_knots (by decide +kernel) rfl rfl ?_ ?_
  · intro as w x h
    obtain ⟨i0, t1, rfl, h_1⟩ := xR1_some h
    obtain ⟨rfl, h_2⟩ := xN1_some h_1
    clear h h_1
    have h := h_2
    rw [callW_eq] at h
    exact ⟨fun _ => ⟨_, _, _, rfl, rfl, _, rfl, rfl⟩, rfl, Nat.le_of_ble_eq_true rfl⟩
  · intro X G hn hR as w r h hr
    have hC := crX4_knots (N := N) G hR
    obtain ⟨i0, t1, rfl, h_1⟩ := xR1_some h
    obtain ⟨rfl, h_2⟩ := xN1_some h_1
    clear h h_1
    have h := h_2
    rw [callW_eq] at h
    refine run_sound (r := r) (X := X) (cc := cX4_knots) (own := RX4) (tab := tX4_knots) G (by rw [hn]; exact kX4_knots) (oI := (oF [])) (oL := (oF [])) (oV := (oF [])) (rI := (fun x w => some (x, w))) (rL := (fun _ _ => none)) (rV := (fun _ => none))
      (K := (fun j ls st w => none)) (fun x w pc ls hx hd => hr x w pc ls (Option.some.inj hx) hd) (fun _ _ _ _ hx => by cases hx) (fun _ _ _ hx => by cases hx) hC (fun ls => lsb [some (.inr (.inr (8, i0)))] 0 ls) (keepsP_of rfl) ?_ 5 0 [some (.inr (.inr (8, i0)))] [] w ?_ h
    · intro j ls st w hfx h
      obtain ⟨e0, -⟩ : _ = _ ∧ True := hfx
      try dsimp only at h
      cases h
    · exact (show _ = _ ∧ True from ⟨rfl, trivial⟩)
-- MoorGuides$Moor.priceLed(II)I
def tX4_priceLed : List EN := [
  (0, .iconst 0, 0, 0, 0, 0, 0, []), (1, .istore_n 3, 0, 0, 0, 0, 0, []), (2, .iconst 0, 0, 0, 0, 0, 0, []), (3, .istore 4, 0, 0, 0, 0, 0, []),
  (5, .iload 4, 5, 0, 0, 0, 0, []), (7, .aload_n 0, 0, 0, 0, 0, 0, []), (8, .getfield 66, 0, 4, 5, 0, 0, []), (11, .if_icmp .ge 40, 0, 28, 0, 0, 0, []),
  (14, .aload_n 0, 0, 0, 0, 0, 0, []), (15, .getfield 34, 0, 4, 8, 0, 0, []), (18, .iload 4, 0, 0, 0, 0, 0, []), (20, .iaload, 0, 0, 0, 0, 0, []),
  (21, .iload_n 1, 0, 0, 0, 0, 0, []), (22, .if_icmp .ne 23, 0, 26, 0, 0, 0, []), (25, .aload_n 0, 0, 0, 0, 0, 0, []), (26, .iload 4, 0, 0, 0, 0, 0, []),
  (28, .iload_n 2, 0, 0, 0, 0, 0, []), (29, .invokevirtual 101, 0, 0, 3, 0, 0, []), (32, .ifCond .eq 13, 0, 26, 0, 0, 0, []), (35, .iload_n 3, 0, 0, 0, 0, 0, []),
  (36, .aload_n 0, 0, 0, 0, 0, 0, []), (37, .getfield 37, 0, 4, 9, 0, 0, []), (40, .iload 4, 0, 0, 0, 0, 0, []), (42, .iaload, 0, 0, 0, 0, 0, []),
  (43, .iadd, 0, 0, 0, 0, 0, []), (44, .istore_n 3, 0, 0, 0, 0, 0, []), (45, .iinc 4 1, 0, 0, 0, 1, 0, []), (48, .goto (-43), 0, 4, 0, 0, 0, []),
  (51, .iload_n 3, 0, 0, 0, 0, 0, []), (52, .ireturn, 0, 0, 0, 0, 0, [])]
noncomputable def fX4_priceLed_4 (N : Nat) (i0 : Nat) (a1 : Int32) (a2 : Int32) : Nat → Int32 → Int32 → Wd → Option (Int32 × Wd)
  | 0, _, _, _ => none
  | n + 1, v3, v4, w =>
    if v4 < (gI w 8 i0 5) then
      (ldI w 35 i0 v4 8).bind fun x1 =>
      if x1 = a1 then
        (callW (pX4_isLed N i0 v4 a2) w).bind fun r2 =>
        if r2.1 = 0 then callW (fX4_priceLed_4 N i0 a1 a2 n v3 (v4 + (1 : Int32))) r2.2 else
        (ldI r2.2 36 i0 v4 8).bind fun x3 =>
        callW (fX4_priceLed_4 N i0 a1 a2 n (v3 + x3) (v4 + (1 : Int32))) r2.2
      else
      callW (fX4_priceLed_4 N i0 a1 a2 n v3 (v4 + (1 : Int32))) w
    else
    some (v3, w)
noncomputable def pX4_priceLed (N : Nat) (i0 : Nat) (a1 : Int32) (a2 : Int32) (w : Wd) : Option (Int32 × Wd) :=
  callW (fX4_priceLed_4 N i0 a1 a2 N (0 : Int32) (0 : Int32)) w
noncomputable def mX4_priceLed (N : Nat) (as : List AV) (w : Wd) : Option (Int32 × Wd) := xR1 8 as fun i0 t => xI1 t fun a1 t => xI1 t fun a2 t => xN1 t (callW (pX4_priceLed N i0 a1 a2) w)
set_option maxRecDepth 100000 in
set_option maxHeartbeats 4000000 in
theorem kX4_priceLed : TK cX4_priceLed RX4 5 tX4_priceLed := ⟨by decide +kernel, wok_of [283, 294, 298] (by decide +kernel) (by decide +kernel)⟩
set_option maxRecDepth 100000 in
set_option maxHeartbeats 4000000 in
theorem sX4_priceLed_4 {N : Nat} {X : XT} (G : GX X cX4_priceLed RX4) (hn : xnL X = 5) (hC : CRs X tX4_priceLed (oF [(mX4_isLed N)]) (oF []) (oF [])) {r : Int32 × Wd} (hr : RTI X cX4_priceLed r) (i0 : Nat) (a1 : Int32) (a2 : Int32) : ∀ (n : Nat) (v3 : Int32) (v4 : Int32) (w : Wd), fX4_priceLed_4 N i0 a1 a2 n v3 v4 w = some r → WW X (pcAt tX4_priceLed 4) [some (.inr (.inr (8, i0))), some (.inl a1), some (.inl a2), some (.inl v3), some (.inl v4)] [] w := by
  intro n
  induction n with
  | zero => intro v3 v4 w h; cases h
  | succ n ih =>
    intro v3 v4 w h
    refine run_sound (r := r) (X := X) (cc := cX4_priceLed) (own := RX4) (tab := tX4_priceLed) G (by rw [hn]; exact kX4_priceLed) (oI := (oF [(mX4_isLed N)])) (oL := (oF [])) (oV := (oF [])) (rI := (fun x w => some (x, w))) (rL := (fun _ _ => none)) (rV := (fun _ => none))
      (K := (fun j ls st w => if j = 4 then (lgI ls 3 fun v3 => lgI ls 4 fun v4 => st0 st (callW (fX4_priceLed_4 N i0 a1 a2 n v3 v4) w)) else none)) (fun x w pc ls hx hd => hr x w pc ls (Option.some.inj hx) hd) (fun _ _ _ _ hx => by cases hx) (fun _ _ _ hx => by cases hx) hC (fun ls => lsb [some (.inr (.inr (8, i0))), some (.inl a1), some (.inl a2), none, none] 0 ls) (keepsP_of rfl) ?_ 32 4 [some (.inr (.inr (8, i0))), some (.inl a1), some (.inl a2), some (.inl v3), some (.inl v4)] [] w ?_ h
    · intro j ls st w hfx h
      obtain ⟨e0, e1, e2, -⟩ : _ = _ ∧ _ = _ ∧ _ = _ ∧ True := hfx
      try dsimp only at h
      by_cases hj : j = 4
      · subst hj
        rw [if_pos rfl] at h
        obtain ⟨v3, e3, h_1⟩ := lgI_some h
        obtain ⟨v4, e4, h_2⟩ := lgI_some h_1
        obtain ⟨rfl, h_3⟩ := st0_some h_2
        clear h h_1 h_2
        have h := h_3
        try rw [callW_eq] at h
        exact WW.le (a := [some (.inr (.inr (8, i0))), some (.inl a1), some (.inl a2), some (.inl v3), some (.inl v4)]) (by rw [hn]; rfl) (show _ = _ ∧ _ = _ ∧ _ = _ ∧ _ = _ ∧ _ = _ ∧ True from ⟨e0, e1, e2, e3, e4, trivial⟩) (ih v3 v4 w h)
      rw [if_neg hj] at h
      cases h
    · exact (show _ = _ ∧ _ = _ ∧ _ = _ ∧ True from ⟨rfl, rfl, rfl, trivial⟩)
set_option maxRecDepth 100000 in
set_option maxHeartbeats 4000000 in
theorem crX4_priceLed {N : Nat} {X : XT} (G : GX X cX4_priceLed RX4) (hR : xR X = rmL 3) : CRs X tX4_priceLed (oF [(mX4_isLed N)]) (oF []) (oF []) := by
  have hl : tX4_priceLed.filter isInv = [(29, .invokevirtual 101, 0, 0, 3, 0, 0, [])] := rfl
  intro e he
  rw [hl] at he
  simp only [List.mem_cons, List.not_mem_nil, or_false] at he
  rcases he with rfl
  · exact crI_V (idx := 101) G (by decide +kernel) (MX4_isLed N) (cw_of (ps := [1275, 1239, 1240, 149, 1241]) (by decide +kernel) (by decide +kernel)) ⟨by decide +kernel, by decide +kernel, by decide +kernel⟩ (by unfold rmOk; rw [hR]; exact ⟨by decide, by decide⟩)
set_option maxRecDepth 100000 in
set_option maxHeartbeats 4000000 in
theorem MX4_priceLed (N : Nat) : SndI yX4_priceLed cX4_priceLed 5 (some .int) 3 3 true (mX4_priceLed N) := by
  refine SndI.of tX4_priceLed (by decide +kernel) rfl rfl ?_ ?_
  · intro as w x h
    obtain ⟨i0, t1, rfl, h_1⟩ := xR1_some h
    obtain ⟨a1, t2, rfl, h_2⟩ := xI1_some h_1
    obtain ⟨a2, t3, rfl, h_3⟩ := xI1_some h_2
    obtain ⟨rfl, h_4⟩ := xN1_some h_3
    clear h h_1 h_2 h_3
    have h := h_4
    rw [callW_eq] at h
    exact ⟨fun _ => ⟨_, _, _, rfl, rfl, _, rfl, rfl⟩, rfl, Nat.le_of_ble_eq_true rfl⟩
  · intro X G hn hR as w r h hr
    have hC := crX4_priceLed (N := N) G hR
    obtain ⟨i0, t1, rfl, h_1⟩ := xR1_some h
    obtain ⟨a1, t2, rfl, h_2⟩ := xI1_some h_1
    obtain ⟨a2, t3, rfl, h_3⟩ := xI1_some h_2
    obtain ⟨rfl, h_4⟩ := xN1_some h_3
    clear h h_1 h_2 h_3
    have h := h_4
    rw [callW_eq] at h
    refine run_sound (r := r) (X := X) (cc := cX4_priceLed) (own := RX4) (tab := tX4_priceLed) G (by rw [hn]; exact kX4_priceLed) (oI := (oF [(mX4_isLed N)])) (oL := (oF [])) (oV := (oF [])) (rI := (fun x w => some (x, w))) (rL := (fun _ _ => none)) (rV := (fun _ => none))
      (K := (fun j ls st w => if j = 4 then (lgI ls 3 fun v3 => lgI ls 4 fun v4 => st0 st (callW (fX4_priceLed_4 N i0 a1 a2 N v3 v4) w)) else none)) (fun x w pc ls hx hd => hr x w pc ls (Option.some.inj hx) hd) (fun _ _ _ _ hx => by cases hx) (fun _ _ _ hx => by cases hx) hC (fun ls => lsb [some (.inr (.inr (8, i0))), some (.inl a1), some (.inl a2), none, none] 0 ls) (keepsP_of rfl) ?_ 32 0 [some (.inr (.inr (8, i0))), some (.inl a1), some (.inl a2), none, none] [] w ?_ h
    · intro j ls st w hfx h
      obtain ⟨e0, e1, e2, -⟩ : _ = _ ∧ _ = _ ∧ _ = _ ∧ True := hfx
      try dsimp only at h
      by_cases hj : j = 4
      · subst hj
        rw [if_pos rfl] at h
        obtain ⟨v3, e3, h_1⟩ := lgI_some h
        obtain ⟨v4, e4, h_2⟩ := lgI_some h_1
        obtain ⟨rfl, h_3⟩ := st0_some h_2
        clear h h_1 h_2
        have h := h_3
        try rw [callW_eq] at h
        exact WW.le (a := [some (.inr (.inr (8, i0))), some (.inl a1), some (.inl a2), some (.inl v3), some (.inl v4)]) (by rw [hn]; rfl) (show _ = _ ∧ _ = _ ∧ _ = _ ∧ _ = _ ∧ _ = _ ∧ True from ⟨e0, e1, e2, e3, e4, trivial⟩) (sX4_priceLed_4 G hn hC hr i0 a1 a2 N v3 v4 w h)
      rw [if_neg hj] at h
      cases h
    · exact (show _ = _ ∧ _ = _ ∧ _ = _ ∧ True from ⟨rfl, rfl, rfl, trivial⟩)
-- MoorGuides$Ordering.drop()V
def tX5_drop : List EN := [
  (0, .aload_n 0, 0, 0, 0, 0, 0, []), (1, .iconst (-1), 0, 0, 0, (-1), 0, []), (2, .putfield 9, 0, 5, 1, 0, 0, []), (5, .return_, 0, 0, 0, 0, 0, [])]
noncomputable def pX5_drop (N : Nat) (w : Wd) : Option (Wd) :=
  some (setI w 9 0 1 (-1 : Int32))
noncomputable def mX5_drop (N : Nat) (as : List AV) (w : Wd) : Option (Wd) := xS1 9 as fun t => xN1 t (callW (pX5_drop N) w)
set_option maxRecDepth 100000 in
set_option maxHeartbeats 4000000 in
theorem kX5_drop : TK cX5_drop RX5 1 tX5_drop := ⟨by decide +kernel, wok_of [637] (by decide +kernel) (by decide +kernel)⟩
set_option maxRecDepth 100000 in
set_option maxHeartbeats 4000000 in
theorem crX5_drop {N : Nat} {X : XT} (G : GX X cX5_drop RX5) (hR : xR X = rmL 1) : CRs X tX5_drop (oF []) (oF []) (oF []) := by
  have hl : tX5_drop.filter isInv = [] := rfl
  intro e he
  rw [hl] at he
  cases he
set_option maxRecDepth 100000 in
set_option maxHeartbeats 4000000 in
theorem MX5_drop (N : Nat) : SndV yX5_drop cX5_drop 1 none 1 1 true (mX5_drop N) := by
  refine SndV.of tX5_drop (by decide +kernel) rfl rfl ?_ ?_
  · intro as w x h
    obtain ⟨t1, rfl, h_1⟩ := xS1_some h
    obtain ⟨rfl, h_2⟩ := xN1_some h_1
    clear h h_1
    have h := h_2
    rw [callW_eq] at h
    exact ⟨fun _ => ⟨_, _, _, rfl, rfl, _, rfl, rfl⟩, rfl, Nat.le_of_ble_eq_true rfl⟩
  · intro X G hn hR as w r h hr
    have hC := crX5_drop (N := N) G hR
    obtain ⟨t1, rfl, h_1⟩ := xS1_some h
    obtain ⟨rfl, h_2⟩ := xN1_some h_1
    clear h h_1
    have h := h_2
    rw [callW_eq] at h
    refine run_sound (r := r) (X := X) (cc := cX5_drop) (own := RX5) (tab := tX5_drop) G (by rw [hn]; exact kX5_drop) (oI := (oF [])) (oL := (oF [])) (oV := (oF [])) (rI := (fun _ _ => none)) (rL := (fun _ _ => none)) (rV := (fun w => some w))
      (K := (fun j ls st w => none)) (fun _ _ _ _ hx => by cases hx) (fun _ _ _ _ hx => by cases hx) (fun w pc ls hx hd => hr w pc ls (Option.some.inj hx) hd) hC (fun ls => lsb [some (.inr (.inr (9, 0)))] 0 ls) (keepsP_of rfl) ?_ 6 0 [some (.inr (.inr (9, 0)))] [] w ?_ h
    · intro j ls st w hfx h
      obtain ⟨e0, -⟩ : _ = _ ∧ True := hfx
      try dsimp only at h
      cases h
    · exact (show _ = _ ∧ True from ⟨rfl, trivial⟩)
-- MoorGuides$Ordering.freshAt(I)I
def tX5_freshAt : List EN := [
  (0, .iconst 0, 0, 0, 0, 0, 0, []), (1, .istore_n 2, 0, 0, 0, 0, 0, []), (2, .iconst 0, 0, 0, 0, 0, 0, []), (3, .istore_n 3, 0, 0, 0, 0, 0, []),
  (4, .iload_n 3, 5, 0, 0, 0, 0, []), (5, .iload_n 1, 0, 0, 0, 0, 0, []), (6, .if_icmp .ge 22, 0, 16, 0, 0, 0, []), (9, .aload_n 0, 0, 0, 0, 0, 0, []),
  (10, .getfield 27, 0, 5, 6, 0, 0, []), (13, .iload_n 3, 0, 0, 0, 0, 0, []), (14, .iaload, 0, 0, 0, 0, 0, []), (15, .iload_n 1, 0, 0, 0, 0, 0, []),
  (16, .if_icmp .lt 6, 0, 14, 0, 0, 0, []), (19, .iinc 2 1, 0, 0, 0, 1, 0, []), (22, .iinc 3 1, 0, 0, 0, 1, 0, []), (25, .goto (-21), 0, 4, 0, 0, 0, []),
  (28, .iload_n 2, 0, 0, 0, 0, 0, []), (29, .ireturn, 0, 0, 0, 0, 0, [])]
noncomputable def fX5_freshAt_4 (N : Nat) (a1 : Int32) : Nat → Int32 → Int32 → Wd → Option (Int32 × Wd)
  | 0, _, _, _ => none
  | n + 1, v2, v3, w =>
    if v3 < a1 then
      (ldI w 44 0 v3 8).bind fun x1 =>
      if x1 < a1 then callW (fX5_freshAt_4 N a1 n v2 (v3 + (1 : Int32))) w else
      callW (fX5_freshAt_4 N a1 n (v2 + (1 : Int32)) (v3 + (1 : Int32))) w
    else
    some (v2, w)
noncomputable def pX5_freshAt (N : Nat) (a1 : Int32) (w : Wd) : Option (Int32 × Wd) :=
  callW (fX5_freshAt_4 N a1 N (0 : Int32) (0 : Int32)) w
noncomputable def mX5_freshAt (N : Nat) (as : List AV) (w : Wd) : Option (Int32 × Wd) := xS1 9 as fun t => xI1 t fun a1 t => xN1 t (callW (pX5_freshAt N a1) w)
set_option maxRecDepth 100000 in
set_option maxHeartbeats 4000000 in
theorem kX5_freshAt : TK cX5_freshAt RX5 4 tX5_freshAt := ⟨by decide +kernel, wok_of [642] (by decide +kernel) (by decide +kernel)⟩
set_option maxRecDepth 100000 in
set_option maxHeartbeats 4000000 in
theorem sX5_freshAt_4 {N : Nat} {X : XT} (G : GX X cX5_freshAt RX5) (hn : xnL X = 4) (hC : CRs X tX5_freshAt (oF []) (oF []) (oF [])) {r : Int32 × Wd} (hr : RTI X cX5_freshAt r) (a1 : Int32) : ∀ (n : Nat) (v2 : Int32) (v3 : Int32) (w : Wd), fX5_freshAt_4 N a1 n v2 v3 w = some r → WW X (pcAt tX5_freshAt 4) [some (.inr (.inr (9, 0))), some (.inl a1), some (.inl v2), some (.inl v3)] [] w := by
  intro n
  induction n with
  | zero => intro v2 v3 w h; cases h
  | succ n ih =>
    intro v2 v3 w h
    refine run_sound (r := r) (X := X) (cc := cX5_freshAt) (own := RX5) (tab := tX5_freshAt) G (by rw [hn]; exact kX5_freshAt) (oI := (oF [])) (oL := (oF [])) (oV := (oF [])) (rI := (fun x w => some (x, w))) (rL := (fun _ _ => none)) (rV := (fun _ => none))
      (K := (fun j ls st w => if j = 4 then (lgI ls 2 fun v2 => lgI ls 3 fun v3 => st0 st (callW (fX5_freshAt_4 N a1 n v2 v3) w)) else none)) (fun x w pc ls hx hd => hr x w pc ls (Option.some.inj hx) hd) (fun _ _ _ _ hx => by cases hx) (fun _ _ _ hx => by cases hx) hC (fun ls => lsb [some (.inr (.inr (9, 0))), some (.inl a1), none, none] 0 ls) (keepsP_of rfl) ?_ 20 4 [some (.inr (.inr (9, 0))), some (.inl a1), some (.inl v2), some (.inl v3)] [] w ?_ h
    · intro j ls st w hfx h
      obtain ⟨e0, e1, -⟩ : _ = _ ∧ _ = _ ∧ True := hfx
      try dsimp only at h
      by_cases hj : j = 4
      · subst hj
        rw [if_pos rfl] at h
        obtain ⟨v2, e2, h_1⟩ := lgI_some h
        obtain ⟨v3, e3, h_2⟩ := lgI_some h_1
        obtain ⟨rfl, h_3⟩ := st0_some h_2
        clear h h_1 h_2
        have h := h_3
        try rw [callW_eq] at h
        exact WW.le (a := [some (.inr (.inr (9, 0))), some (.inl a1), some (.inl v2), some (.inl v3)]) (by rw [hn]; rfl) (show _ = _ ∧ _ = _ ∧ _ = _ ∧ _ = _ ∧ True from ⟨e0, e1, e2, e3, trivial⟩) (ih v2 v3 w h)
      rw [if_neg hj] at h
      cases h
    · exact (show _ = _ ∧ _ = _ ∧ True from ⟨rfl, rfl, trivial⟩)
set_option maxRecDepth 100000 in
set_option maxHeartbeats 4000000 in
theorem crX5_freshAt {N : Nat} {X : XT} (G : GX X cX5_freshAt RX5) (hR : xR X = rmL 1) : CRs X tX5_freshAt (oF []) (oF []) (oF []) := by
  have hl : tX5_freshAt.filter isInv = [] := rfl
  intro e he
  rw [hl] at he
  cases he
set_option maxRecDepth 100000 in
set_option maxHeartbeats 4000000 in
theorem MX5_freshAt (N : Nat) : SndI yX5_freshAt cX5_freshAt 4 (some .int) 1 2 true (mX5_freshAt N) := by
  refine SndI.of tX5_freshAt (by decide +kernel) rfl rfl ?_ ?_
  · intro as w x h
    obtain ⟨t1, rfl, h_1⟩ := xS1_some h
    obtain ⟨a1, t2, rfl, h_2⟩ := xI1_some h_1
    obtain ⟨rfl, h_3⟩ := xN1_some h_2
    clear h h_1 h_2
    have h := h_3
    rw [callW_eq] at h
    exact ⟨fun _ => ⟨_, _, _, rfl, rfl, _, rfl, rfl⟩, rfl, Nat.le_of_ble_eq_true rfl⟩
  · intro X G hn hR as w r h hr
    have hC := crX5_freshAt (N := N) G hR
    obtain ⟨t1, rfl, h_1⟩ := xS1_some h
    obtain ⟨a1, t2, rfl, h_2⟩ := xI1_some h_1
    obtain ⟨rfl, h_3⟩ := xN1_some h_2
    clear h h_1 h_2
    have h := h_3
    rw [callW_eq] at h
    refine run_sound (r := r) (X := X) (cc := cX5_freshAt) (own := RX5) (tab := tX5_freshAt) G (by rw [hn]; exact kX5_freshAt) (oI := (oF [])) (oL := (oF [])) (oV := (oF [])) (rI := (fun x w => some (x, w))) (rL := (fun _ _ => none)) (rV := (fun _ => none))
      (K := (fun j ls st w => if j = 4 then (lgI ls 2 fun v2 => lgI ls 3 fun v3 => st0 st (callW (fX5_freshAt_4 N a1 N v2 v3) w)) else none)) (fun x w pc ls hx hd => hr x w pc ls (Option.some.inj hx) hd) (fun _ _ _ _ hx => by cases hx) (fun _ _ _ hx => by cases hx) hC (fun ls => lsb [some (.inr (.inr (9, 0))), some (.inl a1), none, none] 0 ls) (keepsP_of rfl) ?_ 20 0 [some (.inr (.inr (9, 0))), some (.inl a1), none, none] [] w ?_ h
    · intro j ls st w hfx h
      obtain ⟨e0, e1, -⟩ : _ = _ ∧ _ = _ ∧ True := hfx
      try dsimp only at h
      by_cases hj : j = 4
      · subst hj
        rw [if_pos rfl] at h
        obtain ⟨v2, e2, h_1⟩ := lgI_some h
        obtain ⟨v3, e3, h_2⟩ := lgI_some h_1
        obtain ⟨rfl, h_3⟩ := st0_some h_2
        clear h h_1 h_2
        have h := h_3
        try rw [callW_eq] at h
        exact WW.le (a := [some (.inr (.inr (9, 0))), some (.inl a1), some (.inl v2), some (.inl v3)]) (by rw [hn]; rfl) (show _ = _ ∧ _ = _ ∧ _ = _ ∧ _ = _ ∧ True from ⟨e0, e1, e2, e3, trivial⟩) (sX5_freshAt_4 G hn hC hr a1 N v2 v3 w h)
      rw [if_neg hj] at h
      cases h
    · exact (show _ = _ ∧ _ = _ ∧ True from ⟨rfl, rfl, trivial⟩)
-- MoorGuides$Ordering.slot(III)I
def tX5_slot : List EN := [
  (0, .iload_n 0, 0, 0, 0, 0, 0, []), (1, .bipush 8, 0, 0, 0, 8, 0, []), (3, .imul, 0, 0, 0, 0, 0, []), (4, .iload_n 1, 0, 0, 0, 0, 0, []),
  (5, .iadd, 0, 0, 0, 0, 0, []), (6, .bipush 9, 0, 0, 0, 9, 0, []), (8, .imul, 0, 0, 0, 0, 0, []), (9, .iload_n 2, 0, 0, 0, 0, 0, []),
  (10, .iadd, 0, 0, 0, 0, 0, []), (11, .ireturn, 0, 0, 0, 0, 0, [])]
noncomputable def pX5_slot (N : Nat) (a0 : Int32) (a1 : Int32) (a2 : Int32) (w : Wd) : Option (Int32 × Wd) :=
  some (((((a0 * (8 : Int32)) + a1) * (9 : Int32)) + a2), w)
noncomputable def mX5_slot (N : Nat) (as : List AV) (w : Wd) : Option (Int32 × Wd) := xI1 as fun a0 t => xI1 t fun a1 t => xI1 t fun a2 t => xN1 t (callW (pX5_slot N a0 a1 a2) w)
set_option maxRecDepth 100000 in
set_option maxHeartbeats 4000000 in
theorem kX5_slot : TK cX5_slot RX5 3 tX5_slot := ⟨by decide +kernel, wok_of [] (by decide +kernel) (by decide +kernel)⟩
set_option maxRecDepth 100000 in
set_option maxHeartbeats 4000000 in
theorem crX5_slot {N : Nat} {X : XT} (G : GX X cX5_slot RX5) (hR : xR X = rmL 1) : CRs X tX5_slot (oF []) (oF []) (oF []) := by
  have hl : tX5_slot.filter isInv = [] := rfl
  intro e he
  rw [hl] at he
  cases he
set_option maxRecDepth 100000 in
set_option maxHeartbeats 4000000 in
theorem MX5_slot (N : Nat) : SndI yX5_slot cX5_slot 3 (some .int) 1 3 false (mX5_slot N) := by
  refine SndI.of tX5_slot (by decide +kernel) rfl rfl ?_ ?_
  · intro as w x h
    obtain ⟨a0, t1, rfl, h_1⟩ := xI1_some h
    obtain ⟨a1, t2, rfl, h_2⟩ := xI1_some h_1
    obtain ⟨a2, t3, rfl, h_3⟩ := xI1_some h_2
    obtain ⟨rfl, h_4⟩ := xN1_some h_3
    clear h h_1 h_2 h_3
    have h := h_4
    rw [callW_eq] at h
    exact ⟨(fun z => by cases z), rfl, Nat.le_of_ble_eq_true rfl⟩
  · intro X G hn hR as w r h hr
    have hC := crX5_slot (N := N) G hR
    obtain ⟨a0, t1, rfl, h_1⟩ := xI1_some h
    obtain ⟨a1, t2, rfl, h_2⟩ := xI1_some h_1
    obtain ⟨a2, t3, rfl, h_3⟩ := xI1_some h_2
    obtain ⟨rfl, h_4⟩ := xN1_some h_3
    clear h h_1 h_2 h_3
    have h := h_4
    rw [callW_eq] at h
    refine run_sound (r := r) (X := X) (cc := cX5_slot) (own := RX5) (tab := tX5_slot) G (by rw [hn]; exact kX5_slot) (oI := (oF [])) (oL := (oF [])) (oV := (oF [])) (rI := (fun x w => some (x, w))) (rL := (fun _ _ => none)) (rV := (fun _ => none))
      (K := (fun j ls st w => none)) (fun x w pc ls hx hd => hr x w pc ls (Option.some.inj hx) hd) (fun _ _ _ _ hx => by cases hx) (fun _ _ _ hx => by cases hx) hC (fun ls => lsb [some (.inl a0), some (.inl a1), some (.inl a2)] 0 ls) (keepsP_of rfl) ?_ 12 0 [some (.inl a0), some (.inl a1), some (.inl a2)] [] w ?_ h
    · intro j ls st w hfx h
      obtain ⟨e0, e1, e2, -⟩ : _ = _ ∧ _ = _ ∧ _ = _ ∧ True := hfx
      try dsimp only at h
      cases h
    · exact (show _ = _ ∧ _ = _ ∧ _ = _ ∧ True from ⟨rfl, rfl, rfl, trivial⟩)
-- java/lang/Math.max(II)I
def tJ9_max_7cf53 : List EN := [
  (0, .iload_n 0, 0, 0, 0, 0, 0, []), (1, .iload_n 1, 0, 0, 0, 0, 0, []), (2, .if_icmp .lt 7, 0, 5, 0, 0, 0, []), (5, .iload_n 0, 0, 0, 0, 0, 0, []),
  (6, .goto 4, 0, 6, 0, 0, 0, []), (9, .iload_n 1, 0, 0, 0, 0, 0, []), (10, .ireturn, 0, 0, 0, 0, 0, [])]
noncomputable def pJ9_max_7cf53 (N : Nat) (a0 : Int32) (a1 : Int32) (w : Wd) : Option (Int32 × Wd) :=
  if a0 < a1 then some (a1, w) else
  some (a0, w)
noncomputable def mJ9_max_7cf53 (N : Nat) (as : List AV) (w : Wd) : Option (Int32 × Wd) := xI1 as fun a0 t => xI1 t fun a1 t => xN1 t (callW (pJ9_max_7cf53 N a0 a1) w)
set_option maxRecDepth 100000 in
set_option maxHeartbeats 4000000 in
theorem kJ9_max_7cf53 : TK cJ9_max_7cf53 RJ9 2 tJ9_max_7cf53 := ⟨by decide +kernel, wok_of [] (by decide +kernel) (by decide +kernel)⟩
set_option maxRecDepth 100000 in
set_option maxHeartbeats 4000000 in
theorem crJ9_max_7cf53 {N : Nat} {X : XT} (G : GX X cJ9_max_7cf53 RJ9) (hR : xR X = rmL 1) : CRs X tJ9_max_7cf53 (oF []) (oF []) (oF []) := by
  have hl : tJ9_max_7cf53.filter isInv = [] := rfl
  intro e he
  rw [hl] at he
  cases he
set_option maxRecDepth 100000 in
set_option maxHeartbeats 4000000 in
theorem MJ9_max_7cf53 (N : Nat) : SndI yJ9_max_7cf53 cJ9_max_7cf53 2 (some .int) 1 2 false (mJ9_max_7cf53 N) := by
  refine SndI.of tJ9_max_7cf53 (by decide +kernel) rfl rfl ?_ ?_
  · intro as w x h
    obtain ⟨a0, t1, rfl, h_1⟩ := xI1_some h
    obtain ⟨a1, t2, rfl, h_2⟩ := xI1_some h_1
    obtain ⟨rfl, h_3⟩ := xN1_some h_2
    clear h h_1 h_2
    have h := h_3
    rw [callW_eq] at h
    exact ⟨(fun z => by cases z), rfl, Nat.le_of_ble_eq_true rfl⟩
  · intro X G hn hR as w r h hr
    have hC := crJ9_max_7cf53 (N := N) G hR
    obtain ⟨a0, t1, rfl, h_1⟩ := xI1_some h
    obtain ⟨a1, t2, rfl, h_2⟩ := xI1_some h_1
    obtain ⟨rfl, h_3⟩ := xN1_some h_2
    clear h h_1 h_2
    have h := h_3
    rw [callW_eq] at h
    refine run_sound (r := r) (X := X) (cc := cJ9_max_7cf53) (own := RJ9) (tab := tJ9_max_7cf53) G (by rw [hn]; exact kJ9_max_7cf53) (oI := (oF [])) (oL := (oF [])) (oV := (oF [])) (rI := (fun x w => some (x, w))) (rL := (fun _ _ => none)) (rV := (fun _ => none))
      (K := (fun j ls st w => none)) (fun x w pc ls hx hd => hr x w pc ls (Option.some.inj hx) hd) (fun _ _ _ _ hx => by cases hx) (fun _ _ _ hx => by cases hx) hC (fun ls => lsb [some (.inl a0), some (.inl a1)] 0 ls) (keepsP_of rfl) ?_ 9 0 [some (.inl a0), some (.inl a1)] [] w ?_ h
    · intro j ls st w hfx h
      obtain ⟨e0, e1, -⟩ : _ = _ ∧ _ = _ ∧ True := hfx
      try dsimp only at h
      cases h
    · exact (show _ = _ ∧ _ = _ ∧ True from ⟨rfl, rfl, trivial⟩)
-- MoorGuides$Ordering.chanceAtMost(IIII)J
def tX5_chanceAtMost : List EN := [
  (0, .iconst 0, 0, 0, 0, 0, 0, []), (1, .istore 5, 0, 0, 0, 0, 0, []), (3, .iload_n 3, 0, 0, 0, 0, 0, []), (4, .istore 6, 0, 0, 0, 0, 0, []),
  (6, .iload 6, 5, 0, 0, 0, 0, []), (8, .iload 4, 0, 0, 0, 0, 0, []), (10, .if_icmp .gt 28, 0, 19, 0, 0, 0, []), (13, .iload 5, 0, 0, 0, 0, 0, []),
  (15, .aload_n 0, 0, 0, 0, 0, 0, []), (16, .getfield 15, 0, 5, 3, 0, 0, []), (19, .iload_n 1, 0, 0, 0, 0, 0, []), (20, .iload_n 2, 0, 0, 0, 0, 0, []),
  (21, .iload 6, 0, 0, 0, 0, 0, []), (23, .invokestatic 114, 0, 0, 3, 0, 0, []), (26, .iaload, 0, 0, 0, 0, 0, []), (27, .invokestatic 104, 0, 1, 2, 0, 0, []),
  (30, .istore 5, 0, 0, 0, 0, 0, []), (32, .iinc 6 1, 0, 0, 0, 1, 0, []), (35, .goto (-29), 0, 4, 0, 0, 0, []), (38, .iload 5, 20, 0, 0, 0, 0, []),
  (40, .i2l, 0, 0, 0, 0, 0, []), (41, .lreturn, 0, 0, 0, 0, 0, [])]
noncomputable def fX5_chanceAtMost_19 (N : Nat) (v5 : Int32) (w : Wd) : Option (Int64 × Wd) :=
  some (v5.toInt64, w)
noncomputable def fX5_chanceAtMost_4 (N : Nat) (a1 : Int32) (a2 : Int32) (a4 : Int32) : Nat → (Int32 → Wd → Option (Int64 × Wd)) → Int32 → Int32 → Wd → Option (Int64 × Wd)
  | 0, _, _, _, _ => none
  | n + 1, k19, v5, v6, w =>
    if a4 < v6 then k19 v5 w else
    (callW (pX5_slot N a1 a2 v6) w).bind fun r1 =>
    (ldI r1.2 40 0 r1.1 576).bind fun x2 =>
    (callW (pJ9_max_7cf53 N v5 x2) r1.2).bind fun r3 =>
    callW (fX5_chanceAtMost_4 N a1 a2 a4 n k19 r3.1 (v6 + (1 : Int32))) r3.2
noncomputable def pX5_chanceAtMost (N : Nat) (a1 : Int32) (a2 : Int32) (a3 : Int32) (a4 : Int32) (w : Wd) : Option (Int64 × Wd) :=
  callW (fX5_chanceAtMost_4 N a1 a2 a4 N (fX5_chanceAtMost_19 N) (0 : Int32) a3) w
noncomputable def mX5_chanceAtMost (N : Nat) (as : List AV) (w : Wd) : Option (Int64 × Wd) := xS1 9 as fun t => xI1 t fun a1 t => xI1 t fun a2 t => xI1 t fun a3 t => xI1 t fun a4 t => xN1 t (callW (pX5_chanceAtMost N a1 a2 a3 a4) w)
set_option maxRecDepth 100000 in
set_option maxHeartbeats 4000000 in
theorem kX5_chanceAtMost : TK cX5_chanceAtMost RX5 7 tX5_chanceAtMost := ⟨by decide +kernel, wok_of [639] (by decide +kernel) (by decide +kernel)⟩
set_option maxRecDepth 100000 in
set_option maxHeartbeats 4000000 in
theorem sX5_chanceAtMost_19 {N : Nat} {X : XT} (G : GX X cX5_chanceAtMost RX5) (hn : xnL X = 7) (hC : CRs X tX5_chanceAtMost (oF [(mX5_slot N), (mJ9_max_7cf53 N)]) (oF []) (oF [])) {r : Int64 × Wd} (hr : RTL X cX5_chanceAtMost r) (a1 : Int32) (a2 : Int32) (a3 : Int32) (a4 : Int32) : ∀ (v5 : Int32) (w : Wd), fX5_chanceAtMost_19 N v5 w = some r → WW X (pcAt tX5_chanceAtMost 19) [some (.inr (.inr (9, 0))), some (.inl a1), some (.inl a2), some (.inl a3), some (.inl a4), some (.inl v5), none] [] w := by
  intro v5 w h
  refine run_sound (r := r) (X := X) (cc := cX5_chanceAtMost) (own := RX5) (tab := tX5_chanceAtMost) G (by rw [hn]; exact kX5_chanceAtMost) (oI := (oF [(mX5_slot N), (mJ9_max_7cf53 N)])) (oL := (oF [])) (oV := (oF [])) (rI := (fun _ _ => none)) (rL := (fun x w => some (x, w))) (rV := (fun _ => none))
    (K := (fun j ls st w => none)) (fun _ _ _ _ hx => by cases hx) (fun x w pc ls hx hd => hr x w pc ls (Option.some.inj hx) hd) (fun _ _ _ hx => by cases hx) hC (fun ls => lsb [some (.inr (.inr (9, 0))), some (.inl a1), some (.inl a2), some (.inl a3), some (.inl a4), none, none] 0 ls) (keepsP_of rfl) ?_ 24 19 [some (.inr (.inr (9, 0))), some (.inl a1), some (.inl a2), some (.inl a3), some (.inl a4), some (.inl v5), none] [] w ?_ h
  · intro j ls st w hfx h
    obtain ⟨e0, e1, e2, e3, e4, -⟩ : _ = _ ∧ _ = _ ∧ _ = _ ∧ _ = _ ∧ _ = _ ∧ True := hfx
    try dsimp only at h
    cases h
  · exact (show _ = _ ∧ _ = _ ∧ _ = _ ∧ _ = _ ∧ _ = _ ∧ True from ⟨rfl, rfl, rfl, rfl, rfl, trivial⟩)
set_option maxRecDepth 100000 in
set_option maxHeartbeats 4000000 in
theorem sX5_chanceAtMost_4 {N : Nat} {X : XT} (G : GX X cX5_chanceAtMost RX5) (hn : xnL X = 7) (hC : CRs X tX5_chanceAtMost (oF [(mX5_slot N), (mJ9_max_7cf53 N)]) (oF []) (oF [])) {r : Int64 × Wd} (hr : RTL X cX5_chanceAtMost r) (a1 : Int32) (a2 : Int32) (a3 : Int32) (a4 : Int32) : ∀ (n : Nat) (k19 : Int32 → Wd → Option (Int64 × Wd)) (v5 : Int32) (v6 : Int32) (w : Wd), fX5_chanceAtMost_4 N a1 a2 a4 n k19 v5 v6 w = some r → (∀ (v5 : Int32) (w : Wd), k19 v5 w = some r → WW X (pcAt tX5_chanceAtMost 19) [some (.inr (.inr (9, 0))), some (.inl a1), some (.inl a2), some (.inl a3), some (.inl a4), some (.inl v5), none] [] w) → WW X (pcAt tX5_chanceAtMost 4) [some (.inr (.inr (9, 0))), some (.inl a1), some (.inl a2), some (.inl a3), some (.inl a4), some (.inl v5), some (.inl v6)] [] w := by
  intro n
  induction n with
  | zero => intro k19 v5 v6 w h h19; cases h
  | succ n ih =>
    intro k19 v5 v6 w h h19
    refine run_sound (r := r) (X := X) (cc := cX5_chanceAtMost) (own := RX5) (tab := tX5_chanceAtMost) G (by rw [hn]; exact kX5_chanceAtMost) (oI := (oF [(mX5_slot N), (mJ9_max_7cf53 N)])) (oL := (oF [])) (oV := (oF [])) (rI := (fun _ _ => none)) (rL := (fun x w => some (x, w))) (rV := (fun _ => none))
      (K := (fun j ls st w => if j = 4 then (lgI ls 5 fun v5 => lgI ls 6 fun v6 => st0 st (callW (fX5_chanceAtMost_4 N a1 a2 a4 n k19 v5 v6) w)) else if j = 19 then (lgI ls 5 fun v5 => st0 st (k19 v5 w)) else none)) (fun _ _ _ _ hx => by cases hx) (fun x w pc ls hx hd => hr x w pc ls (Option.some.inj hx) hd) (fun _ _ _ hx => by cases hx) hC (fun ls => lsb [some (.inr (.inr (9, 0))), some (.inl a1), some (.inl a2), some (.inl a3), some (.inl a4), none, none] 0 ls) (keepsP_of rfl) ?_ 24 4 [some (.inr (.inr (9, 0))), some (.inl a1), some (.inl a2), some (.inl a3), some (.inl a4), some (.inl v5), some (.inl v6)] [] w ?_ h
    · intro j ls st w hfx h
      obtain ⟨e0, e1, e2, e3, e4, -⟩ : _ = _ ∧ _ = _ ∧ _ = _ ∧ _ = _ ∧ _ = _ ∧ True := hfx
      try dsimp only at h
      by_cases hj : j = 4
      · subst hj
        rw [if_pos rfl] at h
        obtain ⟨v5, e5, h_1⟩ := lgI_some h
        obtain ⟨v6, e6, h_2⟩ := lgI_some h_1
        obtain ⟨rfl, h_3⟩ := st0_some h_2
        clear h h_1 h_2
        have h := h_3
        try rw [callW_eq] at h
        exact WW.le (a := [some (.inr (.inr (9, 0))), some (.inl a1), some (.inl a2), some (.inl a3), some (.inl a4), some (.inl v5), some (.inl v6)]) (by rw [hn]; rfl) (show _ = _ ∧ _ = _ ∧ _ = _ ∧ _ = _ ∧ _ = _ ∧ _ = _ ∧ _ = _ ∧ True from ⟨e0, e1, e2, e3, e4, e5, e6, trivial⟩) (ih k19 v5 v6 w h h19)
      rw [if_neg hj] at h
      by_cases hj : j = 19
      · subst hj
        rw [if_pos rfl] at h
        obtain ⟨v5, e5, h_1⟩ := lgI_some h
        obtain ⟨rfl, h_2⟩ := st0_some h_1
        clear h h_1
        have h := h_2
        try rw [callW_eq] at h
        exact WW.le (a := [some (.inr (.inr (9, 0))), some (.inl a1), some (.inl a2), some (.inl a3), some (.inl a4), some (.inl v5), none]) (by rw [hn]; rfl) (show _ = _ ∧ _ = _ ∧ _ = _ ∧ _ = _ ∧ _ = _ ∧ _ = _ ∧ True from ⟨e0, e1, e2, e3, e4, e5, trivial⟩) (h19 v5 w h)
      rw [if_neg hj] at h
      cases h
    · exact (show _ = _ ∧ _ = _ ∧ _ = _ ∧ _ = _ ∧ _ = _ ∧ True from ⟨rfl, rfl, rfl, rfl, rfl, trivial⟩)
set_option maxRecDepth 100000 in
set_option maxHeartbeats 4000000 in
theorem crX5_chanceAtMost {N : Nat} {X : XT} (G : GX X cX5_chanceAtMost RX5) (hR : xR X = rmL 2) : CRs X tX5_chanceAtMost (oF [(mX5_slot N), (mJ9_max_7cf53 N)]) (oF []) (oF []) := by
  have hl : tX5_chanceAtMost.filter isInv = [(23, .invokestatic 114, 0, 0, 3, 0, 0, []), (27, .invokestatic 104, 0, 1, 2, 0, 0, [])] := rfl
  intro e he
  rw [hl] at he
  simp only [List.mem_cons, List.not_mem_nil, or_false] at he
  rcases he with rfl | rfl
  · exact crI_S (idx := 114) G (by decide +kernel) (MX5_slot N) (cw_of (ps := [1322, 1323, 161, 1324]) (by decide +kernel) (by decide +kernel)) ⟨by decide +kernel, by decide +kernel, by decide +kernel⟩ (by unfold rmOk; rw [hR]; exact ⟨by decide, by decide⟩)
  · exact crI_S (idx := 104) G (by decide +kernel) (MJ9_max_7cf53 N) (cw_of (ps := [1317, 985, 165, 986]) (by decide +kernel) (by decide +kernel)) ⟨by decide +kernel, by decide +kernel, by decide +kernel⟩ (by unfold rmOk; rw [hR]; exact ⟨by decide, by decide⟩)
set_option maxRecDepth 100000 in
set_option maxHeartbeats 4000000 in
theorem MX5_chanceAtMost (N : Nat) : SndL yX5_chanceAtMost cX5_chanceAtMost 7 (some .long) 2 5 true (mX5_chanceAtMost N) := by
  refine SndL.of tX5_chanceAtMost (by decide +kernel) rfl rfl ?_ ?_
  · intro as w x h
    obtain ⟨t1, rfl, h_1⟩ := xS1_some h
    obtain ⟨a1, t2, rfl, h_2⟩ := xI1_some h_1
    obtain ⟨a2, t3, rfl, h_3⟩ := xI1_some h_2
    obtain ⟨a3, t4, rfl, h_4⟩ := xI1_some h_3
    obtain ⟨a4, t5, rfl, h_5⟩ := xI1_some h_4
    obtain ⟨rfl, h_6⟩ := xN1_some h_5
    clear h h_1 h_2 h_3 h_4 h_5
    have h := h_6
    rw [callW_eq] at h
    exact ⟨fun _ => ⟨_, _, _, rfl, rfl, _, rfl, rfl⟩, rfl, Nat.le_of_ble_eq_true rfl⟩
  · intro X G hn hR as w r h hr
    have hC := crX5_chanceAtMost (N := N) G hR
    obtain ⟨t1, rfl, h_1⟩ := xS1_some h
    obtain ⟨a1, t2, rfl, h_2⟩ := xI1_some h_1
    obtain ⟨a2, t3, rfl, h_3⟩ := xI1_some h_2
    obtain ⟨a3, t4, rfl, h_4⟩ := xI1_some h_3
    obtain ⟨a4, t5, rfl, h_5⟩ := xI1_some h_4
    obtain ⟨rfl, h_6⟩ := xN1_some h_5
    clear h h_1 h_2 h_3 h_4 h_5
    have h := h_6
    rw [callW_eq] at h
    refine run_sound (r := r) (X := X) (cc := cX5_chanceAtMost) (own := RX5) (tab := tX5_chanceAtMost) G (by rw [hn]; exact kX5_chanceAtMost) (oI := (oF [(mX5_slot N), (mJ9_max_7cf53 N)])) (oL := (oF [])) (oV := (oF [])) (rI := (fun _ _ => none)) (rL := (fun x w => some (x, w))) (rV := (fun _ => none))
      (K := (fun j ls st w => if j = 4 then (lgI ls 5 fun v5 => lgI ls 6 fun v6 => st0 st (callW (fX5_chanceAtMost_4 N a1 a2 a4 N (fX5_chanceAtMost_19 N) v5 v6) w)) else none)) (fun _ _ _ _ hx => by cases hx) (fun x w pc ls hx hd => hr x w pc ls (Option.some.inj hx) hd) (fun _ _ _ hx => by cases hx) hC (fun ls => lsb [some (.inr (.inr (9, 0))), some (.inl a1), some (.inl a2), some (.inl a3), some (.inl a4), none, none] 0 ls) (keepsP_of rfl) ?_ 24 0 [some (.inr (.inr (9, 0))), some (.inl a1), some (.inl a2), some (.inl a3), some (.inl a4), none, none] [] w ?_ h
    · intro j ls st w hfx h
      obtain ⟨e0, e1, e2, e3, e4, -⟩ : _ = _ ∧ _ = _ ∧ _ = _ ∧ _ = _ ∧ _ = _ ∧ True := hfx
      try dsimp only at h
      by_cases hj : j = 4
      · subst hj
        rw [if_pos rfl] at h
        obtain ⟨v5, e5, h_1⟩ := lgI_some h
        obtain ⟨v6, e6, h_2⟩ := lgI_some h_1
        obtain ⟨rfl, h_3⟩ := st0_some h_2
        clear h h_1 h_2
        have h := h_3
        try rw [callW_eq] at h
        exact WW.le (a := [some (.inr (.inr (9, 0))), some (.inl a1), some (.inl a2), some (.inl a3), some (.inl a4), some (.inl v5), some (.inl v6)]) (by rw [hn]; rfl) (show _ = _ ∧ _ = _ ∧ _ = _ ∧ _ = _ ∧ _ = _ ∧ _ = _ ∧ _ = _ ∧ True from ⟨e0, e1, e2, e3, e4, e5, e6, trivial⟩) (sX5_chanceAtMost_4 G hn hC hr a1 a2 a3 a4 N (fX5_chanceAtMost_19 N) v5 v6 w h (fun v5 w h => (sX5_chanceAtMost_19 G hn hC hr a1 a2 a3 a4 v5 w h)))
      rw [if_neg hj] at h
      cases h
    · exact (show _ = _ ∧ _ = _ ∧ _ = _ ∧ _ = _ ∧ _ = _ ∧ True from ⟨rfl, rfl, rfl, rfl, rfl, trivial⟩)
-- java/lang/Math.max(JJ)J
def tJ9_max_f86c9 : List EN := [
  (0, .lload_n 0, 0, 0, 0, 0, 0, []), (1, .lload_n 2, 0, 0, 0, 0, 0, []), (2, .lcmp, 0, 0, 0, 0, 0, []), (3, .ifCond .lt 7, 0, 6, 0, 0, 0, []),
  (6, .lload_n 0, 0, 0, 0, 0, 0, []), (7, .goto 4, 0, 7, 0, 0, 0, []), (10, .lload_n 2, 0, 0, 0, 0, 0, []), (11, .lreturn, 0, 0, 0, 0, 0, [])]
noncomputable def pJ9_max_f86c9 (N : Nat) (a0 : Int64) (a2 : Int64) (w : Wd) : Option (Int64 × Wd) :=
  if (lg_cmp a0 a2) < 0 then some (a2, w) else
  some (a0, w)
noncomputable def mJ9_max_f86c9 (N : Nat) (as : List AV) (w : Wd) : Option (Int64 × Wd) := xL1 as fun a0 t => xL1 t fun a2 t => xN1 t (callW (pJ9_max_f86c9 N a0 a2) w)
set_option maxRecDepth 100000 in
set_option maxHeartbeats 4000000 in
theorem kJ9_max_f86c9 : TK cJ9_max_f86c9 RJ9 4 tJ9_max_f86c9 := ⟨by decide +kernel, wok_of [] (by decide +kernel) (by decide +kernel)⟩
set_option maxRecDepth 100000 in
set_option maxHeartbeats 4000000 in
theorem crJ9_max_f86c9 {N : Nat} {X : XT} (G : GX X cJ9_max_f86c9 RJ9) (hR : xR X = rmL 1) : CRs X tJ9_max_f86c9 (oF []) (oF []) (oF []) := by
  have hl : tJ9_max_f86c9.filter isInv = [] := rfl
  intro e he
  rw [hl] at he
  cases he
set_option maxRecDepth 100000 in
set_option maxHeartbeats 4000000 in
theorem MJ9_max_f86c9 (N : Nat) : SndL yJ9_max_f86c9 cJ9_max_f86c9 4 (some .long) 1 2 false (mJ9_max_f86c9 N) := by
  refine SndL.of tJ9_max_f86c9 (by decide +kernel) rfl rfl ?_ ?_
  · intro as w x h
    obtain ⟨a0, t1, rfl, h_1⟩ := xL1_some h
    obtain ⟨a2, t2, rfl, h_2⟩ := xL1_some h_1
    obtain ⟨rfl, h_3⟩ := xN1_some h_2
    clear h h_1 h_2
    have h := h_3
    rw [callW_eq] at h
    exact ⟨(fun z => by cases z), rfl, Nat.le_of_ble_eq_true rfl⟩
  · intro X G hn hR as w r h hr
    have hC := crJ9_max_f86c9 (N := N) G hR
    obtain ⟨a0, t1, rfl, h_1⟩ := xL1_some h
    obtain ⟨a2, t2, rfl, h_2⟩ := xL1_some h_1
    obtain ⟨rfl, h_3⟩ := xN1_some h_2
    clear h h_1 h_2
    have h := h_3
    rw [callW_eq] at h
    refine run_sound (r := r) (X := X) (cc := cJ9_max_f86c9) (own := RJ9) (tab := tJ9_max_f86c9) G (by rw [hn]; exact kJ9_max_f86c9) (oI := (oF [])) (oL := (oF [])) (oV := (oF [])) (rI := (fun _ _ => none)) (rL := (fun x w => some (x, w))) (rV := (fun _ => none))
      (K := (fun j ls st w => none)) (fun _ _ _ _ hx => by cases hx) (fun x w pc ls hx hd => hr x w pc ls (Option.some.inj hx) hd) (fun _ _ _ hx => by cases hx) hC (fun ls => lsb [some (.inr (.inl a0)), none, some (.inr (.inl a2)), none] 0 ls) (keepsP_of rfl) ?_ 10 0 [some (.inr (.inl a0)), none, some (.inr (.inl a2)), none] [] w ?_ h
    · intro j ls st w hfx h
      obtain ⟨e0, e2, -⟩ : _ = _ ∧ _ = _ ∧ True := hfx
      try dsimp only at h
      cases h
    · exact (show _ = _ ∧ _ = _ ∧ True from ⟨rfl, rfl, trivial⟩)
-- MoorGuides$Ordering.mostFrom(I)J
def tX5_mostFrom : List EN := [
  (0, .iload_n 1, 0, 0, 0, 0, 0, []), (1, .invokestatic 47, 0, 0, 1, 0, 0, []), (4, .istore_n 2, 0, 0, 0, 0, 0, []), (5, .iload_n 2, 0, 0, 0, 0, 0, []),
  (6, .aload_n 0, 0, 0, 0, 0, 0, []), (7, .getfield 59, 0, 5, 12, 0, 0, []), (10, .if_icmp .lt 5, 0, 9, 0, 0, 0, []), (13, .lconst 1, 0, 0, 0, 0, 1, []),
  (14, .lreturn, 0, 0, 0, 0, 0, []), (15, .aload_n 0, 0, 0, 0, 0, 0, []), (16, .getfield 19, 0, 5, 4, 0, 0, []), (19, .iload_n 2, 0, 0, 0, 0, 0, []),
  (20, .iaload, 0, 0, 0, 0, 0, []), (21, .iload_n 1, 0, 0, 0, 0, 0, []), (22, .iconst (-1), 0, 0, 0, (-1), 0, []), (23, .ixor, 0, 0, 0, 0, 0, []),
  (24, .iand, 0, 0, 0, 0, 0, []), (25, .istore_n 3, 0, 0, 0, 0, 0, []), (26, .aload_n 0, 0, 0, 0, 0, 0, []), (27, .iload_n 2, 0, 0, 0, 0, 0, []),
  (28, .invokevirtual 124, 0, 1, 2, 0, 0, []), (31, .istore 4, 0, 0, 0, 0, 0, []), (33, .lconst 0, 0, 0, 0, 0, 0, []), (34, .lstore 5, 0, 0, 0, 0, 0, []),
  (36, .iconst 0, 0, 0, 0, 0, 0, []), (37, .istore 7, 0, 0, 0, 0, 0, []), (39, .iload 7, 27, 0, 0, 0, 0, []), (41, .aload_n 0, 0, 0, 0, 0, 0, []),
  (42, .getfield 40, 0, 5, 0, 0, 0, []), (45, .getfield 91, 0, 9, 0, 0, 0, []), (48, .getfield 95, 0, 4, 0, 0, 0, []), (51, .if_icmp .ge 110, 0, 94, 0, 0, 0, []),
  (54, .aload_n 0, 0, 0, 0, 0, 0, []), (55, .getfield 44, 0, 5, 2, 0, 0, []), (58, .iload_n 1, 0, 0, 0, 0, 0, []), (59, .iconst (-1), 0, 0, 0, (-1), 0, []),
  (60, .ixor, 0, 0, 0, 0, 0, []), (61, .iand, 0, 0, 0, 0, 0, []), (62, .iconst 1, 0, 0, 0, 1, 0, []), (63, .iload 7, 0, 0, 0, 0, 0, []),
  (65, .ishl, 0, 0, 0, 0, 0, []), (66, .iand, 0, 0, 0, 0, 0, []), (67, .ifCond .eq 88, 0, 92, 0, 0, 0, []), (70, .aload_n 0, 0, 0, 0, 0, 0, []),
  (71, .getfield 40, 0, 5, 0, 0, 0, []), (74, .getfield 91, 0, 9, 0, 0, 0, []), (77, .getfield 111, 0, 4, 3, 0, 0, []), (80, .iload 7, 0, 0, 0, 0, 0, []),
  (82, .iaload, 0, 0, 0, 0, 0, []), (83, .istore 8, 0, 0, 0, 0, 0, []), (85, .iload 8, 0, 0, 0, 0, 0, []), (87, .iload_n 3, 0, 0, 0, 0, 0, []),
  (88, .aload_n 0, 0, 0, 0, 0, 0, []), (89, .getfield 62, 0, 5, 7, 0, 0, []), (92, .iload_n 1, 0, 0, 0, 0, 0, []), (93, .iand, 0, 0, 0, 0, 0, []),
  (94, .ior, 0, 0, 0, 0, 0, []), (95, .iand, 0, 0, 0, 0, 0, []), (96, .invokestatic 47, 0, 0, 1, 0, 0, []), (99, .istore 9, 0, 0, 0, 0, 0, []),
  (101, .iload 8, 0, 0, 0, 0, 0, []), (103, .iload_n 3, 0, 0, 0, 0, 0, []), (104, .iand, 0, 0, 0, 0, 0, []), (105, .invokestatic 47, 0, 0, 1, 0, 0, []),
  (108, .iload 4, 0, 0, 0, 0, 0, []), (110, .iadd, 0, 0, 0, 0, 0, []), (111, .iload 8, 0, 0, 0, 0, 0, []), (113, .iload_n 3, 0, 0, 0, 0, 0, []),
  (114, .iload_n 1, 0, 0, 0, 0, 0, []), (115, .ior, 0, 0, 0, 0, 0, []), (116, .iand, 0, 0, 0, 0, 0, []), (117, .invokestatic 47, 0, 0, 1, 0, 0, []),
  (120, .invokestatic 53, 0, 2, 2, 0, 0, []), (123, .istore 10, 0, 0, 0, 0, 0, []), (125, .lload 5, 0, 0, 0, 0, 0, []), (127, .aload_n 0, 0, 0, 0, 0, 0, []),
  (128, .iload_n 2, 0, 0, 0, 0, 0, []), (129, .iload 7, 0, 0, 0, 0, 0, []), (131, .iload 9, 0, 0, 0, 0, 0, []), (133, .iload 10, 0, 0, 0, 0, 0, []),
  (135, .invokevirtual 127, 0, 0, 5, 0, 0, [(0, 0)]), (138, .aload_n 0, 0, 0, 0, 0, 0, []), (139, .getfield 30, 0, 5, 8, 0, 0, []), (142, .iload_n 1, 0, 0, 0, 0, 0, []),
  (143, .iconst 1, 0, 0, 0, 1, 0, []), (144, .iload 7, 0, 0, 0, 0, 0, []), (146, .ishl, 0, 0, 0, 0, 0, []), (147, .ior, 0, 0, 0, 0, 0, []),
  (148, .laload, 0, 0, 0, 0, 0, []), (149, .lmul, 0, 0, 0, 0, 0, []), (150, .invokestatic 131, 0, 1, 2, 0, 0, [(0, 0)]), (153, .lstore 5, 0, 0, 0, 0, 0, []),
  (155, .iinc 7 1, 0, 0, 0, 1, 0, []), (158, .goto (-119), 0, 26, 0, 0, 0, []), (161, .lload 5, 0, 0, 0, 0, 0, []), (163, .lreturn, 0, 0, 0, 0, 0, [])]
noncomputable def fX5_mostFrom_26 (N : Nat) (a1 : Int32) : Nat → Int32 → Int32 → Int32 → Int64 → Int32 → Wd → Option (Int64 × Wd)
  | 0, _, _, _, _, _, _ => none
  | n + 1, v2, v3, v4, v5, v7, w =>
    if v7 < (gI w 8 (gR w 13 0 0) 0) then
      if (((gI w 9 0 2) &&& (a1 ^^^ (-1 : Int32))) &&& ((1 : Int32) <<< (v7 &&& (31 : Int32)))) = 0 then callW (fX5_mostFrom_26 N a1 n v2 v3 v4 v5 (v7 + (1 : Int32))) w else
      (ldI w 32 (gR w 13 0 0) v7 8).bind fun x1 =>
      (callW (pJ6_bitCount_0f7a4 N (x1 &&& (v3 ||| ((gI w 9 0 7) &&& a1)))) w).bind fun r2 =>
      (callW (pJ6_bitCount_0f7a4 N (x1 &&& v3)) r2.2).bind fun r3 =>
      (callW (pJ6_bitCount_0f7a4 N (x1 &&& (v3 ||| a1))) r3.2).bind fun r4 =>
      (callW (pJ9_min_7cf53 N (r3.1 + v4) r4.1) r4.2).bind fun r5 =>
      (callW (pX5_chanceAtMost N v2 v7 r2.1 r5.1) r5.2).bind fun r6 =>
      (ldL r6.2 45 0 (a1 ||| ((1 : Int32) <<< (v7 &&& (31 : Int32)))) 256).bind fun x7 =>
      (callW (pJ9_max_f86c9 N v5 (r6.1 * x7)) r6.2).bind fun r8 =>
      callW (fX5_mostFrom_26 N a1 n v2 v3 v4 r8.1 (v7 + (1 : Int32))) r8.2
    else
    some (v5, w)
noncomputable def pX5_mostFrom (N : Nat) (a1 : Int32) (w : Wd) : Option (Int64 × Wd) :=
  (callW (pJ6_bitCount_0f7a4 N a1) w).bind fun r1 =>
  if r1.1 < (gI r1.2 9 0 12) then
    (ldI r1.2 41 0 r1.1 8).bind fun x2 =>
    (callW (pX5_freshAt N r1.1) r1.2).bind fun r3 =>
    callW (fX5_mostFrom_26 N a1 N r1.1 (x2 &&& (a1 ^^^ (-1 : Int32))) r3.1 (0 : Int64) (0 : Int32)) r3.2
  else
  some ((1 : Int64), r1.2)
noncomputable def mX5_mostFrom (N : Nat) (as : List AV) (w : Wd) : Option (Int64 × Wd) := xS1 9 as fun t => xI1 t fun a1 t => xN1 t (callW (pX5_mostFrom N a1) w)
set_option maxRecDepth 100000 in
set_option maxHeartbeats 4000000 in
theorem kX5_mostFrom : TK cX5_mostFrom RX5 11 tX5_mostFrom := ⟨by decide +kernel, wok_of [649, 640, 636, 520, 260, 638, 636, 520, 272, 643, 644] (by decide +kernel) (by decide +kernel)⟩
set_option maxRecDepth 100000 in
set_option maxHeartbeats 4000000 in
theorem sX5_mostFrom_26 {N : Nat} {X : XT} (G : GX X cX5_mostFrom RX5) (hn : xnL X = 11) (hC : CRs X tX5_mostFrom (oF [(mJ6_bitCount_0f7a4 N), (mX5_freshAt N), (mJ9_min_7cf53 N)]) (oF [(mX5_chanceAtMost N), (mJ9_max_f86c9 N)]) (oF [])) {r : Int64 × Wd} (hr : RTL X cX5_mostFrom r) (a1 : Int32) : ∀ (n : Nat) (v2 : Int32) (v3 : Int32) (v4 : Int32) (v5 : Int64) (v7 : Int32) (w : Wd), fX5_mostFrom_26 N a1 n v2 v3 v4 v5 v7 w = some r → WW X (pcAt tX5_mostFrom 26) [some (.inr (.inr (9, 0))), some (.inl a1), some (.inl v2), some (.inl v3), some (.inl v4), some (.inr (.inl v5)), none, some (.inl v7), none, none, none] [] w := by
  intro n
  induction n with
  | zero => intro v2 v3 v4 v5 v7 w h; cases h
  | succ n ih =>
    intro v2 v3 v4 v5 v7 w h
    refine run_sound (r := r) (X := X) (cc := cX5_mostFrom) (own := RX5) (tab := tX5_mostFrom) G (by rw [hn]; exact kX5_mostFrom) (oI := (oF [(mJ6_bitCount_0f7a4 N), (mX5_freshAt N), (mJ9_min_7cf53 N)])) (oL := (oF [(mX5_chanceAtMost N), (mJ9_max_f86c9 N)])) (oV := (oF [])) (rI := (fun _ _ => none)) (rL := (fun x w => some (x, w))) (rV := (fun _ => none))
      (K := (fun j ls st w => if j = 26 then (lgI ls 2 fun v2 => lgI ls 3 fun v3 => lgI ls 4 fun v4 => lgL ls 5 fun v5 => lgI ls 7 fun v7 => st0 st (callW (fX5_mostFrom_26 N a1 n v2 v3 v4 v5 v7) w)) else none)) (fun _ _ _ _ hx => by cases hx) (fun x w pc ls hx hd => hr x w pc ls (Option.some.inj hx) hd) (fun _ _ _ hx => by cases hx) hC (fun ls => lsb [some (.inr (.inr (9, 0))), some (.inl a1), none, none, none, none, none, none, none, none, none] 0 ls) (keepsP_of rfl) ?_ 98 26 [some (.inr (.inr (9, 0))), some (.inl a1), some (.inl v2), some (.inl v3), some (.inl v4), some (.inr (.inl v5)), none, some (.inl v7), none, none, none] [] w ?_ h
    · intro j ls st w hfx h
      obtain ⟨e0, e1, -⟩ : _ = _ ∧ _ = _ ∧ True := hfx
      try dsimp only at h
      by_cases hj : j = 26
      · subst hj
        rw [if_pos rfl] at h
        obtain ⟨v2, e2, h_1⟩ := lgI_some h
        obtain ⟨v3, e3, h_2⟩ := lgI_some h_1
        obtain ⟨v4, e4, h_3⟩ := lgI_some h_2
        obtain ⟨v5, e5, h_4⟩ := lgL_some h_3
        obtain ⟨v7, e7, h_5⟩ := lgI_some h_4
        obtain ⟨rfl, h_6⟩ := st0_some h_5
        clear h h_1 h_2 h_3 h_4 h_5
        have h := h_6
        try rw [callW_eq] at h
        exact WW.le (a := [some (.inr (.inr (9, 0))), some (.inl a1), some (.inl v2), some (.inl v3), some (.inl v4), some (.inr (.inl v5)), none, some (.inl v7), none, none, none]) (by rw [hn]; rfl) (show _ = _ ∧ _ = _ ∧ _ = _ ∧ _ = _ ∧ _ = _ ∧ _ = _ ∧ _ = _ ∧ True from ⟨e0, e1, e2, e3, e4, e5, e7, trivial⟩) (ih v2 v3 v4 v5 v7 w h)
      rw [if_neg hj] at h
      cases h
    · exact (show _ = _ ∧ _ = _ ∧ True from ⟨rfl, rfl, trivial⟩)
set_option maxRecDepth 100000 in
set_option maxHeartbeats 4000000 in
theorem crX5_mostFrom {N : Nat} {X : XT} (G : GX X cX5_mostFrom RX5) (hR : xR X = rmL 3) : CRs X tX5_mostFrom (oF [(mJ6_bitCount_0f7a4 N), (mX5_freshAt N), (mJ9_min_7cf53 N)]) (oF [(mX5_chanceAtMost N), (mJ9_max_f86c9 N)]) (oF []) := by
  have hl : tX5_mostFrom.filter isInv = [(1, .invokestatic 47, 0, 0, 1, 0, 0, []), (28, .invokevirtual 124, 0, 1, 2, 0, 0, []), (96, .invokestatic 47, 0, 0, 1, 0, 0, []), (105, .invokestatic 47, 0, 0, 1, 0, 0, []), (117, .invokestatic 47, 0, 0, 1, 0, 0, []), (120, .invokestatic 53, 0, 2, 2, 0, 0, []), (135, .invokevirtual 127, 0, 0, 5, 0, 0, [(0, 0)]), (150, .invokestatic 131, 0, 1, 2, 0, 0, [(0, 0)])] := rfl
  intro e he
  rw [hl] at he
  simp only [List.mem_cons, List.not_mem_nil, or_false] at he
  rcases he with rfl | rfl | rfl | rfl | rfl | rfl | rfl | rfl
  · exact crI_S (idx := 47) G (by decide +kernel) (MJ6_bitCount_0f7a4 N) (cw_of (ps := [1305, 1071, 171, 1072]) (by decide +kernel) (by decide +kernel)) ⟨by decide +kernel, by decide +kernel, by decide +kernel⟩ (by unfold rmOk; rw [hR]; exact ⟨by decide, by decide⟩)
  · exact crI_V (idx := 124) G (by decide +kernel) (MX5_freshAt N) (cw_of (ps := [1330, 1332, 61, 161, 1333]) (by decide +kernel) (by decide +kernel)) ⟨by decide +kernel, by decide +kernel, by decide +kernel⟩ (by unfold rmOk; rw [hR]; exact ⟨by decide, by decide⟩)
  · exact crI_S (idx := 47) G (by decide +kernel) (MJ6_bitCount_0f7a4 N) (cw_of (ps := [1305, 1071, 171, 1072]) (by decide +kernel) (by decide +kernel)) ⟨by decide +kernel, by decide +kernel, by decide +kernel⟩ (by unfold rmOk; rw [hR]; exact ⟨by decide, by decide⟩)
  · exact crI_S (idx := 47) G (by decide +kernel) (MJ6_bitCount_0f7a4 N) (cw_of (ps := [1305, 1071, 171, 1072]) (by decide +kernel) (by decide +kernel)) ⟨by decide +kernel, by decide +kernel, by decide +kernel⟩ (by unfold rmOk; rw [hR]; exact ⟨by decide, by decide⟩)
  · exact crI_S (idx := 47) G (by decide +kernel) (MJ6_bitCount_0f7a4 N) (cw_of (ps := [1305, 1071, 171, 1072]) (by decide +kernel) (by decide +kernel)) ⟨by decide +kernel, by decide +kernel, by decide +kernel⟩ (by unfold rmOk; rw [hR]; exact ⟨by decide, by decide⟩)
  · exact crI_S (idx := 53) G (by decide +kernel) (MJ9_min_7cf53 N) (cw_of (ps := [1306, 808, 165, 809]) (by decide +kernel) (by decide +kernel)) ⟨by decide +kernel, by decide +kernel, by decide +kernel⟩ (by unfold rmOk; rw [hR]; exact ⟨by decide, by decide⟩)
  · exact crL_V (idx := 127) G (by decide +kernel) (MX5_chanceAtMost N) (cw_of (ps := [1334, 1336, 62, 161, 1337]) (by decide +kernel) (by decide +kernel)) ⟨by decide +kernel, by decide +kernel, by decide +kernel⟩ (by unfold rmOk; rw [hR]; exact ⟨by decide, by decide⟩)
  · exact crL_S (idx := 131) G (by decide +kernel) (MJ9_max_f86c9 N) (cw_of (ps := [1338, 1339, 165, 1340]) (by decide +kernel) (by decide +kernel)) ⟨by decide +kernel, by decide +kernel, by decide +kernel⟩ (by unfold rmOk; rw [hR]; exact ⟨by decide, by decide⟩)
set_option maxRecDepth 100000 in
set_option maxHeartbeats 4000000 in
theorem MX5_mostFrom (N : Nat) : SndL yX5_mostFrom cX5_mostFrom 11 (some .long) 3 2 true (mX5_mostFrom N) := by
  refine SndL.of tX5_mostFrom (by decide +kernel) rfl rfl ?_ ?_
  · intro as w x h
    obtain ⟨t1, rfl, h_1⟩ := xS1_some h
    obtain ⟨a1, t2, rfl, h_2⟩ := xI1_some h_1
    obtain ⟨rfl, h_3⟩ := xN1_some h_2
    clear h h_1 h_2
    have h := h_3
    rw [callW_eq] at h
    exact ⟨fun _ => ⟨_, _, _, rfl, rfl, _, rfl, rfl⟩, rfl, Nat.le_of_ble_eq_true rfl⟩
  · intro X G hn hR as w r h hr
    have hC := crX5_mostFrom (N := N) G hR
    obtain ⟨t1, rfl, h_1⟩ := xS1_some h
    obtain ⟨a1, t2, rfl, h_2⟩ := xI1_some h_1
    obtain ⟨rfl, h_3⟩ := xN1_some h_2
    clear h h_1 h_2
    have h := h_3
    rw [callW_eq] at h
    refine run_sound (r := r) (X := X) (cc := cX5_mostFrom) (own := RX5) (tab := tX5_mostFrom) G (by rw [hn]; exact kX5_mostFrom) (oI := (oF [(mJ6_bitCount_0f7a4 N), (mX5_freshAt N), (mJ9_min_7cf53 N)])) (oL := (oF [(mX5_chanceAtMost N), (mJ9_max_f86c9 N)])) (oV := (oF [])) (rI := (fun _ _ => none)) (rL := (fun x w => some (x, w))) (rV := (fun _ => none))
      (K := (fun j ls st w => if j = 26 then (lgI ls 2 fun v2 => lgI ls 3 fun v3 => lgI ls 4 fun v4 => lgL ls 5 fun v5 => lgI ls 7 fun v7 => st0 st (callW (fX5_mostFrom_26 N a1 N v2 v3 v4 v5 v7) w)) else none)) (fun _ _ _ _ hx => by cases hx) (fun x w pc ls hx hd => hr x w pc ls (Option.some.inj hx) hd) (fun _ _ _ hx => by cases hx) hC (fun ls => lsb [some (.inr (.inr (9, 0))), some (.inl a1), none, none, none, none, none, none, none, none, none] 0 ls) (keepsP_of rfl) ?_ 98 0 [some (.inr (.inr (9, 0))), some (.inl a1), none, none, none, none, none, none, none, none, none] [] w ?_ h
    · intro j ls st w hfx h
      obtain ⟨e0, e1, -⟩ : _ = _ ∧ _ = _ ∧ True := hfx
      try dsimp only at h
      by_cases hj : j = 26
      · subst hj
        rw [if_pos rfl] at h
        obtain ⟨v2, e2, h_1⟩ := lgI_some h
        obtain ⟨v3, e3, h_2⟩ := lgI_some h_1
        obtain ⟨v4, e4, h_3⟩ := lgI_some h_2
        obtain ⟨v5, e5, h_4⟩ := lgL_some h_3
        obtain ⟨v7, e7, h_5⟩ := lgI_some h_4
        obtain ⟨rfl, h_6⟩ := st0_some h_5
        clear h h_1 h_2 h_3 h_4 h_5
        have h := h_6
        try rw [callW_eq] at h
        exact WW.le (a := [some (.inr (.inr (9, 0))), some (.inl a1), some (.inl v2), some (.inl v3), some (.inl v4), some (.inr (.inl v5)), none, some (.inl v7), none, none, none]) (by rw [hn]; rfl) (show _ = _ ∧ _ = _ ∧ _ = _ ∧ _ = _ ∧ _ = _ ∧ _ = _ ∧ _ = _ ∧ True from ⟨e0, e1, e2, e3, e4, e5, e7, trivial⟩) (sX5_mostFrom_26 G hn hC hr a1 N v2 v3 v4 v5 v7 w h)
      rw [if_neg hj] at h
      cases h
    · exact (show _ = _ ∧ _ = _ ∧ True from ⟨rfl, rfl, trivial⟩)
-- MoorGuides$Stand.knownUntil(III)I
def tX9_knownUntil : List EN := [
  (0, .iload_n 3, 0, 0, 0, 0, 0, []), (1, .aload_n 0, 0, 0, 0, 0, 0, []), (2, .getfield 39, 0, 9, 0, 0, 0, []), (5, .getfield 59, 0, 4, 4, 0, 0, []),
  (8, .getfield 93, 0, 6, 6, 0, 0, []), (11, .iload_n 1, 0, 0, 0, 0, 0, []), (12, .iaload, 0, 0, 0, 0, 0, []), (13, .iadd, 0, 0, 0, 0, 0, []),
  (14, .istore 4, 0, 0, 0, 0, 0, []), (16, .iconst 0, 0, 0, 0, 0, 0, []), (17, .istore 5, 0, 0, 0, 0, 0, []), (19, .iload 5, 12, 0, 0, 0, 0, []),
  (21, .aload_n 0, 0, 0, 0, 0, 0, []), (22, .getfield 68, 0, 9, 7, 0, 0, []), (25, .if_icmp .ge 47, 0, 38, 0, 0, 0, []), (28, .aload_n 0, 0, 0, 0, 0, 0, []),
  (29, .getfield 23, 0, 9, 8, 0, 0, []), (32, .iload 5, 0, 0, 0, 0, 0, []), (34, .iaload, 0, 0, 0, 0, 0, []), (35, .iload_n 2, 0, 0, 0, 0, 0, []),
  (36, .if_icmp .ne 30, 0, 36, 0, 0, 0, []), (39, .aload_n 0, 0, 0, 0, 0, 0, []), (40, .getfield 26, 0, 9, 9, 0, 0, []), (43, .iload 5, 0, 0, 0, 0, 0, []),
  (45, .iaload, 0, 0, 0, 0, 0, []), (46, .iload_n 3, 0, 0, 0, 0, 0, []), (47, .if_icmp .le 19, 0, 36, 0, 0, 0, []), (50, .iload 4, 0, 0, 0, 0, 0, []),
  (52, .aload_n 0, 0, 0, 0, 0, 0, []), (53, .getfield 26, 0, 9, 9, 0, 0, []), (56, .iload 5, 0, 0, 0, 0, 0, []), (58, .iaload, 0, 0, 0, 0, 0, []),
  (59, .iconst 1, 0, 0, 0, 1, 0, []), (60, .isub, 0, 0, 0, 0, 0, []), (61, .invokestatic 106, 0, 0, 2, 0, 0, []), (64, .istore 4, 0, 0, 0, 0, 0, []),
  (66, .iinc 5 1, 0, 0, 0, 1, 0, []), (69, .goto (-50), 0, 11, 0, 0, 0, []), (72, .iload 4, 0, 0, 0, 0, 0, []), (74, .ireturn, 0, 0, 0, 0, 0, [])]
noncomputable def fX9_knownUntil_11 (N : Nat) (i0 : Nat) (a2 : Int32) (a3 : Int32) : Nat → Int32 → Int32 → Wd → Option (Int32 × Wd)
  | 0, _, _, _ => none
  | n + 1, v4, v5, w =>
    if v5 < (gI w 13 i0 7) then
      (ldI w 64 i0 v5 12).bind fun x1 =>
      if x1 = a2 then
        (ldI w 65 i0 v5 12).bind fun x2 =>
        if a3 < x2 then
          (ldI w 65 i0 v5 12).bind fun x3 =>
          (callW (pJ9_min_7cf53 N v4 (x3 - (1 : Int32))) w).bind fun r4 =>
          callW (fX9_knownUntil_11 N i0 a2 a3 n r4.1 (v5 + (1 : Int32))) r4.2
        else
        callW (fX9_knownUntil_11 N i0 a2 a3 n v4 (v5 + (1 : Int32))) w
      else
      callW (fX9_knownUntil_11 N i0 a2 a3 n v4 (v5 + (1 : Int32))) w
    else
    some (v4, w)
noncomputable def pX9_knownUntil (N : Nat) (i0 : Nat) (a1 : Int32) (a2 : Int32) (a3 : Int32) (w : Wd) : Option (Int32 × Wd) :=
  (ldI w 53 (gR w 13 i0 0) a1 6).bind fun x1 =>
  callW (fX9_knownUntil_11 N i0 a2 a3 N (a3 + x1) (0 : Int32)) w
noncomputable def mX9_knownUntil (N : Nat) (as : List AV) (w : Wd) : Option (Int32 × Wd) := xR1 13 as fun i0 t => xI1 t fun a1 t => xI1 t fun a2 t => xI1 t fun a3 t => xN1 t (callW (pX9_knownUntil N i0 a1 a2 a3) w)
set_option maxRecDepth 100000 in
set_option maxHeartbeats 4000000 in
theorem kX9_knownUntil : TK cX9_knownUntil RX9 6 tX9_knownUntil := ⟨by decide +kernel, wok_of [516, 279, 218, 538, 540, 541, 541] (by decide +kernel) (by decide +kernel)⟩
set_option maxRecDepth 100000 in
set_option maxHeartbeats 4000000 in
theorem sX9_knownUntil_11 {N : Nat} {X : XT} (G : GX X cX9_knownUntil RX9) (hn : xnL X = 6) (hC : CRs X tX9_knownUntil (oF [(mJ9_min_7cf53 N)]) (oF []) (oF [])) {r : Int32 × Wd} (hr : RTI X cX9_knownUntil r) (i0 : Nat) (a1 : Int32) (a2 : Int32) (a3 : Int32) : ∀ (n : Nat) (v4 : Int32) (v5 : Int32) (w : Wd), fX9_knownUntil_11 N i0 a2 a3 n v4 v5 w = some r → WW X (pcAt tX9_knownUntil 11) [some (.inr (.inr (13, i0))), some (.inl a1), some (.inl a2), some (.inl a3), some (.inl v4), some (.inl v5)] [] w := by
  intro n
  induction n with
  | zero => intro v4 v5 w h; cases h
  | succ n ih =>
    intro v4 v5 w h
    refine run_sound (r := r) (X := X) (cc := cX9_knownUntil) (own := RX9) (tab := tX9_knownUntil) G (by rw [hn]; exact kX9_knownUntil) (oI := (oF [(mJ9_min_7cf53 N)])) (oL := (oF [])) (oV := (oF [])) (rI := (fun x w => some (x, w))) (rL := (fun _ _ => none)) (rV := (fun _ => none))
      (K := (fun j ls st w => if j = 11 then (lgI ls 4 fun v4 => lgI ls 5 fun v5 => st0 st (callW (fX9_knownUntil_11 N i0 a2 a3 n v4 v5) w)) else none)) (fun x w pc ls hx hd => hr x w pc ls (Option.some.inj hx) hd) (fun _ _ _ _ hx => by cases hx) (fun _ _ _ hx => by cases hx) hC (fun ls => lsb [some (.inr (.inr (13, i0))), some (.inl a1), some (.inl a2), some (.inl a3), none, none] 0 ls) (keepsP_of rfl) ?_ 42 11 [some (.inr (.inr (13, i0))), some (.inl a1), some (.inl a2), some (.inl a3), some (.inl v4), some (.inl v5)] [] w ?_ h
    · intro j ls st w hfx h
      obtain ⟨e0, e1, e2, e3, -⟩ : _ = _ ∧ _ = _ ∧ _ = _ ∧ _ = _ ∧ True := hfx
      try dsimp only at h
      by_cases hj : j = 11
      · subst hj
        rw [if_pos rfl] at h
        obtain ⟨v4, e4, h_1⟩ := lgI_some h
        obtain ⟨v5, e5, h_2⟩ := lgI_some h_1
        obtain ⟨rfl, h_3⟩ := st0_some h_2
        clear h h_1 h_2
        have h := h_3
        try rw [callW_eq] at h
        exact WW.le (a := [some (.inr (.inr (13, i0))), some (.inl a1), some (.inl a2), some (.inl a3), some (.inl v4), some (.inl v5)]) (by rw [hn]; rfl) (show _ = _ ∧ _ = _ ∧ _ = _ ∧ _ = _ ∧ _ = _ ∧ _ = _ ∧ True from ⟨e0, e1, e2, e3, e4, e5, trivial⟩) (ih v4 v5 w h)
      rw [if_neg hj] at h
      cases h
    · exact (show _ = _ ∧ _ = _ ∧ _ = _ ∧ _ = _ ∧ True from ⟨rfl, rfl, rfl, rfl, trivial⟩)
set_option maxRecDepth 100000 in
set_option maxHeartbeats 4000000 in
theorem crX9_knownUntil {N : Nat} {X : XT} (G : GX X cX9_knownUntil RX9) (hR : xR X = rmL 2) : CRs X tX9_knownUntil (oF [(mJ9_min_7cf53 N)]) (oF []) (oF []) := by
  have hl : tX9_knownUntil.filter isInv = [(61, .invokestatic 106, 0, 0, 2, 0, 0, [])] := rfl
  intro e he
  rw [hl] at he
  simp only [List.mem_cons, List.not_mem_nil, or_false] at he
  rcases he with rfl
  · exact crI_S (idx := 106) G (by decide +kernel) (MJ9_min_7cf53 N) (cw_of (ps := [1316, 808, 165, 809]) (by decide +kernel) (by decide +kernel)) ⟨by decide +kernel, by decide +kernel, by decide +kernel⟩ (by unfold rmOk; rw [hR]; exact ⟨by decide, by decide⟩)
set_option maxRecDepth 100000 in
set_option maxHeartbeats 4000000 in
theorem MX9_knownUntil (N : Nat) : SndI yX9_knownUntil cX9_knownUntil 6 (some .int) 2 4 true (mX9_knownUntil N) := by
  refine SndI.of tX9_knownUntil (by decide +kernel) rfl rfl ?_ ?_
  · intro as w x h
    obtain ⟨i0, t1, rfl, h_1⟩ := xR1_some h
    obtain ⟨a1, t2, rfl, h_2⟩ := xI1_some h_1
    obtain ⟨a2, t3, rfl, h_3⟩ := xI1_some h_2
    obtain ⟨a3, t4, rfl, h_4⟩ := xI1_some h_3
    obtain ⟨rfl, h_5⟩ := xN1_some h_4
    clear h h_1 h_2 h_3 h_4
    have h := h_5
    rw [callW_eq] at h
    exact ⟨fun _ => ⟨_, _, _, rfl, rfl, _, rfl, rfl⟩, rfl, Nat.le_of_ble_eq_true rfl⟩
  · intro X G hn hR as w r h hr
    have hC := crX9_knownUntil (N := N) G hR
    obtain ⟨i0, t1, rfl, h_1⟩ := xR1_some h
    obtain ⟨a1, t2, rfl, h_2⟩ := xI1_some h_1
    obtain ⟨a2, t3, rfl, h_3⟩ := xI1_some h_2
    obtain ⟨a3, t4, rfl, h_4⟩ := xI1_some h_3
    obtain ⟨rfl, h_5⟩ := xN1_some h_4
    clear h h_1 h_2 h_3 h_4
    have h := h_5
    rw [callW_eq] at h
    refine run_sound (r := r) (X := X) (cc := cX9_knownUntil) (own := RX9) (tab := tX9_knownUntil) G (by rw [hn]; exact kX9_knownUntil) (oI := (oF [(mJ9_min_7cf53 N)])) (oL := (oF [])) (oV := (oF [])) (rI := (fun x w => some (x, w))) (rL := (fun _ _ => none)) (rV := (fun _ => none))
      (K := (fun j ls st w => if j = 11 then (lgI ls 4 fun v4 => lgI ls 5 fun v5 => st0 st (callW (fX9_knownUntil_11 N i0 a2 a3 N v4 v5) w)) else none)) (fun x w pc ls hx hd => hr x w pc ls (Option.some.inj hx) hd) (fun _ _ _ _ hx => by cases hx) (fun _ _ _ hx => by cases hx) hC (fun ls => lsb [some (.inr (.inr (13, i0))), some (.inl a1), some (.inl a2), some (.inl a3), none, none] 0 ls) (keepsP_of rfl) ?_ 42 0 [some (.inr (.inr (13, i0))), some (.inl a1), some (.inl a2), some (.inl a3), none, none] [] w ?_ h
    · intro j ls st w hfx h
      obtain ⟨e0, e1, e2, e3, -⟩ : _ = _ ∧ _ = _ ∧ _ = _ ∧ _ = _ ∧ True := hfx
      try dsimp only at h
      by_cases hj : j = 11
      · subst hj
        rw [if_pos rfl] at h
        obtain ⟨v4, e4, h_1⟩ := lgI_some h
        obtain ⟨v5, e5, h_2⟩ := lgI_some h_1
        obtain ⟨rfl, h_3⟩ := st0_some h_2
        clear h h_1 h_2
        have h := h_3
        try rw [callW_eq] at h
        exact WW.le (a := [some (.inr (.inr (13, i0))), some (.inl a1), some (.inl a2), some (.inl a3), some (.inl v4), some (.inl v5)]) (by rw [hn]; rfl) (show _ = _ ∧ _ = _ ∧ _ = _ ∧ _ = _ ∧ _ = _ ∧ _ = _ ∧ True from ⟨e0, e1, e2, e3, e4, e5, trivial⟩) (sX9_knownUntil_11 G hn hC hr i0 a1 a2 a3 N v4 v5 w h)
      rw [if_neg hj] at h
      cases h
    · exact (show _ = _ ∧ _ = _ ∧ _ = _ ∧ _ = _ ∧ True from ⟨rfl, rfl, rfl, rfl, trivial⟩)
-- MoorGuides$Ordering.fillChances(II)V
def tX5_fillChances : List EN := [
  (0, .aload_n 0, 0, 0, 0, 0, 0, []), (1, .getfield 40, 0, 5, 0, 0, 0, []), (4, .getfield 91, 0, 9, 0, 0, 0, []), (7, .getfield 111, 0, 4, 3, 0, 0, []),
  (10, .iload_n 2, 0, 0, 0, 0, 0, []), (11, .iaload, 0, 0, 0, 0, 0, []), (12, .invokestatic 47, 0, 0, 1, 0, 0, []), (15, .bipush 8, 0, 0, 0, 8, 0, []),
  (17, .invokestatic 53, 0, 1, 2, 0, 0, []), (20, .istore_n 3, 0, 0, 0, 0, 0, []), (21, .iconst 0, 0, 0, 0, 0, 0, []), (22, .istore 4, 0, 0, 0, 0, 0, []),
  (24, .iload 4, 13, 0, 0, 0, 0, []), (26, .iload_n 3, 0, 0, 0, 0, 0, []), (27, .if_icmp .gt 58, 0, 44, 0, 0, 0, []), (30, .aload_n 0, 0, 0, 0, 0, 0, []),
  (31, .getfield 15, 0, 5, 3, 0, 0, []), (34, .iload_n 1, 0, 0, 0, 0, 0, []), (35, .iload_n 2, 0, 0, 0, 0, 0, []), (36, .iload 4, 0, 0, 0, 0, 0, []),
  (38, .invokestatic 114, 0, 2, 3, 0, 0, []), (41, .aload_n 0, 0, 0, 0, 0, 0, []), (42, .getfield 40, 0, 5, 0, 0, 0, []), (45, .aload_n 0, 0, 0, 0, 0, 0, []),
  (46, .getfield 9, 0, 5, 1, 0, 0, []), (49, .iload_n 2, 0, 0, 0, 0, 0, []), (50, .aload_n 0, 0, 0, 0, 0, 0, []), (51, .getfield 40, 0, 5, 0, 0, 0, []),
  (54, .getfield 83, 0, 9, 1, 0, 0, []), (57, .iload_n 1, 0, 0, 0, 0, 0, []), (58, .iadd, 0, 0, 0, 0, 0, []), (59, .iload 4, 0, 0, 0, 0, 0, []),
  (61, .aload_n 0, 0, 0, 0, 0, 0, []), (62, .getfield 40, 0, 5, 0, 0, 0, []), (65, .getfield 117, 0, 9, 4, 0, 0, []), (68, .aload_n 0, 0, 0, 0, 0, 0, []),
  (69, .getfield 9, 0, 5, 1, 0, 0, []), (72, .iaload, 0, 0, 0, 0, 0, []), (73, .iload_n 1, 0, 0, 0, 0, 0, []), (74, .iadd, 0, 0, 0, 0, 0, []),
  (75, .invokevirtual 120, 0, 3, 6, 0, 0, []), (78, .iastore, 0, 0, 0, 0, 0, []), (79, .iinc 4 1, 0, 0, 0, 1, 0, []), (82, .goto (-58), 0, 12, 0, 0, 0, []),
  (85, .return_, 0, 0, 0, 0, 0, [])]
noncomputable def fX5_fillChances_12 (N : Nat) (a1 : Int32) (a2 : Int32) : Nat → Int32 → Int32 → Wd → Option (Wd)
  | 0, _, _, _ => none
  | n + 1, v3, v4, w =>
    if v3 < v4 then some w else
    (callW (pX5_slot N a1 a2 v4) w).bind fun r1 =>
    (ldI r1.2 60 0 (gI r1.2 9 0 1) 6).bind fun x2 =>
    (callW (pX9_chanceOn N 0 (gI r1.2 9 0 1) a2 ((gI r1.2 13 0 1) + a1) v4 (x2 + a1)) r1.2).bind fun r3 =>
    (stI r3.2 40 0 r1.1 576 r3.1).bind fun w4 =>
    callW (fX5_fillChances_12 N a1 a2 n v3 (v4 + (1 : Int32))) w4
noncomputable def pX5_fillChances (N : Nat) (a1 : Int32) (a2 : Int32) (w : Wd) : Option (Wd) :=
  (ldI w 32 (gR w 13 0 0) a2 8).bind fun x1 =>
  (callW (pJ6_bitCount_0f7a4 N x1) w).bind fun r2 =>
  (callW (pJ9_min_7cf53 N r2.1 (8 : Int32)) r2.2).bind fun r3 =>
  callW (fX5_fillChances_12 N a1 a2 N r3.1 (0 : Int32)) r3.2
noncomputable def mX5_fillChances (N : Nat) (as : List AV) (w : Wd) : Option (Wd) := xS1 9 as fun t => xI1 t fun a1 t => xI1 t fun a2 t => xN1 t (callW (pX5_fillChances N a1 a2) w)
set_option maxRecDepth 100000 in
set_option maxHeartbeats 4000000 in
theorem kX5_fillChances : TK cX5_fillChances RX5 5 tX5_fillChances := ⟨by decide +kernel, wok_of [636, 520, 272, 639, 636, 637, 636, 523, 636, 532, 637] (by decide +kernel) (by decide +kernel)⟩
set_option maxRecDepth 100000 in
set_option maxHeartbeats 4000000 in
theorem sX5_fillChances_12 {N : Nat} {X : XT} (G : GX X cX5_fillChances RX5) (hn : xnL X = 5) (hC : CRs X tX5_fillChances (oF [(mJ6_bitCount_0f7a4 N), (mJ9_min_7cf53 N), (mX5_slot N), (mX9_chanceOn N)]) (oF []) (oF [])) {r : Wd} (hr : RTV X cX5_fillChances r) (a1 : Int32) (a2 : Int32) : ∀ (n : Nat) (v3 : Int32) (v4 : Int32) (w : Wd), fX5_fillChances_12 N a1 a2 n v3 v4 w = some r → WW X (pcAt tX5_fillChances 12) [some (.inr (.inr (9, 0))), some (.inl a1), some (.inl a2), some (.inl v3), some (.inl v4)] [] w := by
  intro n
  induction n with
  | zero => intro v3 v4 w h; cases h
  | succ n ih =>
    intro v3 v4 w h
    refine run_sound (r := r) (X := X) (cc := cX5_fillChances) (own := RX5) (tab := tX5_fillChances) G (by rw [hn]; exact kX5_fillChances) (oI := (oF [(mJ6_bitCount_0f7a4 N), (mJ9_min_7cf53 N), (mX5_slot N), (mX9_chanceOn N)])) (oL := (oF [])) (oV := (oF [])) (rI := (fun _ _ => none)) (rL := (fun _ _ => none)) (rV := (fun w => some w))
      (K := (fun j ls st w => if j = 12 then (lgI ls 3 fun v3 => lgI ls 4 fun v4 => st0 st (callW (fX5_fillChances_12 N a1 a2 n v3 v4) w)) else none)) (fun _ _ _ _ hx => by cases hx) (fun _ _ _ _ hx => by cases hx) (fun w pc ls hx hd => hr w pc ls (Option.some.inj hx) hd) hC (fun ls => lsb [some (.inr (.inr (9, 0))), some (.inl a1), some (.inl a2), none, none] 0 ls) (keepsP_of rfl) ?_ 47 12 [some (.inr (.inr (9, 0))), some (.inl a1), some (.inl a2), some (.inl v3), some (.inl v4)] [] w ?_ h
    · intro j ls st w hfx h
      obtain ⟨e0, e1, e2, -⟩ : _ = _ ∧ _ = _ ∧ _ = _ ∧ True := hfx
      try dsimp only at h
      by_cases hj : j = 12
      · subst hj
        rw [if_pos rfl] at h
        obtain ⟨v3, e3, h_1⟩ := lgI_some h
        obtain ⟨v4, e4, h_2⟩ := lgI_some h_1
        obtain ⟨rfl, h_3⟩ := st0_some h_2
        clear h h_1 h_2
        have h := h_3
        try rw [callW_eq] at h
        exact WW.le (a := [some (.inr (.inr (9, 0))), some (.inl a1), some (.inl a2), some (.inl v3), some (.inl v4)]) (by rw [hn]; rfl) (show _ = _ ∧ _ = _ ∧ _ = _ ∧ _ = _ ∧ _ = _ ∧ True from ⟨e0, e1, e2, e3, e4, trivial⟩) (ih v3 v4 w h)
      rw [if_neg hj] at h
      cases h
    · exact (show _ = _ ∧ _ = _ ∧ _ = _ ∧ True from ⟨rfl, rfl, rfl, trivial⟩)
set_option maxRecDepth 100000 in
set_option maxHeartbeats 4000000 in
theorem crX5_fillChances {N : Nat} {X : XT} (G : GX X cX5_fillChances RX5) (hR : xR X = rmL 5) : CRs X tX5_fillChances (oF [(mJ6_bitCount_0f7a4 N), (mJ9_min_7cf53 N), (mX5_slot N), (mX9_chanceOn N)]) (oF []) (oF []) := by
  have hl : tX5_fillChances.filter isInv = [(12, .invokestatic 47, 0, 0, 1, 0, 0, []), (17, .invokestatic 53, 0, 1, 2, 0, 0, []), (38, .invokestatic 114, 0, 2, 3, 0, 0, []), (75, .invokevirtual 120, 0, 3, 6, 0, 0, [])] := rfl
  intro e he
  rw [hl] at he
  simp only [List.mem_cons, List.not_mem_nil, or_false] at he
  rcases he with rfl | rfl | rfl | rfl
  · exact crI_S (idx := 47) G (by decide +kernel) (MJ6_bitCount_0f7a4 N) (cw_of (ps := [1305, 1071, 171, 1072]) (by decide +kernel) (by decide +kernel)) ⟨by decide +kernel, by decide +kernel, by decide +kernel⟩ (by unfold rmOk; rw [hR]; exact ⟨by decide, by decide⟩)
  · exact crI_S (idx := 53) G (by decide +kernel) (MJ9_min_7cf53 N) (cw_of (ps := [1306, 808, 165, 809]) (by decide +kernel) (by decide +kernel)) ⟨by decide +kernel, by decide +kernel, by decide +kernel⟩ (by unfold rmOk; rw [hR]; exact ⟨by decide, by decide⟩)
  · exact crI_S (idx := 114) G (by decide +kernel) (MX5_slot N) (cw_of (ps := [1322, 1323, 161, 1324]) (by decide +kernel) (by decide +kernel)) ⟨by decide +kernel, by decide +kernel, by decide +kernel⟩ (by unfold rmOk; rw [hR]; exact ⟨by decide, by decide⟩)
  · exact crI_V (idx := 120) G (by decide +kernel) (MX9_chanceOn N) (cw_of (ps := [1325, 1077, 1078, 158, 1079]) (by decide +kernel) (by decide +kernel)) ⟨by decide +kernel, by decide +kernel, by decide +kernel⟩ (by unfold rmOk; rw [hR]; exact ⟨by decide, by decide⟩)
set_option maxRecDepth 100000 in
set_option maxHeartbeats 4000000 in
theorem MX5_fillChances (N : Nat) : SndV yX5_fillChances cX5_fillChances 5 none 5 3 true (mX5_fillChances N) := by
  refine SndV.of tX5_fillChances (by decide +kernel) rfl rfl ?_ ?_
  · intro as w x h
    obtain ⟨t1, rfl, h_1⟩ := xS1_some h
    obtain ⟨a1, t2, rfl, h_2⟩ := xI1_some h_1
    obtain ⟨a2, t3, rfl, h_3⟩ := xI1_some h_2
    obtain ⟨rfl, h_4⟩ := xN1_some h_3
    clear h h_1 h_2 h_3
    have h := h_4
    rw [callW_eq] at h
    exact ⟨fun _ => ⟨_, _, _, rfl, rfl, _, rfl, rfl⟩, rfl, Nat.le_of_ble_eq_true rfl⟩
  · intro X G hn hR as w r h hr
    have hC := crX5_fillChances (N := N) G hR
    obtain ⟨t1, rfl, h_1⟩ := xS1_some h
    obtain ⟨a1, t2, rfl, h_2⟩ := xI1_some h_1
    obtain ⟨a2, t3, rfl, h_3⟩ := xI1_some h_2
    obtain ⟨rfl, h_4⟩ := xN1_some h_3
    clear h h_1 h_2 h_3
    have h := h_4
    rw [callW_eq] at h
    refine run_sound (r := r) (X := X) (cc := cX5_fillChances) (own := RX5) (tab := tX5_fillChances) G (by rw [hn]; exact kX5_fillChances) (oI := (oF [(mJ6_bitCount_0f7a4 N), (mJ9_min_7cf53 N), (mX5_slot N), (mX9_chanceOn N)])) (oL := (oF [])) (oV := (oF [])) (rI := (fun _ _ => none)) (rL := (fun _ _ => none)) (rV := (fun w => some w))
      (K := (fun j ls st w => if j = 12 then (lgI ls 3 fun v3 => lgI ls 4 fun v4 => st0 st (callW (fX5_fillChances_12 N a1 a2 N v3 v4) w)) else none)) (fun _ _ _ _ hx => by cases hx) (fun _ _ _ _ hx => by cases hx) (fun w pc ls hx hd => hr w pc ls (Option.some.inj hx) hd) hC (fun ls => lsb [some (.inr (.inr (9, 0))), some (.inl a1), some (.inl a2), none, none] 0 ls) (keepsP_of rfl) ?_ 47 0 [some (.inr (.inr (9, 0))), some (.inl a1), some (.inl a2), none, none] [] w ?_ h
    · intro j ls st w hfx h
      obtain ⟨e0, e1, e2, -⟩ : _ = _ ∧ _ = _ ∧ _ = _ ∧ True := hfx
      try dsimp only at h
      by_cases hj : j = 12
      · subst hj
        rw [if_pos rfl] at h
        obtain ⟨v3, e3, h_1⟩ := lgI_some h
        obtain ⟨v4, e4, h_2⟩ := lgI_some h_1
        obtain ⟨rfl, h_3⟩ := st0_some h_2
        clear h h_1 h_2
        have h := h_3
        try rw [callW_eq] at h
        exact WW.le (a := [some (.inr (.inr (9, 0))), some (.inl a1), some (.inl a2), some (.inl v3), some (.inl v4)]) (by rw [hn]; rfl) (show _ = _ ∧ _ = _ ∧ _ = _ ∧ _ = _ ∧ _ = _ ∧ True from ⟨e0, e1, e2, e3, e4, trivial⟩) (sX5_fillChances_12 G hn hC hr a1 a2 N v3 v4 w h)
      rw [if_neg hj] at h
      cases h
    · exact (show _ = _ ∧ _ = _ ∧ _ = _ ∧ True from ⟨rfl, rfl, rfl, trivial⟩)
-- MoorGuides$Ordering.prepare(I)V
def tX5_prepare : List EN := [
  (0, .aload_n 0, 0, 0, 0, 0, 0, []), (1, .getfield 40, 0, 5, 0, 0, 0, []), (4, .getfield 83, 0, 9, 1, 0, 0, []), (7, .iload_n 1, 0, 0, 0, 0, 0, []),
  (8, .iadd, 0, 0, 0, 0, 0, []), (9, .istore_n 2, 0, 0, 0, 0, 0, []), (10, .aload_n 0, 0, 0, 0, 0, 0, []), (11, .getfield 19, 0, 5, 4, 0, 0, []),
  (14, .iload_n 1, 0, 0, 0, 0, 0, []), (15, .aload_n 0, 0, 0, 0, 0, 0, []), (16, .getfield 40, 0, 5, 0, 0, 0, []), (19, .aload_n 0, 0, 0, 0, 0, 0, []),
  (20, .getfield 9, 0, 5, 1, 0, 0, []), (23, .iload_n 2, 0, 0, 0, 0, 0, []), (24, .invokevirtual 88, 0, 0, 3, 0, 0, []), (27, .iastore, 0, 0, 0, 0, 0, []),
  (28, .aload_n 0, 0, 0, 0, 0, 0, []), (29, .getfield 27, 0, 5, 6, 0, 0, []), (32, .iload_n 1, 0, 0, 0, 0, 0, []), (33, .iconst 0, 0, 0, 0, 0, 0, []),
  (34, .iastore, 0, 0, 0, 0, 0, []), (35, .iconst 0, 0, 0, 0, 0, 0, []), (36, .istore_n 3, 0, 0, 0, 0, 0, []), (37, .iload_n 3, 24, 0, 0, 0, 0, []),
  (38, .aload_n 0, 0, 0, 0, 0, 0, []), (39, .getfield 40, 0, 5, 0, 0, 0, []), (42, .getfield 91, 0, 9, 0, 0, 0, []), (45, .getfield 95, 0, 4, 0, 0, 0, []),
  (48, .if_icmp .ge 109, 0, 95, 0, 0, 0, []), (51, .aload_n 0, 0, 0, 0, 0, 0, []), (52, .getfield 44, 0, 5, 2, 0, 0, []), (55, .iload_n 3, 0, 0, 0, 0, 0, []),
  (56, .ishr, 0, 0, 0, 0, 0, []), (57, .iconst 1, 0, 0, 0, 1, 0, []), (58, .iand, 0, 0, 0, 0, 0, []), (59, .ifCond .eq 92, 0, 93, 0, 0, 0, []),
  (62, .aload_n 0, 0, 0, 0, 0, 0, []), (63, .getfield 24, 0, 5, 5, 0, 0, []), (66, .iload_n 3, 0, 0, 0, 0, 0, []), (67, .aaload, 0, 0, 0, 0, 0, []),
  (68, .iload_n 1, 0, 0, 0, 0, 0, []), (69, .aload_n 0, 0, 0, 0, 0, 0, []), (70, .getfield 40, 0, 5, 0, 0, 0, []), (73, .aload_n 0, 0, 0, 0, 0, 0, []),
  (74, .getfield 9, 0, 5, 1, 0, 0, []), (77, .iload_n 3, 0, 0, 0, 0, 0, []), (78, .iload_n 2, 0, 0, 0, 0, 0, []), (79, .invokevirtual 100, 0, 1, 4, 0, 0, []),
  (82, .aload_n 0, 0, 0, 0, 0, 0, []), (83, .getfield 40, 0, 5, 0, 0, 0, []), (86, .getfield 83, 0, 9, 1, 0, 0, []), (89, .isub, 0, 0, 0, 0, 0, []),
  (90, .iastore, 0, 0, 0, 0, 0, []), (91, .aload_n 0, 0, 0, 0, 0, 0, []), (92, .getfield 27, 0, 5, 6, 0, 0, []), (95, .iload_n 1, 0, 0, 0, 0, 0, []),
  (96, .aload_n 0, 0, 0, 0, 0, 0, []), (97, .getfield 27, 0, 5, 6, 0, 0, []), (100, .iload_n 1, 0, 0, 0, 0, 0, []), (101, .iaload, 0, 0, 0, 0, 0, []),
  (102, .aload_n 0, 0, 0, 0, 0, 0, []), (103, .getfield 24, 0, 5, 5, 0, 0, []), (106, .iload_n 3, 0, 0, 0, 0, 0, []), (107, .aaload, 0, 0, 0, 0, 0, []),
  (108, .iload_n 1, 0, 0, 0, 0, 0, []), (109, .iaload, 0, 0, 0, 0, 0, []), (110, .invokestatic 104, 0, 2, 2, 0, 0, []), (113, .iastore, 0, 0, 0, 0, 0, []),
  (114, .aload_n 0, 0, 0, 0, 0, 0, []), (115, .getfield 24, 0, 5, 5, 0, 0, []), (118, .iload_n 3, 0, 0, 0, 0, 0, []), (119, .aaload, 0, 0, 0, 0, 0, []),
  (120, .iload_n 1, 0, 0, 0, 0, 0, []), (121, .iaload, 0, 0, 0, 0, 0, []), (122, .aload_n 0, 0, 0, 0, 0, 0, []), (123, .getfield 59, 0, 5, 12, 0, 0, []),
  (126, .iconst 1, 0, 0, 0, 1, 0, []), (127, .isub, 0, 0, 0, 0, 0, []), (128, .if_icmp .ge 17, 0, 89, 0, 0, 0, []), (131, .aload_n 0, 0, 0, 0, 0, 0, []),
  (132, .dup, 0, 0, 0, 0, 0, []), (133, .getfield 62, 0, 5, 7, 0, 0, []), (136, .iconst 1, 0, 0, 0, 1, 0, []), (137, .iload_n 3, 0, 0, 0, 0, 0, []),
  (138, .ishl, 0, 0, 0, 0, 0, []), (139, .iconst (-1), 0, 0, 0, (-1), 0, []), (140, .ixor, 0, 0, 0, 0, 0, []), (141, .iand, 0, 0, 0, 0, 0, []),
  (142, .putfield 62, 0, 5, 7, 0, 0, []), (145, .aload_n 0, 90, 0, 0, 0, 0, []), (146, .iload_n 1, 0, 0, 0, 0, 0, []), (147, .iload_n 3, 0, 0, 0, 0, 0, []),
  (148, .invokevirtual 107, 0, 0, 3, 0, 0, [(0, 0), (0, 0)]), (151, .iinc 3 1, 0, 0, 0, 1, 0, []), (154, .goto (-117), 0, 23, 0, 0, 0, []), (157, .return_, 0, 0, 0, 0, 0, [])]
noncomputable def fX5_prepare_89 (N : Nat) (a1 : Int32) (k23 : Int32 → Int32 → Wd → Option (Wd)) (v2 : Int32) (v3 : Int32) (w : Wd) : Option (Wd) :=
  (callW (pX5_fillChances N a1 v3) w).bind fun w1 =>
  k23 v2 (v3 + (1 : Int32)) w1
noncomputable def fX5_prepare_23 (N : Nat) (a1 : Int32) : Nat → Int32 → Int32 → Wd → Option (Wd)
  | 0, _, _, _ => none
  | n + 1, v2, v3, w =>
    if v3 < (gI w 8 (gR w 13 0 0) 0) then
      if (((gI w 9 0 2) >>> (v3 &&& (31 : Int32))) &&& (1 : Int32)) = 0 then callW (fX5_prepare_23 N a1 n v2 (v3 + (1 : Int32))) w else
      (ldR v3 8 0).bind fun q1 =>
      (callW (pX9_knownUntil N 0 (gI w 9 0 1) v3 v2) w).bind fun r2 =>
      (stI r2.2 43 q1 a1 8 (r2.1 - (gI r2.2 13 0 1))).bind fun w3 =>
      (ldI w3 44 0 a1 8).bind fun x4 =>
      (ldR v3 8 0).bind fun q5 =>
      (ldI w3 43 q5 a1 8).bind fun x6 =>
      (callW (pJ9_max_7cf53 N x4 x6) w3).bind fun r7 =>
      (stI r7.2 44 0 a1 8 r7.1).bind fun w8 =>
      (ldR v3 8 0).bind fun q9 =>
      (ldI w8 43 q9 a1 8).bind fun x10 =>
      if x10 < ((gI w8 9 0 12) - (1 : Int32)) then
        callW (fX5_prepare_89 N a1 (fX5_prepare_23 N a1 n) v2 v3) (setI w8 9 0 7 ((gI w8 9 0 7) &&& (((1 : Int32) <<< (v3 &&& (31 : Int32))) ^^^ (-1 : Int32))))
      else
      callW (fX5_prepare_89 N a1 (fX5_prepare_23 N a1 n) v2 v3) w8
    else
    some w
noncomputable def pX5_prepare (N : Nat) (a1 : Int32) (w : Wd) : Option (Wd) :=
  (callW (pX9_knownBits N 0 (gI w 9 0 1) ((gI w 13 0 1) + a1)) w).bind fun r1 =>
  (stI r1.2 41 0 a1 8 r1.1).bind fun w2 =>
  (stI w2 44 0 a1 8 (0 : Int32)).bind fun w3 =>
  callW (fX5_prepare_23 N a1 N ((gI w 13 0 1) + a1) (0 : Int32)) w3
noncomputable def mX5_prepare (N : Nat) (as : List AV) (w : Wd) : Option (Wd) := xS1 9 as fun t => xI1 t fun a1 t => xN1 t (callW (pX5_prepare N a1) w)
set_option maxRecDepth 100000 in
set_option maxHeartbeats 4000000 in
theorem kX5_prepare : TK cX5_prepare RX5 4 tX5_prepare := ⟨by decide +kernel, wok_of [636, 523, 640, 636, 637, 642, 636, 520, 260, 638, 641, 636, 637, 636, 523, 642, 642, 641, 641, 649, 643, 643] (by decide +kernel) (by decide +kernel)⟩
set_option maxRecDepth 100000 in
set_option maxHeartbeats 4000000 in
theorem sX5_prepare_89 {N : Nat} {X : XT} (G : GX X cX5_prepare RX5) (hn : xnL X = 4) (hC : CRs X tX5_prepare (oF [(mX9_knownBits N), (mX9_knownUntil N), (mJ9_max_7cf53 N)]) (oF []) (oF [(mX5_fillChances N)])) {r : Wd} (hr : RTV X cX5_prepare r) (a1 : Int32) : ∀ (k23 : Int32 → Int32 → Wd → Option (Wd)) (v2 : Int32) (v3 : Int32) (w : Wd), fX5_prepare_89 N a1 k23 v2 v3 w = some r → (∀ (v2 : Int32) (v3 : Int32) (w : Wd), k23 v2 v3 w = some r → WW X (pcAt tX5_prepare 23) [some (.inr (.inr (9, 0))), some (.inl a1), some (.inl v2), some (.inl v3)] [] w) → WW X (pcAt tX5_prepare 89) [some (.inr (.inr (9, 0))), some (.inl a1), some (.inl v2), some (.inl v3)] [] w := by
  intro k23 v2 v3 w h h23
  refine run_sound (r := r) (X := X) (cc := cX5_prepare) (own := RX5) (tab := tX5_prepare) G (by rw [hn]; exact kX5_prepare) (oI := (oF [(mX9_knownBits N), (mX9_knownUntil N), (mJ9_max_7cf53 N)])) (oL := (oF [])) (oV := (oF [(mX5_fillChances N)])) (rI := (fun _ _ => none)) (rL := (fun _ _ => none)) (rV := (fun w => some w))
    (K := (fun j ls st w => if j = 23 then (lgI ls 2 fun v2 => lgI ls 3 fun v3 => st0 st (k23 v2 v3 w)) else none)) (fun _ _ _ _ hx => by cases hx) (fun _ _ _ _ hx => by cases hx) (fun w pc ls hx hd => hr w pc ls (Option.some.inj hx) hd) hC (fun ls => lsb [some (.inr (.inr (9, 0))), some (.inl a1), none, none] 0 ls) (keepsP_of rfl) ?_ 98 89 [some (.inr (.inr (9, 0))), some (.inl a1), some (.inl v2), some (.inl v3)] [] w ?_ h
  · intro j ls st w hfx h
    obtain ⟨e0, e1, -⟩ : _ = _ ∧ _ = _ ∧ True := hfx
    try dsimp only at h
    by_cases hj : j = 23
    · subst hj
      rw [if_pos rfl] at h
      obtain ⟨v2, e2, h_1⟩ := lgI_some h
      obtain ⟨v3, e3, h_2⟩ := lgI_some h_1
      obtain ⟨rfl, h_3⟩ := st0_some h_2
      clear h h_1 h_2
      have h := h_3
      try rw [callW_eq] at h
      exact WW.le (a := [some (.inr (.inr (9, 0))), some (.inl a1), some (.inl v2), some (.inl v3)]) (by rw [hn]; rfl) (show _ = _ ∧ _ = _ ∧ _ = _ ∧ _ = _ ∧ True from ⟨e0, e1, e2, e3, trivial⟩) (h23 v2 v3 w h)
    rw [if_neg hj] at h
    cases h
  · exact (show _ = _ ∧ _ = _ ∧ True from ⟨rfl, rfl, trivial⟩)
set_option maxRecDepth 100000 in
set_option maxHeartbeats 4000000 in
theorem sX5_prepare_23 {N : Nat} {X : XT} (G : GX X cX5_prepare RX5) (hn : xnL X = 4) (hC : CRs X tX5_prepare (oF [(mX9_knownBits N), (mX9_knownUntil N), (mJ9_max_7cf53 N)]) (oF []) (oF [(mX5_fillChances N)])) {r : Wd} (hr : RTV X cX5_prepare r) (a1 : Int32) : ∀ (n : Nat) (v2 : Int32) (v3 : Int32) (w : Wd), fX5_prepare_23 N a1 n v2 v3 w = some r → WW X (pcAt tX5_prepare 23) [some (.inr (.inr (9, 0))), some (.inl a1), some (.inl v2), some (.inl v3)] [] w := by
  intro n
  induction n with
  | zero => intro v2 v3 w h; cases h
  | succ n ih =>
    intro v2 v3 w h
    refine run_sound (r := r) (X := X) (cc := cX5_prepare) (own := RX5) (tab := tX5_prepare) G (by rw [hn]; exact kX5_prepare) (oI := (oF [(mX9_knownBits N), (mX9_knownUntil N), (mJ9_max_7cf53 N)])) (oL := (oF [])) (oV := (oF [(mX5_fillChances N)])) (rI := (fun _ _ => none)) (rL := (fun _ _ => none)) (rV := (fun w => some w))
      (K := (fun j ls st w => if j = 23 then (lgI ls 2 fun v2 => lgI ls 3 fun v3 => st0 st (callW (fX5_prepare_23 N a1 n v2 v3) w)) else if j = 89 then (lgI ls 2 fun v2 => lgI ls 3 fun v3 => st0 st (callW (fX5_prepare_89 N a1 (fX5_prepare_23 N a1 n) v2 v3) w)) else none)) (fun _ _ _ _ hx => by cases hx) (fun _ _ _ _ hx => by cases hx) (fun w pc ls hx hd => hr w pc ls (Option.some.inj hx) hd) hC (fun ls => lsb [some (.inr (.inr (9, 0))), some (.inl a1), none, none] 0 ls) (keepsP_of rfl) ?_ 98 23 [some (.inr (.inr (9, 0))), some (.inl a1), some (.inl v2), some (.inl v3)] [] w ?_ h
    · intro j ls st w hfx h
      obtain ⟨e0, e1, -⟩ : _ = _ ∧ _ = _ ∧ True := hfx
      try dsimp only at h
      by_cases hj : j = 23
      · subst hj
        rw [if_pos rfl] at h
        obtain ⟨v2, e2, h_1⟩ := lgI_some h
        obtain ⟨v3, e3, h_2⟩ := lgI_some h_1
        obtain ⟨rfl, h_3⟩ := st0_some h_2
        clear h h_1 h_2
        have h := h_3
        try rw [callW_eq] at h
        exact WW.le (a := [some (.inr (.inr (9, 0))), some (.inl a1), some (.inl v2), some (.inl v3)]) (by rw [hn]; rfl) (show _ = _ ∧ _ = _ ∧ _ = _ ∧ _ = _ ∧ True from ⟨e0, e1, e2, e3, trivial⟩) (ih v2 v3 w h)
      rw [if_neg hj] at h
      by_cases hj : j = 89
      · subst hj
        rw [if_pos rfl] at h
        obtain ⟨v2, e2, h_1⟩ := lgI_some h
        obtain ⟨v3, e3, h_2⟩ := lgI_some h_1
        obtain ⟨rfl, h_3⟩ := st0_some h_2
        clear h h_1 h_2
        have h := h_3
        try rw [callW_eq] at h
        exact WW.le (a := [some (.inr (.inr (9, 0))), some (.inl a1), some (.inl v2), some (.inl v3)]) (by rw [hn]; rfl) (show _ = _ ∧ _ = _ ∧ _ = _ ∧ _ = _ ∧ True from ⟨e0, e1, e2, e3, trivial⟩) (sX5_prepare_89 G hn hC hr a1 (fX5_prepare_23 N a1 n) v2 v3 w h (fun v2 v3 w h => (ih v2 v3 w h)))
      rw [if_neg hj] at h
      cases h
    · exact (show _ = _ ∧ _ = _ ∧ True from ⟨rfl, rfl, trivial⟩)
set_option maxRecDepth 100000 in
set_option maxHeartbeats 4000000 in
theorem crX5_prepare {N : Nat} {X : XT} (G : GX X cX5_prepare RX5) (hR : xR X = rmL 6) : CRs X tX5_prepare (oF [(mX9_knownBits N), (mX9_knownUntil N), (mJ9_max_7cf53 N)]) (oF []) (oF [(mX5_fillChances N)]) := by
  have hl : tX5_prepare.filter isInv = [(24, .invokevirtual 88, 0, 0, 3, 0, 0, []), (79, .invokevirtual 100, 0, 1, 4, 0, 0, []), (110, .invokestatic 104, 0, 2, 2, 0, 0, []), (148, .invokevirtual 107, 0, 0, 3, 0, 0, [(0, 0), (0, 0)])] := rfl
  intro e he
  rw [hl] at he
  simp only [List.mem_cons, List.not_mem_nil, or_false] at he
  rcases he with rfl | rfl | rfl | rfl
  · exact crI_V (idx := 88) G (by decide +kernel) (MX9_knownBits N) (cw_of (ps := [1311, 1022, 1023, 158, 1024]) (by decide +kernel) (by decide +kernel)) ⟨by decide +kernel, by decide +kernel, by decide +kernel⟩ (by unfold rmOk; rw [hR]; exact ⟨by decide, by decide⟩)
  · exact crI_V (idx := 100) G (by decide +kernel) (MX9_knownUntil N) (cw_of (ps := [1312, 1313, 1314, 158, 1315]) (by decide +kernel) (by decide +kernel)) ⟨by decide +kernel, by decide +kernel, by decide +kernel⟩ (by unfold rmOk; rw [hR]; exact ⟨by decide, by decide⟩)
  · exact crI_S (idx := 104) G (by decide +kernel) (MJ9_max_7cf53 N) (cw_of (ps := [1317, 985, 165, 986]) (by decide +kernel) (by decide +kernel)) ⟨by decide +kernel, by decide +kernel, by decide +kernel⟩ (by unfold rmOk; rw [hR]; exact ⟨by decide, by decide⟩)
  · exact crV_V (idx := 107) G (by decide +kernel) (MX5_fillChances N) (cw_of (ps := [1318, 1320, 59, 161, 1321]) (by decide +kernel) (by decide +kernel)) ⟨by decide +kernel, by decide +kernel, by decide +kernel⟩ (by unfold rmOk; rw [hR]; exact ⟨by decide, by decide⟩)
set_option maxRecDepth 100000 in
set_option maxHeartbeats 4000000 in
theorem MX5_prepare (N : Nat) : SndV yX5_prepare cX5_prepare 4 none 6 2 true (mX5_prepare N) := by
  refine SndV.of tX5_prepare (by decide +kernel) rfl rfl ?_ ?_
  · intro as w x h
    obtain ⟨t1, rfl, h_1⟩ := xS1_some h
    obtain ⟨a1, t2, rfl, h_2⟩ := xI1_some h_1
    obtain ⟨rfl, h_3⟩ := xN1_some h_2
    clear h h_1 h_2
    have h := h_3
    rw [callW_eq] at h
    exact ⟨fun _ => ⟨_, _, _, rfl, rfl, _, rfl, rfl⟩, rfl, Nat.le_of_ble_eq_true rfl⟩
  · intro X G hn hR as w r h hr
    have hC := crX5_prepare (N := N) G hR
    obtain ⟨t1, rfl, h_1⟩ := xS1_some h
    obtain ⟨a1, t2, rfl, h_2⟩ := xI1_some h_1
    obtain ⟨rfl, h_3⟩ := xN1_some h_2
    clear h h_1 h_2
    have h := h_3
    rw [callW_eq] at h
    refine run_sound (r := r) (X := X) (cc := cX5_prepare) (own := RX5) (tab := tX5_prepare) G (by rw [hn]; exact kX5_prepare) (oI := (oF [(mX9_knownBits N), (mX9_knownUntil N), (mJ9_max_7cf53 N)])) (oL := (oF [])) (oV := (oF [(mX5_fillChances N)])) (rI := (fun _ _ => none)) (rL := (fun _ _ => none)) (rV := (fun w => some w))
      (K := (fun j ls st w => if j = 23 then (lgI ls 2 fun v2 => lgI ls 3 fun v3 => st0 st (callW (fX5_prepare_23 N a1 N v2 v3) w)) else none)) (fun _ _ _ _ hx => by cases hx) (fun _ _ _ _ hx => by cases hx) (fun w pc ls hx hd => hr w pc ls (Option.some.inj hx) hd) hC (fun ls => lsb [some (.inr (.inr (9, 0))), some (.inl a1), none, none] 0 ls) (keepsP_of rfl) ?_ 98 0 [some (.inr (.inr (9, 0))), some (.inl a1), none, none] [] w ?_ h
    · intro j ls st w hfx h
      obtain ⟨e0, e1, -⟩ : _ = _ ∧ _ = _ ∧ True := hfx
      try dsimp only at h
      by_cases hj : j = 23
      · subst hj
        rw [if_pos rfl] at h
        obtain ⟨v2, e2, h_1⟩ := lgI_some h
        obtain ⟨v3, e3, h_2⟩ := lgI_some h_1
        obtain ⟨rfl, h_3⟩ := st0_some h_2
        clear h h_1 h_2
        have h := h_3
        try rw [callW_eq] at h
        exact WW.le (a := [some (.inr (.inr (9, 0))), some (.inl a1), some (.inl v2), some (.inl v3)]) (by rw [hn]; rfl) (show _ = _ ∧ _ = _ ∧ _ = _ ∧ _ = _ ∧ True from ⟨e0, e1, e2, e3, trivial⟩) (sX5_prepare_23 G hn hC hr a1 N v2 v3 w h)
      rw [if_neg hj] at h
      cases h
    · exact (show _ = _ ∧ _ = _ ∧ True from ⟨rfl, rfl, trivial⟩)
-- MoorGuides$Ordering.knownAt(II)I
def tX5_knownAt : List EN := [
  (0, .aload_n 0, 0, 0, 0, 0, 0, []), (1, .getfield 19, 0, 5, 4, 0, 0, []), (4, .iload_n 1, 0, 0, 0, 0, 0, []), (5, .iaload, 0, 0, 0, 0, 0, []),
  (6, .iload_n 2, 0, 0, 0, 0, 0, []), (7, .iconst (-1), 0, 0, 0, (-1), 0, []), (8, .ixor, 0, 0, 0, 0, 0, []), (9, .iand, 0, 0, 0, 0, 0, []),
  (10, .istore_n 3, 0, 0, 0, 0, 0, []), (11, .iconst 0, 0, 0, 0, 0, 0, []), (12, .istore 4, 0, 0, 0, 0, 0, []), (14, .iload 4, 12, 0, 0, 0, 0, []),
  (16, .iload_n 1, 0, 0, 0, 0, 0, []), (17, .if_icmp .ge 40, 0, 36, 0, 0, 0, []), (20, .aload_n 0, 0, 0, 0, 0, 0, []), (21, .getfield 24, 0, 5, 5, 0, 0, []),
  (24, .aload_n 0, 0, 0, 0, 0, 0, []), (25, .getfield 34, 0, 5, 9, 0, 0, []), (28, .iload 4, 0, 0, 0, 0, 0, []), (30, .iaload, 0, 0, 0, 0, 0, []),
  (31, .aaload, 0, 0, 0, 0, 0, []), (32, .iload 4, 0, 0, 0, 0, 0, []), (34, .iaload, 0, 0, 0, 0, 0, []), (35, .iload_n 1, 0, 0, 0, 0, 0, []),
  (36, .if_icmp .lt 15, 0, 34, 0, 0, 0, []), (39, .iload_n 3, 0, 0, 0, 0, 0, []), (40, .iconst 1, 0, 0, 0, 1, 0, []), (41, .aload_n 0, 0, 0, 0, 0, 0, []),
  (42, .getfield 34, 0, 5, 9, 0, 0, []), (45, .iload 4, 0, 0, 0, 0, 0, []), (47, .iaload, 0, 0, 0, 0, 0, []), (48, .ishl, 0, 0, 0, 0, 0, []),
  (49, .ior, 0, 0, 0, 0, 0, []), (50, .istore_n 3, 0, 0, 0, 0, 0, []), (51, .iinc 4 1, 0, 0, 0, 1, 0, []), (54, .goto (-40), 0, 11, 0, 0, 0, []),
  (57, .iload_n 3, 0, 0, 0, 0, 0, []), (58, .ireturn, 0, 0, 0, 0, 0, [])]
noncomputable def fX5_knownAt_11 (N : Nat) (a1 : Int32) : Nat → Int32 → Int32 → Wd → Option (Int32 × Wd)
  | 0, _, _, _ => none
  | n + 1, v3, v4, w =>
    if v4 < a1 then
      (ldI w 46 0 v4 8).bind fun x1 =>
      (ldR x1 8 0).bind fun q2 =>
      (ldI w 43 q2 v4 8).bind fun x3 =>
      if x3 < a1 then callW (fX5_knownAt_11 N a1 n v3 (v4 + (1 : Int32))) w else
      (ldI w 46 0 v4 8).bind fun x4 =>
      callW (fX5_knownAt_11 N a1 n (v3 ||| ((1 : Int32) <<< (x4 &&& (31 : Int32)))) (v4 + (1 : Int32))) w
    else
    some (v3, w)
noncomputable def pX5_knownAt (N : Nat) (a1 : Int32) (a2 : Int32) (w : Wd) : Option (Int32 × Wd) :=
  (ldI w 41 0 a1 8).bind fun x1 =>
  callW (fX5_knownAt_11 N a1 N (x1 &&& (a2 ^^^ (-1 : Int32))) (0 : Int32)) w
noncomputable def mX5_knownAt (N : Nat) (as : List AV) (w : Wd) : Option (Int32 × Wd) := xS1 9 as fun t => xI1 t fun a1 t => xI1 t fun a2 t => xN1 t (callW (pX5_knownAt N a1 a2) w)
set_option maxRecDepth 100000 in
set_option maxHeartbeats 4000000 in
theorem kX5_knownAt : TK cX5_knownAt RX5 5 tX5_knownAt := ⟨by decide +kernel, wok_of [640, 641, 645, 645] (by decide +kernel) (by decide +kernel)⟩
set_option maxRecDepth 100000 in
set_option maxHeartbeats 4000000 in
theorem sX5_knownAt_11 {N : Nat} {X : XT} (G : GX X cX5_knownAt RX5) (hn : xnL X = 5) (hC : CRs X tX5_knownAt (oF []) (oF []) (oF [])) {r : Int32 × Wd} (hr : RTI X cX5_knownAt r) (a1 : Int32) (a2 : Int32) : ∀ (n : Nat) (v3 : Int32) (v4 : Int32) (w : Wd), fX5_knownAt_11 N a1 n v3 v4 w = some r → WW X (pcAt tX5_knownAt 11) [some (.inr (.inr (9, 0))), some (.inl a1), some (.inl a2), some (.inl v3), some (.inl v4)] [] w := by
  intro n
  induction n with
  | zero => intro v3 v4 w h; cases h
  | succ n ih =>
    intro v3 v4 w h
    refine run_sound (r := r) (X := X) (cc := cX5_knownAt) (own := RX5) (tab := tX5_knownAt) G (by rw [hn]; exact kX5_knownAt) (oI := (oF [])) (oL := (oF [])) (oV := (oF [])) (rI := (fun x w => some (x, w))) (rL := (fun _ _ => none)) (rV := (fun _ => none))
      (K := (fun j ls st w => if j = 11 then (lgI ls 3 fun v3 => lgI ls 4 fun v4 => st0 st (callW (fX5_knownAt_11 N a1 n v3 v4) w)) else none)) (fun x w pc ls hx hd => hr x w pc ls (Option.some.inj hx) hd) (fun _ _ _ _ hx => by cases hx) (fun _ _ _ hx => by cases hx) hC (fun ls => lsb [some (.inr (.inr (9, 0))), some (.inl a1), some (.inl a2), none, none] 0 ls) (keepsP_of rfl) ?_ 40 11 [some (.inr (.inr (9, 0))), some (.inl a1), some (.inl a2), some (.inl v3), some (.inl v4)] [] w ?_ h
    · intro j ls st w hfx h
      obtain ⟨e0, e1, e2, -⟩ : _ = _ ∧ _ = _ ∧ _ = _ ∧ True := hfx
      try dsimp only at h
      by_cases hj : j = 11
      · subst hj
        rw [if_pos rfl] at h
        obtain ⟨v3, e3, h_1⟩ := lgI_some h
        obtain ⟨v4, e4, h_2⟩ := lgI_some h_1
        obtain ⟨rfl, h_3⟩ := st0_some h_2
        clear h h_1 h_2
        have h := h_3
        try rw [callW_eq] at h
        exact WW.le (a := [some (.inr (.inr (9, 0))), some (.inl a1), some (.inl a2), some (.inl v3), some (.inl v4)]) (by rw [hn]; rfl) (show _ = _ ∧ _ = _ ∧ _ = _ ∧ _ = _ ∧ _ = _ ∧ True from ⟨e0, e1, e2, e3, e4, trivial⟩) (ih v3 v4 w h)
      rw [if_neg hj] at h
      cases h
    · exact (show _ = _ ∧ _ = _ ∧ _ = _ ∧ True from ⟨rfl, rfl, rfl, trivial⟩)
set_option maxRecDepth 100000 in
set_option maxHeartbeats 4000000 in
theorem crX5_knownAt {N : Nat} {X : XT} (G : GX X cX5_knownAt RX5) (hR : xR X = rmL 1) : CRs X tX5_knownAt (oF []) (oF []) (oF []) := by
  have hl : tX5_knownAt.filter isInv = [] := rfl
  intro e he
  rw [hl] at he
  cases he
set_option maxRecDepth 100000 in
set_option maxHeartbeats 4000000 in
theorem MX5_knownAt (N : Nat) : SndI yX5_knownAt cX5_knownAt 5 (some .int) 1 3 true (mX5_knownAt N) := by
  refine SndI.of tX5_knownAt (by decide +kernel) rfl rfl ?_ ?_
  · intro as w x h
    obtain ⟨t1, rfl, h_1⟩ := xS1_some h
    obtain ⟨a1, t2, rfl, h_2⟩ := xI1_some h_1
    obtain ⟨a2, t3, rfl, h_3⟩ := xI1_some h_2
    obtain ⟨rfl, h_4⟩ := xN1_some h_3
    clear h h_1 h_2 h_3
    have h := h_4
    rw [callW_eq] at h
    exact ⟨fun _ => ⟨_, _, _, rfl, rfl, _, rfl, rfl⟩, rfl, Nat.le_of_ble_eq_true rfl⟩
  · intro X G hn hR as w r h hr
    have hC := crX5_knownAt (N := N) G hR
    obtain ⟨t1, rfl, h_1⟩ := xS1_some h
    obtain ⟨a1, t2, rfl, h_2⟩ := xI1_some h_1
    obtain ⟨a2, t3, rfl, h_3⟩ := xI1_some h_2
    obtain ⟨rfl, h_4⟩ := xN1_some h_3
    clear h h_1 h_2 h_3
    have h := h_4
    rw [callW_eq] at h
    refine run_sound (r := r) (X := X) (cc := cX5_knownAt) (own := RX5) (tab := tX5_knownAt) G (by rw [hn]; exact kX5_knownAt) (oI := (oF [])) (oL := (oF [])) (oV := (oF [])) (rI := (fun x w => some (x, w))) (rL := (fun _ _ => none)) (rV := (fun _ => none))
      (K := (fun j ls st w => if j = 11 then (lgI ls 3 fun v3 => lgI ls 4 fun v4 => st0 st (callW (fX5_knownAt_11 N a1 N v3 v4) w)) else none)) (fun x w pc ls hx hd => hr x w pc ls (Option.some.inj hx) hd) (fun _ _ _ _ hx => by cases hx) (fun _ _ _ hx => by cases hx) hC (fun ls => lsb [some (.inr (.inr (9, 0))), some (.inl a1), some (.inl a2), none, none] 0 ls) (keepsP_of rfl) ?_ 40 0 [some (.inr (.inr (9, 0))), some (.inl a1), some (.inl a2), none, none] [] w ?_ h
    · intro j ls st w hfx h
      obtain ⟨e0, e1, e2, -⟩ : _ = _ ∧ _ = _ ∧ _ = _ ∧ True := hfx
      try dsimp only at h
      by_cases hj : j = 11
      · subst hj
        rw [if_pos rfl] at h
        obtain ⟨v3, e3, h_1⟩ := lgI_some h
        obtain ⟨v4, e4, h_2⟩ := lgI_some h_1
        obtain ⟨rfl, h_3⟩ := st0_some h_2
        clear h h_1 h_2
        have h := h_3
        try rw [callW_eq] at h
        exact WW.le (a := [some (.inr (.inr (9, 0))), some (.inl a1), some (.inl a2), some (.inl v3), some (.inl v4)]) (by rw [hn]; rfl) (show _ = _ ∧ _ = _ ∧ _ = _ ∧ _ = _ ∧ _ = _ ∧ True from ⟨e0, e1, e2, e3, e4, trivial⟩) (sX5_knownAt_11 G hn hC hr a1 a2 N v3 v4 w h)
      rw [if_neg hj] at h
      cases h
    · exact (show _ = _ ∧ _ = _ ∧ _ = _ ∧ True from ⟨rfl, rfl, rfl, trivial⟩)

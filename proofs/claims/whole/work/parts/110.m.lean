-- MoorGuidesModel.begin()V
def tX12_begin : List EN := [
  (0, .iconst 0, 0, 0, 0, 0, 0, []), (1, .istore_n 1, 0, 0, 0, 0, 0, []), (2, .iload_n 1, 3, 0, 0, 0, 0, []), (3, .aload_n 0, 0, 0, 0, 0, 0, []),
  (4, .getfield 298, 0, 12, 13, 0, 0, []), (7, .if_icmp .ge 87, 0, 59, 0, 0, 0, []), (10, .aload_n 0, 0, 0, 0, 0, 0, []), (11, .getfield 106, 0, 12, 68, 0, 0, []),
  (14, .iload_n 1, 0, 0, 0, 0, 0, []), (15, .iconst 0, 0, 0, 0, 0, 0, []), (16, .bastore, 0, 0, 0, 0, 0, []), (17, .aload_n 0, 0, 0, 0, 0, 0, []),
  (18, .getfield 109, 0, 12, 69, 0, 0, []), (21, .iload_n 1, 0, 0, 0, 0, 0, []), (22, .iconst 0, 0, 0, 0, 0, 0, []), (23, .iastore, 0, 0, 0, 0, 0, []),
  (24, .aload_n 0, 0, 0, 0, 0, 0, []), (25, .getfield 112, 0, 12, 70, 0, 0, []), (28, .iload_n 1, 0, 0, 0, 0, 0, []), (29, .iconst (-1), 0, 0, 0, (-1), 0, []),
  (30, .iastore, 0, 0, 0, 0, 0, []), (31, .iconst 0, 0, 0, 0, 0, 0, []), (32, .istore_n 2, 0, 0, 0, 0, 0, []), (33, .iload_n 2, 24, 0, 0, 0, 0, []),
  (34, .bipush 8, 0, 0, 0, 8, 0, []), (36, .if_icmp .ge 52, 0, 57, 0, 0, 0, []), (39, .aload_n 0, 0, 0, 0, 0, 0, []), (40, .getfield 32, 0, 12, 35, 0, 0, []),
  (43, .iload_n 1, 0, 0, 0, 0, 0, []), (44, .iaload, 0, 0, 0, 0, 0, []), (45, .iload_n 2, 0, 0, 0, 0, 0, []), (46, .invokestatic 341, 0, 0, 2, 0, 0, []),
  (49, .istore_n 3, 0, 0, 0, 0, 0, []), (50, .aload_n 0, 0, 0, 0, 0, 0, []), (51, .getfield 100, 0, 12, 66, 0, 0, []), (54, .bipush 8, 0, 0, 0, 8, 0, []),
  (56, .iload_n 1, 0, 0, 0, 0, 0, []), (57, .imul, 0, 0, 0, 0, 0, []), (58, .iload_n 2, 0, 0, 0, 0, 0, []), (59, .iadd, 0, 0, 0, 0, 0, []),
  (60, .iload_n 3, 0, 0, 0, 0, 0, []), (61, .ifCond .eq 7, 0, 44, 0, 0, 0, []), (64, .iconst 0, 0, 0, 0, 0, 0, []), (65, .goto 4, 0, 45, 0, 0, 0, []),
  (68, .iconst (-1), 0, 0, 0, (-1), 0, []), (69, .iastore, 46, 0, 0, 0, 0, []), (70, .aload_n 0, 0, 0, 0, 0, 0, []), (71, .getfield 103, 0, 12, 67, 0, 0, []),
  (74, .bipush 8, 0, 0, 0, 8, 0, []), (76, .iload_n 1, 0, 0, 0, 0, 0, []), (77, .imul, 0, 0, 0, 0, 0, []), (78, .iload_n 2, 0, 0, 0, 0, 0, []),
  (79, .iadd, 0, 0, 0, 0, 0, []), (80, .iload_n 3, 0, 0, 0, 0, 0, []), (81, .bastore, 0, 0, 0, 0, 0, []), (82, .iinc 2 1, 0, 0, 0, 1, 0, []),
  (85, .goto (-52), 0, 23, 0, 0, 0, []), (88, .iinc 1 1, 58, 0, 0, 1, 0, []), (91, .goto (-89), 0, 2, 0, 0, 0, []), (94, .aload_n 0, 60, 0, 0, 0, 0, []),
  (95, .iconst 0, 0, 0, 0, 0, 0, []), (96, .putfield 438, 0, 12, 64, 0, 0, []), (99, .aload_n 0, 0, 0, 0, 0, 0, []), (100, .aload_n 0, 0, 0, 0, 0, 0, []),
  (101, .getfield 307, 0, 12, 16, 0, 0, []), (104, .putfield 441, 0, 12, 65, 0, 0, []), (107, .aload_n 0, 0, 0, 0, 0, 0, []), (108, .getfield 115, 0, 12, 71, 0, 0, []),
  (111, .iconst 0, 0, 0, 0, 0, 0, []), (112, .aload_n 0, 0, 0, 0, 0, 0, []), (113, .getfield 313, 0, 12, 18, 0, 0, []), (116, .i2l, 0, 0, 0, 0, 0, []),
  (117, .lastore, 0, 0, 0, 0, 0, []), (118, .aload_n 0, 0, 0, 0, 0, 0, []), (119, .iconst 0, 0, 0, 0, 0, 0, []), (120, .putfield 444, 0, 12, 93, 0, 0, []),
  (123, .aload_n 0, 0, 0, 0, 0, 0, []), (124, .iconst 0, 0, 0, 0, 0, 0, []), (125, .putfield 447, 0, 12, 74, 0, 0, []), (128, .aload_n 0, 0, 0, 0, 0, 0, []),
  (129, .iconst 0, 0, 0, 0, 0, 0, []), (130, .putfield 450, 0, 12, 97, 0, 0, [(0, 0)]), (133, .aload_n 0, 0, 0, 0, 0, 0, []), (134, .invokevirtual 453, 0, 0, 1, 0, 0, [(0, 0), (0, 0)]),
  (137, .return_, 0, 0, 0, 0, 0, [])]
noncomputable def fX12_begin_59 (N : Nat) (w : Wd) : Option (Wd) :=
  (stL (setI (setI w 16 0 64 (0 : Int32)) 16 0 65 (gI (setI w 16 0 64 (0 : Int32)) 16 0 16)) 106 0 (0 : Int32) 2 (gI (setI (setI w 16 0 64 (0 : Int32)) 16 0 65 (gI (setI w 16 0 64 (0 : Int32)) 16 0 16)) 16 0 18).toInt64).bind fun w1 =>
  (callW (pX12_laySteps N) (setI (setI (setI w1 16 0 93 (0 : Int32)) 16 0 74 (0 : Int32)) 16 0 97 (0 : Int32))).bind fun w2 =>
  some w2
noncomputable def fX12_begin_57 (N : Nat) (k2 : Int32 → Wd → Option (Wd)) (v1 : Int32) (w : Wd) : Option (Wd) :=
  k2 (v1 + (1 : Int32)) w
noncomputable def fX12_begin_45 (N : Nat) (k23 : Int32 → Int32 → Wd → Option (Wd)) (v1 : Int32) (v2 : Int32) (v3 : Int32) (s0 : Int32) (s1 : Int32) (s2 : Nat) (w : Wd) : Option (Wd) :=
  (stI w 101 s2 s1 96 s0).bind fun w1 =>
  (stI w1 102 0 (((8 : Int32) * v1) + v2) 96 (v3 &&& 1)).bind fun w2 =>
  k23 v1 (v2 + (1 : Int32)) w2
noncomputable def fX12_begin_23 (N : Nat) : Nat → (Int32 → Wd → Option (Wd)) → Int32 → Int32 → Wd → Option (Wd)
  | 0, _, _, _, _ => none
  | n + 1, k57, v1, v2, w =>
    if v2 < (8 : Int32) then
      (ldI w 79 0 v1 12).bind fun x1 =>
      (callW (pX12_isOf N x1 v2) w).bind fun r2 =>
      if r2.1 = 0 then
        callW (fX12_begin_45 N (fX12_begin_23 N n k57) v1 v2 r2.1 (-1 : Int32) (((8 : Int32) * v1) + v2) 0) r2.2
      else
      callW (fX12_begin_45 N (fX12_begin_23 N n k57) v1 v2 r2.1 (0 : Int32) (((8 : Int32) * v1) + v2) 0) r2.2
    else
    k57 v1 w
noncomputable def fX12_begin_2 (N : Nat) : Nat → (Wd → Option (Wd)) → Int32 → Wd → Option (Wd)
  | 0, _, _, _ => none
  | n + 1, k59, v1, w =>
    if v1 < (gI w 16 0 13) then
      (stI w 103 0 v1 12 ((0 : Int32) &&& 1)).bind fun w1 =>
      (stI w1 104 0 v1 12 (0 : Int32)).bind fun w2 =>
      (stI w2 105 0 v1 12 (-1 : Int32)).bind fun w3 =>
      callW (fX12_begin_23 N N (fX12_begin_57 N (fX12_begin_2 N n k59)) v1 (0 : Int32)) w3
    else
    k59 w
noncomputable def pX12_begin (N : Nat) (w : Wd) : Option (Wd) :=
  callW (fX12_begin_2 N N (fX12_begin_59 N) (0 : Int32)) w
noncomputable def mX12_begin (N : Nat) (as : List AV) (w : Wd) : Option (Wd) := xS1 16 as fun t => xN1 t (callW (pX12_begin N) w)
set_option maxRecDepth 100000 in
set_option maxHeartbeats 4000000 in
theorem kX12_begin : TK cX12_begin RX12 4 tX12_begin := ⟨by decide +kernel, wok_of [1613, 1668, 1669, 1670, 1635, 1666, 1667, 1664, 1616, 1665, 1671, 1618, 1693, 1674, 1697] (by decide +kernel) (by decide +kernel)⟩
set_option maxRecDepth 100000 in
set_option maxHeartbeats 4000000 in
theorem sX12_begin_59 {N : Nat} {X : XT} (G : GX X cX12_begin RX12) (hn : xnL X = 4) (hC : CRs X tX12_begin (oF [(mX12_isOf N)]) (oF []) (oF [(mX12_laySteps N)])) {r : Wd} (hr : RTV X cX12_begin r)  : ∀ (w : Wd), fX12_begin_59 N w = some r → WW X (pcAt tX12_begin 59) [some (.inr (.inr (16, 0))), none, none, none] [] w := by
  intro w h
  refine run_sound (r := r) (X := X) (cc := cX12_begin) (own := RX12) (tab := tX12_begin) G (by rw [hn]; exact kX12_begin) (oI := (oF [(mX12_isOf N)])) (oL := (oF [])) (oV := (oF [(mX12_laySteps N)])) (rI := (fun _ _ => none)) (rL := (fun _ _ => none)) (rV := (fun w => some w))
    (K := (fun j ls st w => none)) (fun _ _ _ _ hx => by cases hx) (fun _ _ _ _ hx => by cases hx) (fun w pc ls hx hd => hr w pc ls (Option.some.inj hx) hd) hC (fun ls => lsb [some (.inr (.inr (16, 0))), none, none, none] 0 ls) (keepsP_of rfl) ?_ 87 59 [some (.inr (.inr (16, 0))), none, none, none] [] w ?_ h
  · intro j ls st w hfx h
    obtain ⟨e0, -⟩ : _ = _ ∧ True := hfx
    try dsimp only at h
    cases h
  · exact (show _ = _ ∧ True from ⟨rfl, trivial⟩)
set_option maxRecDepth 100000 in
set_option maxHeartbeats 4000000 in
theorem sX12_begin_57 {N : Nat} {X : XT} (G : GX X cX12_begin RX12) (hn : xnL X = 4) (hC : CRs X tX12_begin (oF [(mX12_isOf N)]) (oF []) (oF [(mX12_laySteps N)])) {r : Wd} (hr : RTV X cX12_begin r)  : ∀ (k2 : Int32 → Wd → Option (Wd)) (v1 : Int32) (w : Wd), fX12_begin_57 N k2 v1 w = some r → (∀ (v1 : Int32) (w : Wd), k2 v1 w = some r → WW X (pcAt tX12_begin 2) [some (.inr (.inr (16, 0))), some (.inl v1), none, none] [] w) → WW X (pcAt tX12_begin 57) [some (.inr (.inr (16, 0))), some (.inl v1), none, none] [] w := by
  intro k2 v1 w h h2
  refine run_sound (r := r) (X := X) (cc := cX12_begin) (own := RX12) (tab := tX12_begin) G (by rw [hn]; exact kX12_begin) (oI := (oF [(mX12_isOf N)])) (oL := (oF [])) (oV := (oF [(mX12_laySteps N)])) (rI := (fun _ _ => none)) (rL := (fun _ _ => none)) (rV := (fun w => some w))
    (K := (fun j ls st w => if j = 2 then (lgI ls 1 fun v1 => st0 st (k2 v1 w)) else none)) (fun _ _ _ _ hx => by cases hx) (fun _ _ _ _ hx => by cases hx) (fun w pc ls hx hd => hr w pc ls (Option.some.inj hx) hd) hC (fun ls => lsb [some (.inr (.inr (16, 0))), none, none, none] 0 ls) (keepsP_of rfl) ?_ 87 57 [some (.inr (.inr (16, 0))), some (.inl v1), none, none] [] w ?_ h
  · intro j ls st w hfx h
    obtain ⟨e0, -⟩ : _ = _ ∧ True := hfx
    try dsimp only at h
    by_cases hj : j = 2
    · subst hj
      rw [if_pos rfl] at h
      obtain ⟨v1, e1, h_1⟩ := lgI_some h
      obtain ⟨rfl, h_2⟩ := st0_some h_1
      clear h h_1
      have h := h_2
      try rw [callW_eq] at h
      exact WW.le (a := [some (.inr (.inr (16, 0))), some (.inl v1), none, none]) (by rw [hn]; rfl) (show _ = _ ∧ _ = _ ∧ True from ⟨e0, e1, trivial⟩) (h2 v1 w h)
    rw [if_neg hj] at h
    cases h
  · exact (show _ = _ ∧ True from ⟨rfl, trivial⟩)
set_option maxRecDepth 100000 in
set_option maxHeartbeats 4000000 in
theorem sX12_begin_45 {N : Nat} {X : XT} (G : GX X cX12_begin RX12) (hn : xnL X = 4) (hC : CRs X tX12_begin (oF [(mX12_isOf N)]) (oF []) (oF [(mX12_laySteps N)])) {r : Wd} (hr : RTV X cX12_begin r)  : ∀ (k23 : Int32 → Int32 → Wd → Option (Wd)) (v1 : Int32) (v2 : Int32) (v3 : Int32) (s0 : Int32) (s1 : Int32) (s2 : Nat) (w : Wd), fX12_begin_45 N k23 v1 v2 v3 s0 s1 s2 w = some r → (∀ (v1 : Int32) (v2 : Int32) (w : Wd), k23 v1 v2 w = some r → WW X (pcAt tX12_begin 23) [some (.inr (.inr (16, 0))), some (.inl v1), some (.inl v2), none] [] w) → WW X (pcAt tX12_begin 45) [some (.inr (.inr (16, 0))), some (.inl v1), some (.inl v2), some (.inl v3)] [.inl s0, .inl s1, .inr (.inr (101, s2))] w := by
  intro k23 v1 v2 v3 s0 s1 s2 w h h23
  refine run_sound (r := r) (X := X) (cc := cX12_begin) (own := RX12) (tab := tX12_begin) G (by rw [hn]; exact kX12_begin) (oI := (oF [(mX12_isOf N)])) (oL := (oF [])) (oV := (oF [(mX12_laySteps N)])) (rI := (fun _ _ => none)) (rL := (fun _ _ => none)) (rV := (fun w => some w))
    (K := (fun j ls st w => if j = 23 then (lgI ls 1 fun v1 => lgI ls 2 fun v2 => st0 st (k23 v1 v2 w)) else none)) (fun _ _ _ _ hx => by cases hx) (fun _ _ _ _ hx => by cases hx) (fun w pc ls hx hd => hr w pc ls (Option.some.inj hx) hd) hC (fun ls => lsb [some (.inr (.inr (16, 0))), none, none, none] 0 ls) (keepsP_of rfl) ?_ 87 45 [some (.inr (.inr (16, 0))), some (.inl v1), some (.inl v2), some (.inl v3)] [.inl s0, .inl s1, .inr (.inr (101, s2))] w ?_ h
  · intro j ls st w hfx h
    obtain ⟨e0, -⟩ : _ = _ ∧ True := hfx
    try dsimp only at h
    by_cases hj : j = 23
    · subst hj
      rw [if_pos rfl] at h
      obtain ⟨v1, e1, h_1⟩ := lgI_some h
      obtain ⟨v2, e2, h_2⟩ := lgI_some h_1
      obtain ⟨rfl, h_3⟩ := st0_some h_2
      clear h h_1 h_2
      have h := h_3
      try rw [callW_eq] at h
      exact WW.le (a := [some (.inr (.inr (16, 0))), some (.inl v1), some (.inl v2), none]) (by rw [hn]; rfl) (show _ = _ ∧ _ = _ ∧ _ = _ ∧ True from ⟨e0, e1, e2, trivial⟩) (h23 v1 v2 w h)
    rw [if_neg hj] at h
    cases h
  · exact (show _ = _ ∧ True from ⟨rfl, trivial⟩)
set_option maxRecDepth 100000 in
set_option maxHeartbeats 4000000 in
theorem sX12_begin_23 {N : Nat} {X : XT} (G : GX X cX12_begin RX12) (hn : xnL X = 4) (hC : CRs X tX12_begin (oF [(mX12_isOf N)]) (oF []) (oF [(mX12_laySteps N)])) {r : Wd} (hr : RTV X cX12_begin r)  : ∀ (n : Nat) (k57 : Int32 → Wd → Option (Wd)) (v1 : Int32) (v2 : Int32) (w : Wd), fX12_begin_23 N n k57 v1 v2 w = some r → (∀ (v1 : Int32) (w : Wd), k57 v1 w = some r → WW X (pcAt tX12_begin 57) [some (.inr (.inr (16, 0))), some (.inl v1), none, none] [] w) → WW X (pcAt tX12_begin 23) [some (.inr (.inr (16, 0))), some (.inl v1), some (.inl v2), none] [] w := by
  intro n
  induction n with
  | zero => intro k57 v1 v2 w h h57; cases h
  | succ n ih =>
    intro k57 v1 v2 w h h57
    refine run_sound (r := r) (X := X) (cc := cX12_begin) (own := RX12) (tab := tX12_begin) G (by rw [hn]; exact kX12_begin) (oI := (oF [(mX12_isOf N)])) (oL := (oF [])) (oV := (oF [(mX12_laySteps N)])) (rI := (fun _ _ => none)) (rL := (fun _ _ => none)) (rV := (fun w => some w))
      (K := (fun j ls st w => if j = 45 then (lgI ls 1 fun v1 => lgI ls 2 fun v2 => lgI ls 3 fun v3 => po1 st fun s0 st => po1 st fun s1 st => pr1 st fun kk s2 st => if kk = 101 then st0 st (callW (fX12_begin_45 N (fX12_begin_23 N n k57) v1 v2 v3 s0 s1 s2) w) else none) else if j = 57 then (lgI ls 1 fun v1 => st0 st (k57 v1 w)) else none)) (fun _ _ _ _ hx => by cases hx) (fun _ _ _ _ hx => by cases hx) (fun w pc ls hx hd => hr w pc ls (Option.some.inj hx) hd) hC (fun ls => lsb [some (.inr (.inr (16, 0))), none, none, none] 0 ls) (keepsP_of rfl) ?_ 87 23 [some (.inr (.inr (16, 0))), some (.inl v1), some (.inl v2), none] [] w ?_ h
    · intro j ls st w hfx h
      obtain ⟨e0, -⟩ : _ = _ ∧ True := hfx
      try dsimp only at h
      by_cases hj : j = 45
      · subst hj
        rw [if_pos rfl] at h
        obtain ⟨v1, e1, h_1⟩ := lgI_some h
        obtain ⟨v2, e2, h_2⟩ := lgI_some h_1
        obtain ⟨v3, e3, h_3⟩ := lgI_some h_2
        obtain ⟨s0, st0, rfl, h_4⟩ := po1_some h_3
        obtain ⟨s1, st1, rfl, h_5⟩ := po1_some h_4
        obtain ⟨kkk2, s2, st2, rfl, h_6⟩ := pr1_some h_5
        obtain ⟨rfl, h_7⟩ := if_some _ h_6
        obtain ⟨rfl, h_8⟩ := st0_some h_7
        clear h h_1 h_2 h_3 h_4 h_5 h_6 h_7
        have h := h_8
        try rw [callW_eq] at h
        exact WW.le (a := [some (.inr (.inr (16, 0))), some (.inl v1), some (.inl v2), some (.inl v3)]) (by rw [hn]; rfl) (show _ = _ ∧ _ = _ ∧ _ = _ ∧ _ = _ ∧ True from ⟨e0, e1, e2, e3, trivial⟩) (sX12_begin_45 G hn hC hr (fX12_begin_23 N n k57) v1 v2 v3 s0 s1 s2 w h (fun v1 v2 w h => (ih k57 v1 v2 w h h57)))
      rw [if_neg hj] at h
      by_cases hj : j = 57
      · subst hj
        rw [if_pos rfl] at h
        obtain ⟨v1, e1, h_1⟩ := lgI_some h
        obtain ⟨rfl, h_2⟩ := st0_some h_1
        clear h h_1
        have h := h_2
        try rw [callW_eq] at h
        exact WW.le (a := [some (.inr (.inr (16, 0))), some (.inl v1), none, none]) (by rw [hn]; rfl) (show _ = _ ∧ _ = _ ∧ True from ⟨e0, e1, trivial⟩) (h57 v1 w h)
      rw [if_neg hj] at h
      cases h
    · exact (show _ = _ ∧ True from ⟨rfl, trivial⟩)
set_option maxRecDepth 100000 in
set_option maxHeartbeats 4000000 in
theorem sX12_begin_2 {N : Nat} {X : XT} (G : GX X cX12_begin RX12) (hn : xnL X = 4) (hC : CRs X tX12_begin (oF [(mX12_isOf N)]) (oF []) (oF [(mX12_laySteps N)])) {r : Wd} (hr : RTV X cX12_begin r)  : ∀ (n : Nat) (k59 : Wd → Option (Wd)) (v1 : Int32) (w : Wd), fX12_begin_2 N n k59 v1 w = some r → (∀ (w : Wd), k59 w = some r → WW X (pcAt tX12_begin 59) [some (.inr (.inr (16, 0))), none, none, none] [] w) → WW X (pcAt tX12_begin 2) [some (.inr (.inr (16, 0))), some (.inl v1), none, none] [] w := by
  intro n
  induction n with
  | zero => intro k59 v1 w h h59; cases h
  | succ n ih =>
    intro k59 v1 w h h59
    refine run_sound (r := r) (X := X) (cc := cX12_begin) (own := RX12) (tab := tX12_begin) G (by rw [hn]; exact kX12_begin) (oI := (oF [(mX12_isOf N)])) (oL := (oF [])) (oV := (oF [(mX12_laySteps N)])) (rI := (fun _ _ => none)) (rL := (fun _ _ => none)) (rV := (fun w => some w))
      (K := (fun j ls st w => if j = 23 then (lgI ls 1 fun v1 => lgI ls 2 fun v2 => st0 st (callW (fX12_begin_23 N N (fX12_begin_57 N (fX12_begin_2 N n k59)) v1 v2) w)) else if j = 59 then (st0 st (k59 w)) else none)) (fun _ _ _ _ hx => by cases hx) (fun _ _ _ _ hx => by cases hx) (fun w pc ls hx hd => hr w pc ls (Option.some.inj hx) hd) hC (fun ls => lsb [some (.inr (.inr (16, 0))), none, none, none] 0 ls) (keepsP_of rfl) ?_ 87 2 [some (.inr (.inr (16, 0))), some (.inl v1), none, none] [] w ?_ h
    · intro j ls st w hfx h
      obtain ⟨e0, -⟩ : _ = _ ∧ True := hfx
      try dsimp only at h
      by_cases hj : j = 23
      · subst hj
        rw [if_pos rfl] at h
        obtain ⟨v1, e1, h_1⟩ := lgI_some h
        obtain ⟨v2, e2, h_2⟩ := lgI_some h_1
        obtain ⟨rfl, h_3⟩ := st0_some h_2
        clear h h_1 h_2
        have h := h_3
        try rw [callW_eq] at h
        exact WW.le (a := [some (.inr (.inr (16, 0))), some (.inl v1), some (.inl v2), none]) (by rw [hn]; rfl) (show _ = _ ∧ _ = _ ∧ _ = _ ∧ True from ⟨e0, e1, e2, trivial⟩) (sX12_begin_23 G hn hC hr N (fX12_begin_57 N (fX12_begin_2 N n k59)) v1 v2 w h (fun v1 w h => (sX12_begin_57 G hn hC hr (fX12_begin_2 N n k59) v1 w h (fun v1 w h => (ih k59 v1 w h h59)))))
      rw [if_neg hj] at h
      by_cases hj : j = 59
      · subst hj
        rw [if_pos rfl] at h
        obtain ⟨rfl, h_1⟩ := st0_some h
        clear h
        have h := h_1
        try rw [callW_eq] at h
        exact WW.le (a := [some (.inr (.inr (16, 0))), none, none, none]) (by rw [hn]; rfl) (show _ = _ ∧ True from ⟨e0, trivial⟩) (h59 w h)
      rw [if_neg hj] at h
      cases h
    · exact (show _ = _ ∧ True from ⟨rfl, trivial⟩)
set_option maxRecDepth 100000 in
set_option maxHeartbeats 4000000 in
theorem crX12_begin {N : Nat} {X : XT} (G : GX X cX12_begin RX12) (hR : xR X = rmL 4) : CRs X tX12_begin (oF [(mX12_isOf N)]) (oF []) (oF [(mX12_laySteps N)]) := by
  have hl : tX12_begin.filter isInv = [(46, .invokestatic 341, 0, 0, 2, 0, 0, []), (134, .invokevirtual 453, 0, 0, 1, 0, 0, [(0, 0), (0, 0)])] := rfl
  intro e he
  rw [hl] at he
  simp only [List.mem_cons, List.not_mem_nil, or_false] at he
  rcases he with rfl | rfl
  · exact crI_S (idx := 341) G (by decide +kernel) (MX12_isOf N) (cw_of (ps := [1589, 1590, 164, 1591]) (by decide +kernel) (by decide +kernel)) ⟨by decide +kernel, by decide +kernel, by decide +kernel⟩ (by unfold rmOk; rw [hR]; exact ⟨by decide, by decide⟩)
  · exact crV_V (idx := 453) G (by decide +kernel) (MX12_laySteps N) (cw_of (ps := [1592, 1594, 74, 164, 1595]) (by decide +kernel) (by decide +kernel)) ⟨by decide +kernel, by decide +kernel, by decide +kernel⟩ (by unfold rmOk; rw [hR]; exact ⟨by decide, by decide⟩)
set_option maxRecDepth 100000 in
set_option maxHeartbeats 4000000 in
theorem MX12_begin (N : Nat) : SndV yX12_begin cX12_begin 4 none 4 1 true (mX12_begin N) := by
  refine SndV.of tX12_begin (by decide +kernel) rfl rfl ?_ ?_
  · intro as w x h
    obtain ⟨t1, rfl, h_1⟩ := xS1_some h
    obtain ⟨rfl, h_2⟩ := xN1_some h_1
    clear h h_1
    have h := h_2
    rw [callW_eq] at h
    exact ⟨fun _ => ⟨_, _, _, rfl, rfl, _, rfl, rfl⟩, rfl, Nat.le_of_ble_eq_true rfl⟩
  · intro X G hn hR as w r h hr
    have hC := crX12_begin (N := N) G hR
    obtain ⟨t1, rfl, h_1⟩ := xS1_some h
    obtain ⟨rfl, h_2⟩ := xN1_some h_1
    clear h h_1
    have h := h_2
    rw [callW_eq] at h
    refine run_sound (r := r) (X := X) (cc := cX12_begin) (own := RX12) (tab := tX12_begin) G (by rw [hn]; exact kX12_begin) (oI := (oF [(mX12_isOf N)])) (oL := (oF [])) (oV := (oF [(mX12_laySteps N)])) (rI := (fun _ _ => none)) (rL := (fun _ _ => none)) (rV := (fun w => some w))
      (K := (fun j ls st w => if j = 2 then (lgI ls 1 fun v1 => st0 st (callW (fX12_begin_2 N N (fX12_begin_59 N) v1) w)) else none)) (fun _ _ _ _ hx => by cases hx) (fun _ _ _ _ hx => by cases hx) (fun w pc ls hx hd => hr w pc ls (Option.some.inj hx) hd) hC (fun ls => lsb [some (.inr (.inr (16, 0))), none, none, none] 0 ls) (keepsP_of rfl) ?_ 87 0 [some (.inr (.inr (16, 0))), none, none, none] [] w ?_ h
    · intro j ls st w hfx h
      obtain ⟨e0, -⟩ : _ = _ ∧ True := hfx
      try dsimp only at h
      by_cases hj : j = 2
      · subst hj
        rw [if_pos rfl] at h
        obtain ⟨v1, e1, h_1⟩ := lgI_some h
        obtain ⟨rfl, h_2⟩ := st0_some h_1
        clear h h_1
        have h := h_2
        try rw [callW_eq] at h
        exact WW.le (a := [some (.inr (.inr (16, 0))), some (.inl v1), none, none]) (by rw [hn]; rfl) (show _ = _ ∧ _ = _ ∧ True from ⟨e0, e1, trivial⟩) (sX12_begin_2 G hn hC hr N (fX12_begin_59 N) v1 w h (fun w h => (sX12_begin_59 G hn hC hr w h)))
      rw [if_neg hj] at h
      cases h
    · exact (show _ = _ ∧ True from ⟨rfl, trivial⟩)
-- MoorGuidesModel.keepText()V
def tX12_keepText : List EN := [
  (0, .aload_n 0, 0, 0, 0, 0, 0, []), (1, .aload_n 0, 0, 0, 0, 0, 0, []), (2, .getfield 258, 0, 12, 20, 0, 0, []), (5, .putfield 295, 0, 12, 12, 0, 0, []),
  (8, .aload_n 0, 0, 0, 0, 0, 0, []), (9, .aload_n 0, 0, 0, 0, 0, 0, []), (10, .getfield 261, 0, 12, 21, 0, 0, []), (13, .putfield 298, 0, 12, 13, 0, 0, []),
  (16, .aload_n 0, 0, 0, 0, 0, 0, []), (17, .aload_n 0, 0, 0, 0, 0, 0, []), (18, .getfield 264, 0, 12, 22, 0, 0, []), (21, .putfield 301, 0, 12, 14, 0, 0, []),
  (24, .aload_n 0, 0, 0, 0, 0, 0, []), (25, .aload_n 0, 0, 0, 0, 0, 0, []), (26, .getfield 267, 0, 12, 23, 0, 0, []), (29, .putfield 304, 0, 12, 15, 0, 0, []),
  (32, .aload_n 0, 0, 0, 0, 0, 0, []), (33, .aload_n 0, 0, 0, 0, 0, 0, []), (34, .getfield 270, 0, 12, 24, 0, 0, []), (37, .putfield 307, 0, 12, 16, 0, 0, []),
  (40, .aload_n 0, 0, 0, 0, 0, 0, []), (41, .aload_n 0, 0, 0, 0, 0, 0, []), (42, .getfield 273, 0, 12, 25, 0, 0, []), (45, .putfield 310, 0, 12, 17, 0, 0, []),
  (48, .aload_n 0, 0, 0, 0, 0, 0, []), (49, .aload_n 0, 0, 0, 0, 0, 0, []), (50, .getfield 276, 0, 12, 26, 0, 0, []), (53, .putfield 313, 0, 12, 18, 0, 0, []),
  (56, .aload_n 0, 0, 0, 0, 0, 0, []), (57, .aload_n 0, 0, 0, 0, 0, 0, []), (58, .getfield 279, 0, 12, 27, 0, 0, []), (61, .putfield 316, 0, 12, 19, 0, 0, []),
  (64, .aload_n 0, 0, 0, 0, 0, 0, []), (65, .getfield 20, 0, 12, 31, 0, 0, []), (68, .bipush 8, 0, 0, 0, 8, 0, []), (70, .invokestatic 319, 0, 0, 2, 0, 0, [(0, 0), (0, 0)]),
  (73, .aload_n 0, 0, 0, 0, 0, 0, []), (74, .getfield 23, 0, 12, 32, 0, 0, []), (77, .bipush 8, 0, 0, 0, 8, 0, []), (79, .invokestatic 319, 0, 0, 2, 0, 0, [(0, 0), (0, 0)]),
  (82, .aload_n 0, 0, 0, 0, 0, 0, []), (83, .getfield 26, 0, 12, 33, 0, 0, []), (86, .bipush 8, 0, 0, 0, 8, 0, []), (88, .invokestatic 319, 0, 0, 2, 0, 0, [(0, 0), (0, 0)]),
  (91, .aload_n 0, 0, 0, 0, 0, 0, []), (92, .getfield 29, 0, 12, 34, 0, 0, []), (95, .bipush 6, 0, 0, 0, 6, 0, []), (97, .invokestatic 319, 0, 0, 2, 0, 0, [(0, 0), (0, 0)]),
  (100, .aload_n 0, 0, 0, 0, 0, 0, []), (101, .getfield 32, 0, 12, 35, 0, 0, []), (104, .bipush 6, 0, 0, 0, 6, 0, []), (106, .invokestatic 319, 0, 0, 2, 0, 0, [(0, 0), (0, 0)]),
  (109, .aload_n 0, 0, 0, 0, 0, 0, []), (110, .getfield 35, 0, 12, 36, 0, 0, []), (113, .bipush 6, 0, 0, 0, 6, 0, []), (115, .invokestatic 319, 0, 0, 2, 0, 0, [(0, 0), (0, 0)]),
  (118, .aload_n 0, 0, 0, 0, 0, 0, []), (119, .getfield 38, 0, 12, 37, 0, 0, []), (122, .bipush 6, 0, 0, 0, 6, 0, []), (124, .invokestatic 319, 0, 0, 2, 0, 0, [(0, 0), (0, 0)]),
  (127, .aload_n 0, 0, 0, 0, 0, 0, []), (128, .getfield 41, 0, 12, 38, 0, 0, []), (131, .bipush 6, 0, 0, 0, 6, 0, []), (133, .invokestatic 319, 0, 0, 2, 0, 0, [(0, 0), (0, 0)]),
  (136, .aload_n 0, 0, 0, 0, 0, 0, []), (137, .getfield 44, 0, 12, 39, 0, 0, []), (140, .bipush 6, 0, 0, 0, 6, 0, []), (142, .invokestatic 319, 0, 0, 2, 0, 0, [(0, 0), (0, 0)]),
  (145, .aload_n 0, 0, 0, 0, 0, 0, []), (146, .getfield 47, 0, 12, 40, 0, 0, []), (149, .bipush 8, 0, 0, 0, 8, 0, []), (151, .invokestatic 319, 0, 0, 2, 0, 0, [(0, 0), (0, 0)]),
  (154, .aload_n 0, 0, 0, 0, 0, 0, []), (155, .getfield 50, 0, 12, 41, 0, 0, []), (158, .bipush 8, 0, 0, 0, 8, 0, []), (160, .invokestatic 319, 0, 0, 2, 0, 0, [(0, 0), (0, 0)]),
  (163, .aload_n 0, 0, 0, 0, 0, 0, []), (164, .getfield 53, 0, 12, 42, 0, 0, []), (167, .bipush 8, 0, 0, 0, 8, 0, []), (169, .invokestatic 319, 0, 0, 2, 0, 0, [(0, 0), (0, 0)]),
  (172, .aload_n 0, 0, 0, 0, 0, 0, []), (173, .getfield 56, 0, 12, 43, 0, 0, []), (176, .bipush 8, 0, 0, 0, 8, 0, []), (178, .invokestatic 319, 0, 0, 2, 0, 0, [(0, 0), (0, 0)]),
  (181, .aload_n 0, 0, 0, 0, 0, 0, []), (182, .getfield 59, 0, 12, 44, 0, 0, []), (185, .bipush 14, 0, 0, 0, 14, 0, []), (187, .invokestatic 319, 0, 0, 2, 0, 0, [(0, 0), (0, 0)]),
  (190, .aload_n 0, 0, 0, 0, 0, 0, []), (191, .getfield 62, 0, 12, 45, 0, 0, []), (194, .bipush 12, 0, 0, 0, 12, 0, []), (196, .invokestatic 319, 0, 0, 2, 0, 0, [(0, 0), (0, 0)]),
  (199, .aload_n 0, 0, 0, 0, 0, 0, []), (200, .getfield 65, 0, 12, 46, 0, 0, []), (203, .bipush 12, 0, 0, 0, 12, 0, []), (205, .invokestatic 319, 0, 0, 2, 0, 0, [(0, 0), (0, 0)]),
  (208, .iconst 0, 0, 0, 0, 0, 0, []), (209, .istore_n 1, 0, 0, 0, 0, 0, []), (210, .iload_n 1, 99, 0, 0, 0, 0, []), (211, .iconst 2, 0, 0, 0, 2, 0, []),
  (212, .if_icmp .ge 23, 0, 113, 0, 0, 0, []), (215, .aload_n 0, 0, 0, 0, 0, 0, []), (216, .getfield 68, 0, 12, 47, 0, 0, []), (219, .iload_n 1, 0, 0, 0, 0, 0, []),
  (220, .aload_n 0, 0, 0, 0, 0, 0, []), (221, .getfield 68, 0, 12, 47, 0, 0, []), (224, .iconst 2, 0, 0, 0, 2, 0, []), (225, .iload_n 1, 0, 0, 0, 0, 0, []),
  (226, .iadd, 0, 0, 0, 0, 0, []), (227, .baload, 0, 0, 0, 0, 0, []), (228, .bastore, 0, 0, 0, 0, 0, []), (229, .iinc 1 1, 0, 0, 0, 1, 0, []),
  (232, .goto (-22), 0, 98, 0, 0, 0, []), (235, .aload_n 0, 114, 0, 0, 0, 0, []), (236, .getfield 72, 0, 12, 48, 0, 0, []), (239, .iconst 2, 0, 0, 0, 2, 0, []),
  (240, .invokestatic 319, 0, 0, 2, 0, 0, [(0, 0), (0, 0)]), (243, .aload_n 0, 0, 0, 0, 0, 0, []), (244, .getfield 75, 0, 12, 49, 0, 0, []), (247, .iconst 2, 0, 0, 0, 2, 0, []),
  (248, .invokestatic 319, 0, 0, 2, 0, 0, [(0, 0), (0, 0)]), (251, .aload_n 0, 0, 0, 0, 0, 0, []), (252, .getfield 78, 0, 12, 50, 0, 0, []), (255, .bipush 64, 0, 0, 0, 64, 0, []),
  (257, .invokestatic 319, 0, 0, 2, 0, 0, [(0, 0), (0, 0)]), (260, .aload_n 0, 0, 0, 0, 0, 0, []), (261, .getfield 81, 0, 12, 51, 0, 0, []), (264, .bipush 64, 0, 0, 0, 64, 0, []),
  (266, .invokestatic 319, 0, 0, 2, 0, 0, [(0, 0), (0, 0)]), (269, .aload_n 0, 0, 0, 0, 0, 0, []), (270, .getfield 84, 0, 12, 52, 0, 0, []), (273, .bipush 64, 0, 0, 0, 64, 0, []),
  (275, .invokestatic 319, 0, 0, 2, 0, 0, [(0, 0), (0, 0)]), (278, .aload_n 0, 0, 0, 0, 0, 0, []), (279, .invokevirtual 323, 0, 1, 1, 0, 0, [(0, 0), (0, 0)]), (282, .return_, 0, 0, 0, 0, 0, [])]
noncomputable def fX12_keepText_113 (N : Nat) (w : Wd) : Option (Wd) :=
  (callW (pX12_copies N 92 0 (2 : Int32)) w).bind fun w1 =>
  (callW (pX12_copies N 93 0 (2 : Int32)) w1).bind fun w2 =>
  (callW (pX12_copies N 94 0 (64 : Int32)) w2).bind fun w3 =>
  (callW (pX12_copies N 95 0 (64 : Int32)) w3).bind fun w4 =>
  (callW (pX12_copies N 96 0 (64 : Int32)) w4).bind fun w5 =>
  (callW (pX12_begin N) w5).bind fun w6 =>
  some w6
noncomputable def fX12_keepText_98 (N : Nat) : Nat → (Wd → Option (Wd)) → Int32 → Wd → Option (Wd)
  | 0, _, _, _ => none
  | n + 1, k113, v1, w =>
    if v1 < (2 : Int32) then
      (ldI w 91 0 ((2 : Int32) + v1) 4).bind fun x1 =>
      (stI w 91 0 v1 4 (x1 &&& 1)).bind fun w2 =>
      callW (fX12_keepText_98 N n k113 (v1 + (1 : Int32))) w2
    else
    k113 w
noncomputable def pX12_keepText (N : Nat) (w : Wd) : Option (Wd) :=
  let w1 : Wd := (setI (setI (setI w 16 0 12 (gI w 16 0 20)) 16 0 13 (gI (setI w 16 0 12 (gI w 16 0 20)) 16 0 21)) 16 0 14 (gI (setI (setI w 16 0 12 (gI w 16 0 20)) 16 0 13 (gI (setI w 16 0 12 (gI w 16 0 20)) 16 0 21)) 16 0 22))
  let w2 : Wd := (setI (setI (setI w1 16 0 15 (gI w1 16 0 23)) 16 0 16 (gI (setI w1 16 0 15 (gI w1 16 0 23)) 16 0 24)) 16 0 17 (gI (setI (setI w1 16 0 15 (gI w1 16 0 23)) 16 0 16 (gI (setI w1 16 0 15 (gI w1 16 0 23)) 16 0 24)) 16 0 25))
  (callW (pX12_copies N 75 0 (8 : Int32)) (setI (setI w2 16 0 18 (gI w2 16 0 26)) 16 0 19 (gI (setI w2 16 0 18 (gI w2 16 0 26)) 16 0 27))).bind fun w3 =>
  (callW (pX12_copies N 76 0 (8 : Int32)) w3).bind fun w4 =>
  (callW (pX12_copies N 77 0 (8 : Int32)) w4).bind fun w5 =>
  (callW (pX12_copies N 78 0 (6 : Int32)) w5).bind fun w6 =>
  (callW (pX12_copies N 79 0 (6 : Int32)) w6).bind fun w7 =>
  (callW (pX12_copies N 80 0 (6 : Int32)) w7).bind fun w8 =>
  (callW (pX12_copies N 81 0 (6 : Int32)) w8).bind fun w9 =>
  (callW (pX12_copies N 82 0 (6 : Int32)) w9).bind fun w10 =>
  (callW (pX12_copies N 83 0 (6 : Int32)) w10).bind fun w11 =>
  (callW (pX12_copies N 84 0 (8 : Int32)) w11).bind fun w12 =>
  (callW (pX12_copies N 85 0 (8 : Int32)) w12).bind fun w13 =>
  (callW (pX12_copies N 86 0 (8 : Int32)) w13).bind fun w14 =>
  (callW (pX12_copies N 87 0 (8 : Int32)) w14).bind fun w15 =>
  (callW (pX12_copies N 88 0 (14 : Int32)) w15).bind fun w16 =>
  (callW (pX12_copies N 89 0 (12 : Int32)) w16).bind fun w17 =>
  (callW (pX12_copies N 90 0 (12 : Int32)) w17).bind fun w18 =>
  callW (fX12_keepText_98 N N (fX12_keepText_113 N) (0 : Int32)) w18
noncomputable def mX12_keepText (N : Nat) (as : List AV) (w : Wd) : Option (Wd) := xS1 16 as fun t => xN1 t (callW (pX12_keepText N) w)
set_option maxRecDepth 100000 in
set_option maxHeartbeats 4000000 in
theorem kX12_keepText : TK cX12_keepText RX12 2 tX12_keepText := ⟨by decide +kernel, wok_of [1620, 1612, 1621, 1613, 1622, 1614, 1623, 1615, 1624, 1616, 1625, 1617, 1626, 1618, 1627, 1619, 1631, 1632, 1633, 1634, 1635, 1636, 1637, 1638, 1639, 1640, 1641, 1642, 1643, 1644, 1645, 1646, 1647, 1647, 1648, 1649, 1650, 1651, 1652] (by decide +kernel) (by decide +kernel)⟩
set_option maxRecDepth 100000 in
set_option maxHeartbeats 4000000 in
theorem sX12_keepText_113 {N : Nat} {X : XT} (G : GX X cX12_keepText RX12) (hn : xnL X = 2) (hC : CRs X tX12_keepText (oF []) (oF []) (oF [(mX12_copies N), (mX12_begin N)])) {r : Wd} (hr : RTV X cX12_keepText r)  : ∀ (w : Wd), fX12_keepText_113 N w = some r → WW X (pcAt tX12_keepText 113) [some (.inr (.inr (16, 0))), none] [] w := by
  intro w h
  refine run_sound (r := r) (X := X) (cc := cX12_keepText) (own := RX12) (tab := tX12_keepText) G (by rw [hn]; exact kX12_keepText) (oI := (oF [])) (oL := (oF [])) (oV := (oF [(mX12_copies N), (mX12_begin N)])) (rI := (fun _ _ => none)) (rL := (fun _ _ => none)) (rV := (fun w => some w))
    (K := (fun j ls st w => none)) (fun _ _ _ _ hx => by cases hx) (fun _ _ _ _ hx => by cases hx) (fun w pc ls hx hd => hr w pc ls (Option.some.inj hx) hd) hC (fun ls => lsb [some (.inr (.inr (16, 0))), none] 0 ls) (keepsP_of rfl) ?_ 138 113 [some (.inr (.inr (16, 0))), none] [] w ?_ h
  · intro j ls st w hfx h
    obtain ⟨e0, -⟩ : _ = _ ∧ True := hfx
    try dsimp only at h
    cases h
  · exact (show _ = _ ∧ True from ⟨rfl, trivial⟩)
set_option maxRecDepth 100000 in
set_option maxHeartbeats 4000000 in
theorem sX12_keepText_98 {N : Nat} {X : XT} (G : GX X cX12_keepText RX12) (hn : xnL X = 2) (hC : CRs X tX12_keepText (oF []) (oF []) (oF [(mX12_copies N), (mX12_begin N)])) {r : Wd} (hr : RTV X cX12_keepText r)  : ∀ (n : Nat) (k113 : Wd → Option (Wd)) (v1 : Int32) (w : Wd), fX12_keepText_98 N n k113 v1 w = some r → (∀ (w : Wd), k113 w = some r → WW X (pcAt tX12_keepText 113) [some (.inr (.inr (16, 0))), none] [] w) → WW X (pcAt tX12_keepText 98) [some (.inr (.inr (16, 0))), some (.inl v1)] [] w := by
  intro n
  induction n with
  | zero => intro k113 v1 w h h113; cases h
  | succ n ih =>
    intro k113 v1 w h h113
    refine run_sound (r := r) (X := X) (cc := cX12_keepText) (own := RX12) (tab := tX12_keepText) G (by rw [hn]; exact kX12_keepText) (oI := (oF [])) (oL := (oF [])) (oV := (oF [(mX12_copies N), (mX12_begin N)])) (rI := (fun _ _ => none)) (rL := (fun _ _ => none)) (rV := (fun w => some w))
      (K := (fun j ls st w => if j = 98 then (lgI ls 1 fun v1 => st0 st (callW (fX12_keepText_98 N n k113 v1) w)) else if j = 113 then (st0 st (k113 w)) else none)) (fun _ _ _ _ hx => by cases hx) (fun _ _ _ _ hx => by cases hx) (fun w pc ls hx hd => hr w pc ls (Option.some.inj hx) hd) hC (fun ls => lsb [some (.inr (.inr (16, 0))), none] 0 ls) (keepsP_of rfl) ?_ 138 98 [some (.inr (.inr (16, 0))), some (.inl v1)] [] w ?_ h
    · intro j ls st w hfx h
      obtain ⟨e0, -⟩ : _ = _ ∧ True := hfx
      try dsimp only at h
      by_cases hj : j = 98
      · subst hj
        rw [if_pos rfl] at h
        obtain ⟨v1, e1, h_1⟩ := lgI_some h
        obtain ⟨rfl, h_2⟩ := st0_some h_1
        clear h h_1
        have h := h_2
        try rw [callW_eq] at h
        exact WW.le (a := [some (.inr (.inr (16, 0))), some (.inl v1)]) (by rw [hn]; rfl) (show _ = _ ∧ _ = _ ∧ True from ⟨e0, e1, trivial⟩) (ih k113 v1 w h h113)
      rw [if_neg hj] at h
      by_cases hj : j = 113
      · subst hj
        rw [if_pos rfl] at h
        obtain ⟨rfl, h_1⟩ := st0_some h
        clear h
        have h := h_1
        try rw [callW_eq] at h
        exact WW.le (a := [some (.inr (.inr (16, 0))), none]) (by rw [hn]; rfl) (show _ = _ ∧ True from ⟨e0, trivial⟩) (h113 w h)
      rw [if_neg hj] at h
      cases h
    · exact (show _ = _ ∧ True from ⟨rfl, trivial⟩)
set_option maxRecDepth 100000 in
set_option maxHeartbeats 4000000 in
theorem crX12_keepText {N : Nat} {X : XT} (G : GX X cX12_keepText RX12) (hR : xR X = rmL 5) : CRs X tX12_keepText (oF []) (oF []) (oF [(mX12_copies N), (mX12_begin N)]) := by
  have hl : tX12_keepText.filter isInv = [(70, .invokestatic 319, 0, 0, 2, 0, 0, [(0, 0), (0, 0)]), (79, .invokestatic 319, 0, 0, 2, 0, 0, [(0, 0), (0, 0)]), (88, .invokestatic 319, 0, 0, 2, 0, 0, [(0, 0), (0, 0)]), (97, .invokestatic 319, 0, 0, 2, 0, 0, [(0, 0), (0, 0)]), (106, .invokestatic 319, 0, 0, 2, 0, 0, [(0, 0), (0, 0)]), (115, .invokestatic 319, 0, 0, 2, 0, 0, [(0, 0), (0, 0)]), (124, .invokestatic 319, 0, 0, 2, 0, 0, [(0, 0), (0, 0)]), (133, .invokestatic 319, 0, 0, 2, 0, 0, [(0, 0), (0, 0)]), (142, .invokestatic 319, 0, 0, 2, 0, 0, [(0, 0), (0, 0)]), (151, .invokestatic 319, 0, 0, 2, 0, 0, [(0, 0), (0, 0)]), (160, .invokestatic 319, 0, 0, 2, 0, 0, [(0, 0), (0, 0)]), (169, .invokestatic 319, 0, 0, 2, 0, 0, [(0, 0), (0, 0)]), (178, .invokestatic 319, 0, 0, 2, 0, 0, [(0, 0), (0, 0)]), (187, .invokestatic 319, 0, 0, 2, 0, 0, [(0, 0), (0, 0)]), (196, .invokestatic 319, 0, 0, 2, 0, 0, [(0, 0), (0, 0)]), (205, .invokestatic 319, 0, 0, 2, 0, 0, [(0, 0), (0, 0)]), (240, .invokestatic 319, 0, 0, 2, 0, 0, [(0, 0), (0, 0)]), (248, .invokestatic 319, 0, 0, 2, 0, 0, [(0, 0), (0, 0)]), (257, .invokestatic 319, 0, 0, 2, 0, 0, [(0, 0), (0, 0)]), (266, .invokestatic 319, 0, 0, 2, 0, 0, [(0, 0), (0, 0)]), (275, .invokestatic 319, 0, 0, 2, 0, 0, [(0, 0), (0, 0)]), (279, .invokevirtual 323, 0, 1, 1, 0, 0, [(0, 0), (0, 0)])] := rfl
  intro e he
  rw [hl] at he
  simp only [List.mem_cons, List.not_mem_nil, or_false] at he
  rcases he with rfl | rfl | rfl | rfl | rfl | rfl | rfl | rfl | rfl | rfl | rfl | rfl | rfl | rfl | rfl | rfl | rfl | rfl | rfl | rfl | rfl | rfl
  · exact crV_S (idx := 319) G (by decide +kernel) (MX12_copies N) (cw_of (ps := [1582, 1583, 164, 1584]) (by decide +kernel) (by decide +kernel)) ⟨by decide +kernel, by decide +kernel, by decide +kernel⟩ (by unfold rmOk; rw [hR]; exact ⟨by decide, by decide⟩)
  · exact crV_S (idx := 319) G (by decide +kernel) (MX12_copies N) (cw_of (ps := [1582, 1583, 164, 1584]) (by decide +kernel) (by decide +kernel)) ⟨by decide +kernel, by decide +kernel, by decide +kernel⟩ (by unfold rmOk; rw [hR]; exact ⟨by decide, by decide⟩)
  · exact crV_S (idx := 319) G (by decide +kernel) (MX12_copies N) (cw_of (ps := [1582, 1583, 164, 1584]) (by decide +kernel) (by decide +kernel)) ⟨by decide +kernel, by decide +kernel, by decide +kernel⟩ (by unfold rmOk; rw [hR]; exact ⟨by decide, by decide⟩)
  · exact crV_S (idx := 319) G (by decide +kernel) (MX12_copies N) (cw_of (ps := [1582, 1583, 164, 1584]) (by decide +kernel) (by decide +kernel)) ⟨by decide +kernel, by decide +kernel, by decide +kernel⟩ (by unfold rmOk; rw [hR]; exact ⟨by decide, by decide⟩)
  · exact crV_S (idx := 319) G (by decide +kernel) (MX12_copies N) (cw_of (ps := [1582, 1583, 164, 1584]) (by decide +kernel) (by decide +kernel)) ⟨by decide +kernel, by decide +kernel, by decide +kernel⟩ (by unfold rmOk; rw [hR]; exact ⟨by decide, by decide⟩)
  · exact crV_S (idx := 319) G (by decide +kernel) (MX12_copies N) (cw_of (ps := [1582, 1583, 164, 1584]) (by decide +kernel) (by decide +kernel)) ⟨by decide +kernel, by decide +kernel, by decide +kernel⟩ (by unfold rmOk; rw [hR]; exact ⟨by decide, by decide⟩)
  · exact crV_S (idx := 319) G (by decide +kernel) (MX12_copies N) (cw_of (ps := [1582, 1583, 164, 1584]) (by decide +kernel) (by decide +kernel)) ⟨by decide +kernel, by decide +kernel, by decide +kernel⟩ (by unfold rmOk; rw [hR]; exact ⟨by decide, by decide⟩)
  · exact crV_S (idx := 319) G (by decide +kernel) (MX12_copies N) (cw_of (ps := [1582, 1583, 164, 1584]) (by decide +kernel) (by decide +kernel)) ⟨by decide +kernel, by decide +kernel, by decide +kernel⟩ (by unfold rmOk; rw [hR]; exact ⟨by decide, by decide⟩)
  · exact crV_S (idx := 319) G (by decide +kernel) (MX12_copies N) (cw_of (ps := [1582, 1583, 164, 1584]) (by decide +kernel) (by decide +kernel)) ⟨by decide +kernel, by decide +kernel, by decide +kernel⟩ (by unfold rmOk; rw [hR]; exact ⟨by decide, by decide⟩)
  · exact crV_S (idx := 319) G (by decide +kernel) (MX12_copies N) (cw_of (ps := [1582, 1583, 164, 1584]) (by decide +kernel) (by decide +kernel)) ⟨by decide +kernel, by decide +kernel, by decide +kernel⟩ (by unfold rmOk; rw [hR]; exact ⟨by decide, by decide⟩)
  · exact crV_S (idx := 319) G (by decide +kernel) (MX12_copies N) (cw_of (ps := [1582, 1583, 164, 1584]) (by decide +kernel) (by decide +kernel)) ⟨by decide +kernel, by decide +kernel, by decide +kernel⟩ (by unfold rmOk; rw [hR]; exact ⟨by decide, by decide⟩)
  · exact crV_S (idx := 319) G (by decide +kernel) (MX12_copies N) (cw_of (ps := [1582, 1583, 164, 1584]) (by decide +kernel) (by decide +kernel)) ⟨by decide +kernel, by decide +kernel, by decide +kernel⟩ (by unfold rmOk; rw [hR]; exact ⟨by decide, by decide⟩)
  · exact crV_S (idx := 319) G (by decide +kernel) (MX12_copies N) (cw_of (ps := [1582, 1583, 164, 1584]) (by decide +kernel) (by decide +kernel)) ⟨by decide +kernel, by decide +kernel, by decide +kernel⟩ (by unfold rmOk; rw [hR]; exact ⟨by decide, by decide⟩)
  · exact crV_S (idx := 319) G (by decide +kernel) (MX12_copies N) (cw_of (ps := [1582, 1583, 164, 1584]) (by decide +kernel) (by decide +kernel)) ⟨by decide +kernel, by decide +kernel, by decide +kernel⟩ (by unfold rmOk; rw [hR]; exact ⟨by decide, by decide⟩)
  · exact crV_S (idx := 319) G (by decide +kernel) (MX12_copies N) (cw_of (ps := [1582, 1583, 164, 1584]) (by decide +kernel) (by decide +kernel)) ⟨by decide +kernel, by decide +kernel, by decide +kernel⟩ (by unfold rmOk; rw [hR]; exact ⟨by decide, by decide⟩)
  · exact crV_S (idx := 319) G (by decide +kernel) (MX12_copies N) (cw_of (ps := [1582, 1583, 164, 1584]) (by decide +kernel) (by decide +kernel)) ⟨by decide +kernel, by decide +kernel, by decide +kernel⟩ (by unfold rmOk; rw [hR]; exact ⟨by decide, by decide⟩)
  · exact crV_S (idx := 319) G (by decide +kernel) (MX12_copies N) (cw_of (ps := [1582, 1583, 164, 1584]) (by decide +kernel) (by decide +kernel)) ⟨by decide +kernel, by decide +kernel, by decide +kernel⟩ (by unfold rmOk; rw [hR]; exact ⟨by decide, by decide⟩)
  · exact crV_S (idx := 319) G (by decide +kernel) (MX12_copies N) (cw_of (ps := [1582, 1583, 164, 1584]) (by decide +kernel) (by decide +kernel)) ⟨by decide +kernel, by decide +kernel, by decide +kernel⟩ (by unfold rmOk; rw [hR]; exact ⟨by decide, by decide⟩)
  · exact crV_S (idx := 319) G (by decide +kernel) (MX12_copies N) (cw_of (ps := [1582, 1583, 164, 1584]) (by decide +kernel) (by decide +kernel)) ⟨by decide +kernel, by decide +kernel, by decide +kernel⟩ (by unfold rmOk; rw [hR]; exact ⟨by decide, by decide⟩)
  · exact crV_S (idx := 319) G (by decide +kernel) (MX12_copies N) (cw_of (ps := [1582, 1583, 164, 1584]) (by decide +kernel) (by decide +kernel)) ⟨by decide +kernel, by decide +kernel, by decide +kernel⟩ (by unfold rmOk; rw [hR]; exact ⟨by decide, by decide⟩)
  · exact crV_S (idx := 319) G (by decide +kernel) (MX12_copies N) (cw_of (ps := [1582, 1583, 164, 1584]) (by decide +kernel) (by decide +kernel)) ⟨by decide +kernel, by decide +kernel, by decide +kernel⟩ (by unfold rmOk; rw [hR]; exact ⟨by decide, by decide⟩)
  · exact crV_V (idx := 323) G (by decide +kernel) (MX12_begin N) (cw_of (ps := [1585, 1587, 73, 164, 1588]) (by decide +kernel) (by decide +kernel)) ⟨by decide +kernel, by decide +kernel, by decide +kernel⟩ (by unfold rmOk; rw [hR]; exact ⟨by decide, by decide⟩)
set_option maxRecDepth 100000 in
set_option maxHeartbeats 4000000 in
theorem MX12_keepText (N : Nat) : SndV yX12_keepText cX12_keepText 2 none 5 1 true (mX12_keepText N) := by
  refine SndV.of tX12_keepText (by decide +kernel) rfl rfl ?_ ?_
  · intro as w x h
    obtain ⟨t1, rfl, h_1⟩ := xS1_some h
    obtain ⟨rfl, h_2⟩ := xN1_some h_1
    clear h h_1
    have h := h_2
    rw [callW_eq] at h
    exact ⟨fun _ => ⟨_, _, _, rfl, rfl, _, rfl, rfl⟩, rfl, Nat.le_of_ble_eq_true rfl⟩
  · intro X G hn hR as w r h hr
    have hC := crX12_keepText (N := N) G hR
    obtain ⟨t1, rfl, h_1⟩ := xS1_some h
    obtain ⟨rfl, h_2⟩ := xN1_some h_1
    clear h h_1
    have h := h_2
    rw [callW_eq] at h
    refine run_sound (r := r) (X := X) (cc := cX12_keepText) (own := RX12) (tab := tX12_keepText) G (by rw [hn]; exact kX12_keepText) (oI := (oF [])) (oL := (oF [])) (oV := (oF [(mX12_copies N), (mX12_begin N)])) (rI := (fun _ _ => none)) (rL := (fun _ _ => none)) (rV := (fun w => some w))
      (K := (fun j ls st w => if j = 98 then (lgI ls 1 fun v1 => st0 st (callW (fX12_keepText_98 N N (fX12_keepText_113 N) v1) w)) else none)) (fun _ _ _ _ hx => by cases hx) (fun _ _ _ _ hx => by cases hx) (fun w pc ls hx hd => hr w pc ls (Option.some.inj hx) hd) hC (fun ls => lsb [some (.inr (.inr (16, 0))), none] 0 ls) (keepsP_of rfl) ?_ 138 0 [some (.inr (.inr (16, 0))), none] [] w ?_ h
    · intro j ls st w hfx h
      obtain ⟨e0, -⟩ : _ = _ ∧ True := hfx
      try dsimp only at h
      by_cases hj : j = 98
      · subst hj
        rw [if_pos rfl] at h
        obtain ⟨v1, e1, h_1⟩ := lgI_some h
        obtain ⟨rfl, h_2⟩ := st0_some h_1
        clear h h_1
        have h := h_2
        try rw [callW_eq] at h
        exact WW.le (a := [some (.inr (.inr (16, 0))), some (.inl v1)]) (by rw [hn]; rfl) (show _ = _ ∧ _ = _ ∧ True from ⟨e0, e1, trivial⟩) (sX12_keepText_98 G hn hC hr N (fX12_keepText_113 N) v1 w h (fun w h => (sX12_keepText_113 G hn hC hr w h)))
      rw [if_neg hj] at h
      cases h
    · exact (show _ = _ ∧ True from ⟨rfl, trivial⟩)
-- MoorGuidesModel.find([IIII)I
def tX12_find : List EN := [
  (0, .iconst 0, 0, 0, 0, 0, 0, []), (1, .istore 4, 0, 0, 0, 0, 0, []), (3, .iload 4, 3, 0, 0, 0, 0, []), (5, .iload_n 2, 0, 0, 0, 0, 0, []),
  (6, .if_icmp .ge 22, 0, 16, 0, 0, 0, []), (9, .aload_n 0, 0, 0, 0, 0, 0, []), (10, .iload_n 1, 0, 0, 0, 0, 0, []), (11, .iload 4, 0, 0, 0, 0, 0, []),
  (13, .iadd, 0, 0, 0, 0, 0, []), (14, .iaload, 0, 0, 0, 0, 0, []), (15, .iload_n 3, 0, 0, 0, 0, 0, []), (16, .if_icmp .ne 6, 0, 14, 0, 0, 0, []),
  (19, .iload 4, 0, 0, 0, 0, 0, []), (21, .ireturn, 0, 0, 0, 0, 0, []), (22, .iinc 4 1, 0, 0, 0, 1, 0, []), (25, .goto (-22), 0, 2, 0, 0, 0, []),
  (28, .iconst (-1), 0, 0, 0, (-1), 0, []), (29, .ireturn, 0, 0, 0, 0, 0, [])]
noncomputable def fX12_find_2 (N : Nat) (k0 : Nat) (i0 : Nat) (a1 : Int32) (a2 : Int32) (a3 : Int32) : Nat → Int32 → Wd → Option (Int32 × Wd)
  | 0, _, _ => none
  | n + 1, v4, w =>
    if v4 < a2 then
      (ldI w k0 i0 (a1 + v4) (ln k0 i0)).bind fun x1 =>
      if x1 = a3 then some (v4, w) else
      callW (fX12_find_2 N k0 i0 a1 a2 a3 n (v4 + (1 : Int32))) w
    else
    some ((-1 : Int32), w)
noncomputable def pX12_find (N : Nat) (k0 : Nat) (i0 : Nat) (a1 : Int32) (a2 : Int32) (a3 : Int32) (w : Wd) : Option (Int32 × Wd) :=
  callW (fX12_find_2 N k0 i0 a1 a2 a3 N (0 : Int32)) w
noncomputable def mX12_find (N : Nat) (as : List AV) (w : Wd) : Option (Int32 × Wd) := xA1 [75, 78] as fun k0 i0 t => xI1 t fun a1 t => xI1 t fun a2 t => xI1 t fun a3 t => xN1 t (callW (pX12_find N k0 i0 a1 a2 a3) w)
set_option maxRecDepth 100000 in
set_option maxHeartbeats 4000000 in
theorem kX12_find : TK cX12_find RX12 5 tX12_find := ⟨by decide +kernel, wok_of [] (by decide +kernel) (by decide +kernel)⟩
set_option maxRecDepth 100000 in
set_option maxHeartbeats 4000000 in
theorem sX12_find_2_k75 {N : Nat} {X : XT} (G : GX X cX12_find RX12) (hn : xnL X = 5) (hC : CRs X tX12_find (oF []) (oF []) (oF [])) {r : Int32 × Wd} (hr : RTI X cX12_find r) (i0 : Nat) (a1 : Int32) (a2 : Int32) (a3 : Int32) : ∀ (n : Nat) (v4 : Int32) (w : Wd), fX12_find_2 N 75 i0 a1 a2 a3 n v4 w = some r → WW X (pcAt tX12_find 2) [some (.inr (.inr (75, i0))), some (.inl a1), some (.inl a2), some (.inl a3), some (.inl v4)] [] w := by
  intro n
  induction n with
  | zero => intro v4 w h; cases h
  | succ n ih =>
    intro v4 w h
    refine run_sound (r := r) (X := X) (cc := cX12_find) (own := RX12) (tab := tX12_find) G (by rw [hn]; exact kX12_find) (oI := (oF [])) (oL := (oF [])) (oV := (oF [])) (rI := (fun x w => some (x, w))) (rL := (fun _ _ => none)) (rV := (fun _ => none))
      (K := (fun j ls st w => if j = 2 then (lgI ls 4 fun v4 => st0 st (callW (fX12_find_2 N 75 i0 a1 a2 a3 n v4) w)) else none)) (fun x w pc ls hx hd => hr x w pc ls (Option.some.inj hx) hd) (fun _ _ _ _ hx => by cases hx) (fun _ _ _ hx => by cases hx) hC (fun ls => lsb [some (.inr (.inr (75, i0))), some (.inl a1), some (.inl a2), some (.inl a3), none] 0 ls) (keepsP_of rfl) ?_ 20 2 [some (.inr (.inr (75, i0))), some (.inl a1), some (.inl a2), some (.inl a3), some (.inl v4)] [] w ?_ h
    · intro j ls st w hfx h
      obtain ⟨e0, e1, e2, e3, -⟩ : _ = _ ∧ _ = _ ∧ _ = _ ∧ _ = _ ∧ True := hfx
      try dsimp only at h
      by_cases hj : j = 2
      · subst hj
        rw [if_pos rfl] at h
        obtain ⟨v4, e4, h_1⟩ := lgI_some h
        obtain ⟨rfl, h_2⟩ := st0_some h_1
        clear h h_1
        have h := h_2
        try rw [callW_eq] at h
        exact WW.le (a := [some (.inr (.inr (75, i0))), some (.inl a1), some (.inl a2), some (.inl a3), some (.inl v4)]) (by rw [hn]; rfl) (show _ = _ ∧ _ = _ ∧ _ = _ ∧ _ = _ ∧ _ = _ ∧ True from ⟨e0, e1, e2, e3, e4, trivial⟩) (ih v4 w h)
      rw [if_neg hj] at h
      cases h
    · exact (show _ = _ ∧ _ = _ ∧ _ = _ ∧ _ = _ ∧ True from ⟨rfl, rfl, rfl, rfl, trivial⟩)
set_option maxRecDepth 100000 in
set_option maxHeartbeats 4000000 in
theorem sX12_find_2_k78 {N : Nat} {X : XT} (G : GX X cX12_find RX12) (hn : xnL X = 5) (hC : CRs X tX12_find (oF []) (oF []) (oF [])) {r : Int32 × Wd} (hr : RTI X cX12_find r) (i0 : Nat) (a1 : Int32) (a2 : Int32) (a3 : Int32) : ∀ (n : Nat) (v4 : Int32) (w : Wd), fX12_find_2 N 78 i0 a1 a2 a3 n v4 w = some r → WW X (pcAt tX12_find 2) [some (.inr (.inr (78, i0))), some (.inl a1), some (.inl a2), some (.inl a3), some (.inl v4)] [] w := by
  intro n
  induction n with
  | zero => intro v4 w h; cases h
  | succ n ih =>
    intro v4 w h
    refine run_sound (r := r) (X := X) (cc := cX12_find) (own := RX12) (tab := tX12_find) G (by rw [hn]; exact kX12_find) (oI := (oF [])) (oL := (oF [])) (oV := (oF [])) (rI := (fun x w => some (x, w))) (rL := (fun _ _ => none)) (rV := (fun _ => none))
      (K := (fun j ls st w => if j = 2 then (lgI ls 4 fun v4 => st0 st (callW (fX12_find_2 N 78 i0 a1 a2 a3 n v4) w)) else none)) (fun x w pc ls hx hd => hr x w pc ls (Option.some.inj hx) hd) (fun _ _ _ _ hx => by cases hx) (fun _ _ _ hx => by cases hx) hC (fun ls => lsb [some (.inr (.inr (78, i0))), some (.inl a1), some (.inl a2), some (.inl a3), none] 0 ls) (keepsP_of rfl) ?_ 20 2 [some (.inr (.inr (78, i0))), some (.inl a1), some (.inl a2), some (.inl a3), some (.inl v4)] [] w ?_ h
    · intro j ls st w hfx h
      obtain ⟨e0, e1, e2, e3, -⟩ : _ = _ ∧ _ = _ ∧ _ = _ ∧ _ = _ ∧ True := hfx
      try dsimp only at h
      by_cases hj : j = 2
      · subst hj
        rw [if_pos rfl] at h
        obtain ⟨v4, e4, h_1⟩ := lgI_some h
        obtain ⟨rfl, h_2⟩ := st0_some h_1
        clear h h_1
        have h := h_2
        try rw [callW_eq] at h
        exact WW.le (a := [some (.inr (.inr (78, i0))), some (.inl a1), some (.inl a2), some (.inl a3), some (.inl v4)]) (by rw [hn]; rfl) (show _ = _ ∧ _ = _ ∧ _ = _ ∧ _ = _ ∧ _ = _ ∧ True from ⟨e0, e1, e2, e3, e4, trivial⟩) (ih v4 w h)
      rw [if_neg hj] at h
      cases h
    · exact (show _ = _ ∧ _ = _ ∧ _ = _ ∧ _ = _ ∧ True from ⟨rfl, rfl, rfl, rfl, trivial⟩)
set_option maxRecDepth 100000 in
set_option maxHeartbeats 4000000 in
theorem crX12_find {N : Nat} {X : XT} (G : GX X cX12_find RX12) (hR : xR X = rmL 1) : CRs X tX12_find (oF []) (oF []) (oF []) := by
  have hl : tX12_find.filter isInv = [] := rfl
  intro e he
  rw [hl] at he
  cases he
set_option maxRecDepth 100000 in
set_option maxHeartbeats 4000000 in
theorem MX12_find (N : Nat) : SndI yX12_find cX12_find 5 (some .int) 1 4 false (mX12_find N) := by
  refine SndI.of tX12_find (by decide +kernel) rfl rfl ?_ ?_
  · intro as w x h
    obtain ⟨k0, i0, t1, rfl, hk, h_1⟩ := xA1_some h
    obtain ⟨a1, t2, rfl, h_2⟩ := xI1_some h_1
    obtain ⟨a2, t3, rfl, h_3⟩ := xI1_some h_2
    obtain ⟨a3, t4, rfl, h_4⟩ := xI1_some h_3
    obtain ⟨rfl, h_5⟩ := xN1_some h_4
    clear h h_1 h_2 h_3 h_4
    have h := h_5
    rw [callW_eq] at h
    exact ⟨(fun z => by cases z), rfl, Nat.le_of_ble_eq_true rfl⟩
  · intro X G hn hR as w r h hr
    have hC := crX12_find (N := N) G hR
    obtain ⟨k0, i0, t1, rfl, hk, h_1⟩ := xA1_some h
    obtain ⟨a1, t2, rfl, h_2⟩ := xI1_some h_1
    obtain ⟨a2, t3, rfl, h_3⟩ := xI1_some h_2
    obtain ⟨a3, t4, rfl, h_4⟩ := xI1_some h_3
    obtain ⟨rfl, h_5⟩ := xN1_some h_4
    clear h h_1 h_2 h_3 h_4
    have h := h_5
    rw [callW_eq] at h
    have hk : k0 = 75 ∨ k0 = 78 := by simpa using hk
    rcases hk with rfl | rfl
    · refine run_sound (r := r) (X := X) (cc := cX12_find) (own := RX12) (tab := tX12_find) G (by rw [hn]; exact kX12_find) (oI := (oF [])) (oL := (oF [])) (oV := (oF [])) (rI := (fun x w => some (x, w))) (rL := (fun _ _ => none)) (rV := (fun _ => none))
        (K := (fun j ls st w => if j = 2 then (lgI ls 4 fun v4 => st0 st (callW (fX12_find_2 N 75 i0 a1 a2 a3 N v4) w)) else none)) (fun x w pc ls hx hd => hr x w pc ls (Option.some.inj hx) hd) (fun _ _ _ _ hx => by cases hx) (fun _ _ _ hx => by cases hx) hC (fun ls => lsb [some (.inr (.inr (75, i0))), some (.inl a1), some (.inl a2), some (.inl a3), none] 0 ls) (keepsP_of rfl) ?_ 20 0 [some (.inr (.inr (75, i0))), some (.inl a1), some (.inl a2), some (.inl a3), none] [] w ?_ h
      · intro j ls st w hfx h
        obtain ⟨e0, e1, e2, e3, -⟩ : _ = _ ∧ _ = _ ∧ _ = _ ∧ _ = _ ∧ True := hfx
        try dsimp only at h
        by_cases hj : j = 2
        · subst hj
          rw [if_pos rfl] at h
          obtain ⟨v4, e4, h_1⟩ := lgI_some h
          obtain ⟨rfl, h_2⟩ := st0_some h_1
          clear h h_1
          have h := h_2
          try rw [callW_eq] at h
          exact WW.le (a := [some (.inr (.inr (75, i0))), some (.inl a1), some (.inl a2), some (.inl a3), some (.inl v4)]) (by rw [hn]; rfl) (show _ = _ ∧ _ = _ ∧ _ = _ ∧ _ = _ ∧ _ = _ ∧ True from ⟨e0, e1, e2, e3, e4, trivial⟩) (sX12_find_2_k75 G hn hC hr i0 a1 a2 a3 N v4 w h)
        rw [if_neg hj] at h
        cases h
      · exact (show _ = _ ∧ _ = _ ∧ _ = _ ∧ _ = _ ∧ True from ⟨rfl, rfl, rfl, rfl, trivial⟩)
    · refine run_sound (r := r) (X := X) (cc := cX12_find) (own := RX12) (tab := tX12_find) G (by rw [hn]; exact kX12_find) (oI := (oF [])) (oL := (oF [])) (oV := (oF [])) (rI := (fun x w => some (x, w))) (rL := (fun _ _ => none)) (rV := (fun _ => none))
        (K := (fun j ls st w => if j = 2 then (lgI ls 4 fun v4 => st0 st (callW (fX12_find_2 N 78 i0 a1 a2 a3 N v4) w)) else none)) (fun x w pc ls hx hd => hr x w pc ls (Option.some.inj hx) hd) (fun _ _ _ _ hx => by cases hx) (fun _ _ _ hx => by cases hx) hC (fun ls => lsb [some (.inr (.inr (78, i0))), some (.inl a1), some (.inl a2), some (.inl a3), none] 0 ls) (keepsP_of rfl) ?_ 20 0 [some (.inr (.inr (78, i0))), some (.inl a1), some (.inl a2), some (.inl a3), none] [] w ?_ h
      · intro j ls st w hfx h
        obtain ⟨e0, e1, e2, e3, -⟩ : _ = _ ∧ _ = _ ∧ _ = _ ∧ _ = _ ∧ True := hfx
        try dsimp only at h
        by_cases hj : j = 2
        · subst hj
          rw [if_pos rfl] at h
          obtain ⟨v4, e4, h_1⟩ := lgI_some h
          obtain ⟨rfl, h_2⟩ := st0_some h_1
          clear h h_1
          have h := h_2
          try rw [callW_eq] at h
          exact WW.le (a := [some (.inr (.inr (78, i0))), some (.inl a1), some (.inl a2), some (.inl a3), some (.inl v4)]) (by rw [hn]; rfl) (show _ = _ ∧ _ = _ ∧ _ = _ ∧ _ = _ ∧ _ = _ ∧ True from ⟨e0, e1, e2, e3, e4, trivial⟩) (sX12_find_2_k78 G hn hC hr i0 a1 a2 a3 N v4 w h)
        rw [if_neg hj] at h
        cases h
      · exact (show _ = _ ∧ _ = _ ∧ _ = _ ∧ _ = _ ∧ True from ⟨rfl, rfl, rfl, rfl, trivial⟩)
-- MoorGuidesModel.newName([III)Z
def tX12_newName : List EN := [
  (0, .aload_n 0, 0, 0, 0, 0, 0, []), (1, .getfield 214, 0, 12, 8, 0, 0, []), (4, .iconst 2, 0, 0, 0, 2, 0, []), (5, .if_icmp .eq 9, 0, 8, 0, 0, 0, []),
  (8, .aload_n 0, 0, 0, 0, 0, 0, []), (9, .iconst 1, 0, 0, 0, 1, 0, []), (10, .invokevirtual 238, 0, 0, 2, 0, 0, []), (13, .ireturn, 0, 0, 0, 0, 0, []),
  (14, .aload_n 1, 0, 0, 0, 0, 0, []), (15, .iload_n 2, 0, 0, 0, 0, 0, []), (16, .iload_n 3, 0, 0, 0, 0, 0, []), (17, .aload_n 0, 0, 0, 0, 0, 0, []),
  (18, .getfield 225, 0, 12, 9, 0, 0, []), (21, .invokestatic 326, 0, 1, 4, 0, 0, []), (24, .ifCond .lt 9, 0, 19, 0, 0, 0, []), (27, .aload_n 0, 0, 0, 0, 0, 0, []),
  (28, .iconst 3, 0, 0, 0, 3, 0, []), (29, .invokevirtual 238, 0, 0, 2, 0, 0, []), (32, .ireturn, 0, 0, 0, 0, 0, []), (33, .aload_n 1, 0, 0, 0, 0, 0, []),
  (34, .iload_n 2, 0, 0, 0, 0, 0, []), (35, .iload_n 3, 0, 0, 0, 0, 0, []), (36, .iadd, 0, 0, 0, 0, 0, []), (37, .aload_n 0, 0, 0, 0, 0, 0, []),
  (38, .getfield 225, 0, 12, 9, 0, 0, []), (41, .iastore, 0, 0, 0, 0, 0, []), (42, .aload_n 0, 0, 0, 0, 0, 0, []), (43, .invokevirtual 248, 0, 0, 1, 0, 0, [(0, 0), (0, 0)]),
  (46, .iconst 1, 0, 0, 0, 1, 0, []), (47, .ireturn, 0, 0, 0, 0, 0, [])]
noncomputable def pX12_newName (N : Nat) (k1 : Nat) (i1 : Nat) (a2 : Int32) (a3 : Int32) (w : Wd) : Option (Int32 × Wd) :=
  if (gI w 16 0 8) = (2 : Int32) then
    (callW (pX12_find N k1 i1 a2 a3 (gI w 16 0 9)) w).bind fun r1 =>
    if r1.1 < 0 then
      (stI r1.2 k1 i1 (a2 + a3) (ln k1 i1) (gI r1.2 16 0 9)).bind fun w2 =>
      (callW (pX12_token N) w2).bind fun w3 =>
      some ((1 : Int32), w3)
    else
    (callW (pX12_wrong N (3 : Int32)) r1.2).bind fun r4 =>
    retZ r4.1 r4.2
  else
  (callW (pX12_wrong N (1 : Int32)) w).bind fun r5 =>
  retZ r5.1 r5.2
noncomputable def mX12_newName (N : Nat) (as : List AV) (w : Wd) : Option (Int32 × Wd) := xS1 16 as fun t => xA1 [75, 78] t fun k1 i1 t => xI1 t fun a2 t => xI1 t fun a3 t => xN1 t (callW (pX12_newName N k1 i1 a2 a3) w)
set_option maxRecDepth 100000 in
set_option maxHeartbeats 4000000 in
theorem kX12_newName : TK cX12_newName RX12 4 tX12_newName := ⟨by decide +kernel, wok_of [1608, 1609, 1609] (by decide +kernel) (by decide +kernel)⟩
set_option maxRecDepth 100000 in
set_option maxHeartbeats 4000000 in
theorem crX12_newName {N : Nat} {X : XT} (G : GX X cX12_newName RX12) (hR : xR X = rmL 3) : CRs X tX12_newName (oF [(mX12_wrong N), (mX12_find N)]) (oF []) (oF [(mX12_token N)]) := by
  have hl : tX12_newName.filter isInv = [(10, .invokevirtual 238, 0, 0, 2, 0, 0, []), (21, .invokestatic 326, 0, 1, 4, 0, 0, []), (29, .invokevirtual 238, 0, 0, 2, 0, 0, []), (43, .invokevirtual 248, 0, 0, 1, 0, 0, [(0, 0), (0, 0)])] := rfl
  intro e he
  rw [hl] at he
  simp only [List.mem_cons, List.not_mem_nil, or_false] at he
  rcases he with rfl | rfl | rfl | rfl
  · exact crI_V (idx := 238) G (by decide +kernel) (MX12_wrong N) (cw_of (ps := [1967, 1969, 83, 164, 1970]) (by decide +kernel) (by decide +kernel)) ⟨by decide +kernel, by decide +kernel, by decide +kernel⟩ (by unfold rmOk; rw [hR]; exact ⟨by decide, by decide⟩)
  · exact crI_S (idx := 326) G (by decide +kernel) (MX12_find N) (cw_of (ps := [1979, 1980, 164, 1981]) (by decide +kernel) (by decide +kernel)) ⟨by decide +kernel, by decide +kernel, by decide +kernel⟩ (by unfold rmOk; rw [hR]; exact ⟨by decide, by decide⟩)
  · exact crI_V (idx := 238) G (by decide +kernel) (MX12_wrong N) (cw_of (ps := [1967, 1969, 83, 164, 1970]) (by decide +kernel) (by decide +kernel)) ⟨by decide +kernel, by decide +kernel, by decide +kernel⟩ (by unfold rmOk; rw [hR]; exact ⟨by decide, by decide⟩)
  · exact crV_V (idx := 248) G (by decide +kernel) (MX12_token N) (cw_of (ps := [1938, 1940, 76, 164, 1941]) (by decide +kernel) (by decide +kernel)) ⟨by decide +kernel, by decide +kernel, by decide +kernel⟩ (by unfold rmOk; rw [hR]; exact ⟨by decide, by decide⟩)
set_option maxRecDepth 100000 in
set_option maxHeartbeats 4000000 in
theorem MX12_newName (N : Nat) : SndI yX12_newName cX12_newName 4 (some .boolean) 3 4 true (mX12_newName N) := by
  refine SndI.ofZ tX12_newName (by decide +kernel) rfl rfl ?_ ?_
  · intro as w x h
    obtain ⟨t1, rfl, h_1⟩ := xS1_some h
    obtain ⟨k1, i1, t2, rfl, hk, h_2⟩ := xA1_some h_1
    obtain ⟨a2, t3, rfl, h_3⟩ := xI1_some h_2
    obtain ⟨a3, t4, rfl, h_4⟩ := xI1_some h_3
    obtain ⟨rfl, h_5⟩ := xN1_some h_4
    clear h h_1 h_2 h_3 h_4
    have h := h_5
    rw [callW_eq] at h
    exact ⟨fun _ => ⟨_, _, _, rfl, rfl, _, rfl, rfl⟩, rfl, Nat.le_of_ble_eq_true rfl⟩
  · intro X G hn hR as w r h hr
    have hC := crX12_newName (N := N) G hR
    obtain ⟨t1, rfl, h_1⟩ := xS1_some h
    obtain ⟨k1, i1, t2, rfl, hk, h_2⟩ := xA1_some h_1
    obtain ⟨a2, t3, rfl, h_3⟩ := xI1_some h_2
    obtain ⟨a3, t4, rfl, h_4⟩ := xI1_some h_3
    obtain ⟨rfl, h_5⟩ := xN1_some h_4
    clear h h_1 h_2 h_3 h_4
    have h := h_5
    rw [callW_eq] at h
    have hk : k1 = 75 ∨ k1 = 78 := by simpa using hk
    rcases hk with rfl | rfl
    · refine run_sound (r := r) (X := X) (cc := cX12_newName) (own := RX12) (tab := tX12_newName) G (by rw [hn]; exact kX12_newName) (oI := (oF [(mX12_wrong N), (mX12_find N)])) (oL := (oF [])) (oV := (oF [(mX12_token N)])) (rI := retZ) (rL := (fun _ _ => none)) (rV := (fun _ => none))
        (K := (fun j ls st w => none)) hr (fun _ _ _ _ hx => by cases hx) (fun _ _ _ hx => by cases hx) hC (fun ls => lsb [some (.inr (.inr (16, 0))), some (.inr (.inr (75, i1))), some (.inl a2), some (.inl a3)] 0 ls) (keepsP_of rfl) ?_ 32 0 [some (.inr (.inr (16, 0))), some (.inr (.inr (75, i1))), some (.inl a2), some (.inl a3)] [] w ?_ h
      · intro j ls st w hfx h
        obtain ⟨e0, e1, e2, e3, -⟩ : _ = _ ∧ _ = _ ∧ _ = _ ∧ _ = _ ∧ True := hfx
        try dsimp only at h
        cases h
      · exact (show _ = _ ∧ _ = _ ∧ _ = _ ∧ _ = _ ∧ True from ⟨rfl, rfl, rfl, rfl, trivial⟩)
    · refine run_sound (r := r) (X := X) (cc := cX12_newName) (own := RX12) (tab := tX12_newName) G (by rw [hn]; exact kX12_newName) (oI := (oF [(mX12_wrong N), (mX12_find N)])) (oL := (oF [])) (oV := (oF [(mX12_token N)])) (rI := retZ) (rL := (fun _ _ => none)) (rV := (fun _ => none))
        (K := (fun j ls st w => none)) hr (fun _ _ _ _ hx => by cases hx) (fun _ _ _ hx => by cases hx) hC (fun ls => lsb [some (.inr (.inr (16, 0))), some (.inr (.inr (78, i1))), some (.inl a2), some (.inl a3)] 0 ls) (keepsP_of rfl) ?_ 32 0 [some (.inr (.inr (16, 0))), some (.inr (.inr (78, i1))), some (.inl a2), some (.inl a3)] [] w ?_ h
      · intro j ls st w hfx h
        obtain ⟨e0, e1, e2, e3, -⟩ : _ = _ ∧ _ = _ ∧ _ = _ ∧ _ = _ ∧ True := hfx
        try dsimp only at h
        cases h
      · exact (show _ = _ ∧ _ = _ ∧ _ = _ ∧ _ = _ ∧ True from ⟨rfl, rfl, rfl, rfl, trivial⟩)
-- MoorGuidesModel.partMet()Z
def tX12_partMet : List EN := [
  (0, .aload_n 0, 0, 0, 0, 0, 0, []), (1, .getfield 214, 0, 12, 8, 0, 0, []), (4, .iconst 2, 0, 0, 0, 2, 0, []), (5, .if_icmp .eq 9, 0, 8, 0, 0, 0, []),
  (8, .aload_n 0, 0, 0, 0, 0, 0, []), (9, .iconst 1, 0, 0, 0, 1, 0, []), (10, .invokevirtual 238, 0, 0, 2, 0, 0, []), (13, .ireturn, 0, 0, 0, 0, 0, []),
  (14, .aload_n 0, 0, 0, 0, 0, 0, []), (15, .aload_n 0, 0, 0, 0, 0, 0, []), (16, .getfield 20, 0, 12, 31, 0, 0, []), (19, .bipush 8, 0, 0, 0, 8, 0, []),
  (21, .aload_n 0, 0, 0, 0, 0, 0, []), (22, .getfield 258, 0, 12, 20, 0, 0, []), (25, .aload_n 0, 0, 0, 0, 0, 0, []), (26, .getfield 225, 0, 12, 9, 0, 0, []),
  (29, .invokestatic 326, 0, 1, 4, 0, 0, []), (32, .putfield 245, 0, 12, 11, 0, 0, []), (35, .aload_n 0, 0, 0, 0, 0, 0, []), (36, .getfield 245, 0, 12, 11, 0, 0, []),
  (39, .ifCond .ge 11, 0, 25, 0, 0, 0, []), (42, .aload_n 0, 0, 0, 0, 0, 0, []), (43, .iconst 4, 0, 0, 0, 4, 0, []), (44, .invokevirtual 238, 0, 0, 2, 0, 0, []),
  (47, .ifCond .eq 7, 0, 27, 0, 0, 0, []), (50, .iconst 1, 0, 0, 0, 1, 0, []), (51, .goto 4, 0, 28, 0, 0, 0, []), (54, .iconst 0, 0, 0, 0, 0, 0, []),
  (55, .ireturn, 0, 0, 0, 0, 0, [])]
noncomputable def pX12_partMet (N : Nat) (w : Wd) : Option (Int32 × Wd) :=
  if (gI w 16 0 8) = (2 : Int32) then
    (callW (pX12_find N 75 0 (8 : Int32) (gI w 16 0 20) (gI w 16 0 9)) w).bind fun r1 =>
    if (gI (setI r1.2 16 0 11 r1.1) 16 0 11) < 0 then
      (callW (pX12_wrong N (4 : Int32)) (setI r1.2 16 0 11 r1.1)).bind fun r2 =>
      if r2.1 = 0 then some ((0 : Int32), r2.2) else
      some ((1 : Int32), r2.2)
    else
    some ((1 : Int32), (setI r1.2 16 0 11 r1.1))
  else
  (callW (pX12_wrong N (1 : Int32)) w).bind fun r3 =>
  retZ r3.1 r3.2
noncomputable def mX12_partMet (N : Nat) (as : List AV) (w : Wd) : Option (Int32 × Wd) := xS1 16 as fun t => xN1 t (callW (pX12_partMet N) w)
set_option maxRecDepth 100000 in
set_option maxHeartbeats 4000000 in
theorem kX12_partMet : TK cX12_partMet RX12 1 tX12_partMet := ⟨by decide +kernel, wok_of [1608, 1631, 1620, 1609, 1611, 1611] (by decide +kernel) (by decide +kernel)⟩
set_option maxRecDepth 100000 in
set_option maxHeartbeats 4000000 in
theorem crX12_partMet {N : Nat} {X : XT} (G : GX X cX12_partMet RX12) (hR : xR X = rmL 2) : CRs X tX12_partMet (oF [(mX12_wrong N), (mX12_find N)]) (oF []) (oF []) := by
  have hl : tX12_partMet.filter isInv = [(10, .invokevirtual 238, 0, 0, 2, 0, 0, []), (29, .invokestatic 326, 0, 1, 4, 0, 0, []), (44, .invokevirtual 238, 0, 0, 2, 0, 0, [])] := rfl
  intro e he
  rw [hl] at he
  simp only [List.mem_cons, List.not_mem_nil, or_false] at he
  rcases he with rfl | rfl | rfl
  · exact crI_V (idx := 238) G (by decide +kernel) (MX12_wrong N) (cw_of (ps := [1967, 1969, 83, 164, 1970]) (by decide +kernel) (by decide +kernel)) ⟨by decide +kernel, by decide +kernel, by decide +kernel⟩ (by unfold rmOk; rw [hR]; exact ⟨by decide, by decide⟩)
  · exact crI_S (idx := 326) G (by decide +kernel) (MX12_find N) (cw_of (ps := [1979, 1980, 164, 1981]) (by decide +kernel) (by decide +kernel)) ⟨by decide +kernel, by decide +kernel, by decide +kernel⟩ (by unfold rmOk; rw [hR]; exact ⟨by decide, by decide⟩)
  · exact crI_V (idx := 238) G (by decide +kernel) (MX12_wrong N) (cw_of (ps := [1967, 1969, 83, 164, 1970]) (by decide +kernel) (by decide +kernel)) ⟨by decide +kernel, by decide +kernel, by decide +kernel⟩ (by unfold rmOk; rw [hR]; exact ⟨by decide, by decide⟩)
set_option maxRecDepth 100000 in
set_option maxHeartbeats 4000000 in
theorem MX12_partMet (N : Nat) : SndI yX12_partMet cX12_partMet 1 (some .boolean) 2 1 true (mX12_partMet N) := by
  refine SndI.ofZ tX12_partMet (by decide +kernel) rfl rfl ?_ ?_
  · intro as w x h
    obtain ⟨t1, rfl, h_1⟩ := xS1_some h
    obtain ⟨rfl, h_2⟩ := xN1_some h_1
    clear h h_1
    have h := h_2
    rw [callW_eq] at h
    exact ⟨fun _ => ⟨_, _, _, rfl, rfl, _, rfl, rfl⟩, rfl, Nat.le_of_ble_eq_true rfl⟩
  · intro X G hn hR as w r h hr
    have hC := crX12_partMet (N := N) G hR
    obtain ⟨t1, rfl, h_1⟩ := xS1_some h
    obtain ⟨rfl, h_2⟩ := xN1_some h_1
    clear h h_1
    have h := h_2
    rw [callW_eq] at h
    refine run_sound (r := r) (X := X) (cc := cX12_partMet) (own := RX12) (tab := tX12_partMet) G (by rw [hn]; exact kX12_partMet) (oI := (oF [(mX12_wrong N), (mX12_find N)])) (oL := (oF [])) (oV := (oF [])) (rI := retZ) (rL := (fun _ _ => none)) (rV := (fun _ => none))
      (K := (fun j ls st w => none)) hr (fun _ _ _ _ hx => by cases hx) (fun _ _ _ hx => by cases hx) hC (fun ls => lsb [some (.inr (.inr (16, 0)))] 0 ls) (keepsP_of rfl) ?_ 31 0 [some (.inr (.inr (16, 0)))] [] w ?_ h
    · intro j ls st w hfx h
      obtain ⟨e0, -⟩ : _ = _ ∧ True := hfx
      try dsimp only at h
      cases h
    · exact (show _ = _ ∧ True from ⟨rfl, trivial⟩)
-- MoorGuidesModel.partRead1()Z
def tX12_partRead1 : List EN := [
  (0, .aload_n 0, 0, 0, 0, 0, 0, []), (1, .invokevirtual 330, 0, 0, 1, 0, 0, []), (4, .ifCond .ne 5, 0, 5, 0, 0, 0, []), (7, .iconst 0, 0, 0, 0, 0, 0, []),
  (8, .ireturn, 0, 0, 0, 0, 0, []), (9, .aload_n 0, 0, 0, 0, 0, 0, []), (10, .invokevirtual 248, 0, 0, 1, 0, 0, [(0, 0), (0, 0)]), (13, .iconst 1, 0, 0, 0, 1, 0, []),
  (14, .ireturn, 0, 0, 0, 0, 0, [])]
noncomputable def pX12_partRead1 (N : Nat) (w : Wd) : Option (Int32 × Wd) :=
  (callW (pX12_partMet N) w).bind fun r1 =>
  if r1.1 = 0 then some ((0 : Int32), r1.2) else
  (callW (pX12_token N) r1.2).bind fun w2 =>
  some ((1 : Int32), w2)
noncomputable def mX12_partRead1 (N : Nat) (as : List AV) (w : Wd) : Option (Int32 × Wd) := xS1 16 as fun t => xN1 t (callW (pX12_partRead1 N) w)
set_option maxRecDepth 100000 in
set_option maxHeartbeats 4000000 in
theorem kX12_partRead1 : TK cX12_partRead1 RX12 1 tX12_partRead1 := ⟨by decide +kernel, wok_of [] (by decide +kernel) (by decide +kernel)⟩
set_option maxRecDepth 100000 in
set_option maxHeartbeats 4000000 in
theorem crX12_partRead1 {N : Nat} {X : XT} (G : GX X cX12_partRead1 RX12) (hR : xR X = rmL 3) : CRs X tX12_partRead1 (oF [(mX12_partMet N)]) (oF []) (oF [(mX12_token N)]) := by
  have hl : tX12_partRead1.filter isInv = [(1, .invokevirtual 330, 0, 0, 1, 0, 0, []), (10, .invokevirtual 248, 0, 0, 1, 0, 0, [(0, 0), (0, 0)])] := rfl
  intro e he
  rw [hl] at he
  simp only [List.mem_cons, List.not_mem_nil, or_false] at he
  rcases he with rfl | rfl
  · exact crI_V (idx := 330) G (by decide +kernel) (MX12_partMet N) (cw_of (ps := [1993, 1995, 88, 164, 1996]) (by decide +kernel) (by decide +kernel)) ⟨by decide +kernel, by decide +kernel, by decide +kernel⟩ (by unfold rmOk; rw [hR]; exact ⟨by decide, by decide⟩)
  · exact crV_V (idx := 248) G (by decide +kernel) (MX12_token N) (cw_of (ps := [1938, 1940, 76, 164, 1941]) (by decide +kernel) (by decide +kernel)) ⟨by decide +kernel, by decide +kernel, by decide +kernel⟩ (by unfold rmOk; rw [hR]; exact ⟨by decide, by decide⟩)
set_option maxRecDepth 100000 in
set_option maxHeartbeats 4000000 in
theorem MX12_partRead1 (N : Nat) : SndI yX12_partRead1 cX12_partRead1 1 (some .boolean) 3 1 true (mX12_partRead1 N) := by
  refine SndI.ofZ tX12_partRead1 (by decide +kernel) rfl rfl ?_ ?_
  · intro as w x h
    obtain ⟨t1, rfl, h_1⟩ := xS1_some h
    obtain ⟨rfl, h_2⟩ := xN1_some h_1
    clear h h_1
    have h := h_2
    rw [callW_eq] at h
    exact ⟨fun _ => ⟨_, _, _, rfl, rfl, _, rfl, rfl⟩, rfl, Nat.le_of_ble_eq_true rfl⟩
  · intro X G hn hR as w r h hr
    have hC := crX12_partRead1 (N := N) G hR
    obtain ⟨t1, rfl, h_1⟩ := xS1_some h
    obtain ⟨rfl, h_2⟩ := xN1_some h_1
    clear h h_1
    have h := h_2
    rw [callW_eq] at h
    refine run_sound (r := r) (X := X) (cc := cX12_partRead1) (own := RX12) (tab := tX12_partRead1) G (by rw [hn]; exact kX12_partRead1) (oI := (oF [(mX12_partMet N)])) (oL := (oF [])) (oV := (oF [(mX12_token N)])) (rI := retZ) (rL := (fun _ _ => none)) (rV := (fun _ => none))
      (K := (fun j ls st w => none)) hr (fun _ _ _ _ hx => by cases hx) (fun _ _ _ hx => by cases hx) hC (fun ls => lsb [some (.inr (.inr (16, 0)))] 0 ls) (keepsP_of rfl) ?_ 11 0 [some (.inr (.inr (16, 0)))] [] w ?_ h
    · intro j ls st w hfx h
      obtain ⟨e0, -⟩ : _ = _ ∧ True := hfx
      try dsimp only at h
      cases h
    · exact (show _ = _ ∧ True from ⟨rfl, trivial⟩)
-- MoorGuidesModel.partLine()Z
def tX12_partLine : List EN := [
  (0, .aload_n 0, 0, 0, 0, 0, 0, []), (1, .getfield 258, 0, 12, 20, 0, 0, []), (4, .bipush 8, 0, 0, 0, 8, 0, []), (6, .if_icmp .ne 9, 0, 8, 0, 0, 0, []),
  (9, .aload_n 0, 0, 0, 0, 0, 0, []), (10, .iconst 2, 0, 0, 0, 2, 0, []), (11, .invokevirtual 238, 0, 0, 2, 0, 0, []), (14, .ireturn, 0, 0, 0, 0, 0, []),
  (15, .aload_n 0, 0, 0, 0, 0, 0, []), (16, .invokevirtual 248, 0, 0, 1, 0, 0, [(0, 0), (0, 0)]), (19, .bipush 8, 0, 0, 0, 8, 0, []), (21, .aload_n 0, 0, 0, 0, 0, 0, []),
  (22, .getfield 258, 0, 12, 20, 0, 0, []), (25, .iadd, 0, 0, 0, 0, 0, []), (26, .istore_n 1, 0, 0, 0, 0, 0, []), (27, .aload_n 0, 0, 0, 0, 0, 0, []),
  (28, .aload_n 0, 0, 0, 0, 0, 0, []), (29, .getfield 20, 0, 12, 31, 0, 0, []), (32, .bipush 8, 0, 0, 0, 8, 0, []), (34, .aload_n 0, 0, 0, 0, 0, 0, []),
  (35, .getfield 258, 0, 12, 20, 0, 0, []), (38, .invokevirtual 334, 0, 1, 4, 0, 0, []), (41, .ifCond .eq 13, 0, 28, 0, 0, 0, []), (44, .aload_n 0, 0, 0, 0, 0, 0, []),
  (45, .iconst 0, 0, 0, 0, 0, 0, []), (46, .bipush 100, 0, 0, 0, 100, 0, []), (48, .invokevirtual 254, 0, 2, 3, 0, 0, []), (51, .ifCond .ne 5, 0, 30, 0, 0, 0, []),
  (54, .iconst 0, 0, 0, 0, 0, 0, []), (55, .ireturn, 0, 0, 0, 0, 0, []), (56, .aload_n 0, 0, 0, 0, 0, 0, []), (57, .getfield 23, 0, 12, 32, 0, 0, []),
  (60, .iload_n 1, 0, 0, 0, 0, 0, []), (61, .aload_n 0, 0, 0, 0, 0, 0, []), (62, .getfield 245, 0, 12, 11, 0, 0, []), (65, .iastore, 0, 0, 0, 0, 0, []),
  (66, .aload_n 0, 0, 0, 0, 0, 0, []), (67, .getfield 26, 0, 12, 33, 0, 0, []), (70, .iload_n 1, 0, 0, 0, 0, 0, []), (71, .iconst 0, 0, 0, 0, 0, 0, []),
  (72, .iastore, 0, 0, 0, 0, 0, []), (73, .aload_n 0, 42, 0, 0, 0, 0, []), (74, .bipush 8, 0, 0, 0, 8, 0, []), (76, .invokevirtual 338, 0, 3, 2, 0, 0, []),
  (79, .ifCond .eq 81, 0, 92, 0, 0, 0, []), (82, .aload_n 0, 0, 0, 0, 0, 0, []), (83, .invokevirtual 248, 0, 0, 1, 0, 0, [(0, 0), (0, 0)]), (86, .aload_n 0, 0, 0, 0, 0, 0, []),
  (87, .invokevirtual 330, 0, 4, 1, 0, 0, []), (90, .ifCond .ne 5, 0, 52, 0, 0, 0, []), (93, .iconst 0, 0, 0, 0, 0, 0, []), (94, .ireturn, 0, 0, 0, 0, 0, []),
  (95, .aload_n 0, 0, 0, 0, 0, 0, []), (96, .getfield 26, 0, 12, 33, 0, 0, []), (99, .iload_n 1, 0, 0, 0, 0, 0, []), (100, .iaload, 0, 0, 0, 0, 0, []),
  (101, .aload_n 0, 0, 0, 0, 0, 0, []), (102, .getfield 245, 0, 12, 11, 0, 0, []), (105, .invokestatic 341, 0, 5, 2, 0, 0, []), (108, .ifCond .eq 9, 0, 64, 0, 0, 0, []),
  (111, .aload_n 0, 0, 0, 0, 0, 0, []), (112, .iconst 3, 0, 0, 0, 3, 0, []), (113, .invokevirtual 238, 0, 0, 2, 0, 0, []), (116, .ireturn, 0, 0, 0, 0, 0, []),
  (117, .aload_n 0, 0, 0, 0, 0, 0, []), (118, .getfield 26, 0, 12, 33, 0, 0, []), (121, .iload_n 1, 0, 0, 0, 0, 0, []), (122, .dup2, 0, 0, 0, 0, 0, []),
  (123, .iaload, 0, 0, 0, 0, 0, []), (124, .iconst 1, 0, 0, 0, 1, 0, []), (125, .aload_n 0, 0, 0, 0, 0, 0, []), (126, .getfield 245, 0, 12, 11, 0, 0, []),
  (129, .ishl, 0, 0, 0, 0, 0, []), (130, .ior, 0, 0, 0, 0, 0, []), (131, .iastore, 0, 0, 0, 0, 0, []), (132, .aload_n 0, 0, 0, 0, 0, 0, []),
  (133, .getfield 26, 0, 12, 33, 0, 0, []), (136, .bipush 8, 0, 0, 0, 8, 0, []), (138, .aload_n 0, 0, 0, 0, 0, 0, []), (139, .getfield 245, 0, 12, 11, 0, 0, []),
  (142, .iadd, 0, 0, 0, 0, 0, []), (143, .dup2, 0, 0, 0, 0, 0, []), (144, .iaload, 0, 0, 0, 0, 0, []), (145, .iconst 1, 0, 0, 0, 1, 0, []),
  (146, .aload_n 0, 0, 0, 0, 0, 0, []), (147, .getfield 258, 0, 12, 20, 0, 0, []), (150, .ishl, 0, 0, 0, 0, 0, []), (151, .ior, 0, 0, 0, 0, 0, []),
  (152, .iastore, 0, 0, 0, 0, 0, []), (153, .aload_n 0, 0, 0, 0, 0, 0, []), (154, .invokevirtual 248, 0, 0, 1, 0, 0, [(0, 0), (0, 0)]), (157, .goto (-84), 0, 41, 0, 0, 0, []),
  (160, .aload_n 0, 93, 0, 0, 0, 0, []), (161, .dup, 0, 0, 0, 0, 0, []), (162, .getfield 258, 0, 12, 20, 0, 0, []), (165, .iconst 1, 0, 0, 0, 1, 0, []),
  (166, .iadd, 0, 0, 0, 0, 0, []), (167, .putfield 258, 0, 12, 20, 0, 0, []), (170, .iconst 1, 0, 0, 0, 1, 0, []), (171, .ireturn, 0, 0, 0, 0, 0, [])]
noncomputable def fX12_partLine_92 (N : Nat) (w : Wd) : Option (Int32 × Wd) :=
  some ((1 : Int32), (setI w 16 0 20 ((gI w 16 0 20) + (1 : Int32))))
noncomputable def fX12_partLine_41 (N : Nat) : Nat → (Wd → Option (Int32 × Wd)) → Int32 → Wd → Option (Int32 × Wd)
  | 0, _, _, _ => none
  | n + 1, k92, v1, w =>
    (callW (pX12_isKey N (8 : Int32)) w).bind fun r1 =>
    if r1.1 = 0 then k92 r1.2 else
    (callW (pX12_token N) r1.2).bind fun w2 =>
    (callW (pX12_partMet N) w2).bind fun r3 =>
    if r3.1 = 0 then some ((0 : Int32), r3.2) else
    (ldI r3.2 77 0 v1 16).bind fun x4 =>
    (callW (pX12_isOf N x4 (gI r3.2 16 0 11)) r3.2).bind fun r5 =>
    if r5.1 = 0 then
      (ldI r5.2 77 0 v1 16).bind fun x6 =>
      (stI r5.2 77 0 v1 16 (x6 ||| ((1 : Int32) <<< ((gI r5.2 16 0 11) &&& (31 : Int32))))).bind fun w7 =>
      (ldI w7 77 0 ((8 : Int32) + (gI w7 16 0 11)) 16).bind fun x8 =>
      (stI w7 77 0 ((8 : Int32) + (gI w7 16 0 11)) 16 (x8 ||| ((1 : Int32) <<< ((gI w7 16 0 20) &&& (31 : Int32))))).bind fun w9 =>
      (callW (pX12_token N) w9).bind fun w10 =>
      callW (fX12_partLine_41 N n k92 v1) w10
    else
    (callW (pX12_wrong N (3 : Int32)) r5.2).bind fun r11 =>
    retZ r11.1 r11.2
noncomputable def pX12_partLine (N : Nat) (w : Wd) : Option (Int32 × Wd) :=
  if (gI w 16 0 20) = (8 : Int32) then
    (callW (pX12_wrong N (2 : Int32)) w).bind fun r1 =>
    retZ r1.1 r1.2
  else
  (callW (pX12_token N) w).bind fun w2 =>
  (callW (pX12_newName N 75 0 (8 : Int32) (gI w2 16 0 20)) w2).bind fun r3 =>
  if r3.1 = 0 then some ((0 : Int32), r3.2) else
  (callW (pX12_number N (0 : Int32) (100 : Int32)) r3.2).bind fun r4 =>
  if r4.1 = 0 then some ((0 : Int32), r4.2) else
  (stI r4.2 76 0 ((8 : Int32) + (gI w2 16 0 20)) 16 (gI r4.2 16 0 11)).bind fun w5 =>
  (stI w5 77 0 ((8 : Int32) + (gI w2 16 0 20)) 16 (0 : Int32)).bind fun w6 =>
  callW (fX12_partLine_41 N N (fX12_partLine_92 N) ((8 : Int32) + (gI w2 16 0 20))) w6
noncomputable def mX12_partLine (N : Nat) (as : List AV) (w : Wd) : Option (Int32 × Wd) := xS1 16 as fun t => xN1 t (callW (pX12_partLine N) w)
set_option maxRecDepth 100000 in
set_option maxHeartbeats 4000000 in
theorem kX12_partLine : TK cX12_partLine RX12 2 tX12_partLine := ⟨by decide +kernel, wok_of [1620, 1620, 1631, 1620, 1632, 1611, 1633, 1633, 1611, 1633, 1611, 1633, 1611, 1620, 1620, 1620] (by decide +kernel) (by decide +kernel)⟩
set_option maxRecDepth 100000 in
set_option maxHeartbeats 4000000 in
theorem sX12_partLine_92 {N : Nat} {X : XT} (G : GX X cX12_partLine RX12) (hn : xnL X = 2) (hC : CRs X tX12_partLine (oF [(mX12_wrong N), (mX12_newName N), (mX12_number N), (mX12_isKey N), (mX12_partMet N), (mX12_isOf N)]) (oF []) (oF [(mX12_token N)])) {r : Int32 × Wd} (hr : RTZ X cX12_partLine r)  : ∀ (w : Wd), fX12_partLine_92 N w = some r → WW X (pcAt tX12_partLine 92) [some (.inr (.inr (16, 0))), none] [] w := by
  intro w h
  refine run_sound (r := r) (X := X) (cc := cX12_partLine) (own := RX12) (tab := tX12_partLine) G (by rw [hn]; exact kX12_partLine) (oI := (oF [(mX12_wrong N), (mX12_newName N), (mX12_number N), (mX12_isKey N), (mX12_partMet N), (mX12_isOf N)])) (oL := (oF [])) (oV := (oF [(mX12_token N)])) (rI := retZ) (rL := (fun _ _ => none)) (rV := (fun _ => none))
    (K := (fun j ls st w => none)) hr (fun _ _ _ _ hx => by cases hx) (fun _ _ _ hx => by cases hx) hC (fun ls => lsb [some (.inr (.inr (16, 0))), none] 0 ls) (keepsP_of rfl) ?_ 102 92 [some (.inr (.inr (16, 0))), none] [] w ?_ h
  · intro j ls st w hfx h
    obtain ⟨e0, -⟩ : _ = _ ∧ True := hfx
    try dsimp only at h
    cases h
  · exact (show _ = _ ∧ True from ⟨rfl, trivial⟩)
set_option maxRecDepth 100000 in
set_option maxHeartbeats 4000000 in
theorem sX12_partLine_41 {N : Nat} {X : XT} (G : GX X cX12_partLine RX12) (hn : xnL X = 2) (hC : CRs X tX12_partLine (oF [(mX12_wrong N), (mX12_newName N), (mX12_number N), (mX12_isKey N), (mX12_partMet N), (mX12_isOf N)]) (oF []) (oF [(mX12_token N)])) {r : Int32 × Wd} (hr : RTZ X cX12_partLine r)  : ∀ (n : Nat) (k92 : Wd → Option (Int32 × Wd)) (v1 : Int32) (w : Wd), fX12_partLine_41 N n k92 v1 w = some r → (∀ (w : Wd), k92 w = some r → WW X (pcAt tX12_partLine 92) [some (.inr (.inr (16, 0))), none] [] w) → WW X (pcAt tX12_partLine 41) [some (.inr (.inr (16, 0))), some (.inl v1)] [] w := by
  intro n
  induction n with
  | zero => intro k92 v1 w h h92; cases h
  | succ n ih =>
    intro k92 v1 w h h92
    refine run_sound (r := r) (X := X) (cc := cX12_partLine) (own := RX12) (tab := tX12_partLine) G (by rw [hn]; exact kX12_partLine) (oI := (oF [(mX12_wrong N), (mX12_newName N), (mX12_number N), (mX12_isKey N), (mX12_partMet N), (mX12_isOf N)])) (oL := (oF [])) (oV := (oF [(mX12_token N)])) (rI := retZ) (rL := (fun _ _ => none)) (rV := (fun _ => none))
      (K := (fun j ls st w => if j = 41 then (lgI ls 1 fun v1 => st0 st (callW (fX12_partLine_41 N n k92 v1) w)) else if j = 92 then (st0 st (k92 w)) else none)) hr (fun _ _ _ _ hx => by cases hx) (fun _ _ _ hx => by cases hx) hC (fun ls => lsb [some (.inr (.inr (16, 0))), none] 0 ls) (keepsP_of rfl) ?_ 102 41 [some (.inr (.inr (16, 0))), some (.inl v1)] [] w ?_ h
    · intro j ls st w hfx h
      obtain ⟨e0, -⟩ : _ = _ ∧ True := hfx
      try dsimp only at h
      by_cases hj : j = 41
      · subst hj
        rw [if_pos rfl] at h
        obtain ⟨v1, e1, h_1⟩ := lgI_some h
        obtain ⟨rfl, h_2⟩ := st0_some h_1
        clear h h_1
        have h := h_2
        try rw [callW_eq] at h
        exact WW.le (a := [some (.inr (.inr (16, 0))), some (.inl v1)]) (by rw [hn]; rfl) (show _ = _ ∧ _ = _ ∧ True from ⟨e0, e1, trivial⟩) (ih k92 v1 w h h92)
      rw [if_neg hj] at h
      by_cases hj : j = 92
      · subst hj
        rw [if_pos rfl] at h
        obtain ⟨rfl, h_1⟩ := st0_some h
        clear h
        have h := h_1
        try rw [callW_eq] at h
        exact WW.le (a := [some (.inr (.inr (16, 0))), none]) (by rw [hn]; rfl) (show _ = _ ∧ True from ⟨e0, trivial⟩) (h92 w h)
      rw [if_neg hj] at h
      cases h
    · exact (show _ = _ ∧ True from ⟨rfl, trivial⟩)
set_option maxRecDepth 100000 in
set_option maxHeartbeats 4000000 in
theorem crX12_partLine {N : Nat} {X : XT} (G : GX X cX12_partLine RX12) (hR : xR X = rmL 4) : CRs X tX12_partLine (oF [(mX12_wrong N), (mX12_newName N), (mX12_number N), (mX12_isKey N), (mX12_partMet N), (mX12_isOf N)]) (oF []) (oF [(mX12_token N)]) := by
  have hl : tX12_partLine.filter isInv = [(11, .invokevirtual 238, 0, 0, 2, 0, 0, []), (16, .invokevirtual 248, 0, 0, 1, 0, 0, [(0, 0), (0, 0)]), (38, .invokevirtual 334, 0, 1, 4, 0, 0, []), (48, .invokevirtual 254, 0, 2, 3, 0, 0, []), (76, .invokevirtual 338, 0, 3, 2, 0, 0, []), (83, .invokevirtual 248, 0, 0, 1, 0, 0, [(0, 0), (0, 0)]), (87, .invokevirtual 330, 0, 4, 1, 0, 0, []), (105, .invokestatic 341, 0, 5, 2, 0, 0, []), (113, .invokevirtual 238, 0, 0, 2, 0, 0, []), (154, .invokevirtual 248, 0, 0, 1, 0, 0, [(0, 0), (0, 0)])] := rfl
  intro e he
  rw [hl] at he
  simp only [List.mem_cons, List.not_mem_nil, or_false] at he
  rcases he with rfl | rfl | rfl | rfl | rfl | rfl | rfl | rfl | rfl | rfl
  · exact crI_V (idx := 238) G (by decide +kernel) (MX12_wrong N) (cw_of (ps := [1967, 1969, 83, 164, 1970]) (by decide +kernel) (by decide +kernel)) ⟨by decide +kernel, by decide +kernel, by decide +kernel⟩ (by unfold rmOk; rw [hR]; exact ⟨by decide, by decide⟩)
  · exact crV_V (idx := 248) G (by decide +kernel) (MX12_token N) (cw_of (ps := [1938, 1940, 76, 164, 1941]) (by decide +kernel) (by decide +kernel)) ⟨by decide +kernel, by decide +kernel, by decide +kernel⟩ (by unfold rmOk; rw [hR]; exact ⟨by decide, by decide⟩)
  · exact crI_V (idx := 334) G (by decide +kernel) (MX12_newName N) (cw_of (ps := [1975, 1977, 85, 164, 1978]) (by decide +kernel) (by decide +kernel)) ⟨by decide +kernel, by decide +kernel, by decide +kernel⟩ (by unfold rmOk; rw [hR]; exact ⟨by decide, by decide⟩)
  · exact crI_V (idx := 254) G (by decide +kernel) (MX12_number N) (cw_of (ps := [1982, 1984, 86, 164, 1985]) (by decide +kernel) (by decide +kernel)) ⟨by decide +kernel, by decide +kernel, by decide +kernel⟩ (by unfold rmOk; rw [hR]; exact ⟨by decide, by decide⟩)
  · exact crI_V (idx := 338) G (by decide +kernel) (MX12_isKey N) (cw_of (ps := [1989, 1991, 87, 164, 1992]) (by decide +kernel) (by decide +kernel)) ⟨by decide +kernel, by decide +kernel, by decide +kernel⟩ (by unfold rmOk; rw [hR]; exact ⟨by decide, by decide⟩)
  · exact crV_V (idx := 248) G (by decide +kernel) (MX12_token N) (cw_of (ps := [1938, 1940, 76, 164, 1941]) (by decide +kernel) (by decide +kernel)) ⟨by decide +kernel, by decide +kernel, by decide +kernel⟩ (by unfold rmOk; rw [hR]; exact ⟨by decide, by decide⟩)
  · exact crI_V (idx := 330) G (by decide +kernel) (MX12_partMet N) (cw_of (ps := [1993, 1995, 88, 164, 1996]) (by decide +kernel) (by decide +kernel)) ⟨by decide +kernel, by decide +kernel, by decide +kernel⟩ (by unfold rmOk; rw [hR]; exact ⟨by decide, by decide⟩)
  · exact crI_S (idx := 341) G (by decide +kernel) (MX12_isOf N) (cw_of (ps := [1589, 1590, 164, 1591]) (by decide +kernel) (by decide +kernel)) ⟨by decide +kernel, by decide +kernel, by decide +kernel⟩ (by unfold rmOk; rw [hR]; exact ⟨by decide, by decide⟩)
  · exact crI_V (idx := 238) G (by decide +kernel) (MX12_wrong N) (cw_of (ps := [1967, 1969, 83, 164, 1970]) (by decide +kernel) (by decide +kernel)) ⟨by decide +kernel, by decide +kernel, by decide +kernel⟩ (by unfold rmOk; rw [hR]; exact ⟨by decide, by decide⟩)
  · exact crV_V (idx := 248) G (by decide +kernel) (MX12_token N) (cw_of (ps := [1938, 1940, 76, 164, 1941]) (by decide +kernel) (by decide +kernel)) ⟨by decide +kernel, by decide +kernel, by decide +kernel⟩ (by unfold rmOk; rw [hR]; exact ⟨by decide, by decide⟩)
set_option maxRecDepth 100000 in
set_option maxHeartbeats 4000000 in
theorem MX12_partLine (N : Nat) : SndI yX12_partLine cX12_partLine 2 (some .boolean) 4 1 true (mX12_partLine N) := by
  refine SndI.ofZ tX12_partLine (by decide +kernel) rfl rfl ?_ ?_
  · intro as w x h
    obtain ⟨t1, rfl, h_1⟩ := xS1_some h
    obtain ⟨rfl, h_2⟩ := xN1_some h_1
    clear h h_1
    have h := h_2
    rw [callW_eq] at h
    exact ⟨fun _ => ⟨_, _, _, rfl, rfl, _, rfl, rfl⟩, rfl, Nat.le_of_ble_eq_true rfl⟩
  · intro X G hn hR as w r h hr
    have hC := crX12_partLine (N := N) G hR
    obtain ⟨t1, rfl, h_1⟩ := xS1_some h
    obtain ⟨rfl, h_2⟩ := xN1_some h_1
    clear h h_1
    have h := h_2
    rw [callW_eq] at h
    refine run_sound (r := r) (X := X) (cc := cX12_partLine) (own := RX12) (tab := tX12_partLine) G (by rw [hn]; exact kX12_partLine) (oI := (oF [(mX12_wrong N), (mX12_newName N), (mX12_number N), (mX12_isKey N), (mX12_partMet N), (mX12_isOf N)])) (oL := (oF [])) (oV := (oF [(mX12_token N)])) (rI := retZ) (rL := (fun _ _ => none)) (rV := (fun _ => none))
      (K := (fun j ls st w => if j = 41 then (lgI ls 1 fun v1 => st0 st (callW (fX12_partLine_41 N N (fX12_partLine_92 N) v1) w)) else none)) hr (fun _ _ _ _ hx => by cases hx) (fun _ _ _ hx => by cases hx) hC (fun ls => lsb [some (.inr (.inr (16, 0))), none] 0 ls) (keepsP_of rfl) ?_ 102 0 [some (.inr (.inr (16, 0))), none] [] w ?_ h
    · intro j ls st w hfx h
      obtain ⟨e0, -⟩ : _ = _ ∧ True := hfx
      try dsimp only at h
      by_cases hj : j = 41
      · subst hj
        rw [if_pos rfl] at h
        obtain ⟨v1, e1, h_1⟩ := lgI_some h
        obtain ⟨rfl, h_2⟩ := st0_some h_1
        clear h h_1
        have h := h_2
        try rw [callW_eq] at h
        exact WW.le (a := [some (.inr (.inr (16, 0))), some (.inl v1)]) (by rw [hn]; rfl) (show _ = _ ∧ _ = _ ∧ True from ⟨e0, e1, trivial⟩) (sX12_partLine_41 G hn hC hr N (fX12_partLine_92 N) v1 w h (fun w h => (sX12_partLine_92 G hn hC hr w h)))
      rw [if_neg hj] at h
      cases h
    · exact (show _ = _ ∧ True from ⟨rfl, trivial⟩)
-- MoorGuidesModel.knowsRead(I)Z
def tX12_knowsRead : List EN := [
  (0, .aload_n 0, 0, 0, 0, 0, 0, []), (1, .invokevirtual 248, 0, 0, 1, 0, 0, [(0, 0), (0, 0)]), (4, .aload_n 0, 0, 0, 0, 0, 0, []), (5, .invokevirtual 330, 0, 0, 1, 0, 0, []),
  (8, .ifCond .ne 5, 0, 7, 0, 0, 0, []), (11, .iconst 0, 0, 0, 0, 0, 0, []), (12, .ireturn, 0, 0, 0, 0, 0, []), (13, .aload_n 0, 0, 0, 0, 0, 0, []),
  (14, .getfield 32, 0, 12, 35, 0, 0, []), (17, .iload_n 1, 0, 0, 0, 0, 0, []), (18, .iaload, 0, 0, 0, 0, 0, []), (19, .aload_n 0, 0, 0, 0, 0, 0, []),
  (20, .getfield 245, 0, 12, 11, 0, 0, []), (23, .invokestatic 341, 0, 1, 2, 0, 0, []), (26, .ifCond .eq 9, 0, 19, 0, 0, 0, []), (29, .aload_n 0, 0, 0, 0, 0, 0, []),
  (30, .iconst 3, 0, 0, 0, 3, 0, []), (31, .invokevirtual 238, 0, 2, 2, 0, 0, []), (34, .ireturn, 0, 0, 0, 0, 0, []), (35, .aload_n 0, 0, 0, 0, 0, 0, []),
  (36, .getfield 32, 0, 12, 35, 0, 0, []), (39, .iload_n 1, 0, 0, 0, 0, 0, []), (40, .dup2, 0, 0, 0, 0, 0, []), (41, .iaload, 0, 0, 0, 0, 0, []),
  (42, .iconst 1, 0, 0, 0, 1, 0, []), (43, .aload_n 0, 0, 0, 0, 0, 0, []), (44, .getfield 245, 0, 12, 11, 0, 0, []), (47, .ishl, 0, 0, 0, 0, 0, []),
  (48, .ior, 0, 0, 0, 0, 0, []), (49, .iastore, 0, 0, 0, 0, 0, []), (50, .aload_n 0, 0, 0, 0, 0, 0, []), (51, .invokevirtual 248, 0, 0, 1, 0, 0, [(0, 0), (0, 0)]),
  (54, .iconst 1, 0, 0, 0, 1, 0, []), (55, .ireturn, 0, 0, 0, 0, 0, [])]
noncomputable def pX12_knowsRead (N : Nat) (a1 : Int32) (w : Wd) : Option (Int32 × Wd) :=
  (callW (pX12_token N) w).bind fun w1 =>
  (callW (pX12_partMet N) w1).bind fun r2 =>
  if r2.1 = 0 then some ((0 : Int32), r2.2) else
  (ldI r2.2 79 0 a1 12).bind fun x3 =>
  (callW (pX12_isOf N x3 (gI r2.2 16 0 11)) r2.2).bind fun r4 =>
  if r4.1 = 0 then
    (ldI r4.2 79 0 a1 12).bind fun x5 =>
    (stI r4.2 79 0 a1 12 (x5 ||| ((1 : Int32) <<< ((gI r4.2 16 0 11) &&& (31 : Int32))))).bind fun w6 =>
    (callW (pX12_token N) w6).bind fun w7 =>
    some ((1 : Int32), w7)
  else
  (callW (pX12_wrong N (3 : Int32)) r4.2).bind fun r8 =>
  retZ r8.1 r8.2
noncomputable def mX12_knowsRead (N : Nat) (as : List AV) (w : Wd) : Option (Int32 × Wd) := xS1 16 as fun t => xI1 t fun a1 t => xN1 t (callW (pX12_knowsRead N a1) w)
set_option maxRecDepth 100000 in
set_option maxHeartbeats 4000000 in
theorem kX12_knowsRead : TK cX12_knowsRead RX12 2 tX12_knowsRead := ⟨by decide +kernel, wok_of [1635, 1611, 1635, 1611] (by decide +kernel) (by decide +kernel)⟩
set_option maxRecDepth 100000 in
set_option maxHeartbeats 4000000 in
theorem crX12_knowsRead {N : Nat} {X : XT} (G : GX X cX12_knowsRead RX12) (hR : xR X = rmL 3) : CRs X tX12_knowsRead (oF [(mX12_partMet N), (mX12_isOf N), (mX12_wrong N)]) (oF []) (oF [(mX12_token N)]) := by
  have hl : tX12_knowsRead.filter isInv = [(1, .invokevirtual 248, 0, 0, 1, 0, 0, [(0, 0), (0, 0)]), (5, .invokevirtual 330, 0, 0, 1, 0, 0, []), (23, .invokestatic 341, 0, 1, 2, 0, 0, []), (31, .invokevirtual 238, 0, 2, 2, 0, 0, []), (51, .invokevirtual 248, 0, 0, 1, 0, 0, [(0, 0), (0, 0)])] := rfl
  intro e he
  rw [hl] at he
  simp only [List.mem_cons, List.not_mem_nil, or_false] at he
  rcases he with rfl | rfl | rfl | rfl | rfl
  · exact crV_V (idx := 248) G (by decide +kernel) (MX12_token N) (cw_of (ps := [1938, 1940, 76, 164, 1941]) (by decide +kernel) (by decide +kernel)) ⟨by decide +kernel, by decide +kernel, by decide +kernel⟩ (by unfold rmOk; rw [hR]; exact ⟨by decide, by decide⟩)
  · exact crI_V (idx := 330) G (by decide +kernel) (MX12_partMet N) (cw_of (ps := [1993, 1995, 88, 164, 1996]) (by decide +kernel) (by decide +kernel)) ⟨by decide +kernel, by decide +kernel, by decide +kernel⟩ (by unfold rmOk; rw [hR]; exact ⟨by decide, by decide⟩)
  · exact crI_S (idx := 341) G (by decide +kernel) (MX12_isOf N) (cw_of (ps := [1589, 1590, 164, 1591]) (by decide +kernel) (by decide +kernel)) ⟨by decide +kernel, by decide +kernel, by decide +kernel⟩ (by unfold rmOk; rw [hR]; exact ⟨by decide, by decide⟩)
  · exact crI_V (idx := 238) G (by decide +kernel) (MX12_wrong N) (cw_of (ps := [1967, 1969, 83, 164, 1970]) (by decide +kernel) (by decide +kernel)) ⟨by decide +kernel, by decide +kernel, by decide +kernel⟩ (by unfold rmOk; rw [hR]; exact ⟨by decide, by decide⟩)
  · exact crV_V (idx := 248) G (by decide +kernel) (MX12_token N) (cw_of (ps := [1938, 1940, 76, 164, 1941]) (by decide +kernel) (by decide +kernel)) ⟨by decide +kernel, by decide +kernel, by decide +kernel⟩ (by unfold rmOk; rw [hR]; exact ⟨by decide, by decide⟩)
set_option maxRecDepth 100000 in
set_option maxHeartbeats 4000000 in
theorem MX12_knowsRead (N : Nat) : SndI yX12_knowsRead cX12_knowsRead 2 (some .boolean) 3 2 true (mX12_knowsRead N) := by
  refine SndI.ofZ tX12_knowsRead (by decide +kernel) rfl rfl ?_ ?_
  · intro as w x h
    obtain ⟨t1, rfl, h_1⟩ := xS1_some h
    obtain ⟨a1, t2, rfl, h_2⟩ := xI1_some h_1
    obtain ⟨rfl, h_3⟩ := xN1_some h_2
    clear h h_1 h_2
    have h := h_3
    rw [callW_eq] at h
    exact ⟨fun _ => ⟨_, _, _, rfl, rfl, _, rfl, rfl⟩, rfl, Nat.le_of_ble_eq_true rfl⟩
  · intro X G hn hR as w r h hr
    have hC := crX12_knowsRead (N := N) G hR
    obtain ⟨t1, rfl, h_1⟩ := xS1_some h
    obtain ⟨a1, t2, rfl, h_2⟩ := xI1_some h_1
    obtain ⟨rfl, h_3⟩ := xN1_some h_2
    clear h h_1 h_2
    have h := h_3
    rw [callW_eq] at h
    refine run_sound (r := r) (X := X) (cc := cX12_knowsRead) (own := RX12) (tab := tX12_knowsRead) G (by rw [hn]; exact kX12_knowsRead) (oI := (oF [(mX12_partMet N), (mX12_isOf N), (mX12_wrong N)])) (oL := (oF [])) (oV := (oF [(mX12_token N)])) (rI := retZ) (rL := (fun _ _ => none)) (rV := (fun _ => none))
      (K := (fun j ls st w => none)) hr (fun _ _ _ _ hx => by cases hx) (fun _ _ _ hx => by cases hx) hC (fun ls => lsb [some (.inr (.inr (16, 0))), some (.inl a1)] 0 ls) (keepsP_of rfl) ?_ 36 0 [some (.inr (.inr (16, 0))), some (.inl a1)] [] w ?_ h
    · intro j ls st w hfx h
      obtain ⟨e0, e1, -⟩ : _ = _ ∧ _ = _ ∧ True := hfx
      try dsimp only at h
      cases h
    · exact (show _ = _ ∧ _ = _ ∧ True from ⟨rfl, rfl, trivial⟩)
-- MoorGuidesModel.personLine()Z
def tX12_personLine : List EN := [
  (0, .aload_n 0, 0, 0, 0, 0, 0, []), (1, .getfield 261, 0, 12, 21, 0, 0, []), (4, .bipush 6, 0, 0, 0, 6, 0, []), (6, .if_icmp .ne 9, 0, 8, 0, 0, 0, []),
  (9, .aload_n 0, 0, 0, 0, 0, 0, []), (10, .iconst 2, 0, 0, 0, 2, 0, []), (11, .invokevirtual 238, 0, 0, 2, 0, 0, []), (14, .ireturn, 0, 0, 0, 0, 0, []),
  (15, .aload_n 0, 0, 0, 0, 0, 0, []), (16, .invokevirtual 248, 0, 0, 1, 0, 0, [(0, 0), (0, 0)]), (19, .bipush 6, 0, 0, 0, 6, 0, []), (21, .aload_n 0, 0, 0, 0, 0, 0, []),
  (22, .getfield 261, 0, 12, 21, 0, 0, []), (25, .iadd, 0, 0, 0, 0, 0, []), (26, .istore_n 1, 0, 0, 0, 0, 0, []), (27, .aload_n 0, 0, 0, 0, 0, 0, []),
  (28, .aload_n 0, 0, 0, 0, 0, 0, []), (29, .getfield 29, 0, 12, 34, 0, 0, []), (32, .bipush 6, 0, 0, 0, 6, 0, []), (34, .aload_n 0, 0, 0, 0, 0, 0, []),
  (35, .getfield 261, 0, 12, 21, 0, 0, []), (38, .invokevirtual 334, 0, 1, 4, 0, 0, []), (41, .ifCond .ne 5, 0, 25, 0, 0, 0, []), (44, .iconst 0, 0, 0, 0, 0, 0, []),
  (45, .ireturn, 0, 0, 0, 0, 0, []), (46, .aload_n 0, 0, 0, 0, 0, 0, []), (47, .getfield 32, 0, 12, 35, 0, 0, []), (50, .iload_n 1, 0, 0, 0, 0, 0, []),
  (51, .iconst 0, 0, 0, 0, 0, 0, []), (52, .iastore, 0, 0, 0, 0, 0, []), (53, .aload_n 0, 0, 0, 0, 0, 0, []), (54, .getfield 35, 0, 12, 36, 0, 0, []),
  (57, .iload_n 1, 0, 0, 0, 0, 0, []), (58, .iconst 1, 0, 0, 0, 1, 0, []), (59, .iastore, 0, 0, 0, 0, 0, []), (60, .aload_n 0, 0, 0, 0, 0, 0, []),
  (61, .getfield 38, 0, 12, 37, 0, 0, []), (64, .iload_n 1, 0, 0, 0, 0, 0, []), (65, .iconst 0, 0, 0, 0, 0, 0, []), (66, .iastore, 0, 0, 0, 0, 0, []),
  (67, .aload_n 0, 0, 0, 0, 0, 0, []), (68, .getfield 41, 0, 12, 38, 0, 0, []), (71, .iload_n 1, 0, 0, 0, 0, 0, []), (72, .sipush 999, 0, 0, 0, 999, 0, []),
  (75, .iastore, 0, 0, 0, 0, 0, []), (76, .aload_n 0, 0, 0, 0, 0, 0, []), (77, .getfield 44, 0, 12, 39, 0, 0, []), (80, .iload_n 1, 0, 0, 0, 0, 0, []),
  (81, .sipush 999, 0, 0, 0, 999, 0, []), (84, .iastore, 0, 0, 0, 0, 0, []), (85, .iconst 0, 0, 0, 0, 0, 0, []), (86, .istore_n 2, 0, 0, 0, 0, 0, []),
  (87, .aload_n 0, 53, 0, 0, 0, 0, []), (88, .getfield 214, 0, 12, 8, 0, 0, []), (91, .iconst 1, 0, 0, 0, 1, 0, []), (92, .if_icmp .ne 241, 0, 186, 0, 0, 0, []),
  (95, .aload_n 0, 0, 0, 0, 0, 0, []), (96, .getfield 225, 0, 12, 9, 0, 0, []), (99, .bipush 9, 0, 0, 0, 9, 0, []), (101, .if_icmp .lt 232, 0, 186, 0, 0, 0, []),
  (104, .aload_n 0, 0, 0, 0, 0, 0, []), (105, .getfield 225, 0, 12, 9, 0, 0, []), (108, .bipush 13, 0, 0, 0, 13, 0, []), (110, .if_icmp .gt 223, 0, 186, 0, 0, 0, []),
  (113, .aload_n 0, 0, 0, 0, 0, 0, []), (114, .getfield 225, 0, 12, 9, 0, 0, []), (117, .istore_n 3, 0, 0, 0, 0, 0, []), (118, .iload_n 3, 0, 0, 0, 0, 0, []),
  (119, .bipush 9, 0, 0, 0, 9, 0, []), (121, .if_icmp .ne 13, 0, 76, 0, 0, 0, []), (124, .aload_n 0, 0, 0, 0, 0, 0, []), (125, .iload_n 1, 0, 0, 0, 0, 0, []),
  (126, .invokevirtual 344, 0, 2, 2, 0, 0, []), (129, .ifCond .ne (-42), 0, 52, 0, 0, 0, []), (132, .iconst 0, 0, 0, 0, 0, 0, []), (133, .ireturn, 0, 0, 0, 0, 0, []),
  (134, .iload_n 2, 0, 0, 0, 0, 0, []), (135, .iload_n 3, 0, 0, 0, 0, 0, []), (136, .invokestatic 341, 0, 3, 2, 0, 0, []), (139, .ifCond .eq 9, 0, 84, 0, 0, 0, []),
  (142, .aload_n 0, 0, 0, 0, 0, 0, []), (143, .iconst 3, 0, 0, 0, 3, 0, []), (144, .invokevirtual 238, 0, 0, 2, 0, 0, []), (147, .ireturn, 0, 0, 0, 0, 0, []),
  (148, .iload_n 2, 0, 0, 0, 0, 0, []), (149, .iconst 1, 0, 0, 0, 1, 0, []), (150, .iload_n 3, 0, 0, 0, 0, 0, []), (151, .ishl, 0, 0, 0, 0, 0, []),
  (152, .ior, 0, 0, 0, 0, 0, []), (153, .istore_n 2, 0, 0, 0, 0, 0, []), (154, .aload_n 0, 0, 0, 0, 0, 0, []), (155, .invokevirtual 248, 0, 0, 1, 0, 0, [(0, 0), (0, 0)]),
  (158, .iload_n 3, 0, 0, 0, 0, 0, []), (159, .bipush 13, 0, 0, 0, 13, 0, []), (161, .if_icmp .ne 7, 0, 97, 0, 0, 0, []), (164, .iconst 1, 0, 0, 0, 1, 0, []),
  (165, .goto 19, 0, 106, 0, 0, 0, []), (168, .iload_n 3, 0, 0, 0, 0, 0, []), (169, .bipush 12, 0, 0, 0, 12, 0, []), (171, .if_icmp .ne 12, 0, 105, 0, 0, 0, []),
  (174, .aload_n 0, 0, 0, 0, 0, 0, []), (175, .getfield 38, 0, 12, 37, 0, 0, []), (178, .iload_n 1, 0, 0, 0, 0, 0, []), (179, .iaload, 0, 0, 0, 0, 0, []),
  (180, .goto 4, 0, 106, 0, 0, 0, []), (183, .iconst 0, 0, 0, 0, 0, 0, []), (184, .istore 4, 107, 0, 0, 0, 0, []), (186, .iload_n 3, 0, 0, 0, 0, 0, []),
  (187, .bipush 10, 0, 0, 0, 10, 0, []), (189, .if_icmp .ne 8, 0, 112, 0, 0, 0, []), (192, .bipush 99, 0, 0, 0, 99, 0, []), (194, .goto 21, 0, 121, 0, 0, 0, []),
  (197, .iload_n 3, 0, 0, 0, 0, 0, []), (198, .bipush 11, 0, 0, 0, 11, 0, []), (200, .if_icmp .ne 12, 0, 120, 0, 0, 0, []), (203, .aload_n 0, 0, 0, 0, 0, 0, []),
  (204, .getfield 41, 0, 12, 38, 0, 0, []), (207, .iload_n 1, 0, 0, 0, 0, 0, []), (208, .iaload, 0, 0, 0, 0, 0, []), (209, .goto 6, 0, 121, 0, 0, 0, []),
  (212, .sipush 999, 0, 0, 0, 999, 0, []), (215, .istore 5, 122, 0, 0, 0, 0, []), (217, .aload_n 0, 0, 0, 0, 0, 0, []), (218, .iload 4, 0, 0, 0, 0, 0, []),
  (220, .iload 5, 0, 0, 0, 0, 0, []), (222, .invokevirtual 254, 0, 4, 3, 0, 0, []), (225, .ifCond .ne 5, 0, 129, 0, 0, 0, []), (228, .iconst 0, 0, 0, 0, 0, 0, []),
  (229, .ireturn, 0, 0, 0, 0, 0, []), (230, .aload_n 0, 0, 0, 0, 0, 0, []), (231, .getfield 35, 0, 12, 36, 0, 0, []), (234, .iload_n 1, 0, 0, 0, 0, 0, []),
  (235, .iload_n 3, 0, 0, 0, 0, 0, []), (236, .bipush 10, 0, 0, 0, 10, 0, []), (238, .if_icmp .ne 10, 0, 138, 0, 0, 0, []), (241, .aload_n 0, 0, 0, 0, 0, 0, []),
  (242, .getfield 245, 0, 12, 11, 0, 0, []), (245, .goto 9, 0, 142, 0, 0, 0, []), (248, .aload_n 0, 0, 0, 0, 0, 0, []), (249, .getfield 35, 0, 12, 36, 0, 0, []),
  (252, .iload_n 1, 0, 0, 0, 0, 0, []), (253, .iaload, 0, 0, 0, 0, 0, []), (254, .iastore, 143, 0, 0, 0, 0, []), (255, .aload_n 0, 0, 0, 0, 0, 0, []),
  (256, .getfield 38, 0, 12, 37, 0, 0, []), (259, .iload_n 1, 0, 0, 0, 0, 0, []), (260, .iload_n 3, 0, 0, 0, 0, 0, []), (261, .bipush 11, 0, 0, 0, 11, 0, []),
  (263, .if_icmp .ne 10, 0, 152, 0, 0, 0, []), (266, .aload_n 0, 0, 0, 0, 0, 0, []), (267, .getfield 245, 0, 12, 11, 0, 0, []), (270, .goto 9, 0, 156, 0, 0, 0, []),
  (273, .aload_n 0, 0, 0, 0, 0, 0, []), (274, .getfield 38, 0, 12, 37, 0, 0, []), (277, .iload_n 1, 0, 0, 0, 0, 0, []), (278, .iaload, 0, 0, 0, 0, 0, []),
  (279, .iastore, 157, 0, 0, 0, 0, []), (280, .aload_n 0, 0, 0, 0, 0, 0, []), (281, .getfield 41, 0, 12, 38, 0, 0, []), (284, .iload_n 1, 0, 0, 0, 0, 0, []),
  (285, .iload_n 3, 0, 0, 0, 0, 0, []), (286, .bipush 12, 0, 0, 0, 12, 0, []), (288, .if_icmp .ne 10, 0, 166, 0, 0, 0, []), (291, .aload_n 0, 0, 0, 0, 0, 0, []),
  (292, .getfield 245, 0, 12, 11, 0, 0, []), (295, .goto 9, 0, 170, 0, 0, 0, []), (298, .aload_n 0, 0, 0, 0, 0, 0, []), (299, .getfield 41, 0, 12, 38, 0, 0, []),
  (302, .iload_n 1, 0, 0, 0, 0, 0, []), (303, .iaload, 0, 0, 0, 0, 0, []), (304, .iastore, 171, 0, 0, 0, 0, []), (305, .aload_n 0, 0, 0, 0, 0, 0, []),
  (306, .getfield 44, 0, 12, 39, 0, 0, []), (309, .iload_n 1, 0, 0, 0, 0, 0, []), (310, .iload_n 3, 0, 0, 0, 0, 0, []), (311, .bipush 13, 0, 0, 0, 13, 0, []),
  (313, .if_icmp .ne 10, 0, 180, 0, 0, 0, []), (316, .aload_n 0, 0, 0, 0, 0, 0, []), (317, .getfield 245, 0, 12, 11, 0, 0, []), (320, .goto 9, 0, 184, 0, 0, 0, []),
  (323, .aload_n 0, 0, 0, 0, 0, 0, []), (324, .getfield 44, 0, 12, 39, 0, 0, []), (327, .iload_n 1, 0, 0, 0, 0, 0, []), (328, .iaload, 0, 0, 0, 0, 0, []),
  (329, .iastore, 0, 0, 0, 0, 0, []), (330, .goto (-243), 0, 52, 0, 0, 0, []), (333, .aload_n 0, 187, 0, 0, 0, 0, []), (334, .dup, 0, 0, 0, 0, 0, []),
  (335, .getfield 261, 0, 12, 21, 0, 0, []), (338, .iconst 1, 0, 0, 0, 1, 0, []), (339, .iadd, 0, 0, 0, 0, 0, []), (340, .putfield 261, 0, 12, 21, 0, 0, []),
  (343, .iconst 1, 0, 0, 0, 1, 0, []), (344, .ireturn, 0, 0, 0, 0, 0, [])]
noncomputable def fX12_personLine_186 (N : Nat) (w : Wd) : Option (Int32 × Wd) :=
  some ((1 : Int32), (setI w 16 0 21 ((gI w 16 0 21) + (1 : Int32))))
noncomputable def fX12_personLine_170 (N : Nat) (k52 : Int32 → Int32 → Wd → Option (Int32 × Wd)) (v1 : Int32) (v2 : Int32) (v3 : Int32) (s0 : Int32) (s1 : Int32) (s2 : Nat) (w : Wd) : Option (Int32 × Wd) :=
  (stI w 82 s2 s1 12 s0).bind fun w1 =>
  if v3 = (13 : Int32) then
    (stI w1 83 0 v1 12 (gI w1 16 0 11)).bind fun w2 =>
    k52 v1 v2 w2
  else
  (ldI w1 83 0 v1 12).bind fun x3 =>
  (stI w1 83 0 v1 12 x3).bind fun w4 =>
  k52 v1 v2 w4
noncomputable def fX12_personLine_156 (N : Nat) (k52 : Int32 → Int32 → Wd → Option (Int32 × Wd)) (v1 : Int32) (v2 : Int32) (v3 : Int32) (s0 : Int32) (s1 : Int32) (s2 : Nat) (w : Wd) : Option (Int32 × Wd) :=
  (stI w 81 s2 s1 12 s0).bind fun w1 =>
  if v3 = (12 : Int32) then callW (fX12_personLine_170 N k52 v1 v2 v3 (gI w1 16 0 11) v1 0) w1 else
  (ldI w1 82 0 v1 12).bind fun x2 =>
  callW (fX12_personLine_170 N k52 v1 v2 v3 x2 v1 0) w1
noncomputable def fX12_personLine_142 (N : Nat) (k52 : Int32 → Int32 → Wd → Option (Int32 × Wd)) (v1 : Int32) (v2 : Int32) (v3 : Int32) (s0 : Int32) (s1 : Int32) (s2 : Nat) (w : Wd) : Option (Int32 × Wd) :=
  (stI w 80 s2 s1 12 s0).bind fun w1 =>
  if v3 = (11 : Int32) then callW (fX12_personLine_156 N k52 v1 v2 v3 (gI w1 16 0 11) v1 0) w1 else
  (ldI w1 81 0 v1 12).bind fun x2 =>
  callW (fX12_personLine_156 N k52 v1 v2 v3 x2 v1 0) w1
noncomputable def fX12_personLine_121 (N : Nat) (k52 : Int32 → Int32 → Wd → Option (Int32 × Wd)) (v1 : Int32) (v2 : Int32) (v3 : Int32) (v4 : Int32) (s0 : Int32) (w : Wd) : Option (Int32 × Wd) :=
  (callW (pX12_number N v4 s0) w).bind fun r1 =>
  if r1.1 = 0 then some ((0 : Int32), r1.2) else
  if v3 = (10 : Int32) then callW (fX12_personLine_142 N k52 v1 v2 v3 (gI r1.2 16 0 11) v1 0) r1.2 else
  (ldI r1.2 80 0 v1 12).bind fun x2 =>
  callW (fX12_personLine_142 N k52 v1 v2 v3 x2 v1 0) r1.2
noncomputable def fX12_personLine_106 (N : Nat) (k52 : Int32 → Int32 → Wd → Option (Int32 × Wd)) (v1 : Int32) (v2 : Int32) (v3 : Int32) (s0 : Int32) (w : Wd) : Option (Int32 × Wd) :=
  if v3 = (10 : Int32) then callW (fX12_personLine_121 N k52 v1 v2 v3 s0 (99 : Int32)) w else
  if v3 = (11 : Int32) then
    (ldI w 82 0 v1 12).bind fun x1 =>
    callW (fX12_personLine_121 N k52 v1 v2 v3 s0 x1) w
  else
  callW (fX12_personLine_121 N k52 v1 v2 v3 s0 (999 : Int32)) w
noncomputable def fX12_personLine_52 (N : Nat) : Nat → (Wd → Option (Int32 × Wd)) → Int32 → Int32 → Wd → Option (Int32 × Wd)
  | 0, _, _, _, _ => none
  | n + 1, k186, v1, v2, w =>
    if (gI w 16 0 8) = (1 : Int32) then
      if (gI w 16 0 9) < (9 : Int32) then k186 w else
      if (13 : Int32) < (gI w 16 0 9) then k186 w else
      if (gI w 16 0 9) = (9 : Int32) then
        (callW (pX12_knowsRead N v1) w).bind fun r1 =>
        if r1.1 = 0 then some ((0 : Int32), r1.2) else
        callW (fX12_personLine_52 N n k186 v1 v2) r1.2
      else
      (callW (pX12_isOf N v2 (gI w 16 0 9)) w).bind fun r2 =>
      if r2.1 = 0 then
        (callW (pX12_token N) r2.2).bind fun w3 =>
        if (gI w 16 0 9) = (13 : Int32) then
          callW (fX12_personLine_106 N (fX12_personLine_52 N n k186) v1 (v2 ||| ((1 : Int32) <<< ((gI w 16 0 9) &&& (31 : Int32)))) (gI w 16 0 9) (1 : Int32)) w3
        else
        if (gI w 16 0 9) = (12 : Int32) then
          (ldI w3 81 0 v1 12).bind fun x4 =>
          callW (fX12_personLine_106 N (fX12_personLine_52 N n k186) v1 (v2 ||| ((1 : Int32) <<< ((gI w 16 0 9) &&& (31 : Int32)))) (gI w 16 0 9) x4) w3
        else
        callW (fX12_personLine_106 N (fX12_personLine_52 N n k186) v1 (v2 ||| ((1 : Int32) <<< ((gI w 16 0 9) &&& (31 : Int32)))) (gI w 16 0 9) (0 : Int32)) w3
      else
      (callW (pX12_wrong N (3 : Int32)) r2.2).bind fun r5 =>
      retZ r5.1 r5.2
    else
    k186 w
noncomputable def pX12_personLine (N : Nat) (w : Wd) : Option (Int32 × Wd) :=
  if (gI w 16 0 21) = (6 : Int32) then
    (callW (pX12_wrong N (2 : Int32)) w).bind fun r1 =>
    retZ r1.1 r1.2
  else
  (callW (pX12_token N) w).bind fun w2 =>
  (callW (pX12_newName N 78 0 (6 : Int32) (gI w2 16 0 21)) w2).bind fun r3 =>
  if r3.1 = 0 then some ((0 : Int32), r3.2) else
  (stI r3.2 79 0 ((6 : Int32) + (gI w2 16 0 21)) 12 (0 : Int32)).bind fun w4 =>
  (stI w4 80 0 ((6 : Int32) + (gI w2 16 0 21)) 12 (1 : Int32)).bind fun w5 =>
  (stI w5 81 0 ((6 : Int32) + (gI w2 16 0 21)) 12 (0 : Int32)).bind fun w6 =>
  (stI w6 82 0 ((6 : Int32) + (gI w2 16 0 21)) 12 (999 : Int32)).bind fun w7 =>
  (stI w7 83 0 ((6 : Int32) + (gI w2 16 0 21)) 12 (999 : Int32)).bind fun w8 =>
  callW (fX12_personLine_52 N N (fX12_personLine_186 N) ((6 : Int32) + (gI w2 16 0 21)) (0 : Int32)) w8
noncomputable def mX12_personLine (N : Nat) (as : List AV) (w : Wd) : Option (Int32 × Wd) := xS1 16 as fun t => xN1 t (callW (pX12_personLine N) w)
set_option maxRecDepth 100000 in
set_option maxHeartbeats 4000000 in
theorem kX12_personLine : TK cX12_personLine RX12 6 tX12_personLine := ⟨by decide +kernel, wok_of [1621, 1621, 1634, 1621, 1635, 1636, 1637, 1638, 1639, 1608, 1609, 1609, 1609, 1637, 1638, 1636, 1611, 1636, 1637, 1611, 1637, 1638, 1611, 1638, 1639, 1611, 1639, 1621, 1621] (by decide +kernel) (by decide +kernel)⟩
set_option maxRecDepth 100000 in
set_option maxHeartbeats 4000000 in
theorem sX12_personLine_186 {N : Nat} {X : XT} (G : GX X cX12_personLine RX12) (hn : xnL X = 6) (hC : CRs X tX12_personLine (oF [(mX12_wrong N), (mX12_newName N), (mX12_knowsRead N), (mX12_isOf N), (mX12_number N)]) (oF []) (oF [(mX12_token N)])) {r : Int32 × Wd} (hr : RTZ X cX12_personLine r)  : ∀ (w : Wd), fX12_personLine_186 N w = some r → WW X (pcAt tX12_personLine 186) [some (.inr (.inr (16, 0))), none, none, none, none, none] [] w := by
  intro w h
  refine run_sound (r := r) (X := X) (cc := cX12_personLine) (own := RX12) (tab := tX12_personLine) G (by rw [hn]; exact kX12_personLine) (oI := (oF [(mX12_wrong N), (mX12_newName N), (mX12_knowsRead N), (mX12_isOf N), (mX12_number N)])) (oL := (oF [])) (oV := (oF [(mX12_token N)])) (rI := retZ) (rL := (fun _ _ => none)) (rV := (fun _ => none))
    (K := (fun j ls st w => none)) hr (fun _ _ _ _ hx => by cases hx) (fun _ _ _ hx => by cases hx) hC (fun ls => lsb [some (.inr (.inr (16, 0))), none, none, none, none, none] 0 ls) (keepsP_of rfl) ?_ 196 186 [some (.inr (.inr (16, 0))), none, none, none, none, none] [] w ?_ h
  · intro j ls st w hfx h
    obtain ⟨e0, -⟩ : _ = _ ∧ True := hfx
    try dsimp only at h
    cases h
  · exact (show _ = _ ∧ True from ⟨rfl, trivial⟩)
set_option maxRecDepth 100000 in
set_option maxHeartbeats 4000000 in
theorem sX12_personLine_170 {N : Nat} {X : XT} (G : GX X cX12_personLine RX12) (hn : xnL X = 6) (hC : CRs X tX12_personLine (oF [(mX12_wrong N), (mX12_newName N), (mX12_knowsRead N), (mX12_isOf N), (mX12_number N)]) (oF []) (oF [(mX12_token N)])) {r : Int32 × Wd} (hr : RTZ X cX12_personLine r)  : ∀ (k52 : Int32 → Int32 → Wd → Option (Int32 × Wd)) (v1 : Int32) (v2 : Int32) (v3 : Int32) (s0 : Int32) (s1 : Int32) (s2 : Nat) (w : Wd), fX12_personLine_170 N k52 v1 v2 v3 s0 s1 s2 w = some r → (∀ (v1 : Int32) (v2 : Int32) (w : Wd), k52 v1 v2 w = some r → WW X (pcAt tX12_personLine 52) [some (.inr (.inr (16, 0))), some (.inl v1), some (.inl v2), none, none, none] [] w) → WW X (pcAt tX12_personLine 170) [some (.inr (.inr (16, 0))), some (.inl v1), some (.inl v2), some (.inl v3), none, none] [.inl s0, .inl s1, .inr (.inr (82, s2))] w := by
  intro k52 v1 v2 v3 s0 s1 s2 w h h52
  refine run_sound (r := r) (X := X) (cc := cX12_personLine) (own := RX12) (tab := tX12_personLine) G (by rw [hn]; exact kX12_personLine) (oI := (oF [(mX12_wrong N), (mX12_newName N), (mX12_knowsRead N), (mX12_isOf N), (mX12_number N)])) (oL := (oF [])) (oV := (oF [(mX12_token N)])) (rI := retZ) (rL := (fun _ _ => none)) (rV := (fun _ => none))
    (K := (fun j ls st w => if j = 52 then (lgI ls 1 fun v1 => lgI ls 2 fun v2 => st0 st (k52 v1 v2 w)) else none)) hr (fun _ _ _ _ hx => by cases hx) (fun _ _ _ hx => by cases hx) hC (fun ls => lsb [some (.inr (.inr (16, 0))), none, none, none, none, none] 0 ls) (keepsP_of rfl) ?_ 196 170 [some (.inr (.inr (16, 0))), some (.inl v1), some (.inl v2), some (.inl v3), none, none] [.inl s0, .inl s1, .inr (.inr (82, s2))] w ?_ h
  · intro j ls st w hfx h
    obtain ⟨e0, -⟩ : _ = _ ∧ True := hfx
    try dsimp only at h
    by_cases hj : j = 52
    · subst hj
      rw [if_pos rfl] at h
      obtain ⟨v1, e1, h_1⟩ := lgI_some h
      obtain ⟨v2, e2, h_2⟩ := lgI_some h_1
      obtain ⟨rfl, h_3⟩ := st0_some h_2
      clear h h_1 h_2
      have h := h_3
      try rw [callW_eq] at h
      exact WW.le (a := [some (.inr (.inr (16, 0))), some (.inl v1), some (.inl v2), none, none, none]) (by rw [hn]; rfl) (show _ = _ ∧ _ = _ ∧ _ = _ ∧ True from ⟨e0, e1, e2, trivial⟩) (h52 v1 v2 w h)
    rw [if_neg hj] at h
    cases h
  · exact (show _ = _ ∧ True from ⟨rfl, trivial⟩)
set_option maxRecDepth 100000 in
set_option maxHeartbeats 4000000 in
theorem sX12_personLine_156 {N : Nat} {X : XT} (G : GX X cX12_personLine RX12) (hn : xnL X = 6) (hC : CRs X tX12_personLine (oF [(mX12_wrong N), (mX12_newName N), (mX12_knowsRead N), (mX12_isOf N), (mX12_number N)]) (oF []) (oF [(mX12_token N)])) {r : Int32 × Wd} (hr : RTZ X cX12_personLine r)  : ∀ (k52 : Int32 → Int32 → Wd → Option (Int32 × Wd)) (v1 : Int32) (v2 : Int32) (v3 : Int32) (s0 : Int32) (s1 : Int32) (s2 : Nat) (w : Wd), fX12_personLine_156 N k52 v1 v2 v3 s0 s1 s2 w = some r → (∀ (v1 : Int32) (v2 : Int32) (w : Wd), k52 v1 v2 w = some r → WW X (pcAt tX12_personLine 52) [some (.inr (.inr (16, 0))), some (.inl v1), some (.inl v2), none, none, none] [] w) → WW X (pcAt tX12_personLine 156) [some (.inr (.inr (16, 0))), some (.inl v1), some (.inl v2), some (.inl v3), none, none] [.inl s0, .inl s1, .inr (.inr (81, s2))] w := by
  intro k52 v1 v2 v3 s0 s1 s2 w h h52
  refine run_sound (r := r) (X := X) (cc := cX12_personLine) (own := RX12) (tab := tX12_personLine) G (by rw [hn]; exact kX12_personLine) (oI := (oF [(mX12_wrong N), (mX12_newName N), (mX12_knowsRead N), (mX12_isOf N), (mX12_number N)])) (oL := (oF [])) (oV := (oF [(mX12_token N)])) (rI := retZ) (rL := (fun _ _ => none)) (rV := (fun _ => none))
    (K := (fun j ls st w => if j = 170 then (lgI ls 1 fun v1 => lgI ls 2 fun v2 => lgI ls 3 fun v3 => po1 st fun s0 st => po1 st fun s1 st => pr1 st fun kk s2 st => if kk = 82 then st0 st (callW (fX12_personLine_170 N k52 v1 v2 v3 s0 s1 s2) w) else none) else none)) hr (fun _ _ _ _ hx => by cases hx) (fun _ _ _ hx => by cases hx) hC (fun ls => lsb [some (.inr (.inr (16, 0))), none, none, none, none, none] 0 ls) (keepsP_of rfl) ?_ 196 156 [some (.inr (.inr (16, 0))), some (.inl v1), some (.inl v2), some (.inl v3), none, none] [.inl s0, .inl s1, .inr (.inr (81, s2))] w ?_ h
  · intro j ls st w hfx h
    obtain ⟨e0, -⟩ : _ = _ ∧ True := hfx
    try dsimp only at h
    by_cases hj : j = 170
    · subst hj
      rw [if_pos rfl] at h
      obtain ⟨v1, e1, h_1⟩ := lgI_some h
      obtain ⟨v2, e2, h_2⟩ := lgI_some h_1
      obtain ⟨v3, e3, h_3⟩ := lgI_some h_2
      obtain ⟨s0, st0, rfl, h_4⟩ := po1_some h_3
      obtain ⟨s1, st1, rfl, h_5⟩ := po1_some h_4
      obtain ⟨kkk2, s2, st2, rfl, h_6⟩ := pr1_some h_5
      obtain ⟨rfl, h_7⟩ := if_some _ h_6
      obtain ⟨rfl, h_8⟩ := st0_some h_7
      clear h h_1 h_2 h_3 h_4 h_5 h_6 h_7
      have h := h_8
      try rw [callW_eq] at h
      exact WW.le (a := [some (.inr (.inr (16, 0))), some (.inl v1), some (.inl v2), some (.inl v3), none, none]) (by rw [hn]; rfl) (show _ = _ ∧ _ = _ ∧ _ = _ ∧ _ = _ ∧ True from ⟨e0, e1, e2, e3, trivial⟩) (sX12_personLine_170 G hn hC hr k52 v1 v2 v3 s0 s1 s2 w h (fun v1 v2 w h => (h52 v1 v2 w h)))
    rw [if_neg hj] at h
    cases h
  · exact (show _ = _ ∧ True from ⟨rfl, trivial⟩)
set_option maxRecDepth 100000 in
set_option maxHeartbeats 4000000 in
theorem sX12_personLine_142 {N : Nat} {X : XT} (G : GX X cX12_personLine RX12) (hn : xnL X = 6) (hC : CRs X tX12_personLine (oF [(mX12_wrong N), (mX12_newName N), (mX12_knowsRead N), (mX12_isOf N), (mX12_number N)]) (oF []) (oF [(mX12_token N)])) {r : Int32 × Wd} (hr : RTZ X cX12_personLine r)  : ∀ (k52 : Int32 → Int32 → Wd → Option (Int32 × Wd)) (v1 : Int32) (v2 : Int32) (v3 : Int32) (s0 : Int32) (s1 : Int32) (s2 : Nat) (w : Wd), fX12_personLine_142 N k52 v1 v2 v3 s0 s1 s2 w = some r → (∀ (v1 : Int32) (v2 : Int32) (w : Wd), k52 v1 v2 w = some r → WW X (pcAt tX12_personLine 52) [some (.inr (.inr (16, 0))), some (.inl v1), some (.inl v2), none, none, none] [] w) → WW X (pcAt tX12_personLine 142) [some (.inr (.inr (16, 0))), some (.inl v1), some (.inl v2), some (.inl v3), none, none] [.inl s0, .inl s1, .inr (.inr (80, s2))] w := by
  intro k52 v1 v2 v3 s0 s1 s2 w h h52
  refine run_sound (r := r) (X := X) (cc := cX12_personLine) (own := RX12) (tab := tX12_personLine) G (by rw [hn]; exact kX12_personLine) (oI := (oF [(mX12_wrong N), (mX12_newName N), (mX12_knowsRead N), (mX12_isOf N), (mX12_number N)])) (oL := (oF [])) (oV := (oF [(mX12_token N)])) (rI := retZ) (rL := (fun _ _ => none)) (rV := (fun _ => none))
    (K := (fun j ls st w => if j = 156 then (lgI ls 1 fun v1 => lgI ls 2 fun v2 => lgI ls 3 fun v3 => po1 st fun s0 st => po1 st fun s1 st => pr1 st fun kk s2 st => if kk = 81 then st0 st (callW (fX12_personLine_156 N k52 v1 v2 v3 s0 s1 s2) w) else none) else none)) hr (fun _ _ _ _ hx => by cases hx) (fun _ _ _ hx => by cases hx) hC (fun ls => lsb [some (.inr (.inr (16, 0))), none, none, none, none, none] 0 ls) (keepsP_of rfl) ?_ 196 142 [some (.inr (.inr (16, 0))), some (.inl v1), some (.inl v2), some (.inl v3), none, none] [.inl s0, .inl s1, .inr (.inr (80, s2))] w ?_ h
  · intro j ls st w hfx h
    obtain ⟨e0, -⟩ : _ = _ ∧ True := hfx
    try dsimp only at h
    by_cases hj : j = 156
    · subst hj
      rw [if_pos rfl] at h
      obtain ⟨v1, e1, h_1⟩ := lgI_some h
      obtain ⟨v2, e2, h_2⟩ := lgI_some h_1
      obtain ⟨v3, e3, h_3⟩ := lgI_some h_2
      obtain ⟨s0, st0, rfl, h_4⟩ := po1_some h_3
      obtain ⟨s1, st1, rfl, h_5⟩ := po1_some h_4
      obtain ⟨kkk2, s2, st2, rfl, h_6⟩ := pr1_some h_5
      obtain ⟨rfl, h_7⟩ := if_some _ h_6
      obtain ⟨rfl, h_8⟩ := st0_some h_7
      clear h h_1 h_2 h_3 h_4 h_5 h_6 h_7
      have h := h_8
      try rw [callW_eq] at h
      exact WW.le (a := [some (.inr (.inr (16, 0))), some (.inl v1), some (.inl v2), some (.inl v3), none, none]) (by rw [hn]; rfl) (show _ = _ ∧ _ = _ ∧ _ = _ ∧ _ = _ ∧ True from ⟨e0, e1, e2, e3, trivial⟩) (sX12_personLine_156 G hn hC hr k52 v1 v2 v3 s0 s1 s2 w h (fun v1 v2 w h => (h52 v1 v2 w h)))
    rw [if_neg hj] at h
    cases h
  · exact (show _ = _ ∧ True from ⟨rfl, trivial⟩)
set_option maxRecDepth 100000 in
set_option maxHeartbeats 4000000 in
theorem sX12_personLine_121 {N : Nat} {X : XT} (G : GX X cX12_personLine RX12) (hn : xnL X = 6) (hC : CRs X tX12_personLine (oF [(mX12_wrong N), (mX12_newName N), (mX12_knowsRead N), (mX12_isOf N), (mX12_number N)]) (oF []) (oF [(mX12_token N)])) {r : Int32 × Wd} (hr : RTZ X cX12_personLine r)  : ∀ (k52 : Int32 → Int32 → Wd → Option (Int32 × Wd)) (v1 : Int32) (v2 : Int32) (v3 : Int32) (v4 : Int32) (s0 : Int32) (w : Wd), fX12_personLine_121 N k52 v1 v2 v3 v4 s0 w = some r → (∀ (v1 : Int32) (v2 : Int32) (w : Wd), k52 v1 v2 w = some r → WW X (pcAt tX12_personLine 52) [some (.inr (.inr (16, 0))), some (.inl v1), some (.inl v2), none, none, none] [] w) → WW X (pcAt tX12_personLine 121) [some (.inr (.inr (16, 0))), some (.inl v1), some (.inl v2), some (.inl v3), some (.inl v4), none] [.inl s0] w := by
  intro k52 v1 v2 v3 v4 s0 w h h52
  refine run_sound (r := r) (X := X) (cc := cX12_personLine) (own := RX12) (tab := tX12_personLine) G (by rw [hn]; exact kX12_personLine) (oI := (oF [(mX12_wrong N), (mX12_newName N), (mX12_knowsRead N), (mX12_isOf N), (mX12_number N)])) (oL := (oF [])) (oV := (oF [(mX12_token N)])) (rI := retZ) (rL := (fun _ _ => none)) (rV := (fun _ => none))
    (K := (fun j ls st w => if j = 142 then (lgI ls 1 fun v1 => lgI ls 2 fun v2 => lgI ls 3 fun v3 => po1 st fun s0 st => po1 st fun s1 st => pr1 st fun kk s2 st => if kk = 80 then st0 st (callW (fX12_personLine_142 N k52 v1 v2 v3 s0 s1 s2) w) else none) else none)) hr (fun _ _ _ _ hx => by cases hx) (fun _ _ _ hx => by cases hx) hC (fun ls => lsb [some (.inr (.inr (16, 0))), none, none, none, none, none] 0 ls) (keepsP_of rfl) ?_ 196 121 [some (.inr (.inr (16, 0))), some (.inl v1), some (.inl v2), some (.inl v3), some (.inl v4), none] [.inl s0] w ?_ h
  · intro j ls st w hfx h
    obtain ⟨e0, -⟩ : _ = _ ∧ True := hfx
    try dsimp only at h
    by_cases hj : j = 142
    · subst hj
      rw [if_pos rfl] at h
      obtain ⟨v1, e1, h_1⟩ := lgI_some h
      obtain ⟨v2, e2, h_2⟩ := lgI_some h_1
      obtain ⟨v3, e3, h_3⟩ := lgI_some h_2
      obtain ⟨s0, st0, rfl, h_4⟩ := po1_some h_3
      obtain ⟨s1, st1, rfl, h_5⟩ := po1_some h_4
      obtain ⟨kkk2, s2, st2, rfl, h_6⟩ := pr1_some h_5
      obtain ⟨rfl, h_7⟩ := if_some _ h_6
      obtain ⟨rfl, h_8⟩ := st0_some h_7
      clear h h_1 h_2 h_3 h_4 h_5 h_6 h_7
      have h := h_8
      try rw [callW_eq] at h
      exact WW.le (a := [some (.inr (.inr (16, 0))), some (.inl v1), some (.inl v2), some (.inl v3), none, none]) (by rw [hn]; rfl) (show _ = _ ∧ _ = _ ∧ _ = _ ∧ _ = _ ∧ True from ⟨e0, e1, e2, e3, trivial⟩) (sX12_personLine_142 G hn hC hr k52 v1 v2 v3 s0 s1 s2 w h (fun v1 v2 w h => (h52 v1 v2 w h)))
    rw [if_neg hj] at h
    cases h
  · exact (show _ = _ ∧ True from ⟨rfl, trivial⟩)
set_option maxRecDepth 100000 in
set_option maxHeartbeats 4000000 in
theorem sX12_personLine_106 {N : Nat} {X : XT} (G : GX X cX12_personLine RX12) (hn : xnL X = 6) (hC : CRs X tX12_personLine (oF [(mX12_wrong N), (mX12_newName N), (mX12_knowsRead N), (mX12_isOf N), (mX12_number N)]) (oF []) (oF [(mX12_token N)])) {r : Int32 × Wd} (hr : RTZ X cX12_personLine r)  : ∀ (k52 : Int32 → Int32 → Wd → Option (Int32 × Wd)) (v1 : Int32) (v2 : Int32) (v3 : Int32) (s0 : Int32) (w : Wd), fX12_personLine_106 N k52 v1 v2 v3 s0 w = some r → (∀ (v1 : Int32) (v2 : Int32) (w : Wd), k52 v1 v2 w = some r → WW X (pcAt tX12_personLine 52) [some (.inr (.inr (16, 0))), some (.inl v1), some (.inl v2), none, none, none] [] w) → WW X (pcAt tX12_personLine 106) [some (.inr (.inr (16, 0))), some (.inl v1), some (.inl v2), some (.inl v3), none, none] [.inl s0] w := by
  intro k52 v1 v2 v3 s0 w h h52
  refine run_sound (r := r) (X := X) (cc := cX12_personLine) (own := RX12) (tab := tX12_personLine) G (by rw [hn]; exact kX12_personLine) (oI := (oF [(mX12_wrong N), (mX12_newName N), (mX12_knowsRead N), (mX12_isOf N), (mX12_number N)])) (oL := (oF [])) (oV := (oF [(mX12_token N)])) (rI := retZ) (rL := (fun _ _ => none)) (rV := (fun _ => none))
    (K := (fun j ls st w => if j = 121 then (lgI ls 1 fun v1 => lgI ls 2 fun v2 => lgI ls 3 fun v3 => lgI ls 4 fun v4 => po1 st fun s0 st => st0 st (callW (fX12_personLine_121 N k52 v1 v2 v3 v4 s0) w)) else none)) hr (fun _ _ _ _ hx => by cases hx) (fun _ _ _ hx => by cases hx) hC (fun ls => lsb [some (.inr (.inr (16, 0))), none, none, none, none, none] 0 ls) (keepsP_of rfl) ?_ 196 106 [some (.inr (.inr (16, 0))), some (.inl v1), some (.inl v2), some (.inl v3), none, none] [.inl s0] w ?_ h
  · intro j ls st w hfx h
    obtain ⟨e0, -⟩ : _ = _ ∧ True := hfx
    try dsimp only at h
    by_cases hj : j = 121
    · subst hj
      rw [if_pos rfl] at h
      obtain ⟨v1, e1, h_1⟩ := lgI_some h
      obtain ⟨v2, e2, h_2⟩ := lgI_some h_1
      obtain ⟨v3, e3, h_3⟩ := lgI_some h_2
      obtain ⟨v4, e4, h_4⟩ := lgI_some h_3
      obtain ⟨s0, st0, rfl, h_5⟩ := po1_some h_4
      obtain ⟨rfl, h_6⟩ := st0_some h_5
      clear h h_1 h_2 h_3 h_4 h_5
      have h := h_6
      try rw [callW_eq] at h
      exact WW.le (a := [some (.inr (.inr (16, 0))), some (.inl v1), some (.inl v2), some (.inl v3), some (.inl v4), none]) (by rw [hn]; rfl) (show _ = _ ∧ _ = _ ∧ _ = _ ∧ _ = _ ∧ _ = _ ∧ True from ⟨e0, e1, e2, e3, e4, trivial⟩) (sX12_personLine_121 G hn hC hr k52 v1 v2 v3 v4 s0 w h (fun v1 v2 w h => (h52 v1 v2 w h)))
    rw [if_neg hj] at h
    cases h
  · exact (show _ = _ ∧ True from ⟨rfl, trivial⟩)
set_option maxRecDepth 100000 in
set_option maxHeartbeats 4000000 in
theorem sX12_personLine_52 {N : Nat} {X : XT} (G : GX X cX12_personLine RX12) (hn : xnL X = 6) (hC : CRs X tX12_personLine (oF [(mX12_wrong N), (mX12_newName N), (mX12_knowsRead N), (mX12_isOf N), (mX12_number N)]) (oF []) (oF [(mX12_token N)])) {r : Int32 × Wd} (hr : RTZ X cX12_personLine r)  : ∀ (n : Nat) (k186 : Wd → Option (Int32 × Wd)) (v1 : Int32) (v2 : Int32) (w : Wd), fX12_personLine_52 N n k186 v1 v2 w = some r → (∀ (w : Wd), k186 w = some r → WW X (pcAt tX12_personLine 186) [some (.inr (.inr (16, 0))), none, none, none, none, none] [] w) → WW X (pcAt tX12_personLine 52) [some (.inr (.inr (16, 0))), some (.inl v1), some (.inl v2), none, none, none] [] w := by
  intro n
  induction n with
  | zero => intro k186 v1 v2 w h h186; cases h
  | succ n ih =>
    intro k186 v1 v2 w h h186
    refine run_sound (r := r) (X := X) (cc := cX12_personLine) (own := RX12) (tab := tX12_personLine) G (by rw [hn]; exact kX12_personLine) (oI := (oF [(mX12_wrong N), (mX12_newName N), (mX12_knowsRead N), (mX12_isOf N), (mX12_number N)])) (oL := (oF [])) (oV := (oF [(mX12_token N)])) (rI := retZ) (rL := (fun _ _ => none)) (rV := (fun _ => none))
      (K := (fun j ls st w => if j = 52 then (lgI ls 1 fun v1 => lgI ls 2 fun v2 => st0 st (callW (fX12_personLine_52 N n k186 v1 v2) w)) else if j = 106 then (lgI ls 1 fun v1 => lgI ls 2 fun v2 => lgI ls 3 fun v3 => po1 st fun s0 st => st0 st (callW (fX12_personLine_106 N (fX12_personLine_52 N n k186) v1 v2 v3 s0) w)) else if j = 186 then (st0 st (k186 w)) else none)) hr (fun _ _ _ _ hx => by cases hx) (fun _ _ _ hx => by cases hx) hC (fun ls => lsb [some (.inr (.inr (16, 0))), none, none, none, none, none] 0 ls) (keepsP_of rfl) ?_ 196 52 [some (.inr (.inr (16, 0))), some (.inl v1), some (.inl v2), none, none, none] [] w ?_ h
    · intro j ls st w hfx h
      obtain ⟨e0, -⟩ : _ = _ ∧ True := hfx
      try dsimp only at h
      by_cases hj : j = 52
      · subst hj
        rw [if_pos rfl] at h
        obtain ⟨v1, e1, h_1⟩ := lgI_some h
        obtain ⟨v2, e2, h_2⟩ := lgI_some h_1
        obtain ⟨rfl, h_3⟩ := st0_some h_2
        clear h h_1 h_2
        have h := h_3
        try rw [callW_eq] at h
        exact WW.le (a := [some (.inr (.inr (16, 0))), some (.inl v1), some (.inl v2), none, none, none]) (by rw [hn]; rfl) (show _ = _ ∧ _ = _ ∧ _ = _ ∧ True from ⟨e0, e1, e2, trivial⟩) (ih k186 v1 v2 w h h186)
      rw [if_neg hj] at h
      by_cases hj : j = 106
      · subst hj
        rw [if_pos rfl] at h
        obtain ⟨v1, e1, h_1⟩ := lgI_some h
        obtain ⟨v2, e2, h_2⟩ := lgI_some h_1
        obtain ⟨v3, e3, h_3⟩ := lgI_some h_2
        obtain ⟨s0, st0, rfl, h_4⟩ := po1_some h_3
        obtain ⟨rfl, h_5⟩ := st0_some h_4
        clear h h_1 h_2 h_3 h_4
        have h := h_5
        try rw [callW_eq] at h
        exact WW.le (a := [some (.inr (.inr (16, 0))), some (.inl v1), some (.inl v2), some (.inl v3), none, none]) (by rw [hn]; rfl) (show _ = _ ∧ _ = _ ∧ _ = _ ∧ _ = _ ∧ True from ⟨e0, e1, e2, e3, trivial⟩) (sX12_personLine_106 G hn hC hr (fX12_personLine_52 N n k186) v1 v2 v3 s0 w h (fun v1 v2 w h => (ih k186 v1 v2 w h h186)))
      rw [if_neg hj] at h
      by_cases hj : j = 186
      · subst hj
        rw [if_pos rfl] at h
        obtain ⟨rfl, h_1⟩ := st0_some h
        clear h
        have h := h_1
        try rw [callW_eq] at h
        exact WW.le (a := [some (.inr (.inr (16, 0))), none, none, none, none, none]) (by rw [hn]; rfl) (show _ = _ ∧ True from ⟨e0, trivial⟩) (h186 w h)
      rw [if_neg hj] at h
      cases h
    · exact (show _ = _ ∧ True from ⟨rfl, trivial⟩)
set_option maxRecDepth 100000 in
set_option maxHeartbeats 4000000 in
theorem crX12_personLine {N : Nat} {X : XT} (G : GX X cX12_personLine RX12) (hR : xR X = rmL 4) : CRs X tX12_personLine (oF [(mX12_wrong N), (mX12_newName N), (mX12_knowsRead N), (mX12_isOf N), (mX12_number N)]) (oF []) (oF [(mX12_token N)]) := by
  have hl : tX12_personLine.filter isInv = [(11, .invokevirtual 238, 0, 0, 2, 0, 0, []), (16, .invokevirtual 248, 0, 0, 1, 0, 0, [(0, 0), (0, 0)]), (38, .invokevirtual 334, 0, 1, 4, 0, 0, []), (126, .invokevirtual 344, 0, 2, 2, 0, 0, []), (136, .invokestatic 341, 0, 3, 2, 0, 0, []), (144, .invokevirtual 238, 0, 0, 2, 0, 0, []), (155, .invokevirtual 248, 0, 0, 1, 0, 0, [(0, 0), (0, 0)]), (222, .invokevirtual 254, 0, 4, 3, 0, 0, [])] := rfl
  intro e he
  rw [hl] at he
  simp only [List.mem_cons, List.not_mem_nil, or_false] at he
  rcases he with rfl | rfl | rfl | rfl | rfl | rfl | rfl | rfl
  · exact crI_V (idx := 238) G (by decide +kernel) (MX12_wrong N) (cw_of (ps := [1967, 1969, 83, 164, 1970]) (by decide +kernel) (by decide +kernel)) ⟨by decide +kernel, by decide +kernel, by decide +kernel⟩ (by unfold rmOk; rw [hR]; exact ⟨by decide, by decide⟩)
  · exact crV_V (idx := 248) G (by decide +kernel) (MX12_token N) (cw_of (ps := [1938, 1940, 76, 164, 1941]) (by decide +kernel) (by decide +kernel)) ⟨by decide +kernel, by decide +kernel, by decide +kernel⟩ (by unfold rmOk; rw [hR]; exact ⟨by decide, by decide⟩)
  · exact crI_V (idx := 334) G (by decide +kernel) (MX12_newName N) (cw_of (ps := [1975, 1977, 85, 164, 1978]) (by decide +kernel) (by decide +kernel)) ⟨by decide +kernel, by decide +kernel, by decide +kernel⟩ (by unfold rmOk; rw [hR]; exact ⟨by decide, by decide⟩)
  · exact crI_V (idx := 344) G (by decide +kernel) (MX12_knowsRead N) (cw_of (ps := [2001, 2003, 90, 164, 2004]) (by decide +kernel) (by decide +kernel)) ⟨by decide +kernel, by decide +kernel, by decide +kernel⟩ (by unfold rmOk; rw [hR]; exact ⟨by decide, by decide⟩)
  · exact crI_S (idx := 341) G (by decide +kernel) (MX12_isOf N) (cw_of (ps := [1589, 1590, 164, 1591]) (by decide +kernel) (by decide +kernel)) ⟨by decide +kernel, by decide +kernel, by decide +kernel⟩ (by unfold rmOk; rw [hR]; exact ⟨by decide, by decide⟩)
  · exact crI_V (idx := 238) G (by decide +kernel) (MX12_wrong N) (cw_of (ps := [1967, 1969, 83, 164, 1970]) (by decide +kernel) (by decide +kernel)) ⟨by decide +kernel, by decide +kernel, by decide +kernel⟩ (by unfold rmOk; rw [hR]; exact ⟨by decide, by decide⟩)
  · exact crV_V (idx := 248) G (by decide +kernel) (MX12_token N) (cw_of (ps := [1938, 1940, 76, 164, 1941]) (by decide +kernel) (by decide +kernel)) ⟨by decide +kernel, by decide +kernel, by decide +kernel⟩ (by unfold rmOk; rw [hR]; exact ⟨by decide, by decide⟩)
  · exact crI_V (idx := 254) G (by decide +kernel) (MX12_number N) (cw_of (ps := [1982, 1984, 86, 164, 1985]) (by decide +kernel) (by decide +kernel)) ⟨by decide +kernel, by decide +kernel, by decide +kernel⟩ (by unfold rmOk; rw [hR]; exact ⟨by decide, by decide⟩)
set_option maxRecDepth 100000 in
set_option maxHeartbeats 4000000 in
theorem MX12_personLine (N : Nat) : SndI yX12_personLine cX12_personLine 6 (some .boolean) 4 1 true (mX12_personLine N) := by
  refine SndI.ofZ tX12_personLine (by decide +kernel) rfl rfl ?_ ?_
  · intro as w x h
    obtain ⟨t1, rfl, h_1⟩ := xS1_some h
    obtain ⟨rfl, h_2⟩ := xN1_some h_1
    clear h h_1
    have h := h_2
    rw [callW_eq] at h
    exact ⟨fun _ => ⟨_, _, _, rfl, rfl, _, rfl, rfl⟩, rfl, Nat.le_of_ble_eq_true rfl⟩
  · intro X G hn hR as w r h hr
    have hC := crX12_personLine (N := N) G hR
    obtain ⟨t1, rfl, h_1⟩ := xS1_some h
    obtain ⟨rfl, h_2⟩ := xN1_some h_1
    clear h h_1
    have h := h_2
    rw [callW_eq] at h
    refine run_sound (r := r) (X := X) (cc := cX12_personLine) (own := RX12) (tab := tX12_personLine) G (by rw [hn]; exact kX12_personLine) (oI := (oF [(mX12_wrong N), (mX12_newName N), (mX12_knowsRead N), (mX12_isOf N), (mX12_number N)])) (oL := (oF [])) (oV := (oF [(mX12_token N)])) (rI := retZ) (rL := (fun _ _ => none)) (rV := (fun _ => none))
      (K := (fun j ls st w => if j = 52 then (lgI ls 1 fun v1 => lgI ls 2 fun v2 => st0 st (callW (fX12_personLine_52 N N (fX12_personLine_186 N) v1 v2) w)) else none)) hr (fun _ _ _ _ hx => by cases hx) (fun _ _ _ hx => by cases hx) hC (fun ls => lsb [some (.inr (.inr (16, 0))), none, none, none, none, none] 0 ls) (keepsP_of rfl) ?_ 196 0 [some (.inr (.inr (16, 0))), none, none, none, none, none] [] w ?_ h
    · intro j ls st w hfx h
      obtain ⟨e0, -⟩ : _ = _ ∧ True := hfx
      try dsimp only at h
      by_cases hj : j = 52
      · subst hj
        rw [if_pos rfl] at h
        obtain ⟨v1, e1, h_1⟩ := lgI_some h
        obtain ⟨v2, e2, h_2⟩ := lgI_some h_1
        obtain ⟨rfl, h_3⟩ := st0_some h_2
        clear h h_1 h_2
        have h := h_3
        try rw [callW_eq] at h
        exact WW.le (a := [some (.inr (.inr (16, 0))), some (.inl v1), some (.inl v2), none, none, none]) (by rw [hn]; rfl) (show _ = _ ∧ _ = _ ∧ _ = _ ∧ True from ⟨e0, e1, e2, trivial⟩) (sX12_personLine_52 G hn hC hr N (fX12_personLine_186 N) v1 v2 w h (fun w h => (sX12_personLine_186 G hn hC hr w h)))
      rw [if_neg hj] at h
      cases h
    · exact (show _ = _ ∧ True from ⟨rfl, trivial⟩)

-- MoorGuidesModel.back()I
def tX12_back : List EN := [
  (0, .aload_n 0, 0, 0, 0, 0, 0, []), (1, .iconst 0, 0, 0, 0, 0, 0, []), (2, .putfield 196, 0, 12, 2, 0, 0, []), (5, .aload_n 0, 0, 0, 0, 0, 0, []),
  (6, .getfield 450, 0, 12, 97, 0, 0, []), (9, .ifCond .ne 5, 0, 8, 0, 0, 0, []), (12, .iconst (-1), 0, 0, 0, (-1), 0, []), (13, .ireturn, 0, 0, 0, 0, 0, []),
  (14, .aload_n 0, 0, 0, 0, 0, 0, []), (15, .aload_n 0, 0, 0, 0, 0, 0, []), (16, .getfield 622, 0, 12, 98, 0, 0, []), (19, .putfield 438, 0, 12, 64, 0, 0, []),
  (22, .aload_n 0, 0, 0, 0, 0, 0, []), (23, .aload_n 0, 0, 0, 0, 0, 0, []), (24, .getfield 625, 0, 12, 99, 0, 0, []), (27, .putfield 441, 0, 12, 65, 0, 0, []),
  (30, .aload_n 0, 0, 0, 0, 0, 0, []), (31, .getfield 115, 0, 12, 71, 0, 0, []), (34, .iconst 0, 0, 0, 0, 0, 0, []), (35, .aload_n 0, 0, 0, 0, 0, 0, []),
  (36, .getfield 628, 0, 12, 100, 0, 0, []), (39, .lastore, 0, 0, 0, 0, 0, []), (40, .iconst 0, 0, 0, 0, 0, 0, []), (41, .istore_n 1, 0, 0, 0, 0, 0, []),
  (42, .iload_n 1, 25, 0, 0, 0, 0, []), (43, .bipush 48, 0, 0, 0, 48, 0, []), (45, .if_icmp .ge 33, 0, 45, 0, 0, 0, []), (48, .aload_n 0, 0, 0, 0, 0, 0, []),
  (49, .getfield 100, 0, 12, 66, 0, 0, []), (52, .iload_n 1, 0, 0, 0, 0, 0, []), (53, .aload_n 0, 0, 0, 0, 0, 0, []), (54, .getfield 169, 0, 12, 101, 0, 0, []),
  (57, .iload_n 1, 0, 0, 0, 0, 0, []), (58, .iaload, 0, 0, 0, 0, 0, []), (59, .iastore, 0, 0, 0, 0, 0, []), (60, .aload_n 0, 0, 0, 0, 0, 0, []),
  (61, .getfield 103, 0, 12, 67, 0, 0, []), (64, .iload_n 1, 0, 0, 0, 0, 0, []), (65, .aload_n 0, 0, 0, 0, 0, 0, []), (66, .getfield 172, 0, 12, 102, 0, 0, []),
  (69, .iload_n 1, 0, 0, 0, 0, 0, []), (70, .baload, 0, 0, 0, 0, 0, []), (71, .bastore, 0, 0, 0, 0, 0, []), (72, .iinc 1 1, 0, 0, 0, 1, 0, []),
  (75, .goto (-33), 0, 24, 0, 0, 0, []), (78, .iconst 0, 46, 0, 0, 0, 0, []), (79, .istore_n 1, 0, 0, 0, 0, 0, []), (80, .iload_n 1, 48, 0, 0, 0, 0, []),
  (81, .bipush 6, 0, 0, 0, 6, 0, []), (83, .if_icmp .ge 45, 0, 76, 0, 0, 0, []), (86, .aload_n 0, 0, 0, 0, 0, 0, []), (87, .getfield 106, 0, 12, 68, 0, 0, []),
  (90, .iload_n 1, 0, 0, 0, 0, 0, []), (91, .aload_n 0, 0, 0, 0, 0, 0, []), (92, .getfield 175, 0, 12, 103, 0, 0, []), (95, .iload_n 1, 0, 0, 0, 0, 0, []),
  (96, .baload, 0, 0, 0, 0, 0, []), (97, .bastore, 0, 0, 0, 0, 0, []), (98, .aload_n 0, 0, 0, 0, 0, 0, []), (99, .getfield 109, 0, 12, 69, 0, 0, []),
  (102, .iload_n 1, 0, 0, 0, 0, 0, []), (103, .aload_n 0, 0, 0, 0, 0, 0, []), (104, .getfield 178, 0, 12, 104, 0, 0, []), (107, .iload_n 1, 0, 0, 0, 0, 0, []),
  (108, .iaload, 0, 0, 0, 0, 0, []), (109, .iastore, 0, 0, 0, 0, 0, []), (110, .aload_n 0, 0, 0, 0, 0, 0, []), (111, .getfield 112, 0, 12, 70, 0, 0, []),
  (114, .iload_n 1, 0, 0, 0, 0, 0, []), (115, .aload_n 0, 0, 0, 0, 0, 0, []), (116, .getfield 181, 0, 12, 105, 0, 0, []), (119, .iload_n 1, 0, 0, 0, 0, 0, []),
  (120, .iaload, 0, 0, 0, 0, 0, []), (121, .iastore, 0, 0, 0, 0, 0, []), (122, .iinc 1 1, 0, 0, 0, 1, 0, []), (125, .goto (-45), 0, 47, 0, 0, 0, []),
  (128, .iconst 0, 77, 0, 0, 0, 0, []), (129, .istore_n 1, 0, 0, 0, 0, 0, []), (130, .iload_n 1, 79, 0, 0, 0, 0, []), (131, .bipush 12, 0, 0, 0, 12, 0, []),
  (133, .if_icmp .ge 33, 0, 99, 0, 0, 0, []), (136, .aload_n 0, 0, 0, 0, 0, 0, []), (137, .getfield 62, 0, 12, 45, 0, 0, []), (140, .iload_n 1, 0, 0, 0, 0, 0, []),
  (141, .aload_n 0, 0, 0, 0, 0, 0, []), (142, .getfield 184, 0, 12, 106, 0, 0, []), (145, .iload_n 1, 0, 0, 0, 0, 0, []), (146, .iaload, 0, 0, 0, 0, 0, []),
  (147, .iastore, 0, 0, 0, 0, 0, []), (148, .aload_n 0, 0, 0, 0, 0, 0, []), (149, .getfield 65, 0, 12, 46, 0, 0, []), (152, .iload_n 1, 0, 0, 0, 0, 0, []),
  (153, .aload_n 0, 0, 0, 0, 0, 0, []), (154, .getfield 187, 0, 12, 107, 0, 0, []), (157, .iload_n 1, 0, 0, 0, 0, 0, []), (158, .iaload, 0, 0, 0, 0, 0, []),
  (159, .iastore, 0, 0, 0, 0, 0, []), (160, .iinc 1 1, 0, 0, 0, 1, 0, []), (163, .goto (-33), 0, 78, 0, 0, 0, []), (166, .aload_n 0, 100, 0, 0, 0, 0, []),
  (167, .iconst 0, 0, 0, 0, 0, 0, []), (168, .putfield 447, 0, 12, 74, 0, 0, []), (171, .aload_n 0, 0, 0, 0, 0, 0, []), (172, .getfield 438, 0, 12, 64, 0, 0, []),
  (175, .ireturn, 0, 0, 0, 0, 0, [])]
noncomputable def fX12_back_99 (N : Nat) (w : Wd) : Option (Int32 × Wd) :=
  some ((gI (setI w 16 0 74 (0 : Int32)) 16 0 64), (setI w 16 0 74 (0 : Int32)))
noncomputable def fX12_back_78 (N : Nat) : Nat → (Wd → Option (Int32 × Wd)) → Int32 → Wd → Option (Int32 × Wd)
  | 0, _, _, _ => none
  | n + 1, k99, v1, w =>
    if v1 < (12 : Int32) then
      (ldI w 129 0 v1 12).bind fun x1 =>
      (stI w 89 0 v1 24 x1).bind fun w2 =>
      (ldI w2 130 0 v1 12).bind fun x3 =>
      (stI w2 90 0 v1 24 x3).bind fun w4 =>
      callW (fX12_back_78 N n k99 (v1 + (1 : Int32))) w4
    else
    k99 w
noncomputable def fX12_back_76 (N : Nat) (w : Wd) : Option (Int32 × Wd) :=
  callW (fX12_back_78 N N (fX12_back_99 N) (0 : Int32)) w
noncomputable def fX12_back_47 (N : Nat) : Nat → (Wd → Option (Int32 × Wd)) → Int32 → Wd → Option (Int32 × Wd)
  | 0, _, _, _ => none
  | n + 1, k76, v1, w =>
    if v1 < (6 : Int32) then
      (ldI w 126 0 v1 6).bind fun x1 =>
      (stI w 103 0 v1 12 (x1 &&& 1)).bind fun w2 =>
      (ldI w2 127 0 v1 6).bind fun x3 =>
      (stI w2 104 0 v1 12 x3).bind fun w4 =>
      (ldI w4 128 0 v1 6).bind fun x5 =>
      (stI w4 105 0 v1 12 x5).bind fun w6 =>
      callW (fX12_back_47 N n k76 (v1 + (1 : Int32))) w6
    else
    k76 w
noncomputable def fX12_back_45 (N : Nat) (w : Wd) : Option (Int32 × Wd) :=
  callW (fX12_back_47 N N (fX12_back_76 N) (0 : Int32)) w
noncomputable def fX12_back_24 (N : Nat) : Nat → (Wd → Option (Int32 × Wd)) → Int32 → Wd → Option (Int32 × Wd)
  | 0, _, _, _ => none
  | n + 1, k45, v1, w =>
    if v1 < (48 : Int32) then
      (ldI w 124 0 v1 48).bind fun x1 =>
      (stI w 101 0 v1 96 x1).bind fun w2 =>
      (ldI w2 125 0 v1 48).bind fun x3 =>
      (stI w2 102 0 v1 96 (x3 &&& 1)).bind fun w4 =>
      callW (fX12_back_24 N n k45 (v1 + (1 : Int32))) w4
    else
    k45 w
noncomputable def pX12_back (N : Nat) (w : Wd) : Option (Int32 × Wd) :=
  if (gI (setI w 16 0 2 (0 : Int32)) 16 0 97) = 0 then some ((-1 : Int32), (setI w 16 0 2 (0 : Int32))) else
  let w1 : Wd := (setI (setI (setI w 16 0 2 (0 : Int32)) 16 0 64 (gI (setI w 16 0 2 (0 : Int32)) 16 0 98)) 16 0 65 (gI (setI (setI w 16 0 2 (0 : Int32)) 16 0 64 (gI (setI w 16 0 2 (0 : Int32)) 16 0 98)) 16 0 99))
  (stL w1 106 0 (0 : Int32) 2 (gL w1 16 0 100)).bind fun w2 =>
  callW (fX12_back_24 N N (fX12_back_45 N) (0 : Int32)) w2
noncomputable def mX12_back (N : Nat) (as : List AV) (w : Wd) : Option (Int32 × Wd) := xS1 16 as fun t => xN1 t (callW (pX12_back N) w)
set_option maxRecDepth 100000 in
set_option maxHeartbeats 4000000 in
theorem kX12_back : TK cX12_back RX12 2 tX12_back := ⟨by decide +kernel, wok_of [1592, 1687, 1688, 1654, 1689, 1655, 1661, 1690, 1656, 1691, 1657, 1692, 1658, 1693, 1659, 1694, 1660, 1695, 1635, 1696, 1636, 1697, 1664, 1654] (by decide +kernel) (by decide +kernel)⟩
set_option maxRecDepth 100000 in
set_option maxHeartbeats 4000000 in
theorem sX12_back_99 {N : Nat} {X : XT} (G : GX X cX12_back RX12) (hn : xnL X = 2) (hC : CRs X tX12_back (oF []) (oF []) (oF [])) {r : Int32 × Wd} (hr : RTI X cX12_back r)  : ∀ (w : Wd), fX12_back_99 N w = some r → WW X (pcAt tX12_back 99) [some (.inr (.inr (16, 0))), none] [] w := by
  intro w h
  refine run_sound (r := r) (X := X) (cc := cX12_back) (own := RX12) (tab := tX12_back) G (by rw [hn]; exact kX12_back) (oI := (oF [])) (oL := (oF [])) (oV := (oF [])) (rI := (fun x w => some (x, w))) (rL := (fun _ _ => none)) (rV := (fun _ => none))
    (K := (fun j ls st w => none)) (fun x w pc ls hx hd => hr x w pc ls (Option.some.inj hx) hd) (fun _ _ _ _ hx => by cases hx) (fun _ _ _ hx => by cases hx) hC (fun ls => lsb [some (.inr (.inr (16, 0))), none] 0 ls) (keepsP_of rfl) ?_ 107 99 [some (.inr (.inr (16, 0))), none] [] w ?_ h
  · intro j ls st w hfx h
    obtain ⟨e0, -⟩ : _ = _ ∧ True := hfx
    try dsimp only at h
    cases h
  · exact (show _ = _ ∧ True from ⟨rfl, trivial⟩)
set_option maxRecDepth 100000 in
set_option maxHeartbeats 4000000 in
theorem sX12_back_78 {N : Nat} {X : XT} (G : GX X cX12_back RX12) (hn : xnL X = 2) (hC : CRs X tX12_back (oF []) (oF []) (oF [])) {r : Int32 × Wd} (hr : RTI X cX12_back r)  : ∀ (n : Nat) (k99 : Wd → Option (Int32 × Wd)) (v1 : Int32) (w : Wd), fX12_back_78 N n k99 v1 w = some r → (∀ (w : Wd), k99 w = some r → WW X (pcAt tX12_back 99) [some (.inr (.inr (16, 0))), none] [] w) → WW X (pcAt tX12_back 78) [some (.inr (.inr (16, 0))), some (.inl v1)] [] w := by
  intro n
  induction n with
  | zero => intro k99 v1 w h h99; cases h
  | succ n ih =>
    intro k99 v1 w h h99
    refine run_sound (r := r) (X := X) (cc := cX12_back) (own := RX12) (tab := tX12_back) G (by rw [hn]; exact kX12_back) (oI := (oF [])) (oL := (oF [])) (oV := (oF [])) (rI := (fun x w => some (x, w))) (rL := (fun _ _ => none)) (rV := (fun _ => none))
      (K := (fun j ls st w => if j = 78 then (lgI ls 1 fun v1 => st0 st (callW (fX12_back_78 N n k99 v1) w)) else if j = 99 then (st0 st (k99 w)) else none)) (fun x w pc ls hx hd => hr x w pc ls (Option.some.inj hx) hd) (fun _ _ _ _ hx => by cases hx) (fun _ _ _ hx => by cases hx) hC (fun ls => lsb [some (.inr (.inr (16, 0))), none] 0 ls) (keepsP_of rfl) ?_ 107 78 [some (.inr (.inr (16, 0))), some (.inl v1)] [] w ?_ h
    · intro j ls st w hfx h
      obtain ⟨e0, -⟩ : _ = _ ∧ True := hfx
      try dsimp only at h
      by_cases hj : j = 78
      · subst hj
        rw [if_pos rfl] at h
        obtain ⟨v1, e1, h_1⟩ := lgI_some h
        obtain ⟨rfl, h_2⟩ := st0_some h_1
        clear h h_1
        have h := h_2
        try rw [callW_eq] at h
        exact WW.le (a := [some (.inr (.inr (16, 0))), some (.inl v1)]) (by rw [hn]; rfl) (show _ = _ ∧ _ = _ ∧ True from ⟨e0, e1, trivial⟩) (ih k99 v1 w h h99)
      rw [if_neg hj] at h
      by_cases hj : j = 99
      · subst hj
        rw [if_pos rfl] at h
        obtain ⟨rfl, h_1⟩ := st0_some h
        clear h
        have h := h_1
        try rw [callW_eq] at h
        exact WW.le (a := [some (.inr (.inr (16, 0))), none]) (by rw [hn]; rfl) (show _ = _ ∧ True from ⟨e0, trivial⟩) (h99 w h)
      rw [if_neg hj] at h
      cases h
    · exact (show _ = _ ∧ True from ⟨rfl, trivial⟩)
set_option maxRecDepth 100000 in
set_option maxHeartbeats 4000000 in
theorem sX12_back_76 {N : Nat} {X : XT} (G : GX X cX12_back RX12) (hn : xnL X = 2) (hC : CRs X tX12_back (oF []) (oF []) (oF [])) {r : Int32 × Wd} (hr : RTI X cX12_back r)  : ∀ (w : Wd), fX12_back_76 N w = some r → WW X (pcAt tX12_back 76) [some (.inr (.inr (16, 0))), none] [] w := by
  intro w h
  refine run_sound (r := r) (X := X) (cc := cX12_back) (own := RX12) (tab := tX12_back) G (by rw [hn]; exact kX12_back) (oI := (oF [])) (oL := (oF [])) (oV := (oF [])) (rI := (fun x w => some (x, w))) (rL := (fun _ _ => none)) (rV := (fun _ => none))
    (K := (fun j ls st w => if j = 78 then (lgI ls 1 fun v1 => st0 st (callW (fX12_back_78 N N (fX12_back_99 N) v1) w)) else none)) (fun x w pc ls hx hd => hr x w pc ls (Option.some.inj hx) hd) (fun _ _ _ _ hx => by cases hx) (fun _ _ _ hx => by cases hx) hC (fun ls => lsb [some (.inr (.inr (16, 0))), none] 0 ls) (keepsP_of rfl) ?_ 107 76 [some (.inr (.inr (16, 0))), none] [] w ?_ h
  · intro j ls st w hfx h
    obtain ⟨e0, -⟩ : _ = _ ∧ True := hfx
    try dsimp only at h
    by_cases hj : j = 78
    · subst hj
      rw [if_pos rfl] at h
      obtain ⟨v1, e1, h_1⟩ := lgI_some h
      obtain ⟨rfl, h_2⟩ := st0_some h_1
      clear h h_1
      have h := h_2
      try rw [callW_eq] at h
      exact WW.le (a := [some (.inr (.inr (16, 0))), some (.inl v1)]) (by rw [hn]; rfl) (show _ = _ ∧ _ = _ ∧ True from ⟨e0, e1, trivial⟩) (sX12_back_78 G hn hC hr N (fX12_back_99 N) v1 w h (fun w h => (sX12_back_99 G hn hC hr w h)))
    rw [if_neg hj] at h
    cases h
  · exact (show _ = _ ∧ True from ⟨rfl, trivial⟩)
set_option maxRecDepth 100000 in
set_option maxHeartbeats 4000000 in
theorem sX12_back_47 {N : Nat} {X : XT} (G : GX X cX12_back RX12) (hn : xnL X = 2) (hC : CRs X tX12_back (oF []) (oF []) (oF [])) {r : Int32 × Wd} (hr : RTI X cX12_back r)  : ∀ (n : Nat) (k76 : Wd → Option (Int32 × Wd)) (v1 : Int32) (w : Wd), fX12_back_47 N n k76 v1 w = some r → (∀ (w : Wd), k76 w = some r → WW X (pcAt tX12_back 76) [some (.inr (.inr (16, 0))), none] [] w) → WW X (pcAt tX12_back 47) [some (.inr (.inr (16, 0))), some (.inl v1)] [] w := by
  intro n
  induction n with
  | zero => intro k76 v1 w h h76; cases h
  | succ n ih =>
    intro k76 v1 w h h76
    refine run_sound (r := r) (X := X) (cc := cX12_back) (own := RX12) (tab := tX12_back) G (by rw [hn]; exact kX12_back) (oI := (oF [])) (oL := (oF [])) (oV := (oF [])) (rI := (fun x w => some (x, w))) (rL := (fun _ _ => none)) (rV := (fun _ => none))
      (K := (fun j ls st w => if j = 47 then (lgI ls 1 fun v1 => st0 st (callW (fX12_back_47 N n k76 v1) w)) else if j = 76 then (st0 st (k76 w)) else none)) (fun x w pc ls hx hd => hr x w pc ls (Option.some.inj hx) hd) (fun _ _ _ _ hx => by cases hx) (fun _ _ _ hx => by cases hx) hC (fun ls => lsb [some (.inr (.inr (16, 0))), none] 0 ls) (keepsP_of rfl) ?_ 107 47 [some (.inr (.inr (16, 0))), some (.inl v1)] [] w ?_ h
    · intro j ls st w hfx h
      obtain ⟨e0, -⟩ : _ = _ ∧ True := hfx
      try dsimp only at h
      by_cases hj : j = 47
      · subst hj
        rw [if_pos rfl] at h
        obtain ⟨v1, e1, h_1⟩ := lgI_some h
        obtain ⟨rfl, h_2⟩ := st0_some h_1
        clear h h_1
        have h := h_2
        try rw [callW_eq] at h
        exact WW.le (a := [some (.inr (.inr (16, 0))), some (.inl v1)]) (by rw [hn]; rfl) (show _ = _ ∧ _ = _ ∧ True from ⟨e0, e1, trivial⟩) (ih k76 v1 w h h76)
      rw [if_neg hj] at h
      by_cases hj : j = 76
      · subst hj
        rw [if_pos rfl] at h
        obtain ⟨rfl, h_1⟩ := st0_some h
        clear h
        have h := h_1
        try rw [callW_eq] at h
        exact WW.le (a := [some (.inr (.inr (16, 0))), none]) (by rw [hn]; rfl) (show _ = _ ∧ True from ⟨e0, trivial⟩) (h76 w h)
      rw [if_neg hj] at h
      cases h
    · exact (show _ = _ ∧ True from ⟨rfl, trivial⟩)
set_option maxRecDepth 100000 in
set_option maxHeartbeats 4000000 in
theorem sX12_back_45 {N : Nat} {X : XT} (G : GX X cX12_back RX12) (hn : xnL X = 2) (hC : CRs X tX12_back (oF []) (oF []) (oF [])) {r : Int32 × Wd} (hr : RTI X cX12_back r)  : ∀ (w : Wd), fX12_back_45 N w = some r → WW X (pcAt tX12_back 45) [some (.inr (.inr (16, 0))), none] [] w := by
  intro w h
  refine run_sound (r := r) (X := X) (cc := cX12_back) (own := RX12) (tab := tX12_back) G (by rw [hn]; exact kX12_back) (oI := (oF [])) (oL := (oF [])) (oV := (oF [])) (rI := (fun x w => some (x, w))) (rL := (fun _ _ => none)) (rV := (fun _ => none))
    (K := (fun j ls st w => if j = 47 then (lgI ls 1 fun v1 => st0 st (callW (fX12_back_47 N N (fX12_back_76 N) v1) w)) else none)) (fun x w pc ls hx hd => hr x w pc ls (Option.some.inj hx) hd) (fun _ _ _ _ hx => by cases hx) (fun _ _ _ hx => by cases hx) hC (fun ls => lsb [some (.inr (.inr (16, 0))), none] 0 ls) (keepsP_of rfl) ?_ 107 45 [some (.inr (.inr (16, 0))), none] [] w ?_ h
  · intro j ls st w hfx h
    obtain ⟨e0, -⟩ : _ = _ ∧ True := hfx
    try dsimp only at h
    by_cases hj : j = 47
    · subst hj
      rw [if_pos rfl] at h
      obtain ⟨v1, e1, h_1⟩ := lgI_some h
      obtain ⟨rfl, h_2⟩ := st0_some h_1
      clear h h_1
      have h := h_2
      try rw [callW_eq] at h
      exact WW.le (a := [some (.inr (.inr (16, 0))), some (.inl v1)]) (by rw [hn]; rfl) (show _ = _ ∧ _ = _ ∧ True from ⟨e0, e1, trivial⟩) (sX12_back_47 G hn hC hr N (fX12_back_76 N) v1 w h (fun w h => (sX12_back_76 G hn hC hr w h)))
    rw [if_neg hj] at h
    cases h
  · exact (show _ = _ ∧ True from ⟨rfl, trivial⟩)
set_option maxRecDepth 100000 in
set_option maxHeartbeats 4000000 in
theorem sX12_back_24 {N : Nat} {X : XT} (G : GX X cX12_back RX12) (hn : xnL X = 2) (hC : CRs X tX12_back (oF []) (oF []) (oF [])) {r : Int32 × Wd} (hr : RTI X cX12_back r)  : ∀ (n : Nat) (k45 : Wd → Option (Int32 × Wd)) (v1 : Int32) (w : Wd), fX12_back_24 N n k45 v1 w = some r → (∀ (w : Wd), k45 w = some r → WW X (pcAt tX12_back 45) [some (.inr (.inr (16, 0))), none] [] w) → WW X (pcAt tX12_back 24) [some (.inr (.inr (16, 0))), some (.inl v1)] [] w := by
  intro n
  induction n with
  | zero => intro k45 v1 w h h45; cases h
  | succ n ih =>
    intro k45 v1 w h h45
    refine run_sound (r := r) (X := X) (cc := cX12_back) (own := RX12) (tab := tX12_back) G (by rw [hn]; exact kX12_back) (oI := (oF [])) (oL := (oF [])) (oV := (oF [])) (rI := (fun x w => some (x, w))) (rL := (fun _ _ => none)) (rV := (fun _ => none))
      (K := (fun j ls st w => if j = 24 then (lgI ls 1 fun v1 => st0 st (callW (fX12_back_24 N n k45 v1) w)) else if j = 45 then (st0 st (k45 w)) else none)) (fun x w pc ls hx hd => hr x w pc ls (Option.some.inj hx) hd) (fun _ _ _ _ hx => by cases hx) (fun _ _ _ hx => by cases hx) hC (fun ls => lsb [some (.inr (.inr (16, 0))), none] 0 ls) (keepsP_of rfl) ?_ 107 24 [some (.inr (.inr (16, 0))), some (.inl v1)] [] w ?_ h
    · intro j ls st w hfx h
      obtain ⟨e0, -⟩ : _ = _ ∧ True := hfx
      try dsimp only at h
      by_cases hj : j = 24
      · subst hj
        rw [if_pos rfl] at h
        obtain ⟨v1, e1, h_1⟩ := lgI_some h
        obtain ⟨rfl, h_2⟩ := st0_some h_1
        clear h h_1
        have h := h_2
        try rw [callW_eq] at h
        exact WW.le (a := [some (.inr (.inr (16, 0))), some (.inl v1)]) (by rw [hn]; rfl) (show _ = _ ∧ _ = _ ∧ True from ⟨e0, e1, trivial⟩) (ih k45 v1 w h h45)
      rw [if_neg hj] at h
      by_cases hj : j = 45
      · subst hj
        rw [if_pos rfl] at h
        obtain ⟨rfl, h_1⟩ := st0_some h
        clear h
        have h := h_1
        try rw [callW_eq] at h
        exact WW.le (a := [some (.inr (.inr (16, 0))), none]) (by rw [hn]; rfl) (show _ = _ ∧ True from ⟨e0, trivial⟩) (h45 w h)
      rw [if_neg hj] at h
      cases h
    · exact (show _ = _ ∧ True from ⟨rfl, trivial⟩)
set_option maxRecDepth 100000 in
set_option maxHeartbeats 4000000 in
theorem crX12_back {N : Nat} {X : XT} (G : GX X cX12_back RX12) (hR : xR X = rmL 1) : CRs X tX12_back (oF []) (oF []) (oF []) := by
  have hl : tX12_back.filter isInv = [] := rfl
  intro e he
  rw [hl] at he
  cases he
set_option maxRecDepth 100000 in
set_option maxHeartbeats 4000000 in
theorem MX12_back (N : Nat) : SndI yX12_back cX12_back 2 (some .int) 1 1 true (mX12_back N) := by
  refine SndI.of tX12_back (by decide +kernel) rfl rfl ?_ ?_
  · intro as w x h
    obtain ⟨t1, rfl, h_1⟩ := xS1_some h
    obtain ⟨rfl, h_2⟩ := xN1_some h_1
    clear h h_1
    have h := h_2
    rw [callW_eq] at h
    exact ⟨fun _ => ⟨_, _, _, rfl, rfl, _, rfl, rfl⟩, rfl, Nat.le_of_ble_eq_true rfl⟩
  · intro X G hn hR as w r h hr
    have hC := crX12_back (N := N) G hR
    obtain ⟨t1, rfl, h_1⟩ := xS1_some h
    obtain ⟨rfl, h_2⟩ := xN1_some h_1
    clear h h_1
    have h := h_2
    rw [callW_eq] at h
    refine run_sound (r := r) (X := X) (cc := cX12_back) (own := RX12) (tab := tX12_back) G (by rw [hn]; exact kX12_back) (oI := (oF [])) (oL := (oF [])) (oV := (oF [])) (rI := (fun x w => some (x, w))) (rL := (fun _ _ => none)) (rV := (fun _ => none))
      (K := (fun j ls st w => if j = 24 then (lgI ls 1 fun v1 => st0 st (callW (fX12_back_24 N N (fX12_back_45 N) v1) w)) else none)) (fun x w pc ls hx hd => hr x w pc ls (Option.some.inj hx) hd) (fun _ _ _ _ hx => by cases hx) (fun _ _ _ hx => by cases hx) hC (fun ls => lsb [some (.inr (.inr (16, 0))), none] 0 ls) (keepsP_of rfl) ?_ 107 0 [some (.inr (.inr (16, 0))), none] [] w ?_ h
    · intro j ls st w hfx h
      obtain ⟨e0, -⟩ : _ = _ ∧ True := hfx
      try dsimp only at h
      by_cases hj : j = 24
      · subst hj
        rw [if_pos rfl] at h
        obtain ⟨v1, e1, h_1⟩ := lgI_some h
        obtain ⟨rfl, h_2⟩ := st0_some h_1
        clear h h_1
        have h := h_2
        try rw [callW_eq] at h
        exact WW.le (a := [some (.inr (.inr (16, 0))), some (.inl v1)]) (by rw [hn]; rfl) (show _ = _ ∧ _ = _ ∧ True from ⟨e0, e1, trivial⟩) (sX12_back_24 G hn hC hr N (fX12_back_45 N) v1 w h (fun w h => (sX12_back_45 G hn hC hr w h)))
      rw [if_neg hj] at h
      cases h
    · exact (show _ = _ ∧ True from ⟨rfl, trivial⟩)
-- MoorGuidesModel.manyGone()I
def tX12_manyGone : List EN := [
  (0, .iconst 0, 0, 0, 0, 0, 0, []), (1, .istore_n 1, 0, 0, 0, 0, 0, []), (2, .iconst 0, 0, 0, 0, 0, 0, []), (3, .istore_n 2, 0, 0, 0, 0, 0, []),
  (4, .iload_n 2, 5, 0, 0, 0, 0, []), (5, .aload_n 0, 0, 0, 0, 0, 0, []), (6, .getfield 298, 0, 12, 13, 0, 0, []), (9, .if_icmp .ge 26, 0, 21, 0, 0, 0, []),
  (12, .iload_n 1, 0, 0, 0, 0, 0, []), (13, .aload_n 0, 0, 0, 0, 0, 0, []), (14, .getfield 106, 0, 12, 68, 0, 0, []), (17, .iload_n 2, 0, 0, 0, 0, 0, []),
  (18, .baload, 0, 0, 0, 0, 0, []), (19, .ifCond .eq 7, 0, 16, 0, 0, 0, []), (22, .iconst 1, 0, 0, 0, 1, 0, []), (23, .goto 4, 0, 17, 0, 0, 0, []),
  (26, .iconst 0, 0, 0, 0, 0, 0, []), (27, .iadd, 0, 0, 0, 0, 0, []), (28, .istore_n 1, 0, 0, 0, 0, 0, []), (29, .iinc 2 1, 0, 0, 0, 1, 0, []),
  (32, .goto (-28), 0, 4, 0, 0, 0, []), (35, .iload_n 1, 0, 0, 0, 0, 0, []), (36, .ireturn, 0, 0, 0, 0, 0, [])]
noncomputable def fX12_manyGone_4 (N : Nat) : Nat → Int32 → Int32 → Wd → Option (Int32 × Wd)
  | 0, _, _, _ => none
  | n + 1, v1, v2, w =>
    if v2 < (gI w 16 0 13) then
      (ldI w 103 0 v2 12).bind fun x1 =>
      if x1 = 0 then callW (fX12_manyGone_4 N n (v1 + (0 : Int32)) (v2 + (1 : Int32))) w else
      callW (fX12_manyGone_4 N n (v1 + (1 : Int32)) (v2 + (1 : Int32))) w
    else
    some (v1, w)
noncomputable def pX12_manyGone (N : Nat) (w : Wd) : Option (Int32 × Wd) :=
  callW (fX12_manyGone_4 N N (0 : Int32) (0 : Int32)) w
noncomputable def mX12_manyGone (N : Nat) (as : List AV) (w : Wd) : Option (Int32 × Wd) := xS1 16 as fun t => xN1 t (callW (pX12_manyGone N) w)
set_option maxRecDepth 100000 in
set_option maxHeartbeats 4000000 in
theorem kX12_manyGone : TK cX12_manyGone RX12 3 tX12_manyGone := ⟨by decide +kernel, wok_of [1603, 1658] (by decide +kernel) (by decide +kernel)⟩
set_option maxRecDepth 100000 in
set_option maxHeartbeats 4000000 in
theorem sX12_manyGone_4 {N : Nat} {X : XT} (G : GX X cX12_manyGone RX12) (hn : xnL X = 3) (hC : CRs X tX12_manyGone (oF []) (oF []) (oF [])) {r : Int32 × Wd} (hr : RTI X cX12_manyGone r)  : ∀ (n : Nat) (v1 : Int32) (v2 : Int32) (w : Wd), fX12_manyGone_4 N n v1 v2 w = some r → WW X (pcAt tX12_manyGone 4) [some (.inr (.inr (16, 0))), some (.inl v1), some (.inl v2)] [] w := by
  intro n
  induction n with
  | zero => intro v1 v2 w h; cases h
  | succ n ih =>
    intro v1 v2 w h
    refine run_sound (r := r) (X := X) (cc := cX12_manyGone) (own := RX12) (tab := tX12_manyGone) G (by rw [hn]; exact kX12_manyGone) (oI := (oF [])) (oL := (oF [])) (oV := (oF [])) (rI := (fun x w => some (x, w))) (rL := (fun _ _ => none)) (rV := (fun _ => none))
      (K := (fun j ls st w => if j = 4 then (lgI ls 1 fun v1 => lgI ls 2 fun v2 => st0 st (callW (fX12_manyGone_4 N n v1 v2) w)) else none)) (fun x w pc ls hx hd => hr x w pc ls (Option.some.inj hx) hd) (fun _ _ _ _ hx => by cases hx) (fun _ _ _ hx => by cases hx) hC (fun ls => lsb [some (.inr (.inr (16, 0))), none, none] 0 ls) (keepsP_of rfl) ?_ 25 4 [some (.inr (.inr (16, 0))), some (.inl v1), some (.inl v2)] [] w ?_ h
    · intro j ls st w hfx h
      obtain ⟨e0, -⟩ : _ = _ ∧ True := hfx
      try dsimp only at h
      by_cases hj : j = 4
      · subst hj
        rw [if_pos rfl] at h
        obtain ⟨v1, e1, h_1⟩ := lgI_some h
        obtain ⟨v2, e2, h_2⟩ := lgI_some h_1
        obtain ⟨rfl, h_3⟩ := st0_some h_2
        clear h h_1 h_2
        have h := h_3
        try rw [callW_eq] at h
        exact WW.le (a := [some (.inr (.inr (16, 0))), some (.inl v1), some (.inl v2)]) (by rw [hn]; rfl) (show _ = _ ∧ _ = _ ∧ _ = _ ∧ True from ⟨e0, e1, e2, trivial⟩) (ih v1 v2 w h)
      rw [if_neg hj] at h
      cases h
    · exact (show _ = _ ∧ True from ⟨rfl, trivial⟩)
set_option maxRecDepth 100000 in
set_option maxHeartbeats 4000000 in
theorem crX12_manyGone {N : Nat} {X : XT} (G : GX X cX12_manyGone RX12) (hR : xR X = rmL 1) : CRs X tX12_manyGone (oF []) (oF []) (oF []) := by
  have hl : tX12_manyGone.filter isInv = [] := rfl
  intro e he
  rw [hl] at he
  cases he
set_option maxRecDepth 100000 in
set_option maxHeartbeats 4000000 in
theorem MX12_manyGone (N : Nat) : SndI yX12_manyGone cX12_manyGone 3 (some .int) 1 1 true (mX12_manyGone N) := by
  refine SndI.of tX12_manyGone (by decide +kernel) rfl rfl ?_ ?_
  · intro as w x h
    obtain ⟨t1, rfl, h_1⟩ := xS1_some h
    obtain ⟨rfl, h_2⟩ := xN1_some h_1
    clear h h_1
    have h := h_2
    rw [callW_eq] at h
    exact ⟨fun _ => ⟨_, _, _, rfl, rfl, _, rfl, rfl⟩, rfl, Nat.le_of_ble_eq_true rfl⟩
  · intro X G hn hR as w r h hr
    have hC := crX12_manyGone (N := N) G hR
    obtain ⟨t1, rfl, h_1⟩ := xS1_some h
    obtain ⟨rfl, h_2⟩ := xN1_some h_1
    clear h h_1
    have h := h_2
    rw [callW_eq] at h
    refine run_sound (r := r) (X := X) (cc := cX12_manyGone) (own := RX12) (tab := tX12_manyGone) G (by rw [hn]; exact kX12_manyGone) (oI := (oF [])) (oL := (oF [])) (oV := (oF [])) (rI := (fun x w => some (x, w))) (rL := (fun _ _ => none)) (rV := (fun _ => none))
      (K := (fun j ls st w => if j = 4 then (lgI ls 1 fun v1 => lgI ls 2 fun v2 => st0 st (callW (fX12_manyGone_4 N N v1 v2) w)) else none)) (fun x w pc ls hx hd => hr x w pc ls (Option.some.inj hx) hd) (fun _ _ _ _ hx => by cases hx) (fun _ _ _ hx => by cases hx) hC (fun ls => lsb [some (.inr (.inr (16, 0))), none, none] 0 ls) (keepsP_of rfl) ?_ 25 0 [some (.inr (.inr (16, 0))), none, none] [] w ?_ h
    · intro j ls st w hfx h
      obtain ⟨e0, -⟩ : _ = _ ∧ True := hfx
      try dsimp only at h
      by_cases hj : j = 4
      · subst hj
        rw [if_pos rfl] at h
        obtain ⟨v1, e1, h_1⟩ := lgI_some h
        obtain ⟨v2, e2, h_2⟩ := lgI_some h_1
        obtain ⟨rfl, h_3⟩ := st0_some h_2
        clear h h_1 h_2
        have h := h_3
        try rw [callW_eq] at h
        exact WW.le (a := [some (.inr (.inr (16, 0))), some (.inl v1), some (.inl v2)]) (by rw [hn]; rfl) (show _ = _ ∧ _ = _ ∧ _ = _ ∧ True from ⟨e0, e1, e2, trivial⟩) (sX12_manyGone_4 G hn hC hr N v1 v2 w h)
      rw [if_neg hj] at h
      cases h
    · exact (show _ = _ ∧ True from ⟨rfl, trivial⟩)
-- MoorGuidesModel.count(I)I
def tX12_count : List EN := [
  (0, .aload_n 0, 0, 0, 0, 0, 0, []), (1, .iconst 0, 0, 0, 0, 0, 0, []), (2, .putfield 196, 0, 12, 2, 0, 0, []), (5, .iload_n 1, 0, 0, 0, 0, 0, []),
  (6, .tableswitch 104 0 9 #[54, 59, 64, 69, 74, 79, 84, 89, 94, 99], 0, 35, 54, 0, 0, [(0, 5), (1, 8), (2, 11), (3, 14), (4, 17), (5, 20), (6, 23), (7, 26), (8, 29), (9, 32)]), (60, .aload_n 0, 0, 0, 0, 0, 0, []), (61, .getfield 295, 0, 12, 12, 0, 0, []), (64, .ireturn, 0, 0, 0, 0, 0, []),
  (65, .aload_n 0, 0, 0, 0, 0, 0, []), (66, .getfield 298, 0, 12, 13, 0, 0, []), (69, .ireturn, 0, 0, 0, 0, 0, []), (70, .aload_n 0, 0, 0, 0, 0, 0, []),
  (71, .getfield 301, 0, 12, 14, 0, 0, []), (74, .ireturn, 0, 0, 0, 0, 0, []), (75, .aload_n 0, 0, 0, 0, 0, 0, []), (76, .getfield 441, 0, 12, 65, 0, 0, []),
  (79, .ireturn, 0, 0, 0, 0, 0, []), (80, .aload_n 0, 0, 0, 0, 0, 0, []), (81, .getfield 316, 0, 12, 19, 0, 0, []), (84, .ireturn, 0, 0, 0, 0, 0, []),
  (85, .aload_n 0, 0, 0, 0, 0, 0, []), (86, .getfield 438, 0, 12, 64, 0, 0, []), (89, .ireturn, 0, 0, 0, 0, 0, []), (90, .aload_n 0, 0, 0, 0, 0, 0, []),
  (91, .getfield 444, 0, 12, 93, 0, 0, []), (94, .ireturn, 0, 0, 0, 0, 0, []), (95, .aload_n 0, 0, 0, 0, 0, 0, []), (96, .invokevirtual 631, 0, 0, 1, 0, 0, []),
  (99, .ireturn, 0, 0, 0, 0, 0, []), (100, .aload_n 0, 0, 0, 0, 0, 0, []), (101, .getfield 447, 0, 12, 74, 0, 0, []), (104, .ireturn, 0, 0, 0, 0, 0, []),
  (105, .aload_n 0, 0, 0, 0, 0, 0, []), (106, .getfield 310, 0, 12, 17, 0, 0, []), (109, .ireturn, 0, 0, 0, 0, 0, []), (110, .iconst (-1), 0, 0, 0, (-1), 0, []),
  (111, .ireturn, 0, 0, 0, 0, 0, [])]
noncomputable def pX12_count (N : Nat) (a1 : Int32) (w : Wd) : Option (Int32 × Wd) :=
  if a1 = (0 : Int32) then some ((gI (setI w 16 0 2 (0 : Int32)) 16 0 12), (setI w 16 0 2 (0 : Int32))) else
  if a1 = (1 : Int32) then some ((gI (setI w 16 0 2 (0 : Int32)) 16 0 13), (setI w 16 0 2 (0 : Int32))) else
  if a1 = (2 : Int32) then some ((gI (setI w 16 0 2 (0 : Int32)) 16 0 14), (setI w 16 0 2 (0 : Int32))) else
  if a1 = (3 : Int32) then some ((gI (setI w 16 0 2 (0 : Int32)) 16 0 65), (setI w 16 0 2 (0 : Int32))) else
  if a1 = (4 : Int32) then some ((gI (setI w 16 0 2 (0 : Int32)) 16 0 19), (setI w 16 0 2 (0 : Int32))) else
  if a1 = (5 : Int32) then some ((gI (setI w 16 0 2 (0 : Int32)) 16 0 64), (setI w 16 0 2 (0 : Int32))) else
  if a1 = (6 : Int32) then some ((gI (setI w 16 0 2 (0 : Int32)) 16 0 93), (setI w 16 0 2 (0 : Int32))) else
  if a1 = (7 : Int32) then
    (callW (pX12_manyGone N) (setI w 16 0 2 (0 : Int32))).bind fun r1 =>
    some (r1.1, r1.2)
  else
  if a1 = (8 : Int32) then some ((gI (setI w 16 0 2 (0 : Int32)) 16 0 74), (setI w 16 0 2 (0 : Int32))) else
  if a1 = (9 : Int32) then some ((gI (setI w 16 0 2 (0 : Int32)) 16 0 17), (setI w 16 0 2 (0 : Int32))) else
  some ((-1 : Int32), (setI w 16 0 2 (0 : Int32)))
noncomputable def mX12_count (N : Nat) (as : List AV) (w : Wd) : Option (Int32 × Wd) := xS1 16 as fun t => xI1 t fun a1 t => xN1 t (callW (pX12_count N a1) w)
set_option maxRecDepth 100000 in
set_option maxHeartbeats 4000000 in
theorem kX12_count : TK cX12_count RX12 2 tX12_count := ⟨by decide +kernel, wok_of [1592, 1602, 1603, 1604, 1655, 1609, 1654, 1683, 1664, 1607] (by decide +kernel) (by decide +kernel)⟩
set_option maxRecDepth 100000 in
set_option maxHeartbeats 4000000 in
theorem crX12_count {N : Nat} {X : XT} (G : GX X cX12_count RX12) (hR : xR X = rmL 2) : CRs X tX12_count (oF [(mX12_manyGone N)]) (oF []) (oF []) := by
  have hl : tX12_count.filter isInv = [(96, .invokevirtual 631, 0, 0, 1, 0, 0, [])] := rfl
  intro e he
  rw [hl] at he
  simp only [List.mem_cons, List.not_mem_nil, or_false] at he
  rcases he with rfl
  · exact crI_V (idx := 631) G (by decide +kernel) (MX12_manyGone N) (cw_of (ps := [2356, 2358, 144, 162, 2359]) (by decide +kernel) (by decide +kernel)) ⟨by decide +kernel, by decide +kernel, by decide +kernel⟩ (by unfold rmOk; rw [hR]; exact ⟨by decide, by decide⟩)
set_option maxRecDepth 100000 in
set_option maxHeartbeats 4000000 in
theorem MX12_count (N : Nat) : SndI yX12_count cX12_count 2 (some .int) 2 2 true (mX12_count N) := by
  refine SndI.of tX12_count (by decide +kernel) rfl rfl ?_ ?_
  · intro as w x h
    obtain ⟨t1, rfl, h_1⟩ := xS1_some h
    obtain ⟨a1, t2, rfl, h_2⟩ := xI1_some h_1
    obtain ⟨rfl, h_3⟩ := xN1_some h_2
    clear h h_1 h_2
    have h := h_3
    rw [callW_eq] at h
    exact ⟨fun _ => ⟨_, _, _, rfl, rfl, _, rfl, rfl⟩, rfl, Nat.le_of_ble_eq_true rfl⟩
  · intro X G hn hR as w r h hr
    have hC := crX12_count (N := N) G hR
    obtain ⟨t1, rfl, h_1⟩ := xS1_some h
    obtain ⟨a1, t2, rfl, h_2⟩ := xI1_some h_1
    obtain ⟨rfl, h_3⟩ := xN1_some h_2
    clear h h_1 h_2
    have h := h_3
    rw [callW_eq] at h
    refine run_sound (r := r) (X := X) (cc := cX12_count) (own := RX12) (tab := tX12_count) G (by rw [hn]; exact kX12_count) (oI := (oF [(mX12_manyGone N)])) (oL := (oF [])) (oV := (oF [])) (rI := (fun x w => some (x, w))) (rL := (fun _ _ => none)) (rV := (fun _ => none))
      (K := (fun j ls st w => none)) (fun x w pc ls hx hd => hr x w pc ls (Option.some.inj hx) hd) (fun _ _ _ _ hx => by cases hx) (fun _ _ _ hx => by cases hx) hC (fun ls => lsb [some (.inr (.inr (16, 0))), some (.inl a1)] 0 ls) (keepsP_of rfl) ?_ 39 0 [some (.inr (.inr (16, 0))), some (.inl a1)] [] w ?_ h
    · intro j ls st w hfx h
      obtain ⟨e0, e1, -⟩ : _ = _ ∧ _ = _ ∧ True := hfx
      try dsimp only at h
      cases h
    · exact (show _ = _ ∧ _ = _ ∧ True from ⟨rfl, rfl, trivial⟩)

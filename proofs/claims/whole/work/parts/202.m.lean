-- MoorGuides$Tokens.cutSign(I)I
def tX10_cutSign : List EN := [
  (0, .aload_n 0, 0, 0, 0, 0, 0, []), (1, .iload_n 1, 0, 0, 0, 0, 0, []), (2, .invokevirtual 76, 0, 0, 2, 0, 0, []), (5, .istore_n 2, 0, 0, 0, 0, 0, []),
  (6, .aload_n 0, 0, 0, 0, 0, 0, []), (7, .iload_n 1, 0, 0, 0, 0, 0, []), (8, .iconst 1, 0, 0, 0, 1, 0, []), (9, .iadd, 0, 0, 0, 0, 0, []),
  (10, .invokevirtual 76, 0, 0, 2, 0, 0, []), (13, .istore_n 3, 0, 0, 0, 0, 0, []), (14, .iload_n 2, 0, 0, 0, 0, 0, []), (15, .bipush 60, 0, 0, 0, 60, 0, []),
  (17, .if_icmp .ne 21, 0, 25, 0, 0, 0, []), (20, .iload_n 3, 0, 0, 0, 0, 0, []), (21, .bipush 61, 0, 0, 0, 61, 0, []), (23, .if_icmp .ne 15, 0, 25, 0, 0, 0, []),
  (26, .aload_n 0, 0, 0, 0, 0, 0, []), (27, .bipush 40, 0, 0, 0, 40, 0, []), (29, .iload_n 1, 0, 0, 0, 0, 0, []), (30, .iconst 0, 0, 0, 0, 0, 0, []),
  (31, .invokevirtual 57, 0, 0, 4, 0, 0, [(0, 0), (0, 0)]), (34, .iload_n 1, 0, 0, 0, 0, 0, []), (35, .iconst 2, 0, 0, 0, 2, 0, []), (36, .iadd, 0, 0, 0, 0, 0, []),
  (37, .ireturn, 0, 0, 0, 0, 0, []), (38, .iload_n 2, 26, 0, 0, 0, 0, []), (39, .bipush 60, 0, 0, 0, 60, 0, []), (41, .if_icmp .ne 21, 0, 40, 0, 0, 0, []),
  (44, .iload_n 3, 0, 0, 0, 0, 0, []), (45, .bipush 62, 0, 0, 0, 62, 0, []), (47, .if_icmp .ne 15, 0, 40, 0, 0, 0, []), (50, .aload_n 0, 0, 0, 0, 0, 0, []),
  (51, .bipush 42, 0, 0, 0, 42, 0, []), (53, .iload_n 1, 0, 0, 0, 0, 0, []), (54, .iconst 0, 0, 0, 0, 0, 0, []), (55, .invokevirtual 57, 0, 0, 4, 0, 0, [(0, 0), (0, 0)]),
  (58, .iload_n 1, 0, 0, 0, 0, 0, []), (59, .iconst 2, 0, 0, 0, 2, 0, []), (60, .iadd, 0, 0, 0, 0, 0, []), (61, .ireturn, 0, 0, 0, 0, 0, []),
  (62, .iload_n 2, 41, 0, 0, 0, 0, []), (63, .bipush 62, 0, 0, 0, 62, 0, []), (65, .if_icmp .ne 21, 0, 55, 0, 0, 0, []), (68, .iload_n 3, 0, 0, 0, 0, 0, []),
  (69, .bipush 61, 0, 0, 0, 61, 0, []), (71, .if_icmp .ne 15, 0, 55, 0, 0, 0, []), (74, .aload_n 0, 0, 0, 0, 0, 0, []), (75, .bipush 43, 0, 0, 0, 43, 0, []),
  (77, .iload_n 1, 0, 0, 0, 0, 0, []), (78, .iconst 0, 0, 0, 0, 0, 0, []), (79, .invokevirtual 57, 0, 0, 4, 0, 0, [(0, 0), (0, 0)]), (82, .iload_n 1, 0, 0, 0, 0, 0, []),
  (83, .iconst 2, 0, 0, 0, 2, 0, []), (84, .iadd, 0, 0, 0, 0, 0, []), (85, .ireturn, 0, 0, 0, 0, 0, []), (86, .bipush (-2), 0, 0, 0, (-2), 0, []),
  (88, .istore 4, 0, 0, 0, 0, 0, []), (90, .iconst 0, 0, 0, 0, 0, 0, []), (91, .istore 5, 0, 0, 0, 0, 0, []), (93, .iload 5, 60, 0, 0, 0, 0, []),
  (95, .ldc 100, 0, 1, 0, 0, 0, []), (97, .invokevirtual 31, 0, 1, 1, 0, 0, []), (100, .if_icmp .ge 27, 0, 74, 0, 0, 0, []), (103, .ldc 100, 0, 1, 0, 0, 0, []),
  (105, .iload 5, 0, 0, 0, 0, 0, []), (107, .invokevirtual 37, 0, 2, 2, 0, 0, []), (110, .iload_n 2, 0, 0, 0, 0, 0, []), (111, .if_icmp .ne 10, 0, 72, 0, 0, 0, []),
  (114, .bipush 32, 0, 0, 0, 32, 0, []), (116, .iload 5, 0, 0, 0, 0, 0, []), (118, .iadd, 0, 0, 0, 0, 0, []), (119, .istore 4, 0, 0, 0, 0, 0, []),
  (121, .iinc 5 1, 0, 0, 0, 1, 0, []), (124, .goto (-31), 0, 59, 0, 0, 0, []), (127, .aload_n 0, 75, 0, 0, 0, 0, []), (128, .iload 4, 0, 0, 0, 0, 0, []),
  (130, .iload_n 1, 0, 0, 0, 0, 0, []), (131, .iconst 0, 0, 0, 0, 0, 0, []), (132, .invokevirtual 57, 0, 0, 4, 0, 0, [(0, 0), (0, 0)]), (135, .iload_n 1, 0, 0, 0, 0, 0, []),
  (136, .iconst 1, 0, 0, 0, 1, 0, []), (137, .iadd, 0, 0, 0, 0, 0, []), (138, .ireturn, 0, 0, 0, 0, 0, [])]
noncomputable def fX10_cutSign_74 (N : Nat) (a1 : Int32) (v4 : Int32) (w : Wd) : Option (Int32 × Wd) :=
  (callW (pX10_add N v4 a1 (0 : Int32)) w).bind fun w1 =>
  some ((a1 + (1 : Int32)), w1)
noncomputable def fX10_cutSign_59 (N : Nat) (a1 : Int32) : Nat → (Int32 → Wd → Option (Int32 × Wd)) → Int32 → Int32 → Int32 → Wd → Option (Int32 × Wd)
  | 0, _, _, _, _, _ => none
  | n + 1, k74, v2, v4, v5, w =>
    (callW (pJ0_length N 0) w).bind fun r1 =>
    if v5 < r1.1 then
      (callW (pJ0_charAt N 0 v5) r1.2).bind fun r2 =>
      if r2.1 = v2 then callW (fX10_cutSign_59 N a1 n k74 v2 ((32 : Int32) + v5) (v5 + (1 : Int32))) r2.2 else
      callW (fX10_cutSign_59 N a1 n k74 v2 v4 (v5 + (1 : Int32))) r2.2
    else
    k74 v4 r1.2
noncomputable def fX10_cutSign_40 (N : Nat) (a1 : Int32) (v2 : Int32) (v3 : Int32) (w : Wd) : Option (Int32 × Wd) :=
  if v2 = (62 : Int32) then
    if v3 = (61 : Int32) then
      (callW (pX10_add N (43 : Int32) a1 (0 : Int32)) w).bind fun w1 =>
      some ((a1 + (2 : Int32)), w1)
    else
    callW (fX10_cutSign_59 N a1 N (fX10_cutSign_74 N a1) v2 (-2 : Int32) (0 : Int32)) w
  else
  callW (fX10_cutSign_59 N a1 N (fX10_cutSign_74 N a1) v2 (-2 : Int32) (0 : Int32)) w
noncomputable def fX10_cutSign_25 (N : Nat) (a1 : Int32) (v2 : Int32) (v3 : Int32) (w : Wd) : Option (Int32 × Wd) :=
  if v2 = (60 : Int32) then
    if v3 = (62 : Int32) then
      (callW (pX10_add N (42 : Int32) a1 (0 : Int32)) w).bind fun w1 =>
      some ((a1 + (2 : Int32)), w1)
    else
    callW (fX10_cutSign_40 N a1 v2 v3) w
  else
  callW (fX10_cutSign_40 N a1 v2 v3) w
noncomputable def pX10_cutSign (N : Nat) (a1 : Int32) (w : Wd) : Option (Int32 × Wd) :=
  (callW (pX10_byteAt N a1) w).bind fun r1 =>
  (callW (pX10_byteAt N (a1 + (1 : Int32))) r1.2).bind fun r2 =>
  if r1.1 = (60 : Int32) then
    if r2.1 = (61 : Int32) then
      (callW (pX10_add N (40 : Int32) a1 (0 : Int32)) r2.2).bind fun w3 =>
      some ((a1 + (2 : Int32)), w3)
    else
    callW (fX10_cutSign_25 N a1 r1.1 r2.1) r2.2
  else
  callW (fX10_cutSign_25 N a1 r1.1 r2.1) r2.2
noncomputable def mX10_cutSign (N : Nat) (as : List AV) (w : Wd) : Option (Int32 × Wd) := xS1 14 as fun t => xI1 t fun a1 t => xN1 t (callW (pX10_cutSign N a1) w)
set_option maxRecDepth 100000 in
set_option maxHeartbeats 4000000 in
theorem kX10_cutSign : TK cX10_cutSign RX10 6 tX10_cutSign := ⟨by decide +kernel, wok_of [] (by decide +kernel) (by decide +kernel)⟩
set_option maxRecDepth 100000 in
set_option maxHeartbeats 4000000 in
theorem sX10_cutSign_74 {N : Nat} {X : XT} (G : GX X cX10_cutSign RX10) (hn : xnL X = 6) (hC : CRs X tX10_cutSign (oF [(mX10_byteAt N), (mJ0_length_8abf5 N), (mJ0_charAt_5068e N)]) (oF []) (oF [(mX10_add N)])) {r : Int32 × Wd} (hr : RTI X cX10_cutSign r) (a1 : Int32) : ∀ (v4 : Int32) (w : Wd), fX10_cutSign_74 N a1 v4 w = some r → WW X (pcAt tX10_cutSign 74) [some (.inr (.inr (14, 0))), some (.inl a1), none, none, some (.inl v4), none] [] w := by
  intro v4 w h
  refine run_sound (r := r) (X := X) (cc := cX10_cutSign) (own := RX10) (tab := tX10_cutSign) G (by rw [hn]; exact kX10_cutSign) (oI := (oF [(mX10_byteAt N), (mJ0_length_8abf5 N), (mJ0_charAt_5068e N)])) (oL := (oF [])) (oV := (oF [(mX10_add N)])) (rI := (fun x w => some (x, w))) (rL := (fun _ _ => none)) (rV := (fun _ => none))
    (K := (fun j ls st w => none)) (fun x w pc ls hx hd => hr x w pc ls (Option.some.inj hx) hd) (fun _ _ _ _ hx => by cases hx) (fun _ _ _ hx => by cases hx) hC (fun ls => lsb [some (.inr (.inr (14, 0))), some (.inl a1), none, none, none, none] 0 ls) (keepsP_of rfl) ?_ 85 74 [some (.inr (.inr (14, 0))), some (.inl a1), none, none, some (.inl v4), none] [] w ?_ h
  · intro j ls st w hfx h
    obtain ⟨e0, e1, -⟩ : _ = _ ∧ _ = _ ∧ True := hfx
    try dsimp only at h
    cases h
  · exact (show _ = _ ∧ _ = _ ∧ True from ⟨rfl, rfl, trivial⟩)
set_option maxRecDepth 100000 in
set_option maxHeartbeats 4000000 in
theorem sX10_cutSign_59 {N : Nat} {X : XT} (G : GX X cX10_cutSign RX10) (hn : xnL X = 6) (hC : CRs X tX10_cutSign (oF [(mX10_byteAt N), (mJ0_length_8abf5 N), (mJ0_charAt_5068e N)]) (oF []) (oF [(mX10_add N)])) {r : Int32 × Wd} (hr : RTI X cX10_cutSign r) (a1 : Int32) : ∀ (n : Nat) (k74 : Int32 → Wd → Option (Int32 × Wd)) (v2 : Int32) (v4 : Int32) (v5 : Int32) (w : Wd), fX10_cutSign_59 N a1 n k74 v2 v4 v5 w = some r → (∀ (v4 : Int32) (w : Wd), k74 v4 w = some r → WW X (pcAt tX10_cutSign 74) [some (.inr (.inr (14, 0))), some (.inl a1), none, none, some (.inl v4), none] [] w) → WW X (pcAt tX10_cutSign 59) [some (.inr (.inr (14, 0))), some (.inl a1), some (.inl v2), none, some (.inl v4), some (.inl v5)] [] w := by
  intro n
  induction n with
  | zero => intro k74 v2 v4 v5 w h h74; cases h
  | succ n ih =>
    intro k74 v2 v4 v5 w h h74
    refine run_sound (r := r) (X := X) (cc := cX10_cutSign) (own := RX10) (tab := tX10_cutSign) G (by rw [hn]; exact kX10_cutSign) (oI := (oF [(mX10_byteAt N), (mJ0_length_8abf5 N), (mJ0_charAt_5068e N)])) (oL := (oF [])) (oV := (oF [(mX10_add N)])) (rI := (fun x w => some (x, w))) (rL := (fun _ _ => none)) (rV := (fun _ => none))
      (K := (fun j ls st w => if j = 59 then (lgI ls 2 fun v2 => lgI ls 4 fun v4 => lgI ls 5 fun v5 => st0 st (callW (fX10_cutSign_59 N a1 n k74 v2 v4 v5) w)) else if j = 74 then (lgI ls 4 fun v4 => st0 st (k74 v4 w)) else none)) (fun x w pc ls hx hd => hr x w pc ls (Option.some.inj hx) hd) (fun _ _ _ _ hx => by cases hx) (fun _ _ _ hx => by cases hx) hC (fun ls => lsb [some (.inr (.inr (14, 0))), some (.inl a1), none, none, none, none] 0 ls) (keepsP_of rfl) ?_ 85 59 [some (.inr (.inr (14, 0))), some (.inl a1), some (.inl v2), none, some (.inl v4), some (.inl v5)] [] w ?_ h
    · intro j ls st w hfx h
      obtain ⟨e0, e1, -⟩ : _ = _ ∧ _ = _ ∧ True := hfx
      try dsimp only at h
      by_cases hj : j = 59
      · subst hj
        rw [if_pos rfl] at h
        obtain ⟨v2, e2, h_1⟩ := lgI_some h
        obtain ⟨v4, e4, h_2⟩ := lgI_some h_1
        obtain ⟨v5, e5, h_3⟩ := lgI_some h_2
        obtain ⟨rfl, h_4⟩ := st0_some h_3
        clear h h_1 h_2 h_3
        have h := h_4
        try rw [callW_eq] at h
        exact WW.le (a := [some (.inr (.inr (14, 0))), some (.inl a1), some (.inl v2), none, some (.inl v4), some (.inl v5)]) (by rw [hn]; rfl) (show _ = _ ∧ _ = _ ∧ _ = _ ∧ _ = _ ∧ _ = _ ∧ True from ⟨e0, e1, e2, e4, e5, trivial⟩) (ih k74 v2 v4 v5 w h h74)
      rw [if_neg hj] at h
      by_cases hj : j = 74
      · subst hj
        rw [if_pos rfl] at h
        obtain ⟨v4, e4, h_1⟩ := lgI_some h
        obtain ⟨rfl, h_2⟩ := st0_some h_1
        clear h h_1
        have h := h_2
        try rw [callW_eq] at h
        exact WW.le (a := [some (.inr (.inr (14, 0))), some (.inl a1), none, none, some (.inl v4), none]) (by rw [hn]; rfl) (show _ = _ ∧ _ = _ ∧ _ = _ ∧ True from ⟨e0, e1, e4, trivial⟩) (h74 v4 w h)
      rw [if_neg hj] at h
      cases h
    · exact (show _ = _ ∧ _ = _ ∧ True from ⟨rfl, rfl, trivial⟩)
set_option maxRecDepth 100000 in
set_option maxHeartbeats 4000000 in
theorem sX10_cutSign_40 {N : Nat} {X : XT} (G : GX X cX10_cutSign RX10) (hn : xnL X = 6) (hC : CRs X tX10_cutSign (oF [(mX10_byteAt N), (mJ0_length_8abf5 N), (mJ0_charAt_5068e N)]) (oF []) (oF [(mX10_add N)])) {r : Int32 × Wd} (hr : RTI X cX10_cutSign r) (a1 : Int32) : ∀ (v2 : Int32) (v3 : Int32) (w : Wd), fX10_cutSign_40 N a1 v2 v3 w = some r → WW X (pcAt tX10_cutSign 40) [some (.inr (.inr (14, 0))), some (.inl a1), some (.inl v2), some (.inl v3), none, none] [] w := by
  intro v2 v3 w h
  refine run_sound (r := r) (X := X) (cc := cX10_cutSign) (own := RX10) (tab := tX10_cutSign) G (by rw [hn]; exact kX10_cutSign) (oI := (oF [(mX10_byteAt N), (mJ0_length_8abf5 N), (mJ0_charAt_5068e N)])) (oL := (oF [])) (oV := (oF [(mX10_add N)])) (rI := (fun x w => some (x, w))) (rL := (fun _ _ => none)) (rV := (fun _ => none))
    (K := (fun j ls st w => if j = 59 then (lgI ls 2 fun v2 => lgI ls 4 fun v4 => lgI ls 5 fun v5 => st0 st (callW (fX10_cutSign_59 N a1 N (fX10_cutSign_74 N a1) v2 v4 v5) w)) else none)) (fun x w pc ls hx hd => hr x w pc ls (Option.some.inj hx) hd) (fun _ _ _ _ hx => by cases hx) (fun _ _ _ hx => by cases hx) hC (fun ls => lsb [some (.inr (.inr (14, 0))), some (.inl a1), none, none, none, none] 0 ls) (keepsP_of rfl) ?_ 85 40 [some (.inr (.inr (14, 0))), some (.inl a1), some (.inl v2), some (.inl v3), none, none] [] w ?_ h
  · intro j ls st w hfx h
    obtain ⟨e0, e1, -⟩ : _ = _ ∧ _ = _ ∧ True := hfx
    try dsimp only at h
    by_cases hj : j = 59
    · subst hj
      rw [if_pos rfl] at h
      obtain ⟨v2, e2, h_1⟩ := lgI_some h
      obtain ⟨v4, e4, h_2⟩ := lgI_some h_1
      obtain ⟨v5, e5, h_3⟩ := lgI_some h_2
      obtain ⟨rfl, h_4⟩ := st0_some h_3
      clear h h_1 h_2 h_3
      have h := h_4
      try rw [callW_eq] at h
      exact WW.le (a := [some (.inr (.inr (14, 0))), some (.inl a1), some (.inl v2), none, some (.inl v4), some (.inl v5)]) (by rw [hn]; rfl) (show _ = _ ∧ _ = _ ∧ _ = _ ∧ _ = _ ∧ _ = _ ∧ True from ⟨e0, e1, e2, e4, e5, trivial⟩) (sX10_cutSign_59 G hn hC hr a1 N (fX10_cutSign_74 N a1) v2 v4 v5 w h (fun v4 w h => (sX10_cutSign_74 G hn hC hr a1 v4 w h)))
    rw [if_neg hj] at h
    cases h
  · exact (show _ = _ ∧ _ = _ ∧ True from ⟨rfl, rfl, trivial⟩)
set_option maxRecDepth 100000 in
set_option maxHeartbeats 4000000 in
theorem sX10_cutSign_25 {N : Nat} {X : XT} (G : GX X cX10_cutSign RX10) (hn : xnL X = 6) (hC : CRs X tX10_cutSign (oF [(mX10_byteAt N), (mJ0_length_8abf5 N), (mJ0_charAt_5068e N)]) (oF []) (oF [(mX10_add N)])) {r : Int32 × Wd} (hr : RTI X cX10_cutSign r) (a1 : Int32) : ∀ (v2 : Int32) (v3 : Int32) (w : Wd), fX10_cutSign_25 N a1 v2 v3 w = some r → WW X (pcAt tX10_cutSign 25) [some (.inr (.inr (14, 0))), some (.inl a1), some (.inl v2), some (.inl v3), none, none] [] w := by
  intro v2 v3 w h
  refine run_sound (r := r) (X := X) (cc := cX10_cutSign) (own := RX10) (tab := tX10_cutSign) G (by rw [hn]; exact kX10_cutSign) (oI := (oF [(mX10_byteAt N), (mJ0_length_8abf5 N), (mJ0_charAt_5068e N)])) (oL := (oF [])) (oV := (oF [(mX10_add N)])) (rI := (fun x w => some (x, w))) (rL := (fun _ _ => none)) (rV := (fun _ => none))
    (K := (fun j ls st w => if j = 40 then (lgI ls 2 fun v2 => lgI ls 3 fun v3 => st0 st (callW (fX10_cutSign_40 N a1 v2 v3) w)) else none)) (fun x w pc ls hx hd => hr x w pc ls (Option.some.inj hx) hd) (fun _ _ _ _ hx => by cases hx) (fun _ _ _ hx => by cases hx) hC (fun ls => lsb [some (.inr (.inr (14, 0))), some (.inl a1), none, none, none, none] 0 ls) (keepsP_of rfl) ?_ 85 25 [some (.inr (.inr (14, 0))), some (.inl a1), some (.inl v2), some (.inl v3), none, none] [] w ?_ h
  · intro j ls st w hfx h
    obtain ⟨e0, e1, -⟩ : _ = _ ∧ _ = _ ∧ True := hfx
    try dsimp only at h
    by_cases hj : j = 40
    · subst hj
      rw [if_pos rfl] at h
      obtain ⟨v2, e2, h_1⟩ := lgI_some h
      obtain ⟨v3, e3, h_2⟩ := lgI_some h_1
      obtain ⟨rfl, h_3⟩ := st0_some h_2
      clear h h_1 h_2
      have h := h_3
      try rw [callW_eq] at h
      exact WW.le (a := [some (.inr (.inr (14, 0))), some (.inl a1), some (.inl v2), some (.inl v3), none, none]) (by rw [hn]; rfl) (show _ = _ ∧ _ = _ ∧ _ = _ ∧ _ = _ ∧ True from ⟨e0, e1, e2, e3, trivial⟩) (sX10_cutSign_40 G hn hC hr a1 v2 v3 w h)
    rw [if_neg hj] at h
    cases h
  · exact (show _ = _ ∧ _ = _ ∧ True from ⟨rfl, rfl, trivial⟩)
set_option maxRecDepth 100000 in
set_option maxHeartbeats 4000000 in
theorem crX10_cutSign {N : Nat} {X : XT} (G : GX X cX10_cutSign RX10) (hR : xR X = rmL 6) : CRs X tX10_cutSign (oF [(mX10_byteAt N), (mJ0_length_8abf5 N), (mJ0_charAt_5068e N)]) (oF []) (oF [(mX10_add N)]) := by
  have hl : tX10_cutSign.filter isInv = [(2, .invokevirtual 76, 0, 0, 2, 0, 0, []), (10, .invokevirtual 76, 0, 0, 2, 0, 0, []), (31, .invokevirtual 57, 0, 0, 4, 0, 0, [(0, 0), (0, 0)]), (55, .invokevirtual 57, 0, 0, 4, 0, 0, [(0, 0), (0, 0)]), (79, .invokevirtual 57, 0, 0, 4, 0, 0, [(0, 0), (0, 0)]), (97, .invokevirtual 31, 0, 1, 1, 0, 0, []), (107, .invokevirtual 37, 0, 2, 2, 0, 0, []), (132, .invokevirtual 57, 0, 0, 4, 0, 0, [(0, 0), (0, 0)])] := rfl
  intro e he
  rw [hl] at he
  simp only [List.mem_cons, List.not_mem_nil, or_false] at he
  rcases he with rfl | rfl | rfl | rfl | rfl | rfl | rfl | rfl
  · exact crI_V (idx := 76) G (by decide +kernel) (MX10_byteAt N) (cw_of (ps := [809, 811, 2, 151, 812]) (by decide +kernel) (by decide +kernel)) ⟨by decide +kernel, by decide +kernel, by decide +kernel⟩ (by unfold rmOk; rw [hR]; exact ⟨by decide, by decide⟩)
  · exact crI_V (idx := 76) G (by decide +kernel) (MX10_byteAt N) (cw_of (ps := [809, 811, 2, 151, 812]) (by decide +kernel) (by decide +kernel)) ⟨by decide +kernel, by decide +kernel, by decide +kernel⟩ (by unfold rmOk; rw [hR]; exact ⟨by decide, by decide⟩)
  · exact crV_V (idx := 57) G (by decide +kernel) (MX10_add N) (cw_of (ps := [824, 826, 5, 151, 827]) (by decide +kernel) (by decide +kernel)) ⟨by decide +kernel, by decide +kernel, by decide +kernel⟩ (by unfold rmOk; rw [hR]; exact ⟨by decide, by decide⟩)
  · exact crV_V (idx := 57) G (by decide +kernel) (MX10_add N) (cw_of (ps := [824, 826, 5, 151, 827]) (by decide +kernel) (by decide +kernel)) ⟨by decide +kernel, by decide +kernel, by decide +kernel⟩ (by unfold rmOk; rw [hR]; exact ⟨by decide, by decide⟩)
  · exact crV_V (idx := 57) G (by decide +kernel) (MX10_add N) (cw_of (ps := [824, 826, 5, 151, 827]) (by decide +kernel) (by decide +kernel)) ⟨by decide +kernel, by decide +kernel, by decide +kernel⟩ (by unfold rmOk; rw [hR]; exact ⟨by decide, by decide⟩)
  · exact crJ0_length_8abf5 (idx := 31) G (by decide +kernel) (cw_of (ps := [379, 380, 381, 152, 382]) (by decide +kernel) (by decide +kernel)) (by rw [hR]; exact ⟨by decide, by decide⟩)
  · exact crJ0_charAt_5068e (idx := 37) G (by decide +kernel) (cw_of (ps := [389, 390, 391, 152, 392]) (by decide +kernel) (by decide +kernel)) (by rw [hR]; exact ⟨by decide, by decide⟩)
  · exact crV_V (idx := 57) G (by decide +kernel) (MX10_add N) (cw_of (ps := [824, 826, 5, 151, 827]) (by decide +kernel) (by decide +kernel)) ⟨by decide +kernel, by decide +kernel, by decide +kernel⟩ (by unfold rmOk; rw [hR]; exact ⟨by decide, by decide⟩)
set_option maxRecDepth 100000 in
set_option maxHeartbeats 4000000 in
theorem MX10_cutSign (N : Nat) : SndI yX10_cutSign cX10_cutSign 6 (some .int) 6 2 true (mX10_cutSign N) := by
  refine SndI.of tX10_cutSign (by decide +kernel) rfl rfl ?_ ?_
  · intro as w x h
    obtain ⟨t1, rfl, h_1⟩ := xS1_some h
    obtain ⟨a1, t2, rfl, h_2⟩ := xI1_some h_1
    obtain ⟨rfl, h_3⟩ := xN1_some h_2
    clear h h_1 h_2
    have h := h_3
    rw [callW_eq] at h
    exact ⟨fun _ => ⟨_, _, _, rfl, rfl, _, rfl, rfl⟩, rfl, Nat.le_of_ble_eq_true rfl⟩
  · intro X G hn hR as w r h hr
    have hC := crX10_cutSign (N := N) G hR
    obtain ⟨t1, rfl, h_1⟩ := xS1_some h
    obtain ⟨a1, t2, rfl, h_2⟩ := xI1_some h_1
    obtain ⟨rfl, h_3⟩ := xN1_some h_2
    clear h h_1 h_2
    have h := h_3
    rw [callW_eq] at h
    refine run_sound (r := r) (X := X) (cc := cX10_cutSign) (own := RX10) (tab := tX10_cutSign) G (by rw [hn]; exact kX10_cutSign) (oI := (oF [(mX10_byteAt N), (mJ0_length_8abf5 N), (mJ0_charAt_5068e N)])) (oL := (oF [])) (oV := (oF [(mX10_add N)])) (rI := (fun x w => some (x, w))) (rL := (fun _ _ => none)) (rV := (fun _ => none))
      (K := (fun j ls st w => if j = 25 then (lgI ls 2 fun v2 => lgI ls 3 fun v3 => st0 st (callW (fX10_cutSign_25 N a1 v2 v3) w)) else none)) (fun x w pc ls hx hd => hr x w pc ls (Option.some.inj hx) hd) (fun _ _ _ _ hx => by cases hx) (fun _ _ _ hx => by cases hx) hC (fun ls => lsb [some (.inr (.inr (14, 0))), some (.inl a1), none, none, none, none] 0 ls) (keepsP_of rfl) ?_ 85 0 [some (.inr (.inr (14, 0))), some (.inl a1), none, none, none, none] [] w ?_ h
    · intro j ls st w hfx h
      obtain ⟨e0, e1, -⟩ : _ = _ ∧ _ = _ ∧ True := hfx
      try dsimp only at h
      by_cases hj : j = 25
      · subst hj
        rw [if_pos rfl] at h
        obtain ⟨v2, e2, h_1⟩ := lgI_some h
        obtain ⟨v3, e3, h_2⟩ := lgI_some h_1
        obtain ⟨rfl, h_3⟩ := st0_some h_2
        clear h h_1 h_2
        have h := h_3
        try rw [callW_eq] at h
        exact WW.le (a := [some (.inr (.inr (14, 0))), some (.inl a1), some (.inl v2), some (.inl v3), none, none]) (by rw [hn]; rfl) (show _ = _ ∧ _ = _ ∧ _ = _ ∧ _ = _ ∧ True from ⟨e0, e1, e2, e3, trivial⟩) (sX10_cutSign_25 G hn hC hr a1 v2 v3 w h)
      rw [if_neg hj] at h
      cases h
    · exact (show _ = _ ∧ _ = _ ∧ True from ⟨rfl, rfl, trivial⟩)
-- MoorGuides$Tokens.cut(I)I
def tX10_cut : List EN := [
  (0, .aload_n 0, 0, 0, 0, 0, 0, []), (1, .iload_n 1, 0, 0, 0, 0, 0, []), (2, .invokevirtual 76, 0, 0, 2, 0, 0, []), (5, .istore_n 2, 0, 0, 0, 0, 0, []),
  (6, .iload_n 2, 0, 0, 0, 0, 0, []), (7, .bipush 32, 0, 0, 0, 32, 0, []), (9, .if_icmp .eq 9, 0, 10, 0, 0, 0, []), (12, .iload_n 2, 0, 0, 0, 0, 0, []),
  (13, .bipush 10, 0, 0, 0, 10, 0, []), (15, .if_icmp .ne 7, 0, 14, 0, 0, 0, []), (18, .iload_n 1, 0, 0, 0, 0, 0, []), (19, .iconst 1, 0, 0, 0, 1, 0, []),
  (20, .iadd, 0, 0, 0, 0, 0, []), (21, .ireturn, 0, 0, 0, 0, 0, []), (22, .iload_n 2, 0, 0, 0, 0, 0, []), (23, .invokestatic 79, 0, 1, 1, 0, 0, []),
  (26, .ifCond .eq 9, 0, 21, 0, 0, 0, []), (29, .aload_n 0, 0, 0, 0, 0, 0, []), (30, .iload_n 1, 0, 0, 0, 0, 0, []), (31, .invokevirtual 83, 0, 2, 2, 0, 0, []),
  (34, .ireturn, 0, 0, 0, 0, 0, []), (35, .iload_n 2, 0, 0, 0, 0, 0, []), (36, .invokestatic 86, 0, 3, 1, 0, 0, []), (39, .ifCond .eq 11, 0, 28, 0, 0, 0, []),
  (42, .aload_n 0, 0, 0, 0, 0, 0, []), (43, .iload_n 1, 0, 0, 0, 0, 0, []), (44, .invokevirtual 89, 0, 4, 2, 0, 0, []), (47, .goto 8, 0, 31, 0, 0, 0, []),
  (50, .aload_n 0, 0, 0, 0, 0, 0, []), (51, .iload_n 1, 0, 0, 0, 0, 0, []), (52, .invokevirtual 92, 0, 5, 2, 0, 0, []), (55, .ireturn, 0, 0, 0, 0, 0, [])]
noncomputable def pX10_cut (N : Nat) (a1 : Int32) (w : Wd) : Option (Int32 × Wd) :=
  (callW (pX10_byteAt N a1) w).bind fun r1 =>
  if r1.1 = (32 : Int32) then some ((a1 + (1 : Int32)), r1.2) else
  if r1.1 = (10 : Int32) then some ((a1 + (1 : Int32)), r1.2) else
  (callW (pX10_isLetter N r1.1) r1.2).bind fun r2 =>
  if r2.1 = 0 then
    (callW (pX10_isDigit N r1.1) r2.2).bind fun r3 =>
    if r3.1 = 0 then
      (callW (pX10_cutSign N a1) r3.2).bind fun r4 =>
      some (r4.1, r4.2)
    else
    (callW (pX10_cutNumber N a1) r3.2).bind fun r5 =>
    some (r5.1, r5.2)
  else
  (callW (pX10_cutWord N a1) r2.2).bind fun r6 =>
  some (r6.1, r6.2)
noncomputable def mX10_cut (N : Nat) (as : List AV) (w : Wd) : Option (Int32 × Wd) := xS1 14 as fun t => xI1 t fun a1 t => xN1 t (callW (pX10_cut N a1) w)
set_option maxRecDepth 100000 in
set_option maxHeartbeats 4000000 in
theorem kX10_cut : TK cX10_cut RX10 3 tX10_cut := ⟨by decide +kernel, wok_of [] (by decide +kernel) (by decide +kernel)⟩
set_option maxRecDepth 100000 in
set_option maxHeartbeats 4000000 in
theorem crX10_cut {N : Nat} {X : XT} (G : GX X cX10_cut RX10) (hR : xR X = rmL 7) : CRs X tX10_cut (oF [(mX10_byteAt N), (mX10_isLetter N), (mX10_cutWord N), (mX10_isDigit N), (mX10_cutNumber N), (mX10_cutSign N)]) (oF []) (oF []) := by
  have hl : tX10_cut.filter isInv = [(2, .invokevirtual 76, 0, 0, 2, 0, 0, []), (23, .invokestatic 79, 0, 1, 1, 0, 0, []), (31, .invokevirtual 83, 0, 2, 2, 0, 0, []), (36, .invokestatic 86, 0, 3, 1, 0, 0, []), (44, .invokevirtual 89, 0, 4, 2, 0, 0, []), (52, .invokevirtual 92, 0, 5, 2, 0, 0, [])] := rfl
  intro e he
  rw [hl] at he
  simp only [List.mem_cons, List.not_mem_nil, or_false] at he
  rcases he with rfl | rfl | rfl | rfl | rfl | rfl
  · exact crI_V (idx := 76) G (by decide +kernel) (MX10_byteAt N) (cw_of (ps := [809, 811, 2, 151, 812]) (by decide +kernel) (by decide +kernel)) ⟨by decide +kernel, by decide +kernel, by decide +kernel⟩ (by unfold rmOk; rw [hR]; exact ⟨by decide, by decide⟩)
  · exact crI_S (idx := 79) G (by decide +kernel) (MX10_isLetter N) (cw_of (ps := [813, 814, 151, 815]) (by decide +kernel) (by decide +kernel)) ⟨by decide +kernel, by decide +kernel, by decide +kernel⟩ (by unfold rmOk; rw [hR]; exact ⟨by decide, by decide⟩)
  · exact crI_V (idx := 83) G (by decide +kernel) (MX10_cutWord N) (cw_of (ps := [816, 818, 3, 151, 819]) (by decide +kernel) (by decide +kernel)) ⟨by decide +kernel, by decide +kernel, by decide +kernel⟩ (by unfold rmOk; rw [hR]; exact ⟨by decide, by decide⟩)
  · exact crI_S (idx := 86) G (by decide +kernel) (MX10_isDigit N) (cw_of (ps := [828, 829, 151, 830]) (by decide +kernel) (by decide +kernel)) ⟨by decide +kernel, by decide +kernel, by decide +kernel⟩ (by unfold rmOk; rw [hR]; exact ⟨by decide, by decide⟩)
  · exact crI_V (idx := 89) G (by decide +kernel) (MX10_cutNumber N) (cw_of (ps := [831, 833, 6, 151, 834]) (by decide +kernel) (by decide +kernel)) ⟨by decide +kernel, by decide +kernel, by decide +kernel⟩ (by unfold rmOk; rw [hR]; exact ⟨by decide, by decide⟩)
  · exact crI_V (idx := 92) G (by decide +kernel) (MX10_cutSign N) (cw_of (ps := [836, 838, 7, 151, 839]) (by decide +kernel) (by decide +kernel)) ⟨by decide +kernel, by decide +kernel, by decide +kernel⟩ (by unfold rmOk; rw [hR]; exact ⟨by decide, by decide⟩)
set_option maxRecDepth 100000 in
set_option maxHeartbeats 4000000 in
theorem MX10_cut (N : Nat) : SndI yX10_cut cX10_cut 3 (some .int) 7 2 true (mX10_cut N) := by
  refine SndI.of tX10_cut (by decide +kernel) rfl rfl ?_ ?_
  · intro as w x h
    obtain ⟨t1, rfl, h_1⟩ := xS1_some h
    obtain ⟨a1, t2, rfl, h_2⟩ := xI1_some h_1
    obtain ⟨rfl, h_3⟩ := xN1_some h_2
    clear h h_1 h_2
    have h := h_3
    rw [callW_eq] at h
    exact ⟨fun _ => ⟨_, _, _, rfl, rfl, _, rfl, rfl⟩, rfl, Nat.le_of_ble_eq_true rfl⟩
  · intro X G hn hR as w r h hr
    have hC := crX10_cut (N := N) G hR
    obtain ⟨t1, rfl, h_1⟩ := xS1_some h
    obtain ⟨a1, t2, rfl, h_2⟩ := xI1_some h_1
    obtain ⟨rfl, h_3⟩ := xN1_some h_2
    clear h h_1 h_2
    have h := h_3
    rw [callW_eq] at h
    refine run_sound (r := r) (X := X) (cc := cX10_cut) (own := RX10) (tab := tX10_cut) G (by rw [hn]; exact kX10_cut) (oI := (oF [(mX10_byteAt N), (mX10_isLetter N), (mX10_cutWord N), (mX10_isDigit N), (mX10_cutNumber N), (mX10_cutSign N)])) (oL := (oF [])) (oV := (oF [])) (rI := (fun x w => some (x, w))) (rL := (fun _ _ => none)) (rV := (fun _ => none))
      (K := (fun j ls st w => none)) (fun x w pc ls hx hd => hr x w pc ls (Option.some.inj hx) hd) (fun _ _ _ _ hx => by cases hx) (fun _ _ _ hx => by cases hx) hC (fun ls => lsb [some (.inr (.inr (14, 0))), some (.inl a1), none] 0 ls) (keepsP_of rfl) ?_ 34 0 [some (.inr (.inr (14, 0))), some (.inl a1), none] [] w ?_ h
    · intro j ls st w hfx h
      obtain ⟨e0, e1, -⟩ : _ = _ ∧ _ = _ ∧ True := hfx
      try dsimp only at h
      cases h
    · exact (show _ = _ ∧ _ = _ ∧ True from ⟨rfl, rfl, trivial⟩)
-- MoorGuides$Tokens.begin([BI)V
def tX10_begin : List EN := [
  (0, .aload_n 0, 0, 0, 0, 0, 0, []), (1, .aload_n 1, 0, 0, 0, 0, 0, []), (2, .putfield 25, 0, 10, 6, 0, 0, []), (5, .aload_n 0, 0, 0, 0, 0, 0, []),
  (6, .iload_n 2, 0, 0, 0, 0, 0, []), (7, .aload_n 1, 0, 0, 0, 0, 0, []), (8, .arraylength, 0, 0, 0, 0, 0, []), (9, .invokestatic 41, 0, 0, 2, 0, 0, []),
  (12, .sipush 900, 0, 0, 0, 900, 0, []), (15, .invokestatic 41, 0, 0, 2, 0, 0, []), (18, .putfield 47, 0, 10, 7, 0, 0, []), (21, .aload_n 0, 0, 0, 0, 0, 0, []),
  (22, .iconst 0, 0, 0, 0, 0, 0, []), (23, .putfield 50, 0, 10, 4, 0, 0, []), (26, .iconst 0, 0, 0, 0, 0, 0, []), (27, .istore_n 3, 0, 0, 0, 0, 0, []),
  (28, .iconst 0, 0, 0, 0, 0, 0, []), (29, .istore 4, 0, 0, 0, 0, 0, []), (31, .iload 4, 19, 0, 0, 0, 0, []), (33, .aload_n 0, 0, 0, 0, 0, 0, []),
  (34, .getfield 47, 0, 10, 7, 0, 0, []), (37, .if_icmp .ge 23, 0, 32, 0, 0, 0, []), (40, .iload_n 3, 0, 0, 0, 0, 0, []), (41, .aload_n 0, 0, 0, 0, 0, 0, []),
  (42, .getfield 47, 0, 10, 7, 0, 0, []), (45, .if_icmp .ge 15, 0, 32, 0, 0, 0, []), (48, .aload_n 0, 0, 0, 0, 0, 0, []), (49, .iload_n 3, 0, 0, 0, 0, 0, []),
  (50, .invokevirtual 53, 0, 1, 2, 0, 0, []), (53, .istore_n 3, 0, 0, 0, 0, 0, []), (54, .iinc 4 1, 0, 0, 0, 1, 0, []), (57, .goto (-26), 0, 18, 0, 0, 0, []),
  (60, .aload_n 0, 33, 0, 0, 0, 0, []), (61, .iconst (-1), 0, 0, 0, (-1), 0, []), (62, .aload_n 0, 0, 0, 0, 0, 0, []), (63, .getfield 47, 0, 10, 7, 0, 0, []),
  (66, .iconst 0, 0, 0, 0, 0, 0, []), (67, .invokevirtual 57, 0, 0, 4, 0, 0, [(0, 0), (0, 0)]), (70, .aload_n 0, 0, 0, 0, 0, 0, []), (71, .iconst 0, 0, 0, 0, 0, 0, []),
  (72, .putfield 61, 0, 10, 5, 0, 0, []), (75, .aload_n 0, 0, 0, 0, 0, 0, []), (76, .invokevirtual 64, 0, 1, 1, 0, 0, [(0, 0), (0, 0)]), (79, .return_, 0, 0, 0, 0, 0, [])]
noncomputable def fX10_begin_32 (N : Nat) (w : Wd) : Option (Wd) :=
  (callW (pX10_add N (-1 : Int32) (gI w 14 0 7) (0 : Int32)) w).bind fun w1 =>
  (callW (pX10_advance N) (setI w1 14 0 5 (0 : Int32))).bind fun w2 =>
  some w2
noncomputable def fX10_begin_18 (N : Nat) : Nat → (Wd → Option (Wd)) → Int32 → Int32 → Wd → Option (Wd)
  | 0, _, _, _, _ => none
  | n + 1, k32, v3, v4, w =>
    if v4 < (gI w 14 0 7) then
      if v3 < (gI w 14 0 7) then
        (callW (pX10_cut N v3) w).bind fun r1 =>
        callW (fX10_begin_18 N n k32 r1.1 (v4 + (1 : Int32))) r1.2
      else
      k32 w
    else
    k32 w
noncomputable def pX10_begin (N : Nat) (i1 : Nat) (a2 : Int32) (w : Wd) : Option (Wd) :=
  (callW (pJ9_min_7cf53 N a2 (Int32.ofNat (ln 3 i1))) (setR w 14 0 6 i1)).bind fun r1 =>
  (callW (pJ9_min_7cf53 N r1.1 (900 : Int32)) r1.2).bind fun r2 =>
  callW (fX10_begin_18 N N (fX10_begin_32 N) (0 : Int32) (0 : Int32)) (setI (setI r2.2 14 0 7 r2.1) 14 0 4 (0 : Int32))
noncomputable def mX10_begin (N : Nat) (as : List AV) (w : Wd) : Option (Wd) := xS1 14 as fun t => xR1 3 t fun i1 t => xI1 t fun a2 t => xN1 t (callW (pX10_begin N i1 a2) w)
set_option maxRecDepth 100000 in
set_option maxHeartbeats 4000000 in
theorem kX10_begin : TK cX10_begin RX10 5 tX10_begin := ⟨by decide +kernel, wok_of [433, 434, 431, 434, 434, 434, 432] (by decide +kernel) (by decide +kernel)⟩
set_option maxRecDepth 100000 in
set_option maxHeartbeats 4000000 in
theorem sX10_begin_32 {N : Nat} {X : XT} (G : GX X cX10_begin RX10) (hn : xnL X = 5) (hC : CRs X tX10_begin (oF [(mJ9_min_7cf53 N), (mX10_cut N)]) (oF []) (oF [(mX10_add N), (mX10_advance N)])) {r : Wd} (hr : RTV X cX10_begin r) (i1 : Nat) (a2 : Int32) : ∀ (w : Wd), fX10_begin_32 N w = some r → WW X (pcAt tX10_begin 32) [some (.inr (.inr (14, 0))), some (.inr (.inr (3, i1))), some (.inl a2), none, none] [] w := by
  intro w h
  refine run_sound (r := r) (X := X) (cc := cX10_begin) (own := RX10) (tab := tX10_begin) G (by rw [hn]; exact kX10_begin) (oI := (oF [(mJ9_min_7cf53 N), (mX10_cut N)])) (oL := (oF [])) (oV := (oF [(mX10_add N), (mX10_advance N)])) (rI := (fun _ _ => none)) (rL := (fun _ _ => none)) (rV := (fun w => some w))
    (K := (fun j ls st w => none)) (fun _ _ _ _ hx => by cases hx) (fun _ _ _ _ hx => by cases hx) (fun w pc ls hx hd => hr w pc ls (Option.some.inj hx) hd) hC (fun ls => lsb [some (.inr (.inr (14, 0))), some (.inr (.inr (3, i1))), some (.inl a2), none, none] 0 ls) (keepsP_of rfl) ?_ 46 32 [some (.inr (.inr (14, 0))), some (.inr (.inr (3, i1))), some (.inl a2), none, none] [] w ?_ h
  · intro j ls st w hfx h
    obtain ⟨e0, e1, e2, -⟩ : _ = _ ∧ _ = _ ∧ _ = _ ∧ True := hfx
    try dsimp only at h
    cases h
  · exact (show _ = _ ∧ _ = _ ∧ _ = _ ∧ True from ⟨rfl, rfl, rfl, trivial⟩)
set_option maxRecDepth 100000 in
set_option maxHeartbeats 4000000 in
theorem sX10_begin_18 {N : Nat} {X : XT} (G : GX X cX10_begin RX10) (hn : xnL X = 5) (hC : CRs X tX10_begin (oF [(mJ9_min_7cf53 N), (mX10_cut N)]) (oF []) (oF [(mX10_add N), (mX10_advance N)])) {r : Wd} (hr : RTV X cX10_begin r) (i1 : Nat) (a2 : Int32) : ∀ (n : Nat) (k32 : Wd → Option (Wd)) (v3 : Int32) (v4 : Int32) (w : Wd), fX10_begin_18 N n k32 v3 v4 w = some r → (∀ (w : Wd), k32 w = some r → WW X (pcAt tX10_begin 32) [some (.inr (.inr (14, 0))), some (.inr (.inr (3, i1))), some (.inl a2), none, none] [] w) → WW X (pcAt tX10_begin 18) [some (.inr (.inr (14, 0))), some (.inr (.inr (3, i1))), some (.inl a2), some (.inl v3), some (.inl v4)] [] w := by
  intro n
  induction n with
  | zero => intro k32 v3 v4 w h h32; cases h
  | succ n ih =>
    intro k32 v3 v4 w h h32
    refine run_sound (r := r) (X := X) (cc := cX10_begin) (own := RX10) (tab := tX10_begin) G (by rw [hn]; exact kX10_begin) (oI := (oF [(mJ9_min_7cf53 N), (mX10_cut N)])) (oL := (oF [])) (oV := (oF [(mX10_add N), (mX10_advance N)])) (rI := (fun _ _ => none)) (rL := (fun _ _ => none)) (rV := (fun w => some w))
      (K := (fun j ls st w => if j = 18 then (lgI ls 3 fun v3 => lgI ls 4 fun v4 => st0 st (callW (fX10_begin_18 N n k32 v3 v4) w)) else if j = 32 then (st0 st (k32 w)) else none)) (fun _ _ _ _ hx => by cases hx) (fun _ _ _ _ hx => by cases hx) (fun w pc ls hx hd => hr w pc ls (Option.some.inj hx) hd) hC (fun ls => lsb [some (.inr (.inr (14, 0))), some (.inr (.inr (3, i1))), some (.inl a2), none, none] 0 ls) (keepsP_of rfl) ?_ 46 18 [some (.inr (.inr (14, 0))), some (.inr (.inr (3, i1))), some (.inl a2), some (.inl v3), some (.inl v4)] [] w ?_ h
    · intro j ls st w hfx h
      obtain ⟨e0, e1, e2, -⟩ : _ = _ ∧ _ = _ ∧ _ = _ ∧ True := hfx
      try dsimp only at h
      by_cases hj : j = 18
      · subst hj
        rw [if_pos rfl] at h
        obtain ⟨v3, e3, h_1⟩ := lgI_some h
        obtain ⟨v4, e4, h_2⟩ := lgI_some h_1
        obtain ⟨rfl, h_3⟩ := st0_some h_2
        clear h h_1 h_2
        have h := h_3
        try rw [callW_eq] at h
        exact WW.le (a := [some (.inr (.inr (14, 0))), some (.inr (.inr (3, i1))), some (.inl a2), some (.inl v3), some (.inl v4)]) (by rw [hn]; rfl) (show _ = _ ∧ _ = _ ∧ _ = _ ∧ _ = _ ∧ _ = _ ∧ True from ⟨e0, e1, e2, e3, e4, trivial⟩) (ih k32 v3 v4 w h h32)
      rw [if_neg hj] at h
      by_cases hj : j = 32
      · subst hj
        rw [if_pos rfl] at h
        obtain ⟨rfl, h_1⟩ := st0_some h
        clear h
        have h := h_1
        try rw [callW_eq] at h
        exact WW.le (a := [some (.inr (.inr (14, 0))), some (.inr (.inr (3, i1))), some (.inl a2), none, none]) (by rw [hn]; rfl) (show _ = _ ∧ _ = _ ∧ _ = _ ∧ True from ⟨e0, e1, e2, trivial⟩) (h32 w h)
      rw [if_neg hj] at h
      cases h
    · exact (show _ = _ ∧ _ = _ ∧ _ = _ ∧ True from ⟨rfl, rfl, rfl, trivial⟩)
set_option maxRecDepth 100000 in
set_option maxHeartbeats 4000000 in
theorem crX10_begin {N : Nat} {X : XT} (G : GX X cX10_begin RX10) (hR : xR X = rmL 8) : CRs X tX10_begin (oF [(mJ9_min_7cf53 N), (mX10_cut N)]) (oF []) (oF [(mX10_add N), (mX10_advance N)]) := by
  have hl : tX10_begin.filter isInv = [(9, .invokestatic 41, 0, 0, 2, 0, 0, []), (15, .invokestatic 41, 0, 0, 2, 0, 0, []), (50, .invokevirtual 53, 0, 1, 2, 0, 0, []), (67, .invokevirtual 57, 0, 0, 4, 0, 0, [(0, 0), (0, 0)]), (76, .invokevirtual 64, 0, 1, 1, 0, 0, [(0, 0), (0, 0)])] := rfl
  intro e he
  rw [hl] at he
  simp only [List.mem_cons, List.not_mem_nil, or_false] at he
  rcases he with rfl | rfl | rfl | rfl | rfl
  · exact crI_S (idx := 41) G (by decide +kernel) (MJ9_min_7cf53 N) (cw_of (ps := [802, 803, 163, 804]) (by decide +kernel) (by decide +kernel)) ⟨by decide +kernel, by decide +kernel, by decide +kernel⟩ (by unfold rmOk; rw [hR]; exact ⟨by decide, by decide⟩)
  · exact crI_S (idx := 41) G (by decide +kernel) (MJ9_min_7cf53 N) (cw_of (ps := [802, 803, 163, 804]) (by decide +kernel) (by decide +kernel)) ⟨by decide +kernel, by decide +kernel, by decide +kernel⟩ (by unfold rmOk; rw [hR]; exact ⟨by decide, by decide⟩)
  · exact crI_V (idx := 53) G (by decide +kernel) (MX10_cut N) (cw_of (ps := [805, 807, 1, 151, 808]) (by decide +kernel) (by decide +kernel)) ⟨by decide +kernel, by decide +kernel, by decide +kernel⟩ (by unfold rmOk; rw [hR]; exact ⟨by decide, by decide⟩)
  · exact crV_V (idx := 57) G (by decide +kernel) (MX10_add N) (cw_of (ps := [824, 826, 5, 151, 827]) (by decide +kernel) (by decide +kernel)) ⟨by decide +kernel, by decide +kernel, by decide +kernel⟩ (by unfold rmOk; rw [hR]; exact ⟨by decide, by decide⟩)
  · exact crV_V (idx := 64) G (by decide +kernel) (MX10_advance N) (cw_of (ps := [841, 842, 843, 151, 844]) (by decide +kernel) (by decide +kernel)) ⟨by decide +kernel, by decide +kernel, by decide +kernel⟩ (by unfold rmOk; rw [hR]; exact ⟨by decide, by decide⟩)
set_option maxRecDepth 100000 in
set_option maxHeartbeats 4000000 in
theorem MX10_begin (N : Nat) : SndV yX10_begin cX10_begin 5 none 8 3 true (mX10_begin N) := by
  refine SndV.of tX10_begin (by decide +kernel) rfl rfl ?_ ?_
  · intro as w x h
    obtain ⟨t1, rfl, h_1⟩ := xS1_some h
    obtain ⟨i1, t2, rfl, h_2⟩ := xR1_some h_1
    obtain ⟨a2, t3, rfl, h_3⟩ := xI1_some h_2
    obtain ⟨rfl, h_4⟩ := xN1_some h_3
    clear h h_1 h_2 h_3
    have h := h_4
    rw [callW_eq] at h
    exact ⟨fun _ => ⟨_, _, _, rfl, rfl, _, rfl, rfl⟩, rfl, Nat.le_of_ble_eq_true rfl⟩
  · intro X G hn hR as w r h hr
    have hC := crX10_begin (N := N) G hR
    obtain ⟨t1, rfl, h_1⟩ := xS1_some h
    obtain ⟨i1, t2, rfl, h_2⟩ := xR1_some h_1
    obtain ⟨a2, t3, rfl, h_3⟩ := xI1_some h_2
    obtain ⟨rfl, h_4⟩ := xN1_some h_3
    clear h h_1 h_2 h_3
    have h := h_4
    rw [callW_eq] at h
    refine run_sound (r := r) (X := X) (cc := cX10_begin) (own := RX10) (tab := tX10_begin) G (by rw [hn]; exact kX10_begin) (oI := (oF [(mJ9_min_7cf53 N), (mX10_cut N)])) (oL := (oF [])) (oV := (oF [(mX10_add N), (mX10_advance N)])) (rI := (fun _ _ => none)) (rL := (fun _ _ => none)) (rV := (fun w => some w))
      (K := (fun j ls st w => if j = 18 then (lgI ls 3 fun v3 => lgI ls 4 fun v4 => st0 st (callW (fX10_begin_18 N N (fX10_begin_32 N) v3 v4) w)) else none)) (fun _ _ _ _ hx => by cases hx) (fun _ _ _ _ hx => by cases hx) (fun w pc ls hx hd => hr w pc ls (Option.some.inj hx) hd) hC (fun ls => lsb [some (.inr (.inr (14, 0))), some (.inr (.inr (3, i1))), some (.inl a2), none, none] 0 ls) (keepsP_of rfl) ?_ 46 0 [some (.inr (.inr (14, 0))), some (.inr (.inr (3, i1))), some (.inl a2), none, none] [] w ?_ h
    · intro j ls st w hfx h
      obtain ⟨e0, e1, e2, -⟩ : _ = _ ∧ _ = _ ∧ _ = _ ∧ True := hfx
      try dsimp only at h
      by_cases hj : j = 18
      · subst hj
        rw [if_pos rfl] at h
        obtain ⟨v3, e3, h_1⟩ := lgI_some h
        obtain ⟨v4, e4, h_2⟩ := lgI_some h_1
        obtain ⟨rfl, h_3⟩ := st0_some h_2
        clear h h_1 h_2
        have h := h_3
        try rw [callW_eq] at h
        exact WW.le (a := [some (.inr (.inr (14, 0))), some (.inr (.inr (3, i1))), some (.inl a2), some (.inl v3), some (.inl v4)]) (by rw [hn]; rfl) (show _ = _ ∧ _ = _ ∧ _ = _ ∧ _ = _ ∧ _ = _ ∧ True from ⟨e0, e1, e2, e3, e4, trivial⟩) (sX10_begin_18 G hn hC hr i1 a2 N (fX10_begin_32 N) v3 v4 w h (fun w h => (sX10_begin_32 G hn hC hr i1 a2 w h)))
      rw [if_neg hj] at h
      cases h
    · exact (show _ = _ ∧ _ = _ ∧ _ = _ ∧ True from ⟨rfl, rfl, rfl, trivial⟩)
-- MoorGuides$Reader.readText([BILMoorGuides$Moor;)Z
def tX7_readText : List EN := [
  (0, .aload_n 0, 0, 0, 0, 0, 0, []), (1, .aload_n 3, 0, 0, 0, 0, 0, []), (2, .putfield 26, 0, 7, 1, 0, 0, []), (5, .aload_n 0, 0, 0, 0, 0, 0, []),
  (6, .iconst 0, 0, 0, 0, 0, 0, []), (7, .putfield 30, 0, 7, 7, 0, 0, []), (10, .aload_n 0, 0, 0, 0, 0, 0, []), (11, .iconst 0, 0, 0, 0, 0, 0, []),
  (12, .putfield 33, 0, 7, 8, 0, 0, []), (15, .aload_n 0, 0, 0, 0, 0, 0, []), (16, .iconst (-1), 0, 0, 0, (-1), 0, []), (17, .putfield 22, 0, 7, 9, 0, 0, []),
  (20, .aload_n 0, 0, 0, 0, 0, 0, []), (21, .iconst 0, 0, 0, 0, 0, 0, []), (22, .putfield 36, 0, 7, 2, 0, 0, [(0, 0)]), (25, .aload_n 0, 0, 0, 0, 0, 0, []),
  (26, .iconst 0, 0, 0, 0, 0, 0, []), (27, .putfield 40, 0, 7, 3, 0, 0, [(0, 0)]), (30, .aload_n 0, 0, 0, 0, 0, 0, []), (31, .getfield 12, 0, 7, 0, 0, 0, []),
  (34, .aload_n 1, 0, 0, 0, 0, 0, []), (35, .iload_n 2, 0, 0, 0, 0, 0, []), (36, .invokevirtual 43, 0, 0, 3, 0, 0, [(0, 0), (0, 0)]), (39, .iconst 0, 0, 0, 0, 0, 0, []),
  (40, .istore 4, 0, 0, 0, 0, 0, []), (42, .iload 4, 26, 0, 0, 0, 0, []), (44, .iload_n 2, 0, 0, 0, 0, 0, []), (45, .if_icmp .gt 48, 0, 50, 0, 0, 0, []),
  (48, .aload_n 0, 0, 0, 0, 0, 0, []), (49, .getfield 12, 0, 7, 0, 0, 0, []), (52, .getfield 47, 0, 10, 8, 0, 0, []), (55, .iconst (-1), 0, 0, 0, (-1), 0, []),
  (56, .if_icmp .eq 37, 0, 50, 0, 0, 0, []), (59, .aload_n 0, 0, 0, 0, 0, 0, []), (60, .invokevirtual 50, 0, 0, 1, 0, 0, []), (63, .ifCond .eq 12, 0, 40, 0, 0, 0, []),
  (66, .aload_n 0, 0, 0, 0, 0, 0, []), (67, .bipush 32, 0, 0, 0, 32, 0, []), (69, .invokevirtual 54, 0, 1, 2, 0, 0, []), (72, .ifCond .ne 5, 0, 42, 0, 0, 0, []),
  (75, .iconst 0, 0, 0, 0, 0, 0, []), (76, .ireturn, 0, 0, 0, 0, 0, []), (77, .aload_n 0, 0, 0, 0, 0, 0, []), (78, .dup, 0, 0, 0, 0, 0, []),
  (79, .getfield 30, 0, 7, 7, 0, 0, []), (82, .iconst 1, 0, 0, 0, 1, 0, []), (83, .iadd, 0, 0, 0, 0, 0, []), (84, .putfield 30, 0, 7, 7, 0, 0, []),
  (87, .iinc 4 1, 0, 0, 0, 1, 0, []), (90, .goto (-48), 0, 25, 0, 0, 0, []), (93, .iconst 1, 0, 0, 0, 1, 0, []), (94, .ireturn, 0, 0, 0, 0, 0, [])]
noncomputable def fX7_readText_25 (N : Nat) (a2 : Int32) : Nat → Int32 → Wd → Option (Int32 × Wd)
  | 0, _, _ => none
  | n + 1, v4, w =>
    if a2 < v4 then some ((1 : Int32), w) else
    if (gI w 14 0 8) = (-1 : Int32) then some ((1 : Int32), w) else
    (callW (pX7_readLine N) w).bind fun r1 =>
    if r1.1 = 0 then some ((0 : Int32), r1.2) else
    (callW (pX7_pass N (32 : Int32)) r1.2).bind fun r2 =>
    if r2.1 = 0 then some ((0 : Int32), r2.2) else
    callW (fX7_readText_25 N a2 n (v4 + (1 : Int32))) (setI r2.2 11 0 7 ((gI r2.2 11 0 7) + (1 : Int32)))
noncomputable def pX7_readText (N : Nat) (i1 : Nat) (a2 : Int32) (i3 : Nat) (w : Wd) : Option (Int32 × Wd) :=
  (callW (pX10_begin N i1 a2) (setI (setI (setI (setI (setI (setR w 11 0 1 i3) 11 0 7 (0 : Int32)) 11 0 8 (0 : Int32)) 11 0 9 (-1 : Int32)) 11 0 2 (0 : Int32)) 11 0 3 (0 : Int32))).bind fun w1 =>
  callW (fX7_readText_25 N a2 N (0 : Int32)) w1
noncomputable def mX7_readText (N : Nat) (as : List AV) (w : Wd) : Option (Int32 × Wd) := xS1 11 as fun t => xR1 3 t fun i1 t => xI1 t fun a2 t => xR1 8 t fun i3 t => xN1 t (callW (pX7_readText N i1 a2 i3) w)
set_option maxRecDepth 100000 in
set_option maxHeartbeats 4000000 in
theorem kX7_readText : TK cX7_readText RX7 5 tX7_readText := ⟨by decide +kernel, wok_of [465, 471, 473, 475, 466, 467, 464, 464, 435, 471, 471] (by decide +kernel) (by decide +kernel)⟩
set_option maxRecDepth 100000 in
set_option maxHeartbeats 4000000 in
theorem sX7_readText_25 {N : Nat} {X : XT} (G : GX X cX7_readText RX7) (hn : xnL X = 5) (hC : CRs X tX7_readText (oF [(mX7_readLine N), (mX7_pass N)]) (oF []) (oF [(mX10_begin N)])) {r : Int32 × Wd} (hr : RTZ X cX7_readText r) (i1 : Nat) (a2 : Int32) (i3 : Nat) : ∀ (n : Nat) (v4 : Int32) (w : Wd), fX7_readText_25 N a2 n v4 w = some r → WW X (pcAt tX7_readText 25) [some (.inr (.inr (11, 0))), some (.inr (.inr (3, i1))), some (.inl a2), some (.inr (.inr (8, i3))), some (.inl v4)] [] w := by
  intro n
  induction n with
  | zero => intro v4 w h; cases h
  | succ n ih =>
    intro v4 w h
    refine run_sound (r := r) (X := X) (cc := cX7_readText) (own := RX7) (tab := tX7_readText) G (by rw [hn]; exact kX7_readText) (oI := (oF [(mX7_readLine N), (mX7_pass N)])) (oL := (oF [])) (oV := (oF [(mX10_begin N)])) (rI := retZ) (rL := (fun _ _ => none)) (rV := (fun _ => none))
      (K := (fun j ls st w => if j = 25 then (lgI ls 4 fun v4 => st0 st (callW (fX7_readText_25 N a2 n v4) w)) else none)) hr (fun _ _ _ _ hx => by cases hx) (fun _ _ _ hx => by cases hx) hC (fun ls => lsb [some (.inr (.inr (11, 0))), some (.inr (.inr (3, i1))), some (.inl a2), some (.inr (.inr (8, i3))), none] 0 ls) (keepsP_of rfl) ?_ 54 25 [some (.inr (.inr (11, 0))), some (.inr (.inr (3, i1))), some (.inl a2), some (.inr (.inr (8, i3))), some (.inl v4)] [] w ?_ h
    · intro j ls st w hfx h
      obtain ⟨e0, e1, e2, e3, -⟩ : _ = _ ∧ _ = _ ∧ _ = _ ∧ _ = _ ∧ True := hfx
      try dsimp only at h
      by_cases hj : j = 25
      · subst hj
        rw [if_pos rfl] at h
        obtain ⟨v4, e4, h_1⟩ := lgI_some h
        obtain ⟨rfl, h_2⟩ := st0_some h_1
        clear h h_1
        have h := h_2
        try rw [callW_eq] at h
        exact WW.le (a := [some (.inr (.inr (11, 0))), some (.inr (.inr (3, i1))), some (.inl a2), some (.inr (.inr (8, i3))), some (.inl v4)]) (by rw [hn]; rfl) (show _ = _ ∧ _ = _ ∧ _ = _ ∧ _ = _ ∧ _ = _ ∧ True from ⟨e0, e1, e2, e3, e4, trivial⟩) (ih v4 w h)
      rw [if_neg hj] at h
      cases h
    · exact (show _ = _ ∧ _ = _ ∧ _ = _ ∧ _ = _ ∧ True from ⟨rfl, rfl, rfl, rfl, trivial⟩)
set_option maxRecDepth 100000 in
set_option maxHeartbeats 4000000 in
theorem crX7_readText {N : Nat} {X : XT} (G : GX X cX7_readText RX7) (hR : xR X = rmL 9) : CRs X tX7_readText (oF [(mX7_readLine N), (mX7_pass N)]) (oF []) (oF [(mX10_begin N)]) := by
  have hl : tX7_readText.filter isInv = [(36, .invokevirtual 43, 0, 0, 3, 0, 0, [(0, 0), (0, 0)]), (60, .invokevirtual 50, 0, 0, 1, 0, 0, []), (69, .invokevirtual 54, 0, 1, 2, 0, 0, [])] := rfl
  intro e he
  rw [hl] at he
  simp only [List.mem_cons, List.not_mem_nil, or_false] at he
  rcases he with rfl | rfl | rfl
  · exact crV_V (idx := 43) G (by decide +kernel) (MX10_begin N) (cw_of (ps := [798, 799, 800, 151, 801]) (by decide +kernel) (by decide +kernel)) ⟨by decide +kernel, by decide +kernel, by decide +kernel⟩ (by unfold rmOk; rw [hR]; exact ⟨by decide, by decide⟩)
  · exact crI_V (idx := 50) G (by decide +kernel) (MX7_readLine N) (cw_of (ps := [845, 847, 8, 150, 848]) (by decide +kernel) (by decide +kernel)) ⟨by decide +kernel, by decide +kernel, by decide +kernel⟩ (by unfold rmOk; rw [hR]; exact ⟨by decide, by decide⟩)
  · exact crI_V (idx := 54) G (by decide +kernel) (MX7_pass N) (cw_of (ps := [926, 928, 24, 150, 929]) (by decide +kernel) (by decide +kernel)) ⟨by decide +kernel, by decide +kernel, by decide +kernel⟩ (by unfold rmOk; rw [hR]; exact ⟨by decide, by decide⟩)
set_option maxRecDepth 100000 in
set_option maxHeartbeats 4000000 in
theorem MX7_readText (N : Nat) : SndI yX7_readText cX7_readText 5 (some .boolean) 9 4 true (mX7_readText N) := by
  refine SndI.ofZ tX7_readText (by decide +kernel) rfl rfl ?_ ?_
  · intro as w x h
    obtain ⟨t1, rfl, h_1⟩ := xS1_some h
    obtain ⟨i1, t2, rfl, h_2⟩ := xR1_some h_1
    obtain ⟨a2, t3, rfl, h_3⟩ := xI1_some h_2
    obtain ⟨i3, t4, rfl, h_4⟩ := xR1_some h_3
    obtain ⟨rfl, h_5⟩ := xN1_some h_4
    clear h h_1 h_2 h_3 h_4
    have h := h_5
    rw [callW_eq] at h
    exact ⟨fun _ => ⟨_, _, _, rfl, rfl, _, rfl, rfl⟩, rfl, Nat.le_of_ble_eq_true rfl⟩
  · intro X G hn hR as w r h hr
    have hC := crX7_readText (N := N) G hR
    obtain ⟨t1, rfl, h_1⟩ := xS1_some h
    obtain ⟨i1, t2, rfl, h_2⟩ := xR1_some h_1
    obtain ⟨a2, t3, rfl, h_3⟩ := xI1_some h_2
    obtain ⟨i3, t4, rfl, h_4⟩ := xR1_some h_3
    obtain ⟨rfl, h_5⟩ := xN1_some h_4
    clear h h_1 h_2 h_3 h_4
    have h := h_5
    rw [callW_eq] at h
    refine run_sound (r := r) (X := X) (cc := cX7_readText) (own := RX7) (tab := tX7_readText) G (by rw [hn]; exact kX7_readText) (oI := (oF [(mX7_readLine N), (mX7_pass N)])) (oL := (oF [])) (oV := (oF [(mX10_begin N)])) (rI := retZ) (rL := (fun _ _ => none)) (rV := (fun _ => none))
      (K := (fun j ls st w => if j = 25 then (lgI ls 4 fun v4 => st0 st (callW (fX7_readText_25 N a2 N v4) w)) else none)) hr (fun _ _ _ _ hx => by cases hx) (fun _ _ _ hx => by cases hx) hC (fun ls => lsb [some (.inr (.inr (11, 0))), some (.inr (.inr (3, i1))), some (.inl a2), some (.inr (.inr (8, i3))), none] 0 ls) (keepsP_of rfl) ?_ 54 0 [some (.inr (.inr (11, 0))), some (.inr (.inr (3, i1))), some (.inl a2), some (.inr (.inr (8, i3))), none] [] w ?_ h
    · intro j ls st w hfx h
      obtain ⟨e0, e1, e2, e3, -⟩ : _ = _ ∧ _ = _ ∧ _ = _ ∧ _ = _ ∧ True := hfx
      try dsimp only at h
      by_cases hj : j = 25
      · subst hj
        rw [if_pos rfl] at h
        obtain ⟨v4, e4, h_1⟩ := lgI_some h
        obtain ⟨rfl, h_2⟩ := st0_some h_1
        clear h h_1
        have h := h_2
        try rw [callW_eq] at h
        exact WW.le (a := [some (.inr (.inr (11, 0))), some (.inr (.inr (3, i1))), some (.inl a2), some (.inr (.inr (8, i3))), some (.inl v4)]) (by rw [hn]; rfl) (show _ = _ ∧ _ = _ ∧ _ = _ ∧ _ = _ ∧ _ = _ ∧ True from ⟨e0, e1, e2, e3, e4, trivial⟩) (sX7_readText_25 G hn hC hr i1 a2 i3 N v4 w h)
      rw [if_neg hj] at h
      cases h
    · exact (show _ = _ ∧ _ = _ ∧ _ = _ ∧ _ = _ ∧ True from ⟨rfl, rfl, rfl, rfl, trivial⟩)
-- MoorGuides.text(I)I
def tX11_text : List EN := [
  (0, .iload_n 1, 0, 0, 0, 0, 0, []), (1, .ifCond .lt 11, 0, 6, 0, 0, 0, []), (4, .iload_n 1, 0, 0, 0, 0, 0, []), (5, .aload_n 0, 0, 0, 0, 0, 0, []),
  (6, .getfield 86, 0, 11, 1, 0, 0, []), (9, .if_icmp .le 6, 0, 8, 0, 0, 0, []), (12, .bipush (-2), 0, 0, 0, (-2), 0, []), (14, .ireturn, 0, 0, 0, 0, 0, []),
  (15, .aload_n 0, 0, 0, 0, 0, 0, []), (16, .iconst 0, 0, 0, 0, 0, 0, []), (17, .putfield 86, 0, 11, 1, 0, 0, []), (20, .aload_n 0, 0, 0, 0, 0, 0, []),
  (21, .getfield 20, 0, 11, 3, 0, 0, []), (24, .invokevirtual 94, 0, 0, 1, 0, 0, [(0, 0), (0, 0)]), (27, .aload_n 0, 0, 0, 0, 0, 0, []), (28, .getfield 28, 0, 11, 4, 0, 0, []),
  (31, .aload_n 0, 0, 0, 0, 0, 0, []), (32, .getfield 9, 0, 11, 0, 0, 0, []), (35, .iload_n 1, 0, 0, 0, 0, 0, []), (36, .aload_n 0, 0, 0, 0, 0, 0, []),
  (37, .getfield 20, 0, 11, 3, 0, 0, []), (40, .invokevirtual 97, 0, 0, 4, 0, 0, []), (43, .ifCond .ne 5, 0, 25, 0, 0, 0, []), (46, .iconst (-1), 0, 0, 0, (-1), 0, []),
  (47, .ireturn, 0, 0, 0, 0, 0, []), (48, .aload_n 0, 0, 0, 0, 0, 0, []), (49, .getfield 16, 0, 11, 2, 0, 0, []), (52, .astore_n 2, 0, 0, 0, 0, 0, []),
  (53, .aload_n 0, 0, 0, 0, 0, 0, []), (54, .aload_n 0, 0, 0, 0, 0, 0, []), (55, .getfield 20, 0, 11, 3, 0, 0, []), (58, .putfield 16, 0, 11, 2, 0, 0, []),
  (61, .aload_n 0, 0, 0, 0, 0, 0, []), (62, .aload_n 2, 0, 0, 0, 0, 0, []), (63, .putfield 20, 0, 11, 3, 0, 0, []), (66, .aload_n 0, 0, 0, 0, 0, 0, []),
  (67, .getfield 35, 0, 11, 5, 0, 0, []), (70, .aload_n 0, 0, 0, 0, 0, 0, []), (71, .getfield 16, 0, 11, 2, 0, 0, []), (74, .invokevirtual 101, 0, 1, 2, 0, 0, [(0, 0), (0, 0)]),
  (77, .aload_n 0, 0, 0, 0, 0, 0, []), (78, .getfield 82, 0, 11, 15, 0, 0, []), (81, .invokevirtual 104, 0, 2, 1, 0, 0, [(0, 0), (0, 0)]), (84, .aload_n 0, 0, 0, 0, 0, 0, []),
  (85, .iconst 0, 0, 0, 0, 0, 0, []), (86, .putfield 105, 0, 11, 7, 0, 0, [(0, 0)]), (89, .aload_n 0, 0, 0, 0, 0, 0, []), (90, .iconst 0, 0, 0, 0, 0, 0, []),
  (91, .putfield 109, 0, 11, 8, 0, 0, []), (94, .aload_n 0, 0, 0, 0, 0, 0, []), (95, .getfield 68, 0, 11, 13, 0, 0, []), (98, .invokevirtual 112, 0, 3, 1, 0, 0, [(0, 0), (0, 0)]),
  (101, .aload_n 0, 0, 0, 0, 0, 0, []), (102, .getfield 28, 0, 11, 4, 0, 0, []), (105, .getfield 115, 0, 7, 7, 0, 0, []), (108, .ireturn, 0, 0, 0, 0, 0, [])]
noncomputable def pX11_text (N : Nat) (a1 : Int32) (w : Wd) : Option (Int32 × Wd) :=
  if a1 < 0 then some ((-2 : Int32), w) else
  if (gI w 15 0 1) < a1 then some ((-2 : Int32), w) else
  (callW (pX4_clear N (gR (setI w 15 0 1 (0 : Int32)) 15 0 3)) (setI w 15 0 1 (0 : Int32))).bind fun w1 =>
  (callW (pX7_readText N 0 a1 (gR w1 15 0 3)) w1).bind fun r2 =>
  if r2.1 = 0 then some ((-1 : Int32), r2.2) else
  (callW (pX9_begin N 0 (gR (setR (setR r2.2 15 0 2 (gR r2.2 15 0 3)) 15 0 3 (gR r2.2 15 0 2)) 15 0 2)) (setR (setR r2.2 15 0 2 (gR r2.2 15 0 3)) 15 0 3 (gR r2.2 15 0 2))).bind fun w3 =>
  (callW (pX0_clear N) w3).bind fun w4 =>
  (callW (pX5_drop N) (setI (setI w4 15 0 7 (0 : Int32)) 15 0 8 (0 : Int32))).bind fun w5 =>
  some ((gI w5 11 0 7), w5)
noncomputable def mX11_text (N : Nat) (as : List AV) (w : Wd) : Option (Int32 × Wd) := xS1 15 as fun t => xI1 t fun a1 t => xN1 t (callW (pX11_text N a1) w)
set_option maxRecDepth 100000 in
set_option maxHeartbeats 4000000 in
theorem kX11_text : TK cX11_text RX11 3 tX11_text := ⟨by decide +kernel, wok_of [726, 726, 728, 729, 725, 728, 727, 728, 727, 728, 730, 727, 740, 732, 733, 738, 729, 472] (by decide +kernel) (by decide +kernel)⟩
set_option maxRecDepth 100000 in
set_option maxHeartbeats 4000000 in
theorem crX11_text {N : Nat} {X : XT} (G : GX X cX11_text RX11) (hR : xR X = rmL 10) : CRs X tX11_text (oF [(mX7_readText N)]) (oF []) (oF [(mX4_clear N), (mX9_begin N), (mX0_clear N), (mX5_drop N)]) := by
  have hl : tX11_text.filter isInv = [(24, .invokevirtual 94, 0, 0, 1, 0, 0, [(0, 0), (0, 0)]), (40, .invokevirtual 97, 0, 0, 4, 0, 0, []), (74, .invokevirtual 101, 0, 1, 2, 0, 0, [(0, 0), (0, 0)]), (81, .invokevirtual 104, 0, 2, 1, 0, 0, [(0, 0), (0, 0)]), (98, .invokevirtual 112, 0, 3, 1, 0, 0, [(0, 0), (0, 0)])] := rfl
  intro e he
  rw [hl] at he
  simp only [List.mem_cons, List.not_mem_nil, or_false] at he
  rcases he with rfl | rfl | rfl | rfl | rfl
  · exact crV_V (idx := 94) G (by decide +kernel) (MX4_clear N) (cw_of (ps := [786, 787, 788, 147, 789]) (by decide +kernel) (by decide +kernel)) ⟨by decide +kernel, by decide +kernel, by decide +kernel⟩ (by unfold rmOk; rw [hR]; exact ⟨by decide, by decide⟩)
  · exact crI_V (idx := 97) G (by decide +kernel) (MX7_readText N) (cw_of (ps := [794, 795, 796, 150, 797]) (by decide +kernel) (by decide +kernel)) ⟨by decide +kernel, by decide +kernel, by decide +kernel⟩ (by unfold rmOk; rw [hR]; exact ⟨by decide, by decide⟩)
  · exact crV_V (idx := 101) G (by decide +kernel) (MX9_begin N) (cw_of (ps := [982, 507, 508, 156, 509]) (by decide +kernel) (by decide +kernel)) ⟨by decide +kernel, by decide +kernel, by decide +kernel⟩ (by unfold rmOk; rw [hR]; exact ⟨by decide, by decide⟩)
  · exact crV_V (idx := 104) G (by decide +kernel) (MX0_clear N) (cw_of (ps := [983, 984, 985, 161, 986]) (by decide +kernel) (by decide +kernel)) ⟨by decide +kernel, by decide +kernel, by decide +kernel⟩ (by unfold rmOk; rw [hR]; exact ⟨by decide, by decide⟩)
  · exact crV_V (idx := 112) G (by decide +kernel) (MX5_drop N) (cw_of (ps := [987, 988, 989, 159, 990]) (by decide +kernel) (by decide +kernel)) ⟨by decide +kernel, by decide +kernel, by decide +kernel⟩ (by unfold rmOk; rw [hR]; exact ⟨by decide, by decide⟩)
set_option maxRecDepth 100000 in
set_option maxHeartbeats 4000000 in
theorem MX11_text (N : Nat) : SndI yX11_text cX11_text 3 (some .int) 10 2 true (mX11_text N) := by
  refine SndI.of tX11_text (by decide +kernel) rfl rfl ?_ ?_
  · intro as w x h
    obtain ⟨t1, rfl, h_1⟩ := xS1_some h
    obtain ⟨a1, t2, rfl, h_2⟩ := xI1_some h_1
    obtain ⟨rfl, h_3⟩ := xN1_some h_2
    clear h h_1 h_2
    have h := h_3
    rw [callW_eq] at h
    exact ⟨fun _ => ⟨_, _, _, rfl, rfl, _, rfl, rfl⟩, rfl, Nat.le_of_ble_eq_true rfl⟩
  · intro X G hn hR as w r h hr
    have hC := crX11_text (N := N) G hR
    obtain ⟨t1, rfl, h_1⟩ := xS1_some h
    obtain ⟨a1, t2, rfl, h_2⟩ := xI1_some h_1
    obtain ⟨rfl, h_3⟩ := xN1_some h_2
    clear h h_1 h_2
    have h := h_3
    rw [callW_eq] at h
    refine run_sound (r := r) (X := X) (cc := cX11_text) (own := RX11) (tab := tX11_text) G (by rw [hn]; exact kX11_text) (oI := (oF [(mX7_readText N)])) (oL := (oF [])) (oV := (oF [(mX4_clear N), (mX9_begin N), (mX0_clear N), (mX5_drop N)])) (rI := (fun x w => some (x, w))) (rL := (fun _ _ => none)) (rV := (fun _ => none))
      (K := (fun j ls st w => none)) (fun x w pc ls hx hd => hr x w pc ls (Option.some.inj hx) hd) (fun _ _ _ _ hx => by cases hx) (fun _ _ _ hx => by cases hx) hC (fun ls => lsb [some (.inr (.inr (15, 0))), some (.inl a1), none] 0 ls) (keepsP_of rfl) ?_ 58 0 [some (.inr (.inr (15, 0))), some (.inl a1), none] [] w ?_ h
    · intro j ls st w hfx h
      obtain ⟨e0, e1, -⟩ : _ = _ ∧ _ = _ ∧ True := hfx
      try dsimp only at h
      cases h
    · exact (show _ = _ ∧ _ = _ ∧ True from ⟨rfl, rfl, trivial⟩)

-- MoorGuides$Sharing.nameGuides(LMoorGuides$Moor;)V
def tX8_nameGuides : List EN := [
  (0, .bipush 63, 0, 0, 0, 63, 0, []), (2, .istore_n 2, 0, 0, 0, 0, 0, []), (3, .iconst 0, 0, 0, 0, 0, 0, []), (4, .istore_n 3, 0, 0, 0, 0, 0, []),
  (5, .iload_n 3, 5, 0, 0, 0, 0, []), (6, .aload_n 1, 0, 0, 0, 0, 0, []), (7, .getfield 40, 0, 4, 5, 0, 0, []), (10, .if_icmp .ge 116, 0, 81, 0, 0, 0, []),
  (13, .aload_n 0, 0, 0, 0, 0, 0, []), (14, .getfield 23, 0, 8, 4, 0, 0, []), (17, .iload_n 3, 0, 0, 0, 0, 0, []), (18, .bipush (-2), 0, 0, 0, (-2), 0, []),
  (20, .iastore, 0, 0, 0, 0, 0, []), (21, .aload_n 0, 0, 0, 0, 0, 0, []), (22, .getfield 16, 0, 8, 2, 0, 0, []), (25, .iload_n 3, 0, 0, 0, 0, 0, []),
  (26, .iaload, 0, 0, 0, 0, 0, []), (27, .iload_n 2, 0, 0, 0, 0, 0, []), (28, .iand, 0, 0, 0, 0, 0, []), (29, .istore 4, 0, 0, 0, 0, 0, []),
  (31, .iconst 5, 0, 0, 0, 5, 0, []), (32, .istore 5, 0, 0, 0, 0, 0, []), (34, .iload 5, 23, 0, 0, 0, 0, []), (36, .ifCond .lt 62, 0, 63, 0, 0, 0, []),
  (39, .iload 4, 0, 0, 0, 0, 0, []), (41, .iload 5, 0, 0, 0, 0, 0, []), (43, .ishr, 0, 0, 0, 0, 0, []), (44, .iconst 1, 0, 0, 0, 1, 0, []),
  (45, .iand, 0, 0, 0, 0, 0, []), (46, .ifCond .eq 46, 0, 61, 0, 0, 0, []), (49, .aload_n 0, 0, 0, 0, 0, 0, []), (50, .getfield 13, 0, 8, 1, 0, 0, []),
  (53, .iload_n 3, 0, 0, 0, 0, 0, []), (54, .aaload, 0, 0, 0, 0, 0, []), (55, .iload_n 2, 0, 0, 0, 0, 0, []), (56, .iaload, 0, 0, 0, 0, 0, []),
  (57, .aload_n 1, 0, 0, 0, 0, 0, []), (58, .getfield 46, 0, 4, 9, 0, 0, []), (61, .iload_n 3, 0, 0, 0, 0, 0, []), (62, .iaload, 0, 0, 0, 0, 0, []),
  (63, .aload_n 0, 0, 0, 0, 0, 0, []), (64, .getfield 13, 0, 8, 1, 0, 0, []), (67, .iload_n 3, 0, 0, 0, 0, 0, []), (68, .iconst 1, 0, 0, 0, 1, 0, []),
  (69, .iadd, 0, 0, 0, 0, 0, []), (70, .aaload, 0, 0, 0, 0, 0, []), (71, .iload_n 2, 0, 0, 0, 0, 0, []), (72, .iconst 1, 0, 0, 0, 1, 0, []),
  (73, .iload 5, 0, 0, 0, 0, 0, []), (75, .ishl, 0, 0, 0, 0, 0, []), (76, .iconst (-1), 0, 0, 0, (-1), 0, []), (77, .ixor, 0, 0, 0, 0, 0, []),
  (78, .iand, 0, 0, 0, 0, 0, []), (79, .iaload, 0, 0, 0, 0, 0, []), (80, .iadd, 0, 0, 0, 0, 0, []), (81, .if_icmp .ne 11, 0, 61, 0, 0, 0, []),
  (84, .aload_n 0, 0, 0, 0, 0, 0, []), (85, .getfield 23, 0, 8, 4, 0, 0, []), (88, .iload_n 3, 0, 0, 0, 0, 0, []), (89, .iload 5, 0, 0, 0, 0, 0, []),
  (91, .iastore, 0, 0, 0, 0, 0, []), (92, .iinc 5 (-1), 0, 0, 0, (-1), 0, []), (95, .goto (-61), 0, 22, 0, 0, 0, []), (98, .aload_n 0, 64, 0, 0, 0, 0, []),
  (99, .getfield 23, 0, 8, 4, 0, 0, []), (102, .iload_n 3, 0, 0, 0, 0, 0, []), (103, .iaload, 0, 0, 0, 0, 0, []), (104, .ifCond .lt 16, 0, 79, 0, 0, 0, []),
  (107, .iload_n 2, 0, 0, 0, 0, 0, []), (108, .iconst 1, 0, 0, 0, 1, 0, []), (109, .aload_n 0, 0, 0, 0, 0, 0, []), (110, .getfield 23, 0, 8, 4, 0, 0, []),
  (113, .iload_n 3, 0, 0, 0, 0, 0, []), (114, .iaload, 0, 0, 0, 0, 0, []), (115, .ishl, 0, 0, 0, 0, 0, []), (116, .iconst (-1), 0, 0, 0, (-1), 0, []),
  (117, .ixor, 0, 0, 0, 0, 0, []), (118, .iand, 0, 0, 0, 0, 0, []), (119, .istore_n 2, 0, 0, 0, 0, 0, []), (120, .iinc 3 1, 0, 0, 0, 1, 0, []),
  (123, .goto (-118), 0, 4, 0, 0, 0, []), (126, .return_, 0, 0, 0, 0, 0, [])]
noncomputable def fX8_nameGuides_63 (N : Nat) (i1 : Nat) (k4 : Int32 → Int32 → Wd → Option (Wd)) (v2 : Int32) (v3 : Int32) (w : Wd) : Option (Wd) :=
  (ldI w 59 0 v3 8).bind fun x1 =>
  if x1 < 0 then k4 v2 (v3 + (1 : Int32)) w else
  (ldI w 59 0 v3 8).bind fun x2 =>
  k4 (v2 &&& (((1 : Int32) <<< (x2 &&& (31 : Int32))) ^^^ (-1 : Int32))) (v3 + (1 : Int32)) w
noncomputable def fX8_nameGuides_22 (N : Nat) (i1 : Nat) : Nat → (Int32 → Int32 → Wd → Option (Wd)) → Int32 → Int32 → Int32 → Int32 → Wd → Option (Wd)
  | 0, _, _, _, _, _, _ => none
  | n + 1, k63, v2, v3, v4, v5, w =>
    if v5 < 0 then k63 v2 v3 w else
    if ((v4 >>> (v5 &&& (31 : Int32))) &&& (1 : Int32)) = 0 then callW (fX8_nameGuides_22 N i1 n k63 v2 v3 v4 (v5 + (-1 : Int32))) w else
    (ldR v3 9 0).bind fun q1 =>
    (ldI w 56 q1 v2 64).bind fun x2 =>
    (ldI w 36 i1 v3 8).bind fun x3 =>
    (ldR (v3 + (1 : Int32)) 9 0).bind fun q4 =>
    (ldI w 56 q4 (v2 &&& (((1 : Int32) <<< (v5 &&& (31 : Int32))) ^^^ (-1 : Int32))) 64).bind fun x5 =>
    if x2 = (x3 + x5) then
      (stI w 59 0 v3 8 v5).bind fun w6 =>
      callW (fX8_nameGuides_22 N i1 n k63 v2 v3 v4 (v5 + (-1 : Int32))) w6
    else
    callW (fX8_nameGuides_22 N i1 n k63 v2 v3 v4 (v5 + (-1 : Int32))) w
noncomputable def fX8_nameGuides_4 (N : Nat) (i1 : Nat) : Nat → Int32 → Int32 → Wd → Option (Wd)
  | 0, _, _, _ => none
  | n + 1, v2, v3, w =>
    if v3 < (gI w 8 i1 5) then
      (stI w 59 0 v3 8 (-2 : Int32)).bind fun w1 =>
      (ldI w1 57 0 v3 8).bind fun x2 =>
      callW (fX8_nameGuides_22 N i1 N (fX8_nameGuides_63 N i1 (fX8_nameGuides_4 N i1 n)) v2 v3 (x2 &&& v2) (5 : Int32)) w1
    else
    some w
noncomputable def pX8_nameGuides (N : Nat) (i1 : Nat) (w : Wd) : Option (Wd) :=
  callW (fX8_nameGuides_4 N i1 N (63 : Int32) (0 : Int32)) w
noncomputable def mX8_nameGuides (N : Nat) (as : List AV) (w : Wd) : Option (Wd) := xS1 12 as fun t => xR1 8 t fun i1 t => xN1 t (callW (pX8_nameGuides N i1) w)
set_option maxRecDepth 100000 in
set_option maxHeartbeats 4000000 in
theorem kX8_nameGuides : TK cX8_nameGuides RX8 6 tX8_nameGuides := ⟨by decide +kernel, wok_of [282, 614, 612, 611, 297, 611, 614, 614, 614] (by decide +kernel) (by decide +kernel)⟩
set_option maxRecDepth 100000 in
set_option maxHeartbeats 4000000 in
theorem sX8_nameGuides_63 {N : Nat} {X : XT} (G : GX X cX8_nameGuides RX8) (hn : xnL X = 6) (hC : CRs X tX8_nameGuides (oF []) (oF []) (oF [])) {r : Wd} (hr : RTV X cX8_nameGuides r) (i1 : Nat) : ∀ (k4 : Int32 → Int32 → Wd → Option (Wd)) (v2 : Int32) (v3 : Int32) (w : Wd), fX8_nameGuides_63 N i1 k4 v2 v3 w = some r → (∀ (v2 : Int32) (v3 : Int32) (w : Wd), k4 v2 v3 w = some r → WW X (pcAt tX8_nameGuides 4) [some (.inr (.inr (12, 0))), some (.inr (.inr (8, i1))), some (.inl v2), some (.inl v3), none, none] [] w) → WW X (pcAt tX8_nameGuides 63) [some (.inr (.inr (12, 0))), some (.inr (.inr (8, i1))), some (.inl v2), some (.inl v3), none, none] [] w := by
  intro k4 v2 v3 w h h4
  refine run_sound (r := r) (X := X) (cc := cX8_nameGuides) (own := RX8) (tab := tX8_nameGuides) G (by rw [hn]; exact kX8_nameGuides) (oI := (oF [])) (oL := (oF [])) (oV := (oF [])) (rI := (fun _ _ => none)) (rL := (fun _ _ => none)) (rV := (fun w => some w))
    (K := (fun j ls st w => if j = 4 then (lgI ls 2 fun v2 => lgI ls 3 fun v3 => st0 st (k4 v2 v3 w)) else none)) (fun _ _ _ _ hx => by cases hx) (fun _ _ _ _ hx => by cases hx) (fun w pc ls hx hd => hr w pc ls (Option.some.inj hx) hd) hC (fun ls => lsb [some (.inr (.inr (12, 0))), some (.inr (.inr (8, i1))), none, none, none, none] 0 ls) (keepsP_of rfl) ?_ 84 63 [some (.inr (.inr (12, 0))), some (.inr (.inr (8, i1))), some (.inl v2), some (.inl v3), none, none] [] w ?_ h
  · intro j ls st w hfx h
    obtain ⟨e0, e1, -⟩ : _ = _ ∧ _ = _ ∧ True := hfx
    try dsimp only at h
    by_cases hj : j = 4
    · subst hj
      rw [if_pos rfl] at h
      obtain ⟨v2, e2, h_1⟩ := lgI_some h
      obtain ⟨v3, e3, h_2⟩ := lgI_some h_1
      obtain ⟨rfl, h_3⟩ := st0_some h_2
      clear h h_1 h_2
      have h := h_3
      try rw [callW_eq] at h
      exact WW.le (a := [some (.inr (.inr (12, 0))), some (.inr (.inr (8, i1))), some (.inl v2), some (.inl v3), none, none]) (by rw [hn]; rfl) (show _ = _ ∧ _ = _ ∧ _ = _ ∧ _ = _ ∧ True from ⟨e0, e1, e2, e3, trivial⟩) (h4 v2 v3 w h)
    rw [if_neg hj] at h
    cases h
  · exact (show _ = _ ∧ _ = _ ∧ True from ⟨rfl, rfl, trivial⟩)
set_option maxRecDepth 100000 in
set_option maxHeartbeats 4000000 in
theorem sX8_nameGuides_22 {N : Nat} {X : XT} (G : GX X cX8_nameGuides RX8) (hn : xnL X = 6) (hC : CRs X tX8_nameGuides (oF []) (oF []) (oF [])) {r : Wd} (hr : RTV X cX8_nameGuides r) (i1 : Nat) : ∀ (n : Nat) (k63 : Int32 → Int32 → Wd → Option (Wd)) (v2 : Int32) (v3 : Int32) (v4 : Int32) (v5 : Int32) (w : Wd), fX8_nameGuides_22 N i1 n k63 v2 v3 v4 v5 w = some r → (∀ (v2 : Int32) (v3 : Int32) (w : Wd), k63 v2 v3 w = some r → WW X (pcAt tX8_nameGuides 63) [some (.inr (.inr (12, 0))), some (.inr (.inr (8, i1))), some (.inl v2), some (.inl v3), none, none] [] w) → WW X (pcAt tX8_nameGuides 22) [some (.inr (.inr (12, 0))), some (.inr (.inr (8, i1))), some (.inl v2), some (.inl v3), some (.inl v4), some (.inl v5)] [] w := by
  intro n
  induction n with
  | zero => intro k63 v2 v3 v4 v5 w h h63; cases h
  | succ n ih =>
    intro k63 v2 v3 v4 v5 w h h63
    refine run_sound (r := r) (X := X) (cc := cX8_nameGuides) (own := RX8) (tab := tX8_nameGuides) G (by rw [hn]; exact kX8_nameGuides) (oI := (oF [])) (oL := (oF [])) (oV := (oF [])) (rI := (fun _ _ => none)) (rL := (fun _ _ => none)) (rV := (fun w => some w))
      (K := (fun j ls st w => if j = 22 then (lgI ls 2 fun v2 => lgI ls 3 fun v3 => lgI ls 4 fun v4 => lgI ls 5 fun v5 => st0 st (callW (fX8_nameGuides_22 N i1 n k63 v2 v3 v4 v5) w)) else if j = 63 then (lgI ls 2 fun v2 => lgI ls 3 fun v3 => st0 st (k63 v2 v3 w)) else none)) (fun _ _ _ _ hx => by cases hx) (fun _ _ _ _ hx => by cases hx) (fun w pc ls hx hd => hr w pc ls (Option.some.inj hx) hd) hC (fun ls => lsb [some (.inr (.inr (12, 0))), some (.inr (.inr (8, i1))), none, none, none, none] 0 ls) (keepsP_of rfl) ?_ 84 22 [some (.inr (.inr (12, 0))), some (.inr (.inr (8, i1))), some (.inl v2), some (.inl v3), some (.inl v4), some (.inl v5)] [] w ?_ h
    · intro j ls st w hfx h
      obtain ⟨e0, e1, -⟩ : _ = _ ∧ _ = _ ∧ True := hfx
      try dsimp only at h
      by_cases hj : j = 22
      · subst hj
        rw [if_pos rfl] at h
        obtain ⟨v2, e2, h_1⟩ := lgI_some h
        obtain ⟨v3, e3, h_2⟩ := lgI_some h_1
        obtain ⟨v4, e4, h_3⟩ := lgI_some h_2
        obtain ⟨v5, e5, h_4⟩ := lgI_some h_3
        obtain ⟨rfl, h_5⟩ := st0_some h_4
        clear h h_1 h_2 h_3 h_4
        have h := h_5
        try rw [callW_eq] at h
        exact WW.le (a := [some (.inr (.inr (12, 0))), some (.inr (.inr (8, i1))), some (.inl v2), some (.inl v3), some (.inl v4), some (.inl v5)]) (by rw [hn]; rfl) (show _ = _ ∧ _ = _ ∧ _ = _ ∧ _ = _ ∧ _ = _ ∧ _ = _ ∧ True from ⟨e0, e1, e2, e3, e4, e5, trivial⟩) (ih k63 v2 v3 v4 v5 w h h63)
      rw [if_neg hj] at h
      by_cases hj : j = 63
      · subst hj
        rw [if_pos rfl] at h
        obtain ⟨v2, e2, h_1⟩ := lgI_some h
        obtain ⟨v3, e3, h_2⟩ := lgI_some h_1
        obtain ⟨rfl, h_3⟩ := st0_some h_2
        clear h h_1 h_2
        have h := h_3
        try rw [callW_eq] at h
        exact WW.le (a := [some (.inr (.inr (12, 0))), some (.inr (.inr (8, i1))), some (.inl v2), some (.inl v3), none, none]) (by rw [hn]; rfl) (show _ = _ ∧ _ = _ ∧ _ = _ ∧ _ = _ ∧ True from ⟨e0, e1, e2, e3, trivial⟩) (h63 v2 v3 w h)
      rw [if_neg hj] at h
      cases h
    · exact (show _ = _ ∧ _ = _ ∧ True from ⟨rfl, rfl, trivial⟩)
set_option maxRecDepth 100000 in
set_option maxHeartbeats 4000000 in
theorem sX8_nameGuides_4 {N : Nat} {X : XT} (G : GX X cX8_nameGuides RX8) (hn : xnL X = 6) (hC : CRs X tX8_nameGuides (oF []) (oF []) (oF [])) {r : Wd} (hr : RTV X cX8_nameGuides r) (i1 : Nat) : ∀ (n : Nat) (v2 : Int32) (v3 : Int32) (w : Wd), fX8_nameGuides_4 N i1 n v2 v3 w = some r → WW X (pcAt tX8_nameGuides 4) [some (.inr (.inr (12, 0))), some (.inr (.inr (8, i1))), some (.inl v2), some (.inl v3), none, none] [] w := by
  intro n
  induction n with
  | zero => intro v2 v3 w h; cases h
  | succ n ih =>
    intro v2 v3 w h
    refine run_sound (r := r) (X := X) (cc := cX8_nameGuides) (own := RX8) (tab := tX8_nameGuides) G (by rw [hn]; exact kX8_nameGuides) (oI := (oF [])) (oL := (oF [])) (oV := (oF [])) (rI := (fun _ _ => none)) (rL := (fun _ _ => none)) (rV := (fun w => some w))
      (K := (fun j ls st w => if j = 22 then (lgI ls 2 fun v2 => lgI ls 3 fun v3 => lgI ls 4 fun v4 => lgI ls 5 fun v5 => st0 st (callW (fX8_nameGuides_22 N i1 N (fX8_nameGuides_63 N i1 (fX8_nameGuides_4 N i1 n)) v2 v3 v4 v5) w)) else none)) (fun _ _ _ _ hx => by cases hx) (fun _ _ _ _ hx => by cases hx) (fun w pc ls hx hd => hr w pc ls (Option.some.inj hx) hd) hC (fun ls => lsb [some (.inr (.inr (12, 0))), some (.inr (.inr (8, i1))), none, none, none, none] 0 ls) (keepsP_of rfl) ?_ 84 4 [some (.inr (.inr (12, 0))), some (.inr (.inr (8, i1))), some (.inl v2), some (.inl v3), none, none] [] w ?_ h
    · intro j ls st w hfx h
      obtain ⟨e0, e1, -⟩ : _ = _ ∧ _ = _ ∧ True := hfx
      try dsimp only at h
      by_cases hj : j = 22
      · subst hj
        rw [if_pos rfl] at h
        obtain ⟨v2, e2, h_1⟩ := lgI_some h
        obtain ⟨v3, e3, h_2⟩ := lgI_some h_1
        obtain ⟨v4, e4, h_3⟩ := lgI_some h_2
        obtain ⟨v5, e5, h_4⟩ := lgI_some h_3
        obtain ⟨rfl, h_5⟩ := st0_some h_4
        clear h h_1 h_2 h_3 h_4
        have h := h_5
        try rw [callW_eq] at h
        exact WW.le (a := [some (.inr (.inr (12, 0))), some (.inr (.inr (8, i1))), some (.inl v2), some (.inl v3), some (.inl v4), some (.inl v5)]) (by rw [hn]; rfl) (show _ = _ ∧ _ = _ ∧ _ = _ ∧ _ = _ ∧ _ = _ ∧ _ = _ ∧ True from ⟨e0, e1, e2, e3, e4, e5, trivial⟩) (sX8_nameGuides_22 G hn hC hr i1 N (fX8_nameGuides_63 N i1 (fX8_nameGuides_4 N i1 n)) v2 v3 v4 v5 w h (fun v2 v3 w h => (sX8_nameGuides_63 G hn hC hr i1 (fX8_nameGuides_4 N i1 n) v2 v3 w h (fun v2 v3 w h => (ih v2 v3 w h)))))
      rw [if_neg hj] at h
      cases h
    · exact (show _ = _ ∧ _ = _ ∧ True from ⟨rfl, rfl, trivial⟩)
set_option maxRecDepth 100000 in
set_option maxHeartbeats 4000000 in
theorem crX8_nameGuides {N : Nat} {X : XT} (G : GX X cX8_nameGuides RX8) (hR : xR X = rmL 1) : CRs X tX8_nameGuides (oF []) (oF []) (oF []) := by
  have hl : tX8_nameGuides.filter isInv = [] := rfl
  intro e he
  rw [hl] at he
  cases he
set_option maxRecDepth 100000 in
set_option maxHeartbeats 4000000 in
theorem MX8_nameGuides (N : Nat) : SndV yX8_nameGuides cX8_nameGuides 6 none 1 2 true (mX8_nameGuides N) := by
  refine SndV.of tX8_nameGuides (by decide +kernel) rfl rfl ?_ ?_
  · intro as w x h
    obtain ⟨t1, rfl, h_1⟩ := xS1_some h
    obtain ⟨i1, t2, rfl, h_2⟩ := xR1_some h_1
    obtain ⟨rfl, h_3⟩ := xN1_some h_2
    clear h h_1 h_2
    have h := h_3
    rw [callW_eq] at h
    exact ⟨fun _ => ⟨_, _, _, rfl, rfl, _, rfl, rfl⟩, rfl, Nat.le_of_ble_eq_true rfl⟩
  · intro X G hn hR as w r h hr
    have hC := crX8_nameGuides (N := N) G hR
    obtain ⟨t1, rfl, h_1⟩ := xS1_some h
    obtain ⟨i1, t2, rfl, h_2⟩ := xR1_some h_1
    obtain ⟨rfl, h_3⟩ := xN1_some h_2
    clear h h_1 h_2
    have h := h_3
    rw [callW_eq] at h
    refine run_sound (r := r) (X := X) (cc := cX8_nameGuides) (own := RX8) (tab := tX8_nameGuides) G (by rw [hn]; exact kX8_nameGuides) (oI := (oF [])) (oL := (oF [])) (oV := (oF [])) (rI := (fun _ _ => none)) (rL := (fun _ _ => none)) (rV := (fun w => some w))
      (K := (fun j ls st w => if j = 4 then (lgI ls 2 fun v2 => lgI ls 3 fun v3 => st0 st (callW (fX8_nameGuides_4 N i1 N v2 v3) w)) else none)) (fun _ _ _ _ hx => by cases hx) (fun _ _ _ _ hx => by cases hx) (fun w pc ls hx hd => hr w pc ls (Option.some.inj hx) hd) hC (fun ls => lsb [some (.inr (.inr (12, 0))), some (.inr (.inr (8, i1))), none, none, none, none] 0 ls) (keepsP_of rfl) ?_ 84 0 [some (.inr (.inr (12, 0))), some (.inr (.inr (8, i1))), none, none, none, none] [] w ?_ h
    · intro j ls st w hfx h
      obtain ⟨e0, e1, -⟩ : _ = _ ∧ _ = _ ∧ True := hfx
      try dsimp only at h
      by_cases hj : j = 4
      · subst hj
        rw [if_pos rfl] at h
        obtain ⟨v2, e2, h_1⟩ := lgI_some h
        obtain ⟨v3, e3, h_2⟩ := lgI_some h_1
        obtain ⟨rfl, h_3⟩ := st0_some h_2
        clear h h_1 h_2
        have h := h_3
        try rw [callW_eq] at h
        exact WW.le (a := [some (.inr (.inr (12, 0))), some (.inr (.inr (8, i1))), some (.inl v2), some (.inl v3), none, none]) (by rw [hn]; rfl) (show _ = _ ∧ _ = _ ∧ _ = _ ∧ _ = _ ∧ True from ⟨e0, e1, e2, e3, trivial⟩) (sX8_nameGuides_4 G hn hC hr i1 N v2 v3 w h)
      rw [if_neg hj] at h
      cases h
    · exact (show _ = _ ∧ _ = _ ∧ True from ⟨rfl, rfl, trivial⟩)
-- MoorGuides$Sharing.find(II)V
def tX8_find : List EN := [
  (0, .aload_n 0, 0, 0, 0, 0, 0, []), (1, .iload_n 1, 0, 0, 0, 0, 0, []), (2, .iload_n 2, 0, 0, 0, 0, 0, []), (3, .invokevirtual 30, 0, 0, 3, 0, 0, [(0, 0), (0, 0)]),
  (6, .aload_n 0, 0, 0, 0, 0, 0, []), (7, .getfield 26, 0, 8, 0, 0, 0, []), (10, .getfield 34, 0, 9, 0, 0, 0, []), (13, .getfield 40, 0, 4, 5, 0, 0, []),
  (16, .istore_n 3, 0, 0, 0, 0, 0, []), (17, .iconst 0, 0, 0, 0, 0, 0, []), (18, .istore 4, 0, 0, 0, 0, 0, []), (20, .iload 4, 12, 0, 0, 0, 0, []),
  (22, .bipush 63, 0, 0, 0, 63, 0, []), (24, .if_icmp .gt 19, 0, 23, 0, 0, 0, []), (27, .aload_n 0, 0, 0, 0, 0, 0, []), (28, .getfield 13, 0, 8, 1, 0, 0, []),
  (31, .iload_n 3, 0, 0, 0, 0, 0, []), (32, .aaload, 0, 0, 0, 0, 0, []), (33, .iload 4, 0, 0, 0, 0, 0, []), (35, .iconst 0, 0, 0, 0, 0, 0, []),
  (36, .iastore, 0, 0, 0, 0, 0, []), (37, .iinc 4 1, 0, 0, 0, 1, 0, []), (40, .goto (-20), 0, 11, 0, 0, 0, []), (43, .iload_n 3, 24, 0, 0, 0, 0, []),
  (44, .iconst 1, 0, 0, 0, 1, 0, []), (45, .isub, 0, 0, 0, 0, 0, []), (46, .istore 4, 0, 0, 0, 0, 0, []), (48, .iload 4, 28, 0, 0, 0, 0, []),
  (50, .ifCond .lt 56, 0, 54, 0, 0, 0, []), (53, .iconst 0, 0, 0, 0, 0, 0, []), (54, .istore 5, 0, 0, 0, 0, 0, []), (56, .iload 5, 32, 0, 0, 0, 0, []),
  (58, .bipush 63, 0, 0, 0, 63, 0, []), (60, .if_icmp .gt 40, 0, 52, 0, 0, 0, []), (63, .aload_n 0, 0, 0, 0, 0, 0, []), (64, .getfield 13, 0, 8, 1, 0, 0, []),
  (67, .iload 4, 0, 0, 0, 0, 0, []), (69, .aaload, 0, 0, 0, 0, 0, []), (70, .iload 5, 0, 0, 0, 0, 0, []), (72, .aload_n 0, 0, 0, 0, 0, 0, []),
  (73, .iload 4, 0, 0, 0, 0, 0, []), (75, .iload 5, 0, 0, 0, 0, 0, []), (77, .aload_n 0, 0, 0, 0, 0, 0, []), (78, .getfield 26, 0, 8, 0, 0, 0, []),
  (81, .getfield 34, 0, 9, 0, 0, 0, []), (84, .getfield 46, 0, 4, 9, 0, 0, []), (87, .iload 4, 0, 0, 0, 0, 0, []), (89, .iaload, 0, 0, 0, 0, 0, []),
  (90, .invokevirtual 49, 0, 0, 4, 0, 0, []), (93, .iastore, 0, 0, 0, 0, 0, []), (94, .iinc 5 1, 0, 0, 0, 1, 0, []), (97, .goto (-41), 0, 31, 0, 0, 0, []),
  (100, .iinc 4 (-1), 53, 0, 0, (-1), 0, []), (103, .goto (-55), 0, 27, 0, 0, 0, []), (106, .aload_n 0, 55, 0, 0, 0, 0, []), (107, .aload_n 0, 0, 0, 0, 0, 0, []),
  (108, .getfield 26, 0, 8, 0, 0, 0, []), (111, .getfield 34, 0, 9, 0, 0, 0, []), (114, .invokevirtual 53, 0, 1, 2, 0, 0, [(0, 0), (0, 0)]), (117, .return_, 0, 0, 0, 0, 0, [])]
noncomputable def fX8_find_54 (N : Nat) (w : Wd) : Option (Wd) :=
  (callW (pX8_nameGuides N (gR w 13 0 0)) w).bind fun w1 =>
  some w1
noncomputable def fX8_find_52 (N : Nat) (k27 : Int32 → Wd → Option (Wd)) (v4 : Int32) (w : Wd) : Option (Wd) :=
  k27 (v4 + (-1 : Int32)) w
noncomputable def fX8_find_31 (N : Nat) : Nat → (Int32 → Wd → Option (Wd)) → Int32 → Int32 → Wd → Option (Wd)
  | 0, _, _, _, _ => none
  | n + 1, k52, v4, v5, w =>
    if (63 : Int32) < v5 then k52 v4 w else
    (ldR v4 9 0).bind fun q1 =>
    (ldI w 36 (gR w 13 0 0) v4 8).bind fun x2 =>
    (callW (pX8_mostFrom N v4 v5 x2) w).bind fun r3 =>
    (stI r3.2 56 q1 v5 64 r3.1).bind fun w4 =>
    callW (fX8_find_31 N n k52 v4 (v5 + (1 : Int32))) w4
noncomputable def fX8_find_27 (N : Nat) : Nat → (Wd → Option (Wd)) → Int32 → Wd → Option (Wd)
  | 0, _, _, _ => none
  | n + 1, k54, v4, w =>
    if v4 < 0 then k54 w else
    callW (fX8_find_31 N N (fX8_find_52 N (fX8_find_27 N n k54)) v4 (0 : Int32)) w
noncomputable def fX8_find_23 (N : Nat) (v3 : Int32) (w : Wd) : Option (Wd) :=
  callW (fX8_find_27 N N (fX8_find_54 N) (v3 - (1 : Int32))) w
noncomputable def fX8_find_11 (N : Nat) : Nat → (Int32 → Wd → Option (Wd)) → Int32 → Int32 → Wd → Option (Wd)
  | 0, _, _, _, _ => none
  | n + 1, k23, v3, v4, w =>
    if (63 : Int32) < v4 then k23 v3 w else
    (ldR v3 9 0).bind fun q1 =>
    (stI w 56 q1 v4 64 (0 : Int32)).bind fun w2 =>
    callW (fX8_find_11 N n k23 v3 (v4 + (1 : Int32))) w2
noncomputable def pX8_find (N : Nat) (a1 : Int32) (a2 : Int32) (w : Wd) : Option (Wd) :=
  (callW (pX8_nameLeaders N a1 a2) w).bind fun w1 =>
  callW (fX8_find_11 N N (fX8_find_23 N) (gI w1 8 (gR w1 13 0 0) 5) (0 : Int32)) w1
noncomputable def mX8_find (N : Nat) (as : List AV) (w : Wd) : Option (Wd) := xS1 12 as fun t => xI1 t fun a1 t => xI1 t fun a2 t => xN1 t (callW (pX8_find N a1 a2) w)
set_option maxRecDepth 100000 in
set_option maxHeartbeats 4000000 in
theorem kX8_find : TK cX8_find RX8 6 tX8_find := ⟨by decide +kernel, wok_of [610, 517, 282, 611, 611, 610, 517, 297, 610, 517] (by decide +kernel) (by decide +kernel)⟩
set_option maxRecDepth 100000 in
set_option maxHeartbeats 4000000 in
theorem sX8_find_54 {N : Nat} {X : XT} (G : GX X cX8_find RX8) (hn : xnL X = 6) (hC : CRs X tX8_find (oF [(mX8_mostFrom N)]) (oF []) (oF [(mX8_nameLeaders N), (mX8_nameGuides N)])) {r : Wd} (hr : RTV X cX8_find r) (a1 : Int32) (a2 : Int32) : ∀ (w : Wd), fX8_find_54 N w = some r → WW X (pcAt tX8_find 54) [some (.inr (.inr (12, 0))), some (.inl a1), some (.inl a2), none, none, none] [] w := by
  intro w h
  refine run_sound (r := r) (X := X) (cc := cX8_find) (own := RX8) (tab := tX8_find) G (by rw [hn]; exact kX8_find) (oI := (oF [(mX8_mostFrom N)])) (oL := (oF [])) (oV := (oF [(mX8_nameLeaders N), (mX8_nameGuides N)])) (rI := (fun _ _ => none)) (rL := (fun _ _ => none)) (rV := (fun w => some w))
    (K := (fun j ls st w => none)) (fun _ _ _ _ hx => by cases hx) (fun _ _ _ _ hx => by cases hx) (fun w pc ls hx hd => hr w pc ls (Option.some.inj hx) hd) hC (fun ls => lsb [some (.inr (.inr (12, 0))), some (.inl a1), some (.inl a2), none, none, none] 0 ls) (keepsP_of rfl) ?_ 62 54 [some (.inr (.inr (12, 0))), some (.inl a1), some (.inl a2), none, none, none] [] w ?_ h
  · intro j ls st w hfx h
    obtain ⟨e0, e1, e2, -⟩ : _ = _ ∧ _ = _ ∧ _ = _ ∧ True := hfx
    try dsimp only at h
    cases h
  · exact (show _ = _ ∧ _ = _ ∧ _ = _ ∧ True from ⟨rfl, rfl, rfl, trivial⟩)
set_option maxRecDepth 100000 in
set_option maxHeartbeats 4000000 in
theorem sX8_find_52 {N : Nat} {X : XT} (G : GX X cX8_find RX8) (hn : xnL X = 6) (hC : CRs X tX8_find (oF [(mX8_mostFrom N)]) (oF []) (oF [(mX8_nameLeaders N), (mX8_nameGuides N)])) {r : Wd} (hr : RTV X cX8_find r) (a1 : Int32) (a2 : Int32) : ∀ (k27 : Int32 → Wd → Option (Wd)) (v4 : Int32) (w : Wd), fX8_find_52 N k27 v4 w = some r → (∀ (v4 : Int32) (w : Wd), k27 v4 w = some r → WW X (pcAt tX8_find 27) [some (.inr (.inr (12, 0))), some (.inl a1), some (.inl a2), none, some (.inl v4), none] [] w) → WW X (pcAt tX8_find 52) [some (.inr (.inr (12, 0))), some (.inl a1), some (.inl a2), none, some (.inl v4), none] [] w := by
  intro k27 v4 w h h27
  refine run_sound (r := r) (X := X) (cc := cX8_find) (own := RX8) (tab := tX8_find) G (by rw [hn]; exact kX8_find) (oI := (oF [(mX8_mostFrom N)])) (oL := (oF [])) (oV := (oF [(mX8_nameLeaders N), (mX8_nameGuides N)])) (rI := (fun _ _ => none)) (rL := (fun _ _ => none)) (rV := (fun w => some w))
    (K := (fun j ls st w => if j = 27 then (lgI ls 4 fun v4 => st0 st (k27 v4 w)) else none)) (fun _ _ _ _ hx => by cases hx) (fun _ _ _ _ hx => by cases hx) (fun w pc ls hx hd => hr w pc ls (Option.some.inj hx) hd) hC (fun ls => lsb [some (.inr (.inr (12, 0))), some (.inl a1), some (.inl a2), none, none, none] 0 ls) (keepsP_of rfl) ?_ 62 52 [some (.inr (.inr (12, 0))), some (.inl a1), some (.inl a2), none, some (.inl v4), none] [] w ?_ h
  · intro j ls st w hfx h
    obtain ⟨e0, e1, e2, -⟩ : _ = _ ∧ _ = _ ∧ _ = _ ∧ True := hfx
    try dsimp only at h
    by_cases hj : j = 27
    · subst hj
      rw [if_pos rfl] at h
      obtain ⟨v4, e4, h_1⟩ := lgI_some h
      obtain ⟨rfl, h_2⟩ := st0_some h_1
      clear h h_1
      have h := h_2
      try rw [callW_eq] at h
      exact WW.le (a := [some (.inr (.inr (12, 0))), some (.inl a1), some (.inl a2), none, some (.inl v4), none]) (by rw [hn]; rfl) (show _ = _ ∧ _ = _ ∧ _ = _ ∧ _ = _ ∧ True from ⟨e0, e1, e2, e4, trivial⟩) (h27 v4 w h)
    rw [if_neg hj] at h
    cases h
  · exact (show _ = _ ∧ _ = _ ∧ _ = _ ∧ True from ⟨rfl, rfl, rfl, trivial⟩)
set_option maxRecDepth 100000 in
set_option maxHeartbeats 4000000 in
theorem sX8_find_31 {N : Nat} {X : XT} (G : GX X cX8_find RX8) (hn : xnL X = 6) (hC : CRs X tX8_find (oF [(mX8_mostFrom N)]) (oF []) (oF [(mX8_nameLeaders N), (mX8_nameGuides N)])) {r : Wd} (hr : RTV X cX8_find r) (a1 : Int32) (a2 : Int32) : ∀ (n : Nat) (k52 : Int32 → Wd → Option (Wd)) (v4 : Int32) (v5 : Int32) (w : Wd), fX8_find_31 N n k52 v4 v5 w = some r → (∀ (v4 : Int32) (w : Wd), k52 v4 w = some r → WW X (pcAt tX8_find 52) [some (.inr (.inr (12, 0))), some (.inl a1), some (.inl a2), none, some (.inl v4), none] [] w) → WW X (pcAt tX8_find 31) [some (.inr (.inr (12, 0))), some (.inl a1), some (.inl a2), none, some (.inl v4), some (.inl v5)] [] w := by
  intro n
  induction n with
  | zero => intro k52 v4 v5 w h h52; cases h
  | succ n ih =>
    intro k52 v4 v5 w h h52
    refine run_sound (r := r) (X := X) (cc := cX8_find) (own := RX8) (tab := tX8_find) G (by rw [hn]; exact kX8_find) (oI := (oF [(mX8_mostFrom N)])) (oL := (oF [])) (oV := (oF [(mX8_nameLeaders N), (mX8_nameGuides N)])) (rI := (fun _ _ => none)) (rL := (fun _ _ => none)) (rV := (fun w => some w))
      (K := (fun j ls st w => if j = 31 then (lgI ls 4 fun v4 => lgI ls 5 fun v5 => st0 st (callW (fX8_find_31 N n k52 v4 v5) w)) else if j = 52 then (lgI ls 4 fun v4 => st0 st (k52 v4 w)) else none)) (fun _ _ _ _ hx => by cases hx) (fun _ _ _ _ hx => by cases hx) (fun w pc ls hx hd => hr w pc ls (Option.some.inj hx) hd) hC (fun ls => lsb [some (.inr (.inr (12, 0))), some (.inl a1), some (.inl a2), none, none, none] 0 ls) (keepsP_of rfl) ?_ 62 31 [some (.inr (.inr (12, 0))), some (.inl a1), some (.inl a2), none, some (.inl v4), some (.inl v5)] [] w ?_ h
    · intro j ls st w hfx h
      obtain ⟨e0, e1, e2, -⟩ : _ = _ ∧ _ = _ ∧ _ = _ ∧ True := hfx
      try dsimp only at h
      by_cases hj : j = 31
      · subst hj
        rw [if_pos rfl] at h
        obtain ⟨v4, e4, h_1⟩ := lgI_some h
        obtain ⟨v5, e5, h_2⟩ := lgI_some h_1
        obtain ⟨rfl, h_3⟩ := st0_some h_2
        clear h h_1 h_2
        have h := h_3
        try rw [callW_eq] at h
        exact WW.le (a := [some (.inr (.inr (12, 0))), some (.inl a1), some (.inl a2), none, some (.inl v4), some (.inl v5)]) (by rw [hn]; rfl) (show _ = _ ∧ _ = _ ∧ _ = _ ∧ _ = _ ∧ _ = _ ∧ True from ⟨e0, e1, e2, e4, e5, trivial⟩) (ih k52 v4 v5 w h h52)
      rw [if_neg hj] at h
      by_cases hj : j = 52
      · subst hj
        rw [if_pos rfl] at h
        obtain ⟨v4, e4, h_1⟩ := lgI_some h
        obtain ⟨rfl, h_2⟩ := st0_some h_1
        clear h h_1
        have h := h_2
        try rw [callW_eq] at h
        exact WW.le (a := [some (.inr (.inr (12, 0))), some (.inl a1), some (.inl a2), none, some (.inl v4), none]) (by rw [hn]; rfl) (show _ = _ ∧ _ = _ ∧ _ = _ ∧ _ = _ ∧ True from ⟨e0, e1, e2, e4, trivial⟩) (h52 v4 w h)
      rw [if_neg hj] at h
      cases h
    · exact (show _ = _ ∧ _ = _ ∧ _ = _ ∧ True from ⟨rfl, rfl, rfl, trivial⟩)
set_option maxRecDepth 100000 in
set_option maxHeartbeats 4000000 in
theorem sX8_find_27 {N : Nat} {X : XT} (G : GX X cX8_find RX8) (hn : xnL X = 6) (hC : CRs X tX8_find (oF [(mX8_mostFrom N)]) (oF []) (oF [(mX8_nameLeaders N), (mX8_nameGuides N)])) {r : Wd} (hr : RTV X cX8_find r) (a1 : Int32) (a2 : Int32) : ∀ (n : Nat) (k54 : Wd → Option (Wd)) (v4 : Int32) (w : Wd), fX8_find_27 N n k54 v4 w = some r → (∀ (w : Wd), k54 w = some r → WW X (pcAt tX8_find 54) [some (.inr (.inr (12, 0))), some (.inl a1), some (.inl a2), none, none, none] [] w) → WW X (pcAt tX8_find 27) [some (.inr (.inr (12, 0))), some (.inl a1), some (.inl a2), none, some (.inl v4), none] [] w := by
  intro n
  induction n with
  | zero => intro k54 v4 w h h54; cases h
  | succ n ih =>
    intro k54 v4 w h h54
    refine run_sound (r := r) (X := X) (cc := cX8_find) (own := RX8) (tab := tX8_find) G (by rw [hn]; exact kX8_find) (oI := (oF [(mX8_mostFrom N)])) (oL := (oF [])) (oV := (oF [(mX8_nameLeaders N), (mX8_nameGuides N)])) (rI := (fun _ _ => none)) (rL := (fun _ _ => none)) (rV := (fun w => some w))
      (K := (fun j ls st w => if j = 31 then (lgI ls 4 fun v4 => lgI ls 5 fun v5 => st0 st (callW (fX8_find_31 N N (fX8_find_52 N (fX8_find_27 N n k54)) v4 v5) w)) else if j = 54 then (st0 st (k54 w)) else none)) (fun _ _ _ _ hx => by cases hx) (fun _ _ _ _ hx => by cases hx) (fun w pc ls hx hd => hr w pc ls (Option.some.inj hx) hd) hC (fun ls => lsb [some (.inr (.inr (12, 0))), some (.inl a1), some (.inl a2), none, none, none] 0 ls) (keepsP_of rfl) ?_ 62 27 [some (.inr (.inr (12, 0))), some (.inl a1), some (.inl a2), none, some (.inl v4), none] [] w ?_ h
    · intro j ls st w hfx h
      obtain ⟨e0, e1, e2, -⟩ : _ = _ ∧ _ = _ ∧ _ = _ ∧ True := hfx
      try dsimp only at h
      by_cases hj : j = 31
      · subst hj
        rw [if_pos rfl] at h
        obtain ⟨v4, e4, h_1⟩ := lgI_some h
        obtain ⟨v5, e5, h_2⟩ := lgI_some h_1
        obtain ⟨rfl, h_3⟩ := st0_some h_2
        clear h h_1 h_2
        have h := h_3
        try rw [callW_eq] at h
        exact WW.le (a := [some (.inr (.inr (12, 0))), some (.inl a1), some (.inl a2), none, some (.inl v4), some (.inl v5)]) (by rw [hn]; rfl) (show _ = _ ∧ _ = _ ∧ _ = _ ∧ _ = _ ∧ _ = _ ∧ True from ⟨e0, e1, e2, e4, e5, trivial⟩) (sX8_find_31 G hn hC hr a1 a2 N (fX8_find_52 N (fX8_find_27 N n k54)) v4 v5 w h (fun v4 w h => (sX8_find_52 G hn hC hr a1 a2 (fX8_find_27 N n k54) v4 w h (fun v4 w h => (ih k54 v4 w h h54)))))
      rw [if_neg hj] at h
      by_cases hj : j = 54
      · subst hj
        rw [if_pos rfl] at h
        obtain ⟨rfl, h_1⟩ := st0_some h
        clear h
        have h := h_1
        try rw [callW_eq] at h
        exact WW.le (a := [some (.inr (.inr (12, 0))), some (.inl a1), some (.inl a2), none, none, none]) (by rw [hn]; rfl) (show _ = _ ∧ _ = _ ∧ _ = _ ∧ True from ⟨e0, e1, e2, trivial⟩) (h54 w h)
      rw [if_neg hj] at h
      cases h
    · exact (show _ = _ ∧ _ = _ ∧ _ = _ ∧ True from ⟨rfl, rfl, rfl, trivial⟩)
set_option maxRecDepth 100000 in
set_option maxHeartbeats 4000000 in
theorem sX8_find_23 {N : Nat} {X : XT} (G : GX X cX8_find RX8) (hn : xnL X = 6) (hC : CRs X tX8_find (oF [(mX8_mostFrom N)]) (oF []) (oF [(mX8_nameLeaders N), (mX8_nameGuides N)])) {r : Wd} (hr : RTV X cX8_find r) (a1 : Int32) (a2 : Int32) : ∀ (v3 : Int32) (w : Wd), fX8_find_23 N v3 w = some r → WW X (pcAt tX8_find 23) [some (.inr (.inr (12, 0))), some (.inl a1), some (.inl a2), some (.inl v3), none, none] [] w := by
  intro v3 w h
  refine run_sound (r := r) (X := X) (cc := cX8_find) (own := RX8) (tab := tX8_find) G (by rw [hn]; exact kX8_find) (oI := (oF [(mX8_mostFrom N)])) (oL := (oF [])) (oV := (oF [(mX8_nameLeaders N), (mX8_nameGuides N)])) (rI := (fun _ _ => none)) (rL := (fun _ _ => none)) (rV := (fun w => some w))
    (K := (fun j ls st w => if j = 27 then (lgI ls 4 fun v4 => st0 st (callW (fX8_find_27 N N (fX8_find_54 N) v4) w)) else none)) (fun _ _ _ _ hx => by cases hx) (fun _ _ _ _ hx => by cases hx) (fun w pc ls hx hd => hr w pc ls (Option.some.inj hx) hd) hC (fun ls => lsb [some (.inr (.inr (12, 0))), some (.inl a1), some (.inl a2), none, none, none] 0 ls) (keepsP_of rfl) ?_ 62 23 [some (.inr (.inr (12, 0))), some (.inl a1), some (.inl a2), some (.inl v3), none, none] [] w ?_ h
  · intro j ls st w hfx h
    obtain ⟨e0, e1, e2, -⟩ : _ = _ ∧ _ = _ ∧ _ = _ ∧ True := hfx
    try dsimp only at h
    by_cases hj : j = 27
    · subst hj
      rw [if_pos rfl] at h
      obtain ⟨v4, e4, h_1⟩ := lgI_some h
      obtain ⟨rfl, h_2⟩ := st0_some h_1
      clear h h_1
      have h := h_2
      try rw [callW_eq] at h
      exact WW.le (a := [some (.inr (.inr (12, 0))), some (.inl a1), some (.inl a2), none, some (.inl v4), none]) (by rw [hn]; rfl) (show _ = _ ∧ _ = _ ∧ _ = _ ∧ _ = _ ∧ True from ⟨e0, e1, e2, e4, trivial⟩) (sX8_find_27 G hn hC hr a1 a2 N (fX8_find_54 N) v4 w h (fun w h => (sX8_find_54 G hn hC hr a1 a2 w h)))
    rw [if_neg hj] at h
    cases h
  · exact (show _ = _ ∧ _ = _ ∧ _ = _ ∧ True from ⟨rfl, rfl, rfl, trivial⟩)
set_option maxRecDepth 100000 in
set_option maxHeartbeats 4000000 in
theorem sX8_find_11 {N : Nat} {X : XT} (G : GX X cX8_find RX8) (hn : xnL X = 6) (hC : CRs X tX8_find (oF [(mX8_mostFrom N)]) (oF []) (oF [(mX8_nameLeaders N), (mX8_nameGuides N)])) {r : Wd} (hr : RTV X cX8_find r) (a1 : Int32) (a2 : Int32) : ∀ (n : Nat) (k23 : Int32 → Wd → Option (Wd)) (v3 : Int32) (v4 : Int32) (w : Wd), fX8_find_11 N n k23 v3 v4 w = some r → (∀ (v3 : Int32) (w : Wd), k23 v3 w = some r → WW X (pcAt tX8_find 23) [some (.inr (.inr (12, 0))), some (.inl a1), some (.inl a2), some (.inl v3), none, none] [] w) → WW X (pcAt tX8_find 11) [some (.inr (.inr (12, 0))), some (.inl a1), some (.inl a2), some (.inl v3), some (.inl v4), none] [] w := by
  intro n
  induction n with
  | zero => intro k23 v3 v4 w h h23; cases h
  | succ n ih =>
    intro k23 v3 v4 w h h23
    refine run_sound (r := r) (X := X) (cc := cX8_find) (own := RX8) (tab := tX8_find) G (by rw [hn]; exact kX8_find) (oI := (oF [(mX8_mostFrom N)])) (oL := (oF [])) (oV := (oF [(mX8_nameLeaders N), (mX8_nameGuides N)])) (rI := (fun _ _ => none)) (rL := (fun _ _ => none)) (rV := (fun w => some w))
      (K := (fun j ls st w => if j = 11 then (lgI ls 3 fun v3 => lgI ls 4 fun v4 => st0 st (callW (fX8_find_11 N n k23 v3 v4) w)) else if j = 23 then (lgI ls 3 fun v3 => st0 st (k23 v3 w)) else none)) (fun _ _ _ _ hx => by cases hx) (fun _ _ _ _ hx => by cases hx) (fun w pc ls hx hd => hr w pc ls (Option.some.inj hx) hd) hC (fun ls => lsb [some (.inr (.inr (12, 0))), some (.inl a1), some (.inl a2), none, none, none] 0 ls) (keepsP_of rfl) ?_ 62 11 [some (.inr (.inr (12, 0))), some (.inl a1), some (.inl a2), some (.inl v3), some (.inl v4), none] [] w ?_ h
    · intro j ls st w hfx h
      obtain ⟨e0, e1, e2, -⟩ : _ = _ ∧ _ = _ ∧ _ = _ ∧ True := hfx
      try dsimp only at h
      by_cases hj : j = 11
      · subst hj
        rw [if_pos rfl] at h
        obtain ⟨v3, e3, h_1⟩ := lgI_some h
        obtain ⟨v4, e4, h_2⟩ := lgI_some h_1
        obtain ⟨rfl, h_3⟩ := st0_some h_2
        clear h h_1 h_2
        have h := h_3
        try rw [callW_eq] at h
        exact WW.le (a := [some (.inr (.inr (12, 0))), some (.inl a1), some (.inl a2), some (.inl v3), some (.inl v4), none]) (by rw [hn]; rfl) (show _ = _ ∧ _ = _ ∧ _ = _ ∧ _ = _ ∧ _ = _ ∧ True from ⟨e0, e1, e2, e3, e4, trivial⟩) (ih k23 v3 v4 w h h23)
      rw [if_neg hj] at h
      by_cases hj : j = 23
      · subst hj
        rw [if_pos rfl] at h
        obtain ⟨v3, e3, h_1⟩ := lgI_some h
        obtain ⟨rfl, h_2⟩ := st0_some h_1
        clear h h_1
        have h := h_2
        try rw [callW_eq] at h
        exact WW.le (a := [some (.inr (.inr (12, 0))), some (.inl a1), some (.inl a2), some (.inl v3), none, none]) (by rw [hn]; rfl) (show _ = _ ∧ _ = _ ∧ _ = _ ∧ _ = _ ∧ True from ⟨e0, e1, e2, e3, trivial⟩) (h23 v3 w h)
      rw [if_neg hj] at h
      cases h
    · exact (show _ = _ ∧ _ = _ ∧ _ = _ ∧ True from ⟨rfl, rfl, rfl, trivial⟩)
set_option maxRecDepth 100000 in
set_option maxHeartbeats 4000000 in
theorem crX8_find {N : Nat} {X : XT} (G : GX X cX8_find RX8) (hR : xR X = rmL 4) : CRs X tX8_find (oF [(mX8_mostFrom N)]) (oF []) (oF [(mX8_nameLeaders N), (mX8_nameGuides N)]) := by
  have hl : tX8_find.filter isInv = [(3, .invokevirtual 30, 0, 0, 3, 0, 0, [(0, 0), (0, 0)]), (90, .invokevirtual 49, 0, 0, 4, 0, 0, []), (114, .invokevirtual 53, 0, 1, 2, 0, 0, [(0, 0), (0, 0)])] := rfl
  intro e he
  rw [hl] at he
  simp only [List.mem_cons, List.not_mem_nil, or_false] at he
  rcases he with rfl | rfl | rfl
  · exact crV_V (idx := 30) G (by decide +kernel) (MX8_nameLeaders N) (cw_of (ps := [1228, 1230, 52, 158, 1231]) (by decide +kernel) (by decide +kernel)) ⟨by decide +kernel, by decide +kernel, by decide +kernel⟩ (by unfold rmOk; rw [hR]; exact ⟨by decide, by decide⟩)
  · exact crI_V (idx := 49) G (by decide +kernel) (MX8_mostFrom N) (cw_of (ps := [1237, 1239, 53, 158, 1240]) (by decide +kernel) (by decide +kernel)) ⟨by decide +kernel, by decide +kernel, by decide +kernel⟩ (by unfold rmOk; rw [hR]; exact ⟨by decide, by decide⟩)
  · exact crV_V (idx := 53) G (by decide +kernel) (MX8_nameGuides N) (cw_of (ps := [1242, 1244, 54, 158, 1245]) (by decide +kernel) (by decide +kernel)) ⟨by decide +kernel, by decide +kernel, by decide +kernel⟩ (by unfold rmOk; rw [hR]; exact ⟨by decide, by decide⟩)
set_option maxRecDepth 100000 in
set_option maxHeartbeats 4000000 in
theorem MX8_find (N : Nat) : SndV yX8_find cX8_find 6 none 4 3 true (mX8_find N) := by
  refine SndV.of tX8_find (by decide +kernel) rfl rfl ?_ ?_
  · intro as w x h
    obtain ⟨t1, rfl, h_1⟩ := xS1_some h
    obtain ⟨a1, t2, rfl, h_2⟩ := xI1_some h_1
    obtain ⟨a2, t3, rfl, h_3⟩ := xI1_some h_2
    obtain ⟨rfl, h_4⟩ := xN1_some h_3
    clear h h_1 h_2 h_3
    have h := h_4
    rw [callW_eq] at h
    exact ⟨fun _ => ⟨_, _, _, rfl, rfl, _, rfl, rfl⟩, rfl, Nat.le_of_ble_eq_true rfl⟩
  · intro X G hn hR as w r h hr
    have hC := crX8_find (N := N) G hR
    obtain ⟨t1, rfl, h_1⟩ := xS1_some h
    obtain ⟨a1, t2, rfl, h_2⟩ := xI1_some h_1
    obtain ⟨a2, t3, rfl, h_3⟩ := xI1_some h_2
    obtain ⟨rfl, h_4⟩ := xN1_some h_3
    clear h h_1 h_2 h_3
    have h := h_4
    rw [callW_eq] at h
    refine run_sound (r := r) (X := X) (cc := cX8_find) (own := RX8) (tab := tX8_find) G (by rw [hn]; exact kX8_find) (oI := (oF [(mX8_mostFrom N)])) (oL := (oF [])) (oV := (oF [(mX8_nameLeaders N), (mX8_nameGuides N)])) (rI := (fun _ _ => none)) (rL := (fun _ _ => none)) (rV := (fun w => some w))
      (K := (fun j ls st w => if j = 11 then (lgI ls 3 fun v3 => lgI ls 4 fun v4 => st0 st (callW (fX8_find_11 N N (fX8_find_23 N) v3 v4) w)) else none)) (fun _ _ _ _ hx => by cases hx) (fun _ _ _ _ hx => by cases hx) (fun w pc ls hx hd => hr w pc ls (Option.some.inj hx) hd) hC (fun ls => lsb [some (.inr (.inr (12, 0))), some (.inl a1), some (.inl a2), none, none, none] 0 ls) (keepsP_of rfl) ?_ 62 0 [some (.inr (.inr (12, 0))), some (.inl a1), some (.inl a2), none, none, none] [] w ?_ h
    · intro j ls st w hfx h
      obtain ⟨e0, e1, e2, -⟩ : _ = _ ∧ _ = _ ∧ _ = _ ∧ True := hfx
      try dsimp only at h
      by_cases hj : j = 11
      · subst hj
        rw [if_pos rfl] at h
        obtain ⟨v3, e3, h_1⟩ := lgI_some h
        obtain ⟨v4, e4, h_2⟩ := lgI_some h_1
        obtain ⟨rfl, h_3⟩ := st0_some h_2
        clear h h_1 h_2
        have h := h_3
        try rw [callW_eq] at h
        exact WW.le (a := [some (.inr (.inr (12, 0))), some (.inl a1), some (.inl a2), some (.inl v3), some (.inl v4), none]) (by rw [hn]; rfl) (show _ = _ ∧ _ = _ ∧ _ = _ ∧ _ = _ ∧ _ = _ ∧ True from ⟨e0, e1, e2, e3, e4, trivial⟩) (sX8_find_11 G hn hC hr a1 a2 N (fX8_find_23 N) v3 v4 w h (fun v3 w h => (sX8_find_23 G hn hC hr a1 a2 v3 w h)))
      rw [if_neg hj] at h
      cases h
    · exact (show _ = _ ∧ _ = _ ∧ _ = _ ∧ True from ⟨rfl, rfl, rfl, trivial⟩)
-- MoorGuides$Sharing.areLed(LMoorGuides$Moor;II)Z
def tX8_areLed : List EN := [
  (0, .iconst 0, 0, 0, 0, 0, 0, []), (1, .istore 4, 0, 0, 0, 0, 0, []), (3, .iload 4, 3, 0, 0, 0, 0, []), (5, .aload_n 1, 0, 0, 0, 0, 0, []),
  (6, .getfield 40, 0, 4, 5, 0, 0, []), (9, .if_icmp .ge 38, 0, 26, 0, 0, 0, []), (12, .iload_n 2, 0, 0, 0, 0, 0, []), (13, .iload 4, 0, 0, 0, 0, 0, []),
  (15, .ishr, 0, 0, 0, 0, 0, []), (16, .iconst 1, 0, 0, 0, 1, 0, []), (17, .iand, 0, 0, 0, 0, 0, []), (18, .ifCond .eq 23, 0, 24, 0, 0, 0, []),
  (21, .aload_n 1, 0, 0, 0, 0, 0, []), (22, .iload 4, 0, 0, 0, 0, 0, []), (24, .aload_n 0, 0, 0, 0, 0, 0, []), (25, .getfield 20, 0, 8, 3, 0, 0, []),
  (28, .iload 4, 0, 0, 0, 0, 0, []), (30, .iaload, 0, 0, 0, 0, 0, []), (31, .iload_n 3, 0, 0, 0, 0, 0, []), (32, .ior, 0, 0, 0, 0, 0, []),
  (33, .invokevirtual 73, 0, 0, 3, 0, 0, []), (36, .ifCond .ne 5, 0, 24, 0, 0, 0, []), (39, .iconst 0, 0, 0, 0, 0, 0, []), (40, .ireturn, 0, 0, 0, 0, 0, []),
  (41, .iinc 4 1, 0, 0, 0, 1, 0, []), (44, .goto (-41), 0, 2, 0, 0, 0, []), (47, .iconst 1, 0, 0, 0, 1, 0, []), (48, .ireturn, 0, 0, 0, 0, 0, [])]
noncomputable def fX8_areLed_2 (N : Nat) (i1 : Nat) (a2 : Int32) (a3 : Int32) : Nat → Int32 → Wd → Option (Int32 × Wd)
  | 0, _, _ => none
  | n + 1, v4, w =>
    if v4 < (gI w 8 i1 5) then
      if ((a2 >>> (v4 &&& (31 : Int32))) &&& (1 : Int32)) = 0 then callW (fX8_areLed_2 N i1 a2 a3 n (v4 + (1 : Int32))) w else
      (ldI w 58 0 v4 8).bind fun x1 =>
      (callW (pX4_isLed N i1 v4 (x1 ||| a3)) w).bind fun r2 =>
      if r2.1 = 0 then some ((0 : Int32), r2.2) else
      callW (fX8_areLed_2 N i1 a2 a3 n (v4 + (1 : Int32))) r2.2
    else
    some ((1 : Int32), w)
noncomputable def pX8_areLed (N : Nat) (i1 : Nat) (a2 : Int32) (a3 : Int32) (w : Wd) : Option (Int32 × Wd) :=
  callW (fX8_areLed_2 N i1 a2 a3 N (0 : Int32)) w
noncomputable def mX8_areLed (N : Nat) (as : List AV) (w : Wd) : Option (Int32 × Wd) := xS1 12 as fun t => xR1 8 t fun i1 t => xI1 t fun a2 t => xI1 t fun a3 t => xN1 t (callW (pX8_areLed N i1 a2 a3) w)
set_option maxRecDepth 100000 in
set_option maxHeartbeats 4000000 in
theorem kX8_areLed : TK cX8_areLed RX8 5 tX8_areLed := ⟨by decide +kernel, wok_of [282, 613] (by decide +kernel) (by decide +kernel)⟩
set_option maxRecDepth 100000 in
set_option maxHeartbeats 4000000 in
theorem sX8_areLed_2 {N : Nat} {X : XT} (G : GX X cX8_areLed RX8) (hn : xnL X = 5) (hC : CRs X tX8_areLed (oF [(mX4_isLed N)]) (oF []) (oF [])) {r : Int32 × Wd} (hr : RTZ X cX8_areLed r) (i1 : Nat) (a2 : Int32) (a3 : Int32) : ∀ (n : Nat) (v4 : Int32) (w : Wd), fX8_areLed_2 N i1 a2 a3 n v4 w = some r → WW X (pcAt tX8_areLed 2) [some (.inr (.inr (12, 0))), some (.inr (.inr (8, i1))), some (.inl a2), some (.inl a3), some (.inl v4)] [] w := by
  intro n
  induction n with
  | zero => intro v4 w h; cases h
  | succ n ih =>
    intro v4 w h
    refine run_sound (r := r) (X := X) (cc := cX8_areLed) (own := RX8) (tab := tX8_areLed) G (by rw [hn]; exact kX8_areLed) (oI := (oF [(mX4_isLed N)])) (oL := (oF [])) (oV := (oF [])) (rI := retZ) (rL := (fun _ _ => none)) (rV := (fun _ => none))
      (K := (fun j ls st w => if j = 2 then (lgI ls 4 fun v4 => st0 st (callW (fX8_areLed_2 N i1 a2 a3 n v4) w)) else none)) hr (fun _ _ _ _ hx => by cases hx) (fun _ _ _ hx => by cases hx) hC (fun ls => lsb [some (.inr (.inr (12, 0))), some (.inr (.inr (8, i1))), some (.inl a2), some (.inl a3), none] 0 ls) (keepsP_of rfl) ?_ 30 2 [some (.inr (.inr (12, 0))), some (.inr (.inr (8, i1))), some (.inl a2), some (.inl a3), some (.inl v4)] [] w ?_ h
    · intro j ls st w hfx h
      obtain ⟨e0, e1, e2, e3, -⟩ : _ = _ ∧ _ = _ ∧ _ = _ ∧ _ = _ ∧ True := hfx
      try dsimp only at h
      by_cases hj : j = 2
      · subst hj
        rw [if_pos rfl] at h
        obtain ⟨v4, e4, h_1⟩ := lgI_some h
        obtain ⟨rfl, h_2⟩ := st0_some h_1
        clear h h_1
        have h := h_2
        try rw [callW_eq] at h
        exact WW.le (a := [some (.inr (.inr (12, 0))), some (.inr (.inr (8, i1))), some (.inl a2), some (.inl a3), some (.inl v4)]) (by rw [hn]; rfl) (show _ = _ ∧ _ = _ ∧ _ = _ ∧ _ = _ ∧ _ = _ ∧ True from ⟨e0, e1, e2, e3, e4, trivial⟩) (ih v4 w h)
      rw [if_neg hj] at h
      cases h
    · exact (show _ = _ ∧ _ = _ ∧ _ = _ ∧ _ = _ ∧ True from ⟨rfl, rfl, rfl, rfl, trivial⟩)
set_option maxRecDepth 100000 in
set_option maxHeartbeats 4000000 in
theorem crX8_areLed {N : Nat} {X : XT} (G : GX X cX8_areLed RX8) (hR : xR X = rmL 3) : CRs X tX8_areLed (oF [(mX4_isLed N)]) (oF []) (oF []) := by
  have hl : tX8_areLed.filter isInv = [(33, .invokevirtual 73, 0, 0, 3, 0, 0, [])] := rfl
  intro e he
  rw [hl] at he
  simp only [List.mem_cons, List.not_mem_nil, or_false] at he
  rcases he with rfl
  · exact crI_V (idx := 73) G (by decide +kernel) (MX4_isLed N) (cw_of (ps := [1233, 1234, 1235, 147, 1236]) (by decide +kernel) (by decide +kernel)) ⟨by decide +kernel, by decide +kernel, by decide +kernel⟩ (by unfold rmOk; rw [hR]; exact ⟨by decide, by decide⟩)
set_option maxRecDepth 100000 in
set_option maxHeartbeats 4000000 in
theorem MX8_areLed (N : Nat) : SndI yX8_areLed cX8_areLed 5 (some .boolean) 3 4 true (mX8_areLed N) := by
  refine SndI.ofZ tX8_areLed (by decide +kernel) rfl rfl ?_ ?_
  · intro as w x h
    obtain ⟨t1, rfl, h_1⟩ := xS1_some h
    obtain ⟨i1, t2, rfl, h_2⟩ := xR1_some h_1
    obtain ⟨a2, t3, rfl, h_3⟩ := xI1_some h_2
    obtain ⟨a3, t4, rfl, h_4⟩ := xI1_some h_3
    obtain ⟨rfl, h_5⟩ := xN1_some h_4
    clear h h_1 h_2 h_3 h_4
    have h := h_5
    rw [callW_eq] at h
    exact ⟨fun _ => ⟨_, _, _, rfl, rfl, _, rfl, rfl⟩, rfl, Nat.le_of_ble_eq_true rfl⟩
  · intro X G hn hR as w r h hr
    have hC := crX8_areLed (N := N) G hR
    obtain ⟨t1, rfl, h_1⟩ := xS1_some h
    obtain ⟨i1, t2, rfl, h_2⟩ := xR1_some h_1
    obtain ⟨a2, t3, rfl, h_3⟩ := xI1_some h_2
    obtain ⟨a3, t4, rfl, h_4⟩ := xI1_some h_3
    obtain ⟨rfl, h_5⟩ := xN1_some h_4
    clear h h_1 h_2 h_3 h_4
    have h := h_5
    rw [callW_eq] at h
    refine run_sound (r := r) (X := X) (cc := cX8_areLed) (own := RX8) (tab := tX8_areLed) G (by rw [hn]; exact kX8_areLed) (oI := (oF [(mX4_isLed N)])) (oL := (oF [])) (oV := (oF [])) (rI := retZ) (rL := (fun _ _ => none)) (rV := (fun _ => none))
      (K := (fun j ls st w => if j = 2 then (lgI ls 4 fun v4 => st0 st (callW (fX8_areLed_2 N i1 a2 a3 N v4) w)) else none)) hr (fun _ _ _ _ hx => by cases hx) (fun _ _ _ hx => by cases hx) hC (fun ls => lsb [some (.inr (.inr (12, 0))), some (.inr (.inr (8, i1))), some (.inl a2), some (.inl a3), none] 0 ls) (keepsP_of rfl) ?_ 30 0 [some (.inr (.inr (12, 0))), some (.inr (.inr (8, i1))), some (.inl a2), some (.inl a3), none] [] w ?_ h
    · intro j ls st w hfx h
      obtain ⟨e0, e1, e2, e3, -⟩ : _ = _ ∧ _ = _ ∧ _ = _ ∧ _ = _ ∧ True := hfx
      try dsimp only at h
      by_cases hj : j = 2
      · subst hj
        rw [if_pos rfl] at h
        obtain ⟨v4, e4, h_1⟩ := lgI_some h
        obtain ⟨rfl, h_2⟩ := st0_some h_1
        clear h h_1
        have h := h_2
        try rw [callW_eq] at h
        exact WW.le (a := [some (.inr (.inr (12, 0))), some (.inr (.inr (8, i1))), some (.inl a2), some (.inl a3), some (.inl v4)]) (by rw [hn]; rfl) (show _ = _ ∧ _ = _ ∧ _ = _ ∧ _ = _ ∧ _ = _ ∧ True from ⟨e0, e1, e2, e3, e4, trivial⟩) (sX8_areLed_2 G hn hC hr i1 a2 a3 N v4 w h)
      rw [if_neg hj] at h
      cases h
    · exact (show _ = _ ∧ _ = _ ∧ _ = _ ∧ _ = _ ∧ True from ⟨rfl, rfl, rfl, rfl, trivial⟩)
-- MoorGuides$Sharing.fewestParts(I)I
def tX8_fewestParts : List EN := [
  (0, .aload_n 0, 0, 0, 0, 0, 0, []), (1, .getfield 26, 0, 8, 0, 0, 0, []), (4, .getfield 34, 0, 9, 0, 0, 0, []), (7, .astore_n 2, 0, 0, 0, 0, 0, []),
  (8, .iconst 0, 0, 0, 0, 0, 0, []), (9, .istore_n 3, 0, 0, 0, 0, 0, []), (10, .iload_n 3, 7, 0, 0, 0, 0, []), (11, .aload_n 2, 0, 0, 0, 0, 0, []),
  (12, .getfield 40, 0, 4, 5, 0, 0, []), (15, .if_icmp .ge 40, 0, 31, 0, 0, 0, []), (18, .aload_n 0, 0, 0, 0, 0, 0, []), (19, .getfield 20, 0, 8, 3, 0, 0, []),
  (22, .iload_n 3, 0, 0, 0, 0, 0, []), (23, .iload_n 1, 0, 0, 0, 0, 0, []), (24, .iload_n 3, 0, 0, 0, 0, 0, []), (25, .ishr, 0, 0, 0, 0, 0, []),
  (26, .iconst 1, 0, 0, 0, 1, 0, []), (27, .iand, 0, 0, 0, 0, 0, []), (28, .ifCond .eq 19, 0, 27, 0, 0, 0, []), (31, .aload_n 0, 0, 0, 0, 0, 0, []),
  (32, .getfield 26, 0, 8, 0, 0, 0, []), (35, .aload_n 2, 0, 0, 0, 0, 0, []), (36, .getfield 70, 0, 4, 8, 0, 0, []), (39, .iload_n 3, 0, 0, 0, 0, 0, []),
  (40, .iaload, 0, 0, 0, 0, 0, []), (41, .invokevirtual 82, 0, 0, 2, 0, 0, []), (44, .goto 4, 0, 28, 0, 0, 0, []), (47, .iconst 0, 0, 0, 0, 0, 0, []),
  (48, .iastore, 0, 0, 0, 0, 0, []), (49, .iinc 3 1, 0, 0, 0, 1, 0, []), (52, .goto (-42), 0, 6, 0, 0, 0, []), (55, .bipush (-2), 32, 0, 0, (-2), 0, []),
  (57, .istore_n 3, 0, 0, 0, 0, 0, []), (58, .bipush 9, 0, 0, 0, 9, 0, []), (60, .istore 4, 0, 0, 0, 0, 0, []), (62, .iconst 0, 0, 0, 0, 0, 0, []),
  (63, .istore 5, 0, 0, 0, 0, 0, []), (65, .iload 5, 38, 0, 0, 0, 0, []), (67, .aload_n 2, 0, 0, 0, 0, 0, []), (68, .invokevirtual 86, 0, 1, 1, 0, 0, []),
  (71, .if_icmp .gt 40, 0, 58, 0, 0, 0, []), (74, .iload 5, 0, 0, 0, 0, 0, []), (76, .invokestatic 90, 0, 2, 1, 0, 0, []), (79, .iload 4, 0, 0, 0, 0, 0, []),
  (81, .if_icmp .ge 24, 0, 56, 0, 0, 0, []), (84, .aload_n 0, 0, 0, 0, 0, 0, []), (85, .aload_n 2, 0, 0, 0, 0, 0, []), (86, .iload_n 1, 0, 0, 0, 0, 0, []),
  (87, .iload 5, 0, 0, 0, 0, 0, []), (89, .invokevirtual 95, 0, 3, 4, 0, 0, []), (92, .ifCond .eq 13, 0, 56, 0, 0, 0, []), (95, .iload 5, 0, 0, 0, 0, 0, []),
  (97, .istore_n 3, 0, 0, 0, 0, 0, []), (98, .iload 5, 0, 0, 0, 0, 0, []), (100, .invokestatic 90, 0, 2, 1, 0, 0, []), (103, .istore 4, 0, 0, 0, 0, 0, []),
  (105, .iinc 5 1, 0, 0, 0, 1, 0, []), (108, .goto (-43), 0, 37, 0, 0, 0, []), (111, .iload_n 3, 0, 0, 0, 0, 0, []), (112, .ireturn, 0, 0, 0, 0, 0, [])]
noncomputable def fX8_fewestParts_37 (N : Nat) (a1 : Int32) : Nat → Nat → Int32 → Int32 → Int32 → Wd → Option (Int32 × Wd)
  | 0, _, _, _, _, _ => none
  | n + 1, q2, v3, v4, v5, w =>
    (callW (pX4_allParts N q2) w).bind fun r1 =>
    if r1.1 < v5 then some (v3, r1.2) else
    (callW (pJ6_bitCount_0f7a4 N v5) r1.2).bind fun r2 =>
    if r2.1 < v4 then
      (callW (pX8_areLed N q2 a1 v5) r2.2).bind fun r3 =>
      if r3.1 = 0 then callW (fX8_fewestParts_37 N a1 n q2 v3 v4 (v5 + (1 : Int32))) r3.2 else
      (callW (pJ6_bitCount_0f7a4 N v5) r3.2).bind fun r4 =>
      callW (fX8_fewestParts_37 N a1 n q2 v5 r4.1 (v5 + (1 : Int32))) r4.2
    else
    callW (fX8_fewestParts_37 N a1 n q2 v3 v4 (v5 + (1 : Int32))) r2.2
noncomputable def fX8_fewestParts_31 (N : Nat) (a1 : Int32) (q2 : Nat) (w : Wd) : Option (Int32 × Wd) :=
  callW (fX8_fewestParts_37 N a1 N q2 (-2 : Int32) (9 : Int32) (0 : Int32)) w
noncomputable def fX8_fewestParts_6 (N : Nat) (a1 : Int32) : Nat → (Nat → Wd → Option (Int32 × Wd)) → Nat → Int32 → Wd → Option (Int32 × Wd)
  | 0, _, _, _, _ => none
  | n + 1, k31, q2, v3, w =>
    if v3 < (gI w 8 q2 5) then
      if ((a1 >>> (v3 &&& (31 : Int32))) &&& (1 : Int32)) = 0 then
        (stI w 58 0 v3 8 (0 : Int32)).bind fun w1 =>
        callW (fX8_fewestParts_6 N a1 n k31 q2 (v3 + (1 : Int32))) w1
      else
      (ldI w 35 q2 v3 8).bind fun x2 =>
      (callW (pX9_knownByAny N 0 x2) w).bind fun r3 =>
      (stI r3.2 58 0 v3 8 r3.1).bind fun w4 =>
      callW (fX8_fewestParts_6 N a1 n k31 q2 (v3 + (1 : Int32))) w4
    else
    k31 q2 w
noncomputable def pX8_fewestParts (N : Nat) (a1 : Int32) (w : Wd) : Option (Int32 × Wd) :=
  callW (fX8_fewestParts_6 N a1 N (fX8_fewestParts_31 N a1) (gR w 13 0 0) (0 : Int32)) w
noncomputable def mX8_fewestParts (N : Nat) (as : List AV) (w : Wd) : Option (Int32 × Wd) := xS1 12 as fun t => xI1 t fun a1 t => xN1 t (callW (pX8_fewestParts N a1) w)
set_option maxRecDepth 100000 in
set_option maxHeartbeats 4000000 in
theorem kX8_fewestParts : TK cX8_fewestParts RX8 6 tX8_fewestParts := ⟨by decide +kernel, wok_of [610, 517, 282, 613, 610, 294] (by decide +kernel) (by decide +kernel)⟩
set_option maxRecDepth 100000 in
set_option maxHeartbeats 4000000 in
theorem sX8_fewestParts_37 {N : Nat} {X : XT} (G : GX X cX8_fewestParts RX8) (hn : xnL X = 6) (hC : CRs X tX8_fewestParts (oF [(mX9_knownByAny N), (mX4_allParts N), (mJ6_bitCount_0f7a4 N), (mX8_areLed N)]) (oF []) (oF [])) {r : Int32 × Wd} (hr : RTI X cX8_fewestParts r) (a1 : Int32) : ∀ (n : Nat) (q2 : Nat) (v3 : Int32) (v4 : Int32) (v5 : Int32) (w : Wd), fX8_fewestParts_37 N a1 n q2 v3 v4 v5 w = some r → WW X (pcAt tX8_fewestParts 37) [some (.inr (.inr (12, 0))), some (.inl a1), some (.inr (.inr (8, q2))), some (.inl v3), some (.inl v4), some (.inl v5)] [] w := by
  intro n
  induction n with
  | zero => intro q2 v3 v4 v5 w h; cases h
  | succ n ih =>
    intro q2 v3 v4 v5 w h
    refine run_sound (r := r) (X := X) (cc := cX8_fewestParts) (own := RX8) (tab := tX8_fewestParts) G (by rw [hn]; exact kX8_fewestParts) (oI := (oF [(mX9_knownByAny N), (mX4_allParts N), (mJ6_bitCount_0f7a4 N), (mX8_areLed N)])) (oL := (oF [])) (oV := (oF [])) (rI := (fun x w => some (x, w))) (rL := (fun _ _ => none)) (rV := (fun _ => none))
      (K := (fun j ls st w => if j = 37 then (lgR ls 2 fun kk q2 => if kk = 8 then lgI ls 3 fun v3 => lgI ls 4 fun v4 => lgI ls 5 fun v5 => st0 st (callW (fX8_fewestParts_37 N a1 n q2 v3 v4 v5) w) else none) else none)) (fun x w pc ls hx hd => hr x w pc ls (Option.some.inj hx) hd) (fun _ _ _ _ hx => by cases hx) (fun _ _ _ hx => by cases hx) hC (fun ls => lsb [some (.inr (.inr (12, 0))), some (.inl a1), none, none, none, none] 0 ls) (keepsP_of rfl) ?_ 62 37 [some (.inr (.inr (12, 0))), some (.inl a1), some (.inr (.inr (8, q2))), some (.inl v3), some (.inl v4), some (.inl v5)] [] w ?_ h
    · intro j ls st w hfx h
      obtain ⟨e0, e1, -⟩ : _ = _ ∧ _ = _ ∧ True := hfx
      try dsimp only at h
      by_cases hj : j = 37
      · subst hj
        rw [if_pos rfl] at h
        obtain ⟨kk2, q2, e2, h_1⟩ := lgR_some h
        obtain ⟨rfl, h_2⟩ := if_some _ h_1
        obtain ⟨v3, e3, h_3⟩ := lgI_some h_2
        obtain ⟨v4, e4, h_4⟩ := lgI_some h_3
        obtain ⟨v5, e5, h_5⟩ := lgI_some h_4
        obtain ⟨rfl, h_6⟩ := st0_some h_5
        clear h h_1 h_2 h_3 h_4 h_5
        have h := h_6
        try rw [callW_eq] at h
        exact WW.le (a := [some (.inr (.inr (12, 0))), some (.inl a1), some (.inr (.inr (8, q2))), some (.inl v3), some (.inl v4), some (.inl v5)]) (by rw [hn]; rfl) (show _ = _ ∧ _ = _ ∧ _ = _ ∧ _ = _ ∧ _ = _ ∧ _ = _ ∧ True from ⟨e0, e1, e2, e3, e4, e5, trivial⟩) (ih q2 v3 v4 v5 w h)
      rw [if_neg hj] at h
      cases h
    · exact (show _ = _ ∧ _ = _ ∧ True from ⟨rfl, rfl, trivial⟩)
set_option maxRecDepth 100000 in
set_option maxHeartbeats 4000000 in
theorem sX8_fewestParts_31 {N : Nat} {X : XT} (G : GX X cX8_fewestParts RX8) (hn : xnL X = 6) (hC : CRs X tX8_fewestParts (oF [(mX9_knownByAny N), (mX4_allParts N), (mJ6_bitCount_0f7a4 N), (mX8_areLed N)]) (oF []) (oF [])) {r : Int32 × Wd} (hr : RTI X cX8_fewestParts r) (a1 : Int32) : ∀ (q2 : Nat) (w : Wd), fX8_fewestParts_31 N a1 q2 w = some r → WW X (pcAt tX8_fewestParts 31) [some (.inr (.inr (12, 0))), some (.inl a1), some (.inr (.inr (8, q2))), none, none, none] [] w := by
  intro q2 w h
  refine run_sound (r := r) (X := X) (cc := cX8_fewestParts) (own := RX8) (tab := tX8_fewestParts) G (by rw [hn]; exact kX8_fewestParts) (oI := (oF [(mX9_knownByAny N), (mX4_allParts N), (mJ6_bitCount_0f7a4 N), (mX8_areLed N)])) (oL := (oF [])) (oV := (oF [])) (rI := (fun x w => some (x, w))) (rL := (fun _ _ => none)) (rV := (fun _ => none))
    (K := (fun j ls st w => if j = 37 then (lgR ls 2 fun kk q2 => if kk = 8 then lgI ls 3 fun v3 => lgI ls 4 fun v4 => lgI ls 5 fun v5 => st0 st (callW (fX8_fewestParts_37 N a1 N q2 v3 v4 v5) w) else none) else none)) (fun x w pc ls hx hd => hr x w pc ls (Option.some.inj hx) hd) (fun _ _ _ _ hx => by cases hx) (fun _ _ _ hx => by cases hx) hC (fun ls => lsb [some (.inr (.inr (12, 0))), some (.inl a1), none, none, none, none] 0 ls) (keepsP_of rfl) ?_ 62 31 [some (.inr (.inr (12, 0))), some (.inl a1), some (.inr (.inr (8, q2))), none, none, none] [] w ?_ h
  · intro j ls st w hfx h
    obtain ⟨e0, e1, -⟩ : _ = _ ∧ _ = _ ∧ True := hfx
    try dsimp only at h
    by_cases hj : j = 37
    · subst hj
      rw [if_pos rfl] at h
      obtain ⟨kk2, q2, e2, h_1⟩ := lgR_some h
      obtain ⟨rfl, h_2⟩ := if_some _ h_1
      obtain ⟨v3, e3, h_3⟩ := lgI_some h_2
      obtain ⟨v4, e4, h_4⟩ := lgI_some h_3
      obtain ⟨v5, e5, h_5⟩ := lgI_some h_4
      obtain ⟨rfl, h_6⟩ := st0_some h_5
      clear h h_1 h_2 h_3 h_4 h_5
      have h := h_6
      try rw [callW_eq] at h
      exact WW.le (a := [some (.inr (.inr (12, 0))), some (.inl a1), some (.inr (.inr (8, q2))), some (.inl v3), some (.inl v4), some (.inl v5)]) (by rw [hn]; rfl) (show _ = _ ∧ _ = _ ∧ _ = _ ∧ _ = _ ∧ _ = _ ∧ _ = _ ∧ True from ⟨e0, e1, e2, e3, e4, e5, trivial⟩) (sX8_fewestParts_37 G hn hC hr a1 N q2 v3 v4 v5 w h)
    rw [if_neg hj] at h
    cases h
  · exact (show _ = _ ∧ _ = _ ∧ True from ⟨rfl, rfl, trivial⟩)
set_option maxRecDepth 100000 in
set_option maxHeartbeats 4000000 in
theorem sX8_fewestParts_6 {N : Nat} {X : XT} (G : GX X cX8_fewestParts RX8) (hn : xnL X = 6) (hC : CRs X tX8_fewestParts (oF [(mX9_knownByAny N), (mX4_allParts N), (mJ6_bitCount_0f7a4 N), (mX8_areLed N)]) (oF []) (oF [])) {r : Int32 × Wd} (hr : RTI X cX8_fewestParts r) (a1 : Int32) : ∀ (n : Nat) (k31 : Nat → Wd → Option (Int32 × Wd)) (q2 : Nat) (v3 : Int32) (w : Wd), fX8_fewestParts_6 N a1 n k31 q2 v3 w = some r → (∀ (q2 : Nat) (w : Wd), k31 q2 w = some r → WW X (pcAt tX8_fewestParts 31) [some (.inr (.inr (12, 0))), some (.inl a1), some (.inr (.inr (8, q2))), none, none, none] [] w) → WW X (pcAt tX8_fewestParts 6) [some (.inr (.inr (12, 0))), some (.inl a1), some (.inr (.inr (8, q2))), some (.inl v3), none, none] [] w := by
  intro n
  induction n with
  | zero => intro k31 q2 v3 w h h31; cases h
  | succ n ih =>
    intro k31 q2 v3 w h h31
    refine run_sound (r := r) (X := X) (cc := cX8_fewestParts) (own := RX8) (tab := tX8_fewestParts) G (by rw [hn]; exact kX8_fewestParts) (oI := (oF [(mX9_knownByAny N), (mX4_allParts N), (mJ6_bitCount_0f7a4 N), (mX8_areLed N)])) (oL := (oF [])) (oV := (oF [])) (rI := (fun x w => some (x, w))) (rL := (fun _ _ => none)) (rV := (fun _ => none))
      (K := (fun j ls st w => if j = 6 then (lgR ls 2 fun kk q2 => if kk = 8 then lgI ls 3 fun v3 => st0 st (callW (fX8_fewestParts_6 N a1 n k31 q2 v3) w) else none) else if j = 31 then (lgR ls 2 fun kk q2 => if kk = 8 then st0 st (k31 q2 w) else none) else none)) (fun x w pc ls hx hd => hr x w pc ls (Option.some.inj hx) hd) (fun _ _ _ _ hx => by cases hx) (fun _ _ _ hx => by cases hx) hC (fun ls => lsb [some (.inr (.inr (12, 0))), some (.inl a1), none, none, none, none] 0 ls) (keepsP_of rfl) ?_ 62 6 [some (.inr (.inr (12, 0))), some (.inl a1), some (.inr (.inr (8, q2))), some (.inl v3), none, none] [] w ?_ h
    · intro j ls st w hfx h
      obtain ⟨e0, e1, -⟩ : _ = _ ∧ _ = _ ∧ True := hfx
      try dsimp only at h
      by_cases hj : j = 6
      · subst hj
        rw [if_pos rfl] at h
        obtain ⟨kk2, q2, e2, h_1⟩ := lgR_some h
        obtain ⟨rfl, h_2⟩ := if_some _ h_1
        obtain ⟨v3, e3, h_3⟩ := lgI_some h_2
        obtain ⟨rfl, h_4⟩ := st0_some h_3
        clear h h_1 h_2 h_3
        have h := h_4
        try rw [callW_eq] at h
        exact WW.le (a := [some (.inr (.inr (12, 0))), some (.inl a1), some (.inr (.inr (8, q2))), some (.inl v3), none, none]) (by rw [hn]; rfl) (show _ = _ ∧ _ = _ ∧ _ = _ ∧ _ = _ ∧ True from ⟨e0, e1, e2, e3, trivial⟩) (ih k31 q2 v3 w h h31)
      rw [if_neg hj] at h
      by_cases hj : j = 31
      · subst hj
        rw [if_pos rfl] at h
        obtain ⟨kk2, q2, e2, h_1⟩ := lgR_some h
        obtain ⟨rfl, h_2⟩ := if_some _ h_1
        obtain ⟨rfl, h_3⟩ := st0_some h_2
        clear h h_1 h_2
        have h := h_3
        try rw [callW_eq] at h
        exact WW.le (a := [some (.inr (.inr (12, 0))), some (.inl a1), some (.inr (.inr (8, q2))), none, none, none]) (by rw [hn]; rfl) (show _ = _ ∧ _ = _ ∧ _ = _ ∧ True from ⟨e0, e1, e2, trivial⟩) (h31 q2 w h)
      rw [if_neg hj] at h
      cases h
    · exact (show _ = _ ∧ _ = _ ∧ True from ⟨rfl, rfl, trivial⟩)
set_option maxRecDepth 100000 in
set_option maxHeartbeats 4000000 in
theorem crX8_fewestParts {N : Nat} {X : XT} (G : GX X cX8_fewestParts RX8) (hR : xR X = rmL 4) : CRs X tX8_fewestParts (oF [(mX9_knownByAny N), (mX4_allParts N), (mJ6_bitCount_0f7a4 N), (mX8_areLed N)]) (oF []) (oF []) := by
  have hl : tX8_fewestParts.filter isInv = [(41, .invokevirtual 82, 0, 0, 2, 0, 0, []), (68, .invokevirtual 86, 0, 1, 1, 0, 0, []), (76, .invokestatic 90, 0, 2, 1, 0, 0, []), (89, .invokevirtual 95, 0, 3, 4, 0, 0, []), (100, .invokestatic 90, 0, 2, 1, 0, 0, [])] := rfl
  intro e he
  rw [hl] at he
  simp only [List.mem_cons, List.not_mem_nil, or_false] at he
  rcases he with rfl | rfl | rfl | rfl | rfl
  · exact crI_V (idx := 82) G (by decide +kernel) (MX9_knownByAny N) (cw_of (ps := [1279, 1263, 1264, 156, 1265]) (by decide +kernel) (by decide +kernel)) ⟨by decide +kernel, by decide +kernel, by decide +kernel⟩ (by unfold rmOk; rw [hR]; exact ⟨by decide, by decide⟩)
  · exact crI_V (idx := 86) G (by decide +kernel) (MX4_allParts N) (cw_of (ps := [1280, 1041, 1042, 147, 1043]) (by decide +kernel) (by decide +kernel)) ⟨by decide +kernel, by decide +kernel, by decide +kernel⟩ (by unfold rmOk; rw [hR]; exact ⟨by decide, by decide⟩)
  · exact crI_S (idx := 90) G (by decide +kernel) (MJ6_bitCount_0f7a4 N) (cw_of (ps := [1281, 1066, 169, 1067]) (by decide +kernel) (by decide +kernel)) ⟨by decide +kernel, by decide +kernel, by decide +kernel⟩ (by unfold rmOk; rw [hR]; exact ⟨by decide, by decide⟩)
  · exact crI_V (idx := 95) G (by decide +kernel) (MX8_areLed N) (cw_of (ps := [1282, 1284, 56, 158, 1285]) (by decide +kernel) (by decide +kernel)) ⟨by decide +kernel, by decide +kernel, by decide +kernel⟩ (by unfold rmOk; rw [hR]; exact ⟨by decide, by decide⟩)
  · exact crI_S (idx := 90) G (by decide +kernel) (MJ6_bitCount_0f7a4 N) (cw_of (ps := [1281, 1066, 169, 1067]) (by decide +kernel) (by decide +kernel)) ⟨by decide +kernel, by decide +kernel, by decide +kernel⟩ (by unfold rmOk; rw [hR]; exact ⟨by decide, by decide⟩)
set_option maxRecDepth 100000 in
set_option maxHeartbeats 4000000 in
theorem MX8_fewestParts (N : Nat) : SndI yX8_fewestParts cX8_fewestParts 6 (some .int) 4 2 true (mX8_fewestParts N) := by
  refine SndI.of tX8_fewestParts (by decide +kernel) rfl rfl ?_ ?_
  · intro as w x h
    obtain ⟨t1, rfl, h_1⟩ := xS1_some h
    obtain ⟨a1, t2, rfl, h_2⟩ := xI1_some h_1
    obtain ⟨rfl, h_3⟩ := xN1_some h_2
    clear h h_1 h_2
    have h := h_3
    rw [callW_eq] at h
    exact ⟨fun _ => ⟨_, _, _, rfl, rfl, _, rfl, rfl⟩, rfl, Nat.le_of_ble_eq_true rfl⟩
  · intro X G hn hR as w r h hr
    have hC := crX8_fewestParts (N := N) G hR
    obtain ⟨t1, rfl, h_1⟩ := xS1_some h
    obtain ⟨a1, t2, rfl, h_2⟩ := xI1_some h_1
    obtain ⟨rfl, h_3⟩ := xN1_some h_2
    clear h h_1 h_2
    have h := h_3
    rw [callW_eq] at h
    refine run_sound (r := r) (X := X) (cc := cX8_fewestParts) (own := RX8) (tab := tX8_fewestParts) G (by rw [hn]; exact kX8_fewestParts) (oI := (oF [(mX9_knownByAny N), (mX4_allParts N), (mJ6_bitCount_0f7a4 N), (mX8_areLed N)])) (oL := (oF [])) (oV := (oF [])) (rI := (fun x w => some (x, w))) (rL := (fun _ _ => none)) (rV := (fun _ => none))
      (K := (fun j ls st w => if j = 6 then (lgR ls 2 fun kk q2 => if kk = 8 then lgI ls 3 fun v3 => st0 st (callW (fX8_fewestParts_6 N a1 N (fX8_fewestParts_31 N a1) q2 v3) w) else none) else none)) (fun x w pc ls hx hd => hr x w pc ls (Option.some.inj hx) hd) (fun _ _ _ _ hx => by cases hx) (fun _ _ _ hx => by cases hx) hC (fun ls => lsb [some (.inr (.inr (12, 0))), some (.inl a1), none, none, none, none] 0 ls) (keepsP_of rfl) ?_ 62 0 [some (.inr (.inr (12, 0))), some (.inl a1), none, none, none, none] [] w ?_ h
    · intro j ls st w hfx h
      obtain ⟨e0, e1, -⟩ : _ = _ ∧ _ = _ ∧ True := hfx
      try dsimp only at h
      by_cases hj : j = 6
      · subst hj
        rw [if_pos rfl] at h
        obtain ⟨kk2, q2, e2, h_1⟩ := lgR_some h
        obtain ⟨rfl, h_2⟩ := if_some _ h_1
        obtain ⟨v3, e3, h_3⟩ := lgI_some h_2
        obtain ⟨rfl, h_4⟩ := st0_some h_3
        clear h h_1 h_2 h_3
        have h := h_4
        try rw [callW_eq] at h
        exact WW.le (a := [some (.inr (.inr (12, 0))), some (.inl a1), some (.inr (.inr (8, q2))), some (.inl v3), none, none]) (by rw [hn]; rfl) (show _ = _ ∧ _ = _ ∧ _ = _ ∧ _ = _ ∧ True from ⟨e0, e1, e2, e3, trivial⟩) (sX8_fewestParts_6 G hn hC hr a1 N (fX8_fewestParts_31 N a1) q2 v3 w h (fun q2 w h => (sX8_fewestParts_31 G hn hC hr a1 q2 w h)))
      rw [if_neg hj] at h
      cases h
    · exact (show _ = _ ∧ _ = _ ∧ True from ⟨rfl, rfl, trivial⟩)
-- MoorGuides$Stand.addSlide(II)Z
def tX9_addSlide : List EN := [
  (0, .aload_n 0, 0, 0, 0, 0, 0, []), (1, .getfield 68, 0, 9, 7, 0, 0, []), (4, .bipush 12, 0, 0, 0, 12, 0, []), (6, .if_icmp .lt 5, 0, 6, 0, 0, 0, []),
  (9, .iconst 0, 0, 0, 0, 0, 0, []), (10, .ireturn, 0, 0, 0, 0, 0, []), (11, .aload_n 0, 0, 0, 0, 0, 0, []), (12, .getfield 23, 0, 9, 8, 0, 0, []),
  (15, .aload_n 0, 0, 0, 0, 0, 0, []), (16, .getfield 68, 0, 9, 7, 0, 0, []), (19, .iload_n 1, 0, 0, 0, 0, 0, []), (20, .iastore, 0, 0, 0, 0, 0, []),
  (21, .aload_n 0, 0, 0, 0, 0, 0, []), (22, .getfield 26, 0, 9, 9, 0, 0, []), (25, .aload_n 0, 0, 0, 0, 0, 0, []), (26, .getfield 68, 0, 9, 7, 0, 0, []),
  (29, .iload_n 2, 0, 0, 0, 0, 0, []), (30, .iastore, 0, 0, 0, 0, 0, []), (31, .aload_n 0, 0, 0, 0, 0, 0, []), (32, .dup, 0, 0, 0, 0, 0, []),
  (33, .getfield 68, 0, 9, 7, 0, 0, []), (36, .iconst 1, 0, 0, 0, 1, 0, []), (37, .iadd, 0, 0, 0, 0, 0, []), (38, .putfield 68, 0, 9, 7, 0, 0, []),
  (41, .iconst 1, 0, 0, 0, 1, 0, []), (42, .ireturn, 0, 0, 0, 0, 0, [])]
noncomputable def pX9_addSlide (N : Nat) (i0 : Nat) (a1 : Int32) (a2 : Int32) (w : Wd) : Option (Int32 × Wd) :=
  if (gI w 13 i0 7) < (12 : Int32) then
    (stI w 64 i0 (gI w 13 i0 7) 12 a1).bind fun w1 =>
    (stI w1 65 i0 (gI w1 13 i0 7) 12 a2).bind fun w2 =>
    some ((1 : Int32), (setI w2 13 i0 7 ((gI w2 13 i0 7) + (1 : Int32))))
  else
  some ((0 : Int32), w)
noncomputable def mX9_addSlide (N : Nat) (as : List AV) (w : Wd) : Option (Int32 × Wd) := xR1 13 as fun i0 t => xI1 t fun a1 t => xI1 t fun a2 t => xN1 t (callW (pX9_addSlide N i0 a1 a2) w)
set_option maxRecDepth 100000 in
set_option maxHeartbeats 4000000 in
theorem kX9_addSlide : TK cX9_addSlide RX9 3 tX9_addSlide := ⟨by decide +kernel, wok_of [536, 538, 536, 539, 536, 536, 536] (by decide +kernel) (by decide +kernel)⟩
set_option maxRecDepth 100000 in
set_option maxHeartbeats 4000000 in
theorem crX9_addSlide {N : Nat} {X : XT} (G : GX X cX9_addSlide RX9) (hR : xR X = rmL 1) : CRs X tX9_addSlide (oF []) (oF []) (oF []) := by
  have hl : tX9_addSlide.filter isInv = [] := rfl
  intro e he
  rw [hl] at he
  cases he
set_option maxRecDepth 100000 in
set_option maxHeartbeats 4000000 in
theorem MX9_addSlide (N : Nat) : SndI yX9_addSlide cX9_addSlide 3 (some .boolean) 1 3 true (mX9_addSlide N) := by
  refine SndI.ofZ tX9_addSlide (by decide +kernel) rfl rfl ?_ ?_
  · intro as w x h
    obtain ⟨i0, t1, rfl, h_1⟩ := xR1_some h
    obtain ⟨a1, t2, rfl, h_2⟩ := xI1_some h_1
    obtain ⟨a2, t3, rfl, h_3⟩ := xI1_some h_2
    obtain ⟨rfl, h_4⟩ := xN1_some h_3
    clear h h_1 h_2 h_3
    have h := h_4
    rw [callW_eq] at h
    exact ⟨fun _ => ⟨_, _, _, rfl, rfl, _, rfl, rfl⟩, rfl, Nat.le_of_ble_eq_true rfl⟩
  · intro X G hn hR as w r h hr
    have hC := crX9_addSlide (N := N) G hR
    obtain ⟨i0, t1, rfl, h_1⟩ := xR1_some h
    obtain ⟨a1, t2, rfl, h_2⟩ := xI1_some h_1
    obtain ⟨a2, t3, rfl, h_3⟩ := xI1_some h_2
    obtain ⟨rfl, h_4⟩ := xN1_some h_3
    clear h h_1 h_2 h_3
    have h := h_4
    rw [callW_eq] at h
    refine run_sound (r := r) (X := X) (cc := cX9_addSlide) (own := RX9) (tab := tX9_addSlide) G (by rw [hn]; exact kX9_addSlide) (oI := (oF [])) (oL := (oF [])) (oV := (oF [])) (rI := retZ) (rL := (fun _ _ => none)) (rV := (fun _ => none))
      (K := (fun j ls st w => none)) hr (fun _ _ _ _ hx => by cases hx) (fun _ _ _ hx => by cases hx) hC (fun ls => lsb [some (.inr (.inr (13, i0))), some (.inl a1), some (.inl a2)] 0 ls) (keepsP_of rfl) ?_ 28 0 [some (.inr (.inr (13, i0))), some (.inl a1), some (.inl a2)] [] w ?_ h
    · intro j ls st w hfx h
      obtain ⟨e0, e1, e2, -⟩ : _ = _ ∧ _ = _ ∧ _ = _ ∧ True := hfx
      try dsimp only at h
      cases h
    · exact (show _ = _ ∧ _ = _ ∧ _ = _ ∧ True from ⟨rfl, rfl, rfl, trivial⟩)
-- MoorGuides$Stand.begin(LMoorGuides$Moor;)V
def tX9_begin : List EN := [
  (0, .aload_n 0, 0, 0, 0, 0, 0, []), (1, .aload_n 1, 0, 0, 0, 0, 0, []), (2, .putfield 39, 0, 9, 0, 0, 0, []), (5, .aload_n 0, 0, 0, 0, 0, 0, []),
  (6, .iconst 0, 0, 0, 0, 0, 0, []), (7, .putfield 43, 0, 9, 1, 0, 0, []), (10, .aload_n 0, 0, 0, 0, 0, 0, []), (11, .aload_n 1, 0, 0, 0, 0, 0, []),
  (12, .getfield 47, 0, 4, 16, 0, 0, []), (15, .i2l, 0, 0, 0, 0, 0, []), (16, .putfield 52, 0, 9, 2, 0, 0, []), (19, .aload_n 0, 0, 0, 0, 0, 0, []),
  (20, .iconst 0, 0, 0, 0, 0, 0, []), (21, .putfield 56, 0, 9, 3, 0, 0, []), (24, .iconst 0, 0, 0, 0, 0, 0, []), (25, .istore_n 2, 0, 0, 0, 0, 0, []),
  (26, .iload_n 2, 17, 0, 0, 0, 0, []), (27, .bipush 6, 0, 0, 0, 6, 0, []), (29, .if_icmp .ge 67, 0, 57, 0, 0, 0, []), (32, .aload_n 0, 0, 0, 0, 0, 0, []),
  (33, .getfield 9, 0, 9, 4, 0, 0, []), (36, .iload_n 2, 0, 0, 0, 0, 0, []), (37, .iconst 0, 0, 0, 0, 0, 0, []), (38, .iastore, 0, 0, 0, 0, 0, []),
  (39, .aload_n 0, 0, 0, 0, 0, 0, []), (40, .getfield 20, 0, 9, 6, 0, 0, []), (43, .iload_n 2, 0, 0, 0, 0, 0, []), (44, .iconst (-1), 0, 0, 0, (-1), 0, []),
  (45, .iastore, 0, 0, 0, 0, 0, []), (46, .iconst 0, 0, 0, 0, 0, 0, []), (47, .istore_n 3, 0, 0, 0, 0, 0, []), (48, .iload_n 3, 32, 0, 0, 0, 0, []),
  (49, .bipush 8, 0, 0, 0, 8, 0, []), (51, .if_icmp .ge 39, 0, 55, 0, 0, 0, []), (54, .aload_n 0, 0, 0, 0, 0, 0, []), (55, .getfield 17, 0, 9, 5, 0, 0, []),
  (58, .iload_n 2, 0, 0, 0, 0, 0, []), (59, .aaload, 0, 0, 0, 0, 0, []), (60, .iload_n 3, 0, 0, 0, 0, 0, []), (61, .aload_n 1, 0, 0, 0, 0, 0, []),
  (62, .getfield 59, 0, 4, 4, 0, 0, []), (65, .getfield 63, 0, 6, 2, 0, 0, []), (68, .iload_n 2, 0, 0, 0, 0, 0, []), (69, .iaload, 0, 0, 0, 0, 0, []),
  (70, .iload_n 3, 0, 0, 0, 0, 0, []), (71, .ishr, 0, 0, 0, 0, 0, []), (72, .iconst 1, 0, 0, 0, 1, 0, []), (73, .iand, 0, 0, 0, 0, 0, []),
  (74, .ifCond .eq 7, 0, 51, 0, 0, 0, []), (77, .iconst (-1), 0, 0, 0, (-1), 0, []), (78, .goto 5, 0, 52, 0, 0, 0, []), (81, .bipush (-2), 0, 0, 0, (-2), 0, []),
  (83, .iastore, 0, 0, 0, 0, 0, []), (84, .iinc 3 1, 0, 0, 0, 1, 0, []), (87, .goto (-39), 0, 31, 0, 0, 0, []), (90, .iinc 2 1, 56, 0, 0, 1, 0, []),
  (93, .goto (-67), 0, 16, 0, 0, 0, []), (96, .aload_n 0, 58, 0, 0, 0, 0, []), (97, .iconst 0, 0, 0, 0, 0, 0, []), (98, .putfield 68, 0, 9, 7, 0, 0, []),
  (101, .iconst 0, 0, 0, 0, 0, 0, []), (102, .istore_n 2, 0, 0, 0, 0, 0, []), (103, .iload_n 2, 63, 0, 0, 0, 0, []), (104, .aload_n 1, 0, 0, 0, 0, 0, []),
  (105, .getfield 71, 0, 4, 12, 0, 0, []), (108, .if_icmp .ge 26, 0, 79, 0, 0, 0, []), (111, .aload_n 0, 0, 0, 0, 0, 0, []), (112, .aload_n 1, 0, 0, 0, 0, 0, []),
  (113, .getfield 72, 0, 4, 13, 0, 0, []), (116, .iload_n 2, 0, 0, 0, 0, 0, []), (117, .iaload, 0, 0, 0, 0, 0, []), (118, .aload_n 1, 0, 0, 0, 0, 0, []),
  (119, .getfield 73, 0, 4, 14, 0, 0, []), (122, .iload_n 2, 0, 0, 0, 0, 0, []), (123, .iaload, 0, 0, 0, 0, 0, []), (124, .invokevirtual 74, 0, 0, 3, 0, 0, []),
  (127, .pop, 0, 0, 0, 0, 0, []), (128, .iinc 2 1, 0, 0, 0, 1, 0, []), (131, .goto (-28), 0, 62, 0, 0, 0, []), (134, .return_, 0, 0, 0, 0, 0, [])]
noncomputable def fX9_begin_62 (N : Nat) (i0 : Nat) (i1 : Nat) : Nat → Int32 → Wd → Option (Wd)
  | 0, _, _ => none
  | n + 1, v2, w =>
    if v2 < (gI w 8 i1 12) then
      (ldI w 38 i1 v2 4).bind fun x1 =>
      (ldI w 39 i1 v2 4).bind fun x2 =>
      (callW (pX9_addSlide N i0 x1 x2) w).bind fun r3 =>
      callW (fX9_begin_62 N i0 i1 n (v2 + (1 : Int32))) r3.2
    else
    some w
noncomputable def fX9_begin_57 (N : Nat) (i0 : Nat) (i1 : Nat) (w : Wd) : Option (Wd) :=
  callW (fX9_begin_62 N i0 i1 N (0 : Int32)) (setI w 13 i0 7 (0 : Int32))
noncomputable def fX9_begin_55 (N : Nat) (i0 : Nat) (i1 : Nat) (k16 : Int32 → Wd → Option (Wd)) (v2 : Int32) (w : Wd) : Option (Wd) :=
  k16 (v2 + (1 : Int32)) w
noncomputable def fX9_begin_31 (N : Nat) (i0 : Nat) (i1 : Nat) : Nat → (Int32 → Wd → Option (Wd)) → Int32 → Int32 → Wd → Option (Wd)
  | 0, _, _, _, _ => none
  | n + 1, k55, v2, v3, w =>
    if v3 < (8 : Int32) then
      (ldR v2 6 i0).bind fun q1 =>
      (ldI w 49 i1 v2 6).bind fun x2 =>
      if ((x2 >>> (v3 &&& (31 : Int32))) &&& (1 : Int32)) = 0 then
        (stI w 62 q1 v3 8 (-2 : Int32)).bind fun w3 =>
        callW (fX9_begin_31 N i0 i1 n k55 v2 (v3 + (1 : Int32))) w3
      else
      (stI w 62 q1 v3 8 (-1 : Int32)).bind fun w4 =>
      callW (fX9_begin_31 N i0 i1 n k55 v2 (v3 + (1 : Int32))) w4
    else
    k55 v2 w
noncomputable def fX9_begin_16 (N : Nat) (i0 : Nat) (i1 : Nat) : Nat → (Wd → Option (Wd)) → Int32 → Wd → Option (Wd)
  | 0, _, _, _ => none
  | n + 1, k57, v2, w =>
    if v2 < (6 : Int32) then
      (stI w 60 i0 v2 6 (0 : Int32)).bind fun w1 =>
      (stI w1 63 i0 v2 6 (-1 : Int32)).bind fun w2 =>
      callW (fX9_begin_31 N i0 i1 N (fX9_begin_55 N i0 i1 (fX9_begin_16 N i0 i1 n k57)) v2 (0 : Int32)) w2
    else
    k57 w
noncomputable def pX9_begin (N : Nat) (i0 : Nat) (i1 : Nat) (w : Wd) : Option (Wd) :=
  callW (fX9_begin_16 N i0 i1 N (fX9_begin_57 N i0 i1) (0 : Int32)) (setI (setL (setI (setR w 13 i0 0 i1) 13 i0 1 (0 : Int32)) 13 i0 2 (gI (setI (setR w 13 i0 0 i1) 13 i0 1 (0 : Int32)) 8 i1 16).toInt64) 13 i0 3 (0 : Int32))
noncomputable def mX9_begin (N : Nat) (as : List AV) (w : Wd) : Option (Wd) := xR1 13 as fun i0 t => xR1 8 t fun i1 t => xN1 t (callW (pX9_begin N i0 i1) w)
set_option maxRecDepth 100000 in
set_option maxHeartbeats 4000000 in
theorem kX9_begin : TK cX9_begin RX9 4 tX9_begin := ⟨by decide +kernel, wok_of [514, 519, 313, 523, 525, 528, 533, 532, 277, 202, 536, 304, 307, 309] (by decide +kernel) (by decide +kernel)⟩
set_option maxRecDepth 100000 in
set_option maxHeartbeats 4000000 in
theorem sX9_begin_62 {N : Nat} {X : XT} (G : GX X cX9_begin RX9) (hn : xnL X = 4) (hC : CRs X tX9_begin (oF [(mX9_addSlide N)]) (oF []) (oF [])) {r : Wd} (hr : RTV X cX9_begin r) (i0 : Nat) (i1 : Nat) : ∀ (n : Nat) (v2 : Int32) (w : Wd), fX9_begin_62 N i0 i1 n v2 w = some r → WW X (pcAt tX9_begin 62) [some (.inr (.inr (13, i0))), some (.inr (.inr (8, i1))), some (.inl v2), none] [] w := by
  intro n
  induction n with
  | zero => intro v2 w h; cases h
  | succ n ih =>
    intro v2 w h
    refine run_sound (r := r) (X := X) (cc := cX9_begin) (own := RX9) (tab := tX9_begin) G (by rw [hn]; exact kX9_begin) (oI := (oF [(mX9_addSlide N)])) (oL := (oF [])) (oV := (oF [])) (rI := (fun _ _ => none)) (rL := (fun _ _ => none)) (rV := (fun w => some w))
      (K := (fun j ls st w => if j = 62 then (lgI ls 2 fun v2 => st0 st (callW (fX9_begin_62 N i0 i1 n v2) w)) else none)) (fun _ _ _ _ hx => by cases hx) (fun _ _ _ _ hx => by cases hx) (fun w pc ls hx hd => hr w pc ls (Option.some.inj hx) hd) hC (fun ls => lsb [some (.inr (.inr (13, i0))), some (.inr (.inr (8, i1))), none, none] 0 ls) (keepsP_of rfl) ?_ 82 62 [some (.inr (.inr (13, i0))), some (.inr (.inr (8, i1))), some (.inl v2), none] [] w ?_ h
    · intro j ls st w hfx h
      obtain ⟨e0, e1, -⟩ : _ = _ ∧ _ = _ ∧ True := hfx
      try dsimp only at h
      by_cases hj : j = 62
      · subst hj
        rw [if_pos rfl] at h
        obtain ⟨v2, e2, h_1⟩ := lgI_some h
        obtain ⟨rfl, h_2⟩ := st0_some h_1
        clear h h_1
        have h := h_2
        try rw [callW_eq] at h
        exact WW.le (a := [some (.inr (.inr (13, i0))), some (.inr (.inr (8, i1))), some (.inl v2), none]) (by rw [hn]; rfl) (show _ = _ ∧ _ = _ ∧ _ = _ ∧ True from ⟨e0, e1, e2, trivial⟩) (ih v2 w h)
      rw [if_neg hj] at h
      cases h
    · exact (show _ = _ ∧ _ = _ ∧ True from ⟨rfl, rfl, trivial⟩)
set_option maxRecDepth 100000 in
set_option maxHeartbeats 4000000 in
theorem sX9_begin_57 {N : Nat} {X : XT} (G : GX X cX9_begin RX9) (hn : xnL X = 4) (hC : CRs X tX9_begin (oF [(mX9_addSlide N)]) (oF []) (oF [])) {r : Wd} (hr : RTV X cX9_begin r) (i0 : Nat) (i1 : Nat) : ∀ (w : Wd), fX9_begin_57 N i0 i1 w = some r → WW X (pcAt tX9_begin 57) [some (.inr (.inr (13, i0))), some (.inr (.inr (8, i1))), none, none] [] w := by
  intro w h
  refine run_sound (r := r) (X := X) (cc := cX9_begin) (own := RX9) (tab := tX9_begin) G (by rw [hn]; exact kX9_begin) (oI := (oF [(mX9_addSlide N)])) (oL := (oF [])) (oV := (oF [])) (rI := (fun _ _ => none)) (rL := (fun _ _ => none)) (rV := (fun w => some w))
    (K := (fun j ls st w => if j = 62 then (lgI ls 2 fun v2 => st0 st (callW (fX9_begin_62 N i0 i1 N v2) w)) else none)) (fun _ _ _ _ hx => by cases hx) (fun _ _ _ _ hx => by cases hx) (fun w pc ls hx hd => hr w pc ls (Option.some.inj hx) hd) hC (fun ls => lsb [some (.inr (.inr (13, i0))), some (.inr (.inr (8, i1))), none, none] 0 ls) (keepsP_of rfl) ?_ 82 57 [some (.inr (.inr (13, i0))), some (.inr (.inr (8, i1))), none, none] [] w ?_ h
  · intro j ls st w hfx h
    obtain ⟨e0, e1, -⟩ : _ = _ ∧ _ = _ ∧ True := hfx
    try dsimp only at h
    by_cases hj : j = 62
    · subst hj
      rw [if_pos rfl] at h
      obtain ⟨v2, e2, h_1⟩ := lgI_some h
      obtain ⟨rfl, h_2⟩ := st0_some h_1
      clear h h_1
      have h := h_2
      try rw [callW_eq] at h
      exact WW.le (a := [some (.inr (.inr (13, i0))), some (.inr (.inr (8, i1))), some (.inl v2), none]) (by rw [hn]; rfl) (show _ = _ ∧ _ = _ ∧ _ = _ ∧ True from ⟨e0, e1, e2, trivial⟩) (sX9_begin_62 G hn hC hr i0 i1 N v2 w h)
    rw [if_neg hj] at h
    cases h
  · exact (show _ = _ ∧ _ = _ ∧ True from ⟨rfl, rfl, trivial⟩)
set_option maxRecDepth 100000 in
set_option maxHeartbeats 4000000 in
theorem sX9_begin_55 {N : Nat} {X : XT} (G : GX X cX9_begin RX9) (hn : xnL X = 4) (hC : CRs X tX9_begin (oF [(mX9_addSlide N)]) (oF []) (oF [])) {r : Wd} (hr : RTV X cX9_begin r) (i0 : Nat) (i1 : Nat) : ∀ (k16 : Int32 → Wd → Option (Wd)) (v2 : Int32) (w : Wd), fX9_begin_55 N i0 i1 k16 v2 w = some r → (∀ (v2 : Int32) (w : Wd), k16 v2 w = some r → WW X (pcAt tX9_begin 16) [some (.inr (.inr (13, i0))), some (.inr (.inr (8, i1))), some (.inl v2), none] [] w) → WW X (pcAt tX9_begin 55) [some (.inr (.inr (13, i0))), some (.inr (.inr (8, i1))), some (.inl v2), none] [] w := by
  intro k16 v2 w h h16
  refine run_sound (r := r) (X := X) (cc := cX9_begin) (own := RX9) (tab := tX9_begin) G (by rw [hn]; exact kX9_begin) (oI := (oF [(mX9_addSlide N)])) (oL := (oF [])) (oV := (oF [])) (rI := (fun _ _ => none)) (rL := (fun _ _ => none)) (rV := (fun w => some w))
    (K := (fun j ls st w => if j = 16 then (lgI ls 2 fun v2 => st0 st (k16 v2 w)) else none)) (fun _ _ _ _ hx => by cases hx) (fun _ _ _ _ hx => by cases hx) (fun w pc ls hx hd => hr w pc ls (Option.some.inj hx) hd) hC (fun ls => lsb [some (.inr (.inr (13, i0))), some (.inr (.inr (8, i1))), none, none] 0 ls) (keepsP_of rfl) ?_ 82 55 [some (.inr (.inr (13, i0))), some (.inr (.inr (8, i1))), some (.inl v2), none] [] w ?_ h
  · intro j ls st w hfx h
    obtain ⟨e0, e1, -⟩ : _ = _ ∧ _ = _ ∧ True := hfx
    try dsimp only at h
    by_cases hj : j = 16
    · subst hj
      rw [if_pos rfl] at h
      obtain ⟨v2, e2, h_1⟩ := lgI_some h
      obtain ⟨rfl, h_2⟩ := st0_some h_1
      clear h h_1
      have h := h_2
      try rw [callW_eq] at h
      exact WW.le (a := [some (.inr (.inr (13, i0))), some (.inr (.inr (8, i1))), some (.inl v2), none]) (by rw [hn]; rfl) (show _ = _ ∧ _ = _ ∧ _ = _ ∧ True from ⟨e0, e1, e2, trivial⟩) (h16 v2 w h)
    rw [if_neg hj] at h
    cases h
  · exact (show _ = _ ∧ _ = _ ∧ True from ⟨rfl, rfl, trivial⟩)
set_option maxRecDepth 100000 in
set_option maxHeartbeats 4000000 in
theorem sX9_begin_31 {N : Nat} {X : XT} (G : GX X cX9_begin RX9) (hn : xnL X = 4) (hC : CRs X tX9_begin (oF [(mX9_addSlide N)]) (oF []) (oF [])) {r : Wd} (hr : RTV X cX9_begin r) (i0 : Nat) (i1 : Nat) : ∀ (n : Nat) (k55 : Int32 → Wd → Option (Wd)) (v2 : Int32) (v3 : Int32) (w : Wd), fX9_begin_31 N i0 i1 n k55 v2 v3 w = some r → (∀ (v2 : Int32) (w : Wd), k55 v2 w = some r → WW X (pcAt tX9_begin 55) [some (.inr (.inr (13, i0))), some (.inr (.inr (8, i1))), some (.inl v2), none] [] w) → WW X (pcAt tX9_begin 31) [some (.inr (.inr (13, i0))), some (.inr (.inr (8, i1))), some (.inl v2), some (.inl v3)] [] w := by
  intro n
  induction n with
  | zero => intro k55 v2 v3 w h h55; cases h
  | succ n ih =>
    intro k55 v2 v3 w h h55
    refine run_sound (r := r) (X := X) (cc := cX9_begin) (own := RX9) (tab := tX9_begin) G (by rw [hn]; exact kX9_begin) (oI := (oF [(mX9_addSlide N)])) (oL := (oF [])) (oV := (oF [])) (rI := (fun _ _ => none)) (rL := (fun _ _ => none)) (rV := (fun w => some w))
      (K := (fun j ls st w => if j = 31 then (lgI ls 2 fun v2 => lgI ls 3 fun v3 => st0 st (callW (fX9_begin_31 N i0 i1 n k55 v2 v3) w)) else if j = 55 then (lgI ls 2 fun v2 => st0 st (k55 v2 w)) else none)) (fun _ _ _ _ hx => by cases hx) (fun _ _ _ _ hx => by cases hx) (fun w pc ls hx hd => hr w pc ls (Option.some.inj hx) hd) hC (fun ls => lsb [some (.inr (.inr (13, i0))), some (.inr (.inr (8, i1))), none, none] 0 ls) (keepsP_of rfl) ?_ 82 31 [some (.inr (.inr (13, i0))), some (.inr (.inr (8, i1))), some (.inl v2), some (.inl v3)] [] w ?_ h
    · intro j ls st w hfx h
      obtain ⟨e0, e1, -⟩ : _ = _ ∧ _ = _ ∧ True := hfx
      try dsimp only at h
      by_cases hj : j = 31
      · subst hj
        rw [if_pos rfl] at h
        obtain ⟨v2, e2, h_1⟩ := lgI_some h
        obtain ⟨v3, e3, h_2⟩ := lgI_some h_1
        obtain ⟨rfl, h_3⟩ := st0_some h_2
        clear h h_1 h_2
        have h := h_3
        try rw [callW_eq] at h
        exact WW.le (a := [some (.inr (.inr (13, i0))), some (.inr (.inr (8, i1))), some (.inl v2), some (.inl v3)]) (by rw [hn]; rfl) (show _ = _ ∧ _ = _ ∧ _ = _ ∧ _ = _ ∧ True from ⟨e0, e1, e2, e3, trivial⟩) (ih k55 v2 v3 w h h55)
      rw [if_neg hj] at h
      by_cases hj : j = 55
      · subst hj
        rw [if_pos rfl] at h
        obtain ⟨v2, e2, h_1⟩ := lgI_some h
        obtain ⟨rfl, h_2⟩ := st0_some h_1
        clear h h_1
        have h := h_2
        try rw [callW_eq] at h
        exact WW.le (a := [some (.inr (.inr (13, i0))), some (.inr (.inr (8, i1))), some (.inl v2), none]) (by rw [hn]; rfl) (show _ = _ ∧ _ = _ ∧ _ = _ ∧ True from ⟨e0, e1, e2, trivial⟩) (h55 v2 w h)
      rw [if_neg hj] at h
      cases h
    · exact (show _ = _ ∧ _ = _ ∧ True from ⟨rfl, rfl, trivial⟩)
set_option maxRecDepth 100000 in
set_option maxHeartbeats 4000000 in
theorem sX9_begin_16 {N : Nat} {X : XT} (G : GX X cX9_begin RX9) (hn : xnL X = 4) (hC : CRs X tX9_begin (oF [(mX9_addSlide N)]) (oF []) (oF [])) {r : Wd} (hr : RTV X cX9_begin r) (i0 : Nat) (i1 : Nat) : ∀ (n : Nat) (k57 : Wd → Option (Wd)) (v2 : Int32) (w : Wd), fX9_begin_16 N i0 i1 n k57 v2 w = some r → (∀ (w : Wd), k57 w = some r → WW X (pcAt tX9_begin 57) [some (.inr (.inr (13, i0))), some (.inr (.inr (8, i1))), none, none] [] w) → WW X (pcAt tX9_begin 16) [some (.inr (.inr (13, i0))), some (.inr (.inr (8, i1))), some (.inl v2), none] [] w := by
  intro n
  induction n with
  | zero => intro k57 v2 w h h57; cases h
  | succ n ih =>
    intro k57 v2 w h h57
    refine run_sound (r := r) (X := X) (cc := cX9_begin) (own := RX9) (tab := tX9_begin) G (by rw [hn]; exact kX9_begin) (oI := (oF [(mX9_addSlide N)])) (oL := (oF [])) (oV := (oF [])) (rI := (fun _ _ => none)) (rL := (fun _ _ => none)) (rV := (fun w => some w))
      (K := (fun j ls st w => if j = 31 then (lgI ls 2 fun v2 => lgI ls 3 fun v3 => st0 st (callW (fX9_begin_31 N i0 i1 N (fX9_begin_55 N i0 i1 (fX9_begin_16 N i0 i1 n k57)) v2 v3) w)) else if j = 57 then (st0 st (k57 w)) else none)) (fun _ _ _ _ hx => by cases hx) (fun _ _ _ _ hx => by cases hx) (fun w pc ls hx hd => hr w pc ls (Option.some.inj hx) hd) hC (fun ls => lsb [some (.inr (.inr (13, i0))), some (.inr (.inr (8, i1))), none, none] 0 ls) (keepsP_of rfl) ?_ 82 16 [some (.inr (.inr (13, i0))), some (.inr (.inr (8, i1))), some (.inl v2), none] [] w ?_ h
    · intro j ls st w hfx h
      obtain ⟨e0, e1, -⟩ : _ = _ ∧ _ = _ ∧ True := hfx
      try dsimp only at h
      by_cases hj : j = 31
      · subst hj
        rw [if_pos rfl] at h
        obtain ⟨v2, e2, h_1⟩ := lgI_some h
        obtain ⟨v3, e3, h_2⟩ := lgI_some h_1
        obtain ⟨rfl, h_3⟩ := st0_some h_2
        clear h h_1 h_2
        have h := h_3
        try rw [callW_eq] at h
        exact WW.le (a := [some (.inr (.inr (13, i0))), some (.inr (.inr (8, i1))), some (.inl v2), some (.inl v3)]) (by rw [hn]; rfl) (show _ = _ ∧ _ = _ ∧ _ = _ ∧ _ = _ ∧ True from ⟨e0, e1, e2, e3, trivial⟩) (sX9_begin_31 G hn hC hr i0 i1 N (fX9_begin_55 N i0 i1 (fX9_begin_16 N i0 i1 n k57)) v2 v3 w h (fun v2 w h => (sX9_begin_55 G hn hC hr i0 i1 (fX9_begin_16 N i0 i1 n k57) v2 w h (fun v2 w h => (ih k57 v2 w h h57)))))
      rw [if_neg hj] at h
      by_cases hj : j = 57
      · subst hj
        rw [if_pos rfl] at h
        obtain ⟨rfl, h_1⟩ := st0_some h
        clear h
        have h := h_1
        try rw [callW_eq] at h
        exact WW.le (a := [some (.inr (.inr (13, i0))), some (.inr (.inr (8, i1))), none, none]) (by rw [hn]; rfl) (show _ = _ ∧ _ = _ ∧ True from ⟨e0, e1, trivial⟩) (h57 w h)
      rw [if_neg hj] at h
      cases h
    · exact (show _ = _ ∧ _ = _ ∧ True from ⟨rfl, rfl, trivial⟩)
set_option maxRecDepth 100000 in
set_option maxHeartbeats 4000000 in
theorem crX9_begin {N : Nat} {X : XT} (G : GX X cX9_begin RX9) (hR : xR X = rmL 2) : CRs X tX9_begin (oF [(mX9_addSlide N)]) (oF []) (oF []) := by
  have hl : tX9_begin.filter isInv = [(124, .invokevirtual 74, 0, 0, 3, 0, 0, [])] := rfl
  intro e he
  rw [hl] at he
  simp only [List.mem_cons, List.not_mem_nil, or_false] at he
  rcases he with rfl
  · exact crI_V (idx := 74) G (by decide +kernel) (MX9_addSlide N) (cw_of (ps := [510, 511, 512, 156, 513]) (by decide +kernel) (by decide +kernel)) ⟨by decide +kernel, by decide +kernel, by decide +kernel⟩ (by unfold rmOk; rw [hR]; exact ⟨by decide, by decide⟩)
set_option maxRecDepth 100000 in
set_option maxHeartbeats 4000000 in
theorem MX9_begin (N : Nat) : SndV yX9_begin cX9_begin 4 none 2 2 true (mX9_begin N) := by
  refine SndV.of tX9_begin (by decide +kernel) rfl rfl ?_ ?_
  · intro as w x h
    obtain ⟨i0, t1, rfl, h_1⟩ := xR1_some h
    obtain ⟨i1, t2, rfl, h_2⟩ := xR1_some h_1
    obtain ⟨rfl, h_3⟩ := xN1_some h_2
    clear h h_1 h_2
    have h := h_3
    rw [callW_eq] at h
    exact ⟨fun _ => ⟨_, _, _, rfl, rfl, _, rfl, rfl⟩, rfl, Nat.le_of_ble_eq_true rfl⟩
  · intro X G hn hR as w r h hr
    have hC := crX9_begin (N := N) G hR
    obtain ⟨i0, t1, rfl, h_1⟩ := xR1_some h
    obtain ⟨i1, t2, rfl, h_2⟩ := xR1_some h_1
    obtain ⟨rfl, h_3⟩ := xN1_some h_2
    clear h h_1 h_2
    have h := h_3
    rw [callW_eq] at h
    refine run_sound (r := r) (X := X) (cc := cX9_begin) (own := RX9) (tab := tX9_begin) G (by rw [hn]; exact kX9_begin) (oI := (oF [(mX9_addSlide N)])) (oL := (oF [])) (oV := (oF [])) (rI := (fun _ _ => none)) (rL := (fun _ _ => none)) (rV := (fun w => some w))
      (K := (fun j ls st w => if j = 16 then (lgI ls 2 fun v2 => st0 st (callW (fX9_begin_16 N i0 i1 N (fX9_begin_57 N i0 i1) v2) w)) else none)) (fun _ _ _ _ hx => by cases hx) (fun _ _ _ _ hx => by cases hx) (fun w pc ls hx hd => hr w pc ls (Option.some.inj hx) hd) hC (fun ls => lsb [some (.inr (.inr (13, i0))), some (.inr (.inr (8, i1))), none, none] 0 ls) (keepsP_of rfl) ?_ 82 0 [some (.inr (.inr (13, i0))), some (.inr (.inr (8, i1))), none, none] [] w ?_ h
    · intro j ls st w hfx h
      obtain ⟨e0, e1, -⟩ : _ = _ ∧ _ = _ ∧ True := hfx
      try dsimp only at h
      by_cases hj : j = 16
      · subst hj
        rw [if_pos rfl] at h
        obtain ⟨v2, e2, h_1⟩ := lgI_some h
        obtain ⟨rfl, h_2⟩ := st0_some h_1
        clear h h_1
        have h := h_2
        try rw [callW_eq] at h
        exact WW.le (a := [some (.inr (.inr (13, i0))), some (.inr (.inr (8, i1))), some (.inl v2), none]) (by rw [hn]; rfl) (show _ = _ ∧ _ = _ ∧ _ = _ ∧ True from ⟨e0, e1, e2, trivial⟩) (sX9_begin_16 G hn hC hr i0 i1 N (fX9_begin_57 N i0 i1) v2 w h (fun w h => (sX9_begin_57 G hn hC hr i0 i1 w h)))
      rw [if_neg hj] at h
      cases h
    · exact (show _ = _ ∧ _ = _ ∧ True from ⟨rfl, rfl, trivial⟩)
-- MoorGuides$Stand.knowers(I)I
def tX9_knowers : List EN := [
  (0, .iconst 0, 0, 0, 0, 0, 0, []), (1, .istore_n 2, 0, 0, 0, 0, 0, []), (2, .iconst 0, 0, 0, 0, 0, 0, []), (3, .istore_n 3, 0, 0, 0, 0, 0, []),
  (4, .iload_n 3, 5, 0, 0, 0, 0, []), (5, .aload_n 0, 0, 0, 0, 0, 0, []), (6, .getfield 39, 0, 9, 0, 0, 0, []), (9, .getfield 59, 0, 4, 4, 0, 0, []),
  (12, .getfield 99, 0, 6, 0, 0, 0, []), (15, .if_icmp .ge 25, 0, 24, 0, 0, 0, []), (18, .iload_n 2, 0, 0, 0, 0, 0, []), (19, .aload_n 0, 0, 0, 0, 0, 0, []),
  (20, .iload_n 3, 0, 0, 0, 0, 0, []), (21, .aload_n 0, 0, 0, 0, 0, 0, []), (22, .getfield 43, 0, 9, 1, 0, 0, []), (25, .invokevirtual 102, 0, 0, 3, 0, 0, []),
  (28, .iload_n 1, 0, 0, 0, 0, 0, []), (29, .ishr, 0, 0, 0, 0, 0, []), (30, .iconst 1, 0, 0, 0, 1, 0, []), (31, .iand, 0, 0, 0, 0, 0, []),
  (32, .iadd, 0, 0, 0, 0, 0, []), (33, .istore_n 2, 0, 0, 0, 0, 0, []), (34, .iinc 3 1, 0, 0, 0, 1, 0, []), (37, .goto (-33), 0, 4, 0, 0, 0, []),
  (40, .iload_n 2, 0, 0, 0, 0, 0, []), (41, .ireturn, 0, 0, 0, 0, 0, [])]
noncomputable def fX9_knowers_4 (N : Nat) (i0 : Nat) (a1 : Int32) : Nat → Int32 → Int32 → Wd → Option (Int32 × Wd)
  | 0, _, _, _ => none
  | n + 1, v2, v3, w =>
    if v3 < (gI w 10 (gR w 13 i0 0) 0) then
      (callW (pX9_knownBits N i0 v3 (gI w 13 i0 1)) w).bind fun r1 =>
      callW (fX9_knowers_4 N i0 a1 n (v2 + ((r1.1 >>> (a1 &&& (31 : Int32))) &&& (1 : Int32))) (v3 + (1 : Int32))) r1.2
    else
    some (v2, w)
noncomputable def pX9_knowers (N : Nat) (i0 : Nat) (a1 : Int32) (w : Wd) : Option (Int32 × Wd) :=
  callW (fX9_knowers_4 N i0 a1 N (0 : Int32) (0 : Int32)) w
noncomputable def mX9_knowers (N : Nat) (as : List AV) (w : Wd) : Option (Int32 × Wd) := xR1 13 as fun i0 t => xI1 t fun a1 t => xN1 t (callW (pX9_knowers N i0 a1) w)
set_option maxRecDepth 100000 in
set_option maxHeartbeats 4000000 in
theorem kX9_knowers : TK cX9_knowers RX9 4 tX9_knowers := ⟨by decide +kernel, wok_of [514, 277, 197, 519] (by decide +kernel) (by decide +kernel)⟩
set_option maxRecDepth 100000 in
set_option maxHeartbeats 4000000 in
theorem sX9_knowers_4 {N : Nat} {X : XT} (G : GX X cX9_knowers RX9) (hn : xnL X = 4) (hC : CRs X tX9_knowers (oF [(mX9_knownBits N)]) (oF []) (oF [])) {r : Int32 × Wd} (hr : RTI X cX9_knowers r) (i0 : Nat) (a1 : Int32) : ∀ (n : Nat) (v2 : Int32) (v3 : Int32) (w : Wd), fX9_knowers_4 N i0 a1 n v2 v3 w = some r → WW X (pcAt tX9_knowers 4) [some (.inr (.inr (13, i0))), some (.inl a1), some (.inl v2), some (.inl v3)] [] w := by
  intro n
  induction n with
  | zero => intro v2 v3 w h; cases h
  | succ n ih =>
    intro v2 v3 w h
    refine run_sound (r := r) (X := X) (cc := cX9_knowers) (own := RX9) (tab := tX9_knowers) G (by rw [hn]; exact kX9_knowers) (oI := (oF [(mX9_knownBits N)])) (oL := (oF [])) (oV := (oF [])) (rI := (fun x w => some (x, w))) (rL := (fun _ _ => none)) (rV := (fun _ => none))
      (K := (fun j ls st w => if j = 4 then (lgI ls 2 fun v2 => lgI ls 3 fun v3 => st0 st (callW (fX9_knowers_4 N i0 a1 n v2 v3) w)) else none)) (fun x w pc ls hx hd => hr x w pc ls (Option.some.inj hx) hd) (fun _ _ _ _ hx => by cases hx) (fun _ _ _ hx => by cases hx) hC (fun ls => lsb [some (.inr (.inr (13, i0))), some (.inl a1), none, none] 0 ls) (keepsP_of rfl) ?_ 28 4 [some (.inr (.inr (13, i0))), some (.inl a1), some (.inl v2), some (.inl v3)] [] w ?_ h
    · intro j ls st w hfx h
      obtain ⟨e0, e1, -⟩ : _ = _ ∧ _ = _ ∧ True := hfx
      try dsimp only at h
      by_cases hj : j = 4
      · subst hj
        rw [if_pos rfl] at h
        obtain ⟨v2, e2, h_1⟩ := lgI_some h
        obtain ⟨v3, e3, h_2⟩ := lgI_some h_1
        obtain ⟨rfl, h_3⟩ := st0_some h_2
        clear h h_1 h_2
        have h := h_3
        try rw [callW_eq] at h
        exact WW.le (a := [some (.inr (.inr (13, i0))), some (.inl a1), some (.inl v2), some (.inl v3)]) (by rw [hn]; rfl) (show _ = _ ∧ _ = _ ∧ _ = _ ∧ _ = _ ∧ True from ⟨e0, e1, e2, e3, trivial⟩) (ih v2 v3 w h)
      rw [if_neg hj] at h
      cases h
    · exact (show _ = _ ∧ _ = _ ∧ True from ⟨rfl, rfl, trivial⟩)
set_option maxRecDepth 100000 in
set_option maxHeartbeats 4000000 in
theorem crX9_knowers {N : Nat} {X : XT} (G : GX X cX9_knowers RX9) (hR : xR X = rmL 3) : CRs X tX9_knowers (oF [(mX9_knownBits N)]) (oF []) (oF []) := by
  have hl : tX9_knowers.filter isInv = [(25, .invokevirtual 102, 0, 0, 3, 0, 0, [])] := rfl
  intro e he
  rw [hl] at he
  simp only [List.mem_cons, List.not_mem_nil, or_false] at he
  rcases he with rfl
  · exact crI_V (idx := 102) G (by decide +kernel) (MX9_knownBits N) (cw_of (ps := [1016, 1017, 1018, 156, 1019]) (by decide +kernel) (by decide +kernel)) ⟨by decide +kernel, by decide +kernel, by decide +kernel⟩ (by unfold rmOk; rw [hR]; exact ⟨by decide, by decide⟩)
set_option maxRecDepth 100000 in
set_option maxHeartbeats 4000000 in
theorem MX9_knowers (N : Nat) : SndI yX9_knowers cX9_knowers 4 (some .int) 3 2 true (mX9_knowers N) := by
  refine SndI.of tX9_knowers (by decide +kernel) rfl rfl ?_ ?_
  · intro as w x h
    obtain ⟨i0, t1, rfl, h_1⟩ := xR1_some h
    obtain ⟨a1, t2, rfl, h_2⟩ := xI1_some h_1
    obtain ⟨rfl, h_3⟩ := xN1_some h_2
    clear h h_1 h_2
    have h := h_3
    rw [callW_eq] at h
    exact ⟨fun _ => ⟨_, _, _, rfl, rfl, _, rfl, rfl⟩, rfl, Nat.le_of_ble_eq_true rfl⟩
  · intro X G hn hR as w r h hr
    have hC := crX9_knowers (N := N) G hR
    obtain ⟨i0, t1, rfl, h_1⟩ := xR1_some h
    obtain ⟨a1, t2, rfl, h_2⟩ := xI1_some h_1
    obtain ⟨rfl, h_3⟩ := xN1_some h_2
    clear h h_1 h_2
    have h := h_3
    rw [callW_eq] at h
    refine run_sound (r := r) (X := X) (cc := cX9_knowers) (own := RX9) (tab := tX9_knowers) G (by rw [hn]; exact kX9_knowers) (oI := (oF [(mX9_knownBits N)])) (oL := (oF [])) (oV := (oF [])) (rI := (fun x w => some (x, w))) (rL := (fun _ _ => none)) (rV := (fun _ => none))
      (K := (fun j ls st w => if j = 4 then (lgI ls 2 fun v2 => lgI ls 3 fun v3 => st0 st (callW (fX9_knowers_4 N i0 a1 N v2 v3) w)) else none)) (fun x w pc ls hx hd => hr x w pc ls (Option.some.inj hx) hd) (fun _ _ _ _ hx => by cases hx) (fun _ _ _ hx => by cases hx) hC (fun ls => lsb [some (.inr (.inr (13, i0))), some (.inl a1), none, none] 0 ls) (keepsP_of rfl) ?_ 28 0 [some (.inr (.inr (13, i0))), some (.inl a1), none, none] [] w ?_ h
    · intro j ls st w hfx h
      obtain ⟨e0, e1, -⟩ : _ = _ ∧ _ = _ ∧ True := hfx
      try dsimp only at h
      by_cases hj : j = 4
      · subst hj
        rw [if_pos rfl] at h
        obtain ⟨v2, e2, h_1⟩ := lgI_some h
        obtain ⟨v3, e3, h_2⟩ := lgI_some h_1
        obtain ⟨rfl, h_3⟩ := st0_some h_2
        clear h h_1 h_2
        have h := h_3
        try rw [callW_eq] at h
        exact WW.le (a := [some (.inr (.inr (13, i0))), some (.inl a1), some (.inl v2), some (.inl v3)]) (by rw [hn]; rfl) (show _ = _ ∧ _ = _ ∧ _ = _ ∧ _ = _ ∧ True from ⟨e0, e1, e2, e3, trivial⟩) (sX9_knowers_4 G hn hC hr i0 a1 N v2 v3 w h)
      rw [if_neg hj] at h
      cases h
    · exact (show _ = _ ∧ _ = _ ∧ True from ⟨rfl, rfl, trivial⟩)
-- MoorGuides$Stand.chanceTonight(II)I
def tX9_chanceTonight : List EN := [
  (0, .aload_n 0, 0, 0, 0, 0, 0, []), (1, .iload_n 1, 0, 0, 0, 0, 0, []), (2, .iload_n 2, 0, 0, 0, 0, 0, []), (3, .aload_n 0, 0, 0, 0, 0, 0, []),
  (4, .getfield 43, 0, 9, 1, 0, 0, []), (7, .aload_n 0, 0, 0, 0, 0, 0, []), (8, .iload_n 1, 0, 0, 0, 0, 0, []), (9, .iload_n 2, 0, 0, 0, 0, 0, []),
  (10, .invokevirtual 111, 0, 0, 3, 0, 0, []), (13, .aload_n 0, 0, 0, 0, 0, 0, []), (14, .getfield 9, 0, 9, 4, 0, 0, []), (17, .iload_n 1, 0, 0, 0, 0, 0, []),
  (18, .iaload, 0, 0, 0, 0, 0, []), (19, .invokevirtual 114, 0, 1, 6, 0, 0, []), (22, .ireturn, 0, 0, 0, 0, 0, [])]
noncomputable def pX9_chanceTonight (N : Nat) (i0 : Nat) (a1 : Int32) (a2 : Int32) (w : Wd) : Option (Int32 × Wd) :=
  (callW (pX9_aroundTonight N i0 a1 a2) w).bind fun r1 =>
  (ldI r1.2 60 i0 a1 6).bind fun x2 =>
  (callW (pX9_chanceOn N i0 a1 a2 (gI w 13 i0 1) r1.1 x2) r1.2).bind fun r3 =>
  some (r3.1, r3.2)
noncomputable def mX9_chanceTonight (N : Nat) (as : List AV) (w : Wd) : Option (Int32 × Wd) := xR1 13 as fun i0 t => xI1 t fun a1 t => xI1 t fun a2 t => xN1 t (callW (pX9_chanceTonight N i0 a1 a2) w)
set_option maxRecDepth 100000 in
set_option maxHeartbeats 4000000 in
theorem kX9_chanceTonight : TK cX9_chanceTonight RX9 3 tX9_chanceTonight := ⟨by decide +kernel, wok_of [519, 528] (by decide +kernel) (by decide +kernel)⟩
set_option maxRecDepth 100000 in
set_option maxHeartbeats 4000000 in
theorem crX9_chanceTonight {N : Nat} {X : XT} (G : GX X cX9_chanceTonight RX9) (hR : xR X = rmL 5) : CRs X tX9_chanceTonight (oF [(mX9_aroundTonight N), (mX9_chanceOn N)]) (oF []) (oF []) := by
  have hl : tX9_chanceTonight.filter isInv = [(10, .invokevirtual 111, 0, 0, 3, 0, 0, []), (19, .invokevirtual 114, 0, 1, 6, 0, 0, [])] := rfl
  intro e he
  rw [hl] at he
  simp only [List.mem_cons, List.not_mem_nil, or_false] at he
  rcases he with rfl | rfl
  · exact crI_V (idx := 111) G (by decide +kernel) (MX9_aroundTonight N) (cw_of (ps := [1061, 1063, 36, 156, 1064]) (by decide +kernel) (by decide +kernel)) ⟨by decide +kernel, by decide +kernel, by decide +kernel⟩ (by unfold rmOk; rw [hR]; exact ⟨by decide, by decide⟩)
  · exact crI_V (idx := 114) G (by decide +kernel) (MX9_chanceOn N) (cw_of (ps := [1071, 1072, 1073, 156, 1074]) (by decide +kernel) (by decide +kernel)) ⟨by decide +kernel, by decide +kernel, by decide +kernel⟩ (by unfold rmOk; rw [hR]; exact ⟨by decide, by decide⟩)
set_option maxRecDepth 100000 in
set_option maxHeartbeats 4000000 in
theorem MX9_chanceTonight (N : Nat) : SndI yX9_chanceTonight cX9_chanceTonight 3 (some .int) 5 3 true (mX9_chanceTonight N) := by
  refine SndI.of tX9_chanceTonight (by decide +kernel) rfl rfl ?_ ?_
  · intro as w x h
    obtain ⟨i0, t1, rfl, h_1⟩ := xR1_some h
    obtain ⟨a1, t2, rfl, h_2⟩ := xI1_some h_1
    obtain ⟨a2, t3, rfl, h_3⟩ := xI1_some h_2
    obtain ⟨rfl, h_4⟩ := xN1_some h_3
    clear h h_1 h_2 h_3
    have h := h_4
    rw [callW_eq] at h
    exact ⟨fun _ => ⟨_, _, _, rfl, rfl, _, rfl, rfl⟩, rfl, Nat.le_of_ble_eq_true rfl⟩
  · intro X G hn hR as w r h hr
    have hC := crX9_chanceTonight (N := N) G hR
    obtain ⟨i0, t1, rfl, h_1⟩ := xR1_some h
    obtain ⟨a1, t2, rfl, h_2⟩ := xI1_some h_1
    obtain ⟨a2, t3, rfl, h_3⟩ := xI1_some h_2
    obtain ⟨rfl, h_4⟩ := xN1_some h_3
    clear h h_1 h_2 h_3
    have h := h_4
    rw [callW_eq] at h
    refine run_sound (r := r) (X := X) (cc := cX9_chanceTonight) (own := RX9) (tab := tX9_chanceTonight) G (by rw [hn]; exact kX9_chanceTonight) (oI := (oF [(mX9_aroundTonight N), (mX9_chanceOn N)])) (oL := (oF [])) (oV := (oF [])) (rI := (fun x w => some (x, w))) (rL := (fun _ _ => none)) (rV := (fun _ => none))
      (K := (fun j ls st w => none)) (fun x w pc ls hx hd => hr x w pc ls (Option.some.inj hx) hd) (fun _ _ _ _ hx => by cases hx) (fun _ _ _ hx => by cases hx) hC (fun ls => lsb [some (.inr (.inr (13, i0))), some (.inl a1), some (.inl a2)] 0 ls) (keepsP_of rfl) ?_ 17 0 [some (.inr (.inr (13, i0))), some (.inl a1), some (.inl a2)] [] w ?_ h
    · intro j ls st w hfx h
      obtain ⟨e0, e1, e2, -⟩ : _ = _ ∧ _ = _ ∧ _ = _ ∧ True := hfx
      try dsimp only at h
      cases h
    · exact (show _ = _ ∧ _ = _ ∧ _ = _ ∧ True from ⟨rfl, rfl, rfl, trivial⟩)
-- MoorGuides.feedNumber(I)V
def tX11_feedNumber : List EN := [
  (0, .bipush 24, 0, 0, 0, 24, 0, []), (2, .istore_n 2, 0, 0, 0, 0, 0, []), (3, .iload_n 2, 3, 0, 0, 0, 0, []), (4, .ifCond .lt 42, 0, 25, 0, 0, 0, []),
  (7, .aload_n 0, 0, 0, 0, 0, 0, []), (8, .getfield 86, 0, 11, 1, 0, 0, []), (11, .sipush 900, 0, 0, 0, 900, 0, []), (14, .if_icmp .ge 32, 0, 25, 0, 0, 0, []),
  (17, .aload_n 0, 0, 0, 0, 0, 0, []), (18, .getfield 9, 0, 11, 0, 0, 0, []), (21, .aload_n 0, 0, 0, 0, 0, 0, []), (22, .getfield 86, 0, 11, 1, 0, 0, []),
  (25, .iload_n 1, 0, 0, 0, 0, 0, []), (26, .iload_n 2, 0, 0, 0, 0, 0, []), (27, .ishr, 0, 0, 0, 0, 0, []), (28, .i2b, 0, 0, 0, 0, 0, []),
  (29, .bastore, 0, 0, 0, 0, 0, []), (30, .aload_n 0, 0, 0, 0, 0, 0, []), (31, .dup, 0, 0, 0, 0, 0, []), (32, .getfield 86, 0, 11, 1, 0, 0, []),
  (35, .iconst 1, 0, 0, 0, 1, 0, []), (36, .iadd, 0, 0, 0, 0, 0, []), (37, .putfield 86, 0, 11, 1, 0, 0, []), (40, .iinc 2 (-8), 0, 0, 0, (-8), 0, []),
  (43, .goto (-40), 0, 2, 0, 0, 0, []), (46, .return_, 0, 0, 0, 0, 0, [])]
noncomputable def fX11_feedNumber_2 (N : Nat) (a1 : Int32) : Nat → Int32 → Wd → Option (Wd)
  | 0, _, _ => none
  | n + 1, v2, w =>
    if v2 < 0 then some w else
    if (gI w 15 0 1) < (900 : Int32) then
      (stI w 3 0 (gI w 15 0 1) 900 ((a1 >>> (v2 &&& (31 : Int32))).toInt8.toInt32).toInt8.toInt32).bind fun w1 =>
      callW (fX11_feedNumber_2 N a1 n (v2 + (-8 : Int32))) (setI w1 15 0 1 ((gI w1 15 0 1) + (1 : Int32)))
    else
    some w
noncomputable def pX11_feedNumber (N : Nat) (a1 : Int32) (w : Wd) : Option (Wd) :=
  callW (fX11_feedNumber_2 N a1 N (24 : Int32)) w
noncomputable def mX11_feedNumber (N : Nat) (as : List AV) (w : Wd) : Option (Wd) := xS1 15 as fun t => xI1 t fun a1 t => xN1 t (callW (pX11_feedNumber N a1) w)
set_option maxRecDepth 100000 in
set_option maxHeartbeats 4000000 in
theorem kX11_feedNumber : TK cX11_feedNumber RX11 3 tX11_feedNumber := ⟨by decide +kernel, wok_of [726, 725, 726, 726, 726] (by decide +kernel) (by decide +kernel)⟩
set_option maxRecDepth 100000 in
set_option maxHeartbeats 4000000 in
theorem sX11_feedNumber_2 {N : Nat} {X : XT} (G : GX X cX11_feedNumber RX11) (hn : xnL X = 3) (hC : CRs X tX11_feedNumber (oF []) (oF []) (oF [])) {r : Wd} (hr : RTV X cX11_feedNumber r) (a1 : Int32) : ∀ (n : Nat) (v2 : Int32) (w : Wd), fX11_feedNumber_2 N a1 n v2 w = some r → WW X (pcAt tX11_feedNumber 2) [some (.inr (.inr (15, 0))), some (.inl a1), some (.inl v2)] [] w := by
  intro n
  induction n with
  | zero => intro v2 w h; cases h
  | succ n ih =>
    intro v2 w h
    refine run_sound (r := r) (X := X) (cc := cX11_feedNumber) (own := RX11) (tab := tX11_feedNumber) G (by rw [hn]; exact kX11_feedNumber) (oI := (oF [])) (oL := (oF [])) (oV := (oF [])) (rI := (fun _ _ => none)) (rL := (fun _ _ => none)) (rV := (fun w => some w))
      (K := (fun j ls st w => if j = 2 then (lgI ls 2 fun v2 => st0 st (callW (fX11_feedNumber_2 N a1 n v2) w)) else none)) (fun _ _ _ _ hx => by cases hx) (fun _ _ _ _ hx => by cases hx) (fun w pc ls hx hd => hr w pc ls (Option.some.inj hx) hd) hC (fun ls => lsb [some (.inr (.inr (15, 0))), some (.inl a1), none] 0 ls) (keepsP_of rfl) ?_ 28 2 [some (.inr (.inr (15, 0))), some (.inl a1), some (.inl v2)] [] w ?_ h
    · intro j ls st w hfx h
      obtain ⟨e0, e1, -⟩ : _ = _ ∧ _ = _ ∧ True := hfx
      try dsimp only at h
      by_cases hj : j = 2
      · subst hj
        rw [if_pos rfl] at h
        obtain ⟨v2, e2, h_1⟩ := lgI_some h
        obtain ⟨rfl, h_2⟩ := st0_some h_1
        clear h h_1
        have h := h_2
        try rw [callW_eq] at h
        exact WW.le (a := [some (.inr (.inr (15, 0))), some (.inl a1), some (.inl v2)]) (by rw [hn]; rfl) (show _ = _ ∧ _ = _ ∧ _ = _ ∧ True from ⟨e0, e1, e2, trivial⟩) (ih v2 w h)
      rw [if_neg hj] at h
      cases h
    · exact (show _ = _ ∧ _ = _ ∧ True from ⟨rfl, rfl, trivial⟩)
set_option maxRecDepth 100000 in
set_option maxHeartbeats 4000000 in
theorem crX11_feedNumber {N : Nat} {X : XT} (G : GX X cX11_feedNumber RX11) (hR : xR X = rmL 1) : CRs X tX11_feedNumber (oF []) (oF []) (oF []) := by
  have hl : tX11_feedNumber.filter isInv = [] := rfl
  intro e he
  rw [hl] at he
  cases he
set_option maxRecDepth 100000 in
set_option maxHeartbeats 4000000 in
theorem MX11_feedNumber (N : Nat) : SndV yX11_feedNumber cX11_feedNumber 3 none 1 2 true (mX11_feedNumber N) := by
  refine SndV.of tX11_feedNumber (by decide +kernel) rfl rfl ?_ ?_
  · intro as w x h
    obtain ⟨t1, rfl, h_1⟩ := xS1_some h
    obtain ⟨a1, t2, rfl, h_2⟩ := xI1_some h_1
    obtain ⟨rfl, h_3⟩ := xN1_some h_2
    clear h h_1 h_2
    have h := h_3
    rw [callW_eq] at h
    exact ⟨fun _ => ⟨_, _, _, rfl, rfl, _, rfl, rfl⟩, rfl, Nat.le_of_ble_eq_true rfl⟩
  · intro X G hn hR as w r h hr
    have hC := crX11_feedNumber (N := N) G hR
    obtain ⟨t1, rfl, h_1⟩ := xS1_some h
    obtain ⟨a1, t2, rfl, h_2⟩ := xI1_some h_1
    obtain ⟨rfl, h_3⟩ := xN1_some h_2
    clear h h_1 h_2
    have h := h_3
    rw [callW_eq] at h
    refine run_sound (r := r) (X := X) (cc := cX11_feedNumber) (own := RX11) (tab := tX11_feedNumber) G (by rw [hn]; exact kX11_feedNumber) (oI := (oF [])) (oL := (oF [])) (oV := (oF [])) (rI := (fun _ _ => none)) (rL := (fun _ _ => none)) (rV := (fun w => some w))
      (K := (fun j ls st w => if j = 2 then (lgI ls 2 fun v2 => st0 st (callW (fX11_feedNumber_2 N a1 N v2) w)) else none)) (fun _ _ _ _ hx => by cases hx) (fun _ _ _ _ hx => by cases hx) (fun w pc ls hx hd => hr w pc ls (Option.some.inj hx) hd) hC (fun ls => lsb [some (.inr (.inr (15, 0))), some (.inl a1), none] 0 ls) (keepsP_of rfl) ?_ 28 0 [some (.inr (.inr (15, 0))), some (.inl a1), none] [] w ?_ h
    · intro j ls st w hfx h
      obtain ⟨e0, e1, -⟩ : _ = _ ∧ _ = _ ∧ True := hfx
      try dsimp only at h
      by_cases hj : j = 2
      · subst hj
        rw [if_pos rfl] at h
        obtain ⟨v2, e2, h_1⟩ := lgI_some h
        obtain ⟨rfl, h_2⟩ := st0_some h_1
        clear h h_1
        have h := h_2
        try rw [callW_eq] at h
        exact WW.le (a := [some (.inr (.inr (15, 0))), some (.inl a1), some (.inl v2)]) (by rw [hn]; rfl) (show _ = _ ∧ _ = _ ∧ _ = _ ∧ True from ⟨e0, e1, e2, trivial⟩) (sX11_feedNumber_2 G hn hC hr a1 N v2 w h)
      rw [if_neg hj] at h
      cases h
    · exact (show _ = _ ∧ _ = _ ∧ True from ⟨rfl, rfl, trivial⟩)
-- MoorGuides.feed(IIIII)I
def tX11_feed : List EN := [
  (0, .aload_n 0, 0, 0, 0, 0, 0, []), (1, .getfield 86, 0, 11, 1, 0, 0, []), (4, .bipush 20, 0, 0, 0, 20, 0, []), (6, .iadd, 0, 0, 0, 0, 0, []),
  (7, .sipush 900, 0, 0, 0, 900, 0, []), (10, .if_icmp .le 5, 0, 8, 0, 0, 0, []), (13, .iconst (-1), 0, 0, 0, (-1), 0, []), (14, .ireturn, 0, 0, 0, 0, 0, []),
  (15, .aload_n 0, 0, 0, 0, 0, 0, []), (16, .iload_n 1, 0, 0, 0, 0, 0, []), (17, .invokevirtual 90, 0, 0, 2, 0, 0, [(0, 0), (0, 0)]), (20, .aload_n 0, 0, 0, 0, 0, 0, []),
  (21, .iload_n 2, 0, 0, 0, 0, 0, []), (22, .invokevirtual 90, 0, 0, 2, 0, 0, [(0, 0), (0, 0)]), (25, .aload_n 0, 0, 0, 0, 0, 0, []), (26, .iload_n 3, 0, 0, 0, 0, 0, []),
  (27, .invokevirtual 90, 0, 0, 2, 0, 0, [(0, 0), (0, 0)]), (30, .aload_n 0, 0, 0, 0, 0, 0, []), (31, .iload 4, 0, 0, 0, 0, 0, []), (33, .invokevirtual 90, 0, 0, 2, 0, 0, [(0, 0), (0, 0)]),
  (36, .aload_n 0, 0, 0, 0, 0, 0, []), (37, .iload 5, 0, 0, 0, 0, 0, []), (39, .invokevirtual 90, 0, 0, 2, 0, 0, [(0, 0), (0, 0)]), (42, .aload_n 0, 0, 0, 0, 0, 0, []),
  (43, .getfield 86, 0, 11, 1, 0, 0, []), (46, .ireturn, 0, 0, 0, 0, 0, [])]
noncomputable def pX11_feed (N : Nat) (a1 : Int32) (a2 : Int32) (a3 : Int32) (a4 : Int32) (a5 : Int32) (w : Wd) : Option (Int32 × Wd) :=
  if (900 : Int32) < ((gI w 15 0 1) + (20 : Int32)) then some ((-1 : Int32), w) else
  (callW (pX11_feedNumber N a1) w).bind fun w1 =>
  (callW (pX11_feedNumber N a2) w1).bind fun w2 =>
  (callW (pX11_feedNumber N a3) w2).bind fun w3 =>
  (callW (pX11_feedNumber N a4) w3).bind fun w4 =>
  (callW (pX11_feedNumber N a5) w4).bind fun w5 =>
  some ((gI w5 15 0 1), w5)
noncomputable def mX11_feed (N : Nat) (as : List AV) (w : Wd) : Option (Int32 × Wd) := xS1 15 as fun t => xI1 t fun a1 t => xI1 t fun a2 t => xI1 t fun a3 t => xI1 t fun a4 t => xI1 t fun a5 t => xN1 t (callW (pX11_feed N a1 a2 a3 a4 a5) w)
set_option maxRecDepth 100000 in
set_option maxHeartbeats 4000000 in
theorem kX11_feed : TK cX11_feed RX11 6 tX11_feed := ⟨by decide +kernel, wok_of [726, 726] (by decide +kernel) (by decide +kernel)⟩
set_option maxRecDepth 100000 in
set_option maxHeartbeats 4000000 in
theorem crX11_feed {N : Nat} {X : XT} (G : GX X cX11_feed RX11) (hR : xR X = rmL 2) : CRs X tX11_feed (oF []) (oF []) (oF [(mX11_feedNumber N)]) := by
  have hl : tX11_feed.filter isInv = [(17, .invokevirtual 90, 0, 0, 2, 0, 0, [(0, 0), (0, 0)]), (22, .invokevirtual 90, 0, 0, 2, 0, 0, [(0, 0), (0, 0)]), (27, .invokevirtual 90, 0, 0, 2, 0, 0, [(0, 0), (0, 0)]), (33, .invokevirtual 90, 0, 0, 2, 0, 0, [(0, 0), (0, 0)]), (39, .invokevirtual 90, 0, 0, 2, 0, 0, [(0, 0), (0, 0)])] := rfl
  intro e he
  rw [hl] at he
  simp only [List.mem_cons, List.not_mem_nil, or_false] at he
  rcases he with rfl | rfl | rfl | rfl | rfl
  · exact crV_V (idx := 90) G (by decide +kernel) (MX11_feedNumber N) (cw_of (ps := [778, 780, 0, 146, 781]) (by decide +kernel) (by decide +kernel)) ⟨by decide +kernel, by decide +kernel, by decide +kernel⟩ (by unfold rmOk; rw [hR]; exact ⟨by decide, by decide⟩)
  · exact crV_V (idx := 90) G (by decide +kernel) (MX11_feedNumber N) (cw_of (ps := [778, 780, 0, 146, 781]) (by decide +kernel) (by decide +kernel)) ⟨by decide +kernel, by decide +kernel, by decide +kernel⟩ (by unfold rmOk; rw [hR]; exact ⟨by decide, by decide⟩)
  · exact crV_V (idx := 90) G (by decide +kernel) (MX11_feedNumber N) (cw_of (ps := [778, 780, 0, 146, 781]) (by decide +kernel) (by decide +kernel)) ⟨by decide +kernel, by decide +kernel, by decide +kernel⟩ (by unfold rmOk; rw [hR]; exact ⟨by decide, by decide⟩)
  · exact crV_V (idx := 90) G (by decide +kernel) (MX11_feedNumber N) (cw_of (ps := [778, 780, 0, 146, 781]) (by decide +kernel) (by decide +kernel)) ⟨by decide +kernel, by decide +kernel, by decide +kernel⟩ (by unfold rmOk; rw [hR]; exact ⟨by decide, by decide⟩)
  · exact crV_V (idx := 90) G (by decide +kernel) (MX11_feedNumber N) (cw_of (ps := [778, 780, 0, 146, 781]) (by decide +kernel) (by decide +kernel)) ⟨by decide +kernel, by decide +kernel, by decide +kernel⟩ (by unfold rmOk; rw [hR]; exact ⟨by decide, by decide⟩)
set_option maxRecDepth 100000 in
set_option maxHeartbeats 4000000 in
theorem MX11_feed (N : Nat) : SndI yX11_feed cX11_feed 6 (some .int) 2 6 true (mX11_feed N) := by
  refine SndI.of tX11_feed (by decide +kernel) rfl rfl ?_ ?_
  · intro as w x h
    obtain ⟨t1, rfl, h_1⟩ := xS1_some h
    obtain ⟨a1, t2, rfl, h_2⟩ := xI1_some h_1
    obtain ⟨a2, t3, rfl, h_3⟩ := xI1_some h_2
    obtain ⟨a3, t4, rfl, h_4⟩ := xI1_some h_3
    obtain ⟨a4, t5, rfl, h_5⟩ := xI1_some h_4
    obtain ⟨a5, t6, rfl, h_6⟩ := xI1_some h_5
    obtain ⟨rfl, h_7⟩ := xN1_some h_6
    clear h h_1 h_2 h_3 h_4 h_5 h_6
    have h := h_7
    rw [callW_eq] at h
    exact ⟨fun _ => ⟨_, _, _, rfl, rfl, _, rfl, rfl⟩, rfl, Nat.le_of_ble_eq_true rfl⟩
  · intro X G hn hR as w r h hr
    have hC := crX11_feed (N := N) G hR
    obtain ⟨t1, rfl, h_1⟩ := xS1_some h
    obtain ⟨a1, t2, rfl, h_2⟩ := xI1_some h_1
    obtain ⟨a2, t3, rfl, h_3⟩ := xI1_some h_2
    obtain ⟨a3, t4, rfl, h_4⟩ := xI1_some h_3
    obtain ⟨a4, t5, rfl, h_5⟩ := xI1_some h_4
    obtain ⟨a5, t6, rfl, h_6⟩ := xI1_some h_5
    obtain ⟨rfl, h_7⟩ := xN1_some h_6
    clear h h_1 h_2 h_3 h_4 h_5 h_6
    have h := h_7
    rw [callW_eq] at h
    refine run_sound (r := r) (X := X) (cc := cX11_feed) (own := RX11) (tab := tX11_feed) G (by rw [hn]; exact kX11_feed) (oI := (oF [])) (oL := (oF [])) (oV := (oF [(mX11_feedNumber N)])) (rI := (fun x w => some (x, w))) (rL := (fun _ _ => none)) (rV := (fun _ => none))
      (K := (fun j ls st w => none)) (fun x w pc ls hx hd => hr x w pc ls (Option.some.inj hx) hd) (fun _ _ _ _ hx => by cases hx) (fun _ _ _ hx => by cases hx) hC (fun ls => lsb [some (.inr (.inr (15, 0))), some (.inl a1), some (.inl a2), some (.inl a3), some (.inl a4), some (.inl a5)] 0 ls) (keepsP_of rfl) ?_ 28 0 [some (.inr (.inr (15, 0))), some (.inl a1), some (.inl a2), some (.inl a3), some (.inl a4), some (.inl a5)] [] w ?_ h
    · intro j ls st w hfx h
      obtain ⟨e0, e1, e2, e3, e4, e5, -⟩ : _ = _ ∧ _ = _ ∧ _ = _ ∧ _ = _ ∧ _ = _ ∧ _ = _ ∧ True := hfx
      try dsimp only at h
      cases h
    · exact (show _ = _ ∧ _ = _ ∧ _ = _ ∧ _ = _ ∧ _ = _ ∧ _ = _ ∧ True from ⟨rfl, rfl, rfl, rfl, rfl, rfl, trivial⟩)
-- MoorGuides.fault(I)I
def tX11_fault : List EN := [
  (0, .iload_n 1, 0, 0, 0, 0, 0, []), (1, .ifCond .ne 11, 0, 6, 0, 0, 0, []), (4, .aload_n 0, 0, 0, 0, 0, 0, []), (5, .getfield 28, 0, 11, 4, 0, 0, []),
  (8, .getfield 118, 0, 7, 8, 0, 0, []), (11, .ireturn, 0, 0, 0, 0, 0, []), (12, .iload_n 1, 0, 0, 0, 0, 0, []), (13, .iconst 1, 0, 0, 0, 1, 0, []),
  (14, .if_icmp .ne 13, 0, 13, 0, 0, 0, []), (17, .aload_n 0, 0, 0, 0, 0, 0, []), (18, .getfield 28, 0, 11, 4, 0, 0, []), (21, .getfield 121, 0, 7, 9, 0, 0, []),
  (24, .goto 4, 0, 14, 0, 0, 0, []), (27, .iconst (-1), 0, 0, 0, (-1), 0, []), (28, .ireturn, 0, 0, 0, 0, 0, [])]
noncomputable def pX11_fault (N : Nat) (a1 : Int32) (w : Wd) : Option (Int32 × Wd) :=
  if a1 = 0 then some ((gI w 11 0 8), w) else
  if a1 = (1 : Int32) then some ((gI w 11 0 9), w) else
  some ((-1 : Int32), w)
noncomputable def mX11_fault (N : Nat) (as : List AV) (w : Wd) : Option (Int32 × Wd) := xS1 15 as fun t => xI1 t fun a1 t => xN1 t (callW (pX11_fault N a1) w)
set_option maxRecDepth 100000 in
set_option maxHeartbeats 4000000 in
theorem kX11_fault : TK cX11_fault RX11 2 tX11_fault := ⟨by decide +kernel, wok_of [729, 474, 729, 476] (by decide +kernel) (by decide +kernel)⟩
set_option maxRecDepth 100000 in
set_option maxHeartbeats 4000000 in
theorem crX11_fault {N : Nat} {X : XT} (G : GX X cX11_fault RX11) (hR : xR X = rmL 1) : CRs X tX11_fault (oF []) (oF []) (oF []) := by
  have hl : tX11_fault.filter isInv = [] := rfl
  intro e he
  rw [hl] at he
  cases he
set_option maxRecDepth 100000 in
set_option maxHeartbeats 4000000 in
theorem MX11_fault (N : Nat) : SndI yX11_fault cX11_fault 2 (some .int) 1 2 true (mX11_fault N) := by
  refine SndI.of tX11_fault (by decide +kernel) rfl rfl ?_ ?_
  · intro as w x h
    obtain ⟨t1, rfl, h_1⟩ := xS1_some h
    obtain ⟨a1, t2, rfl, h_2⟩ := xI1_some h_1
    obtain ⟨rfl, h_3⟩ := xN1_some h_2
    clear h h_1 h_2
    have h := h_3
    rw [callW_eq] at h
    exact ⟨fun _ => ⟨_, _, _, rfl, rfl, _, rfl, rfl⟩, rfl, Nat.le_of_ble_eq_true rfl⟩
  · intro X G hn hR as w r h hr
    have hC := crX11_fault (N := N) G hR
    obtain ⟨t1, rfl, h_1⟩ := xS1_some h
    obtain ⟨a1, t2, rfl, h_2⟩ := xI1_some h_1
    obtain ⟨rfl, h_3⟩ := xN1_some h_2
    clear h h_1 h_2
    have h := h_3
    rw [callW_eq] at h
    refine run_sound (r := r) (X := X) (cc := cX11_fault) (own := RX11) (tab := tX11_fault) G (by rw [hn]; exact kX11_fault) (oI := (oF [])) (oL := (oF [])) (oV := (oF [])) (rI := (fun x w => some (x, w))) (rL := (fun _ _ => none)) (rV := (fun _ => none))
      (K := (fun j ls st w => none)) (fun x w pc ls hx hd => hr x w pc ls (Option.some.inj hx) hd) (fun _ _ _ _ hx => by cases hx) (fun _ _ _ hx => by cases hx) hC (fun ls => lsb [some (.inr (.inr (15, 0))), some (.inl a1)] 0 ls) (keepsP_of rfl) ?_ 17 0 [some (.inr (.inr (15, 0))), some (.inl a1)] [] w ?_ h
    · intro j ls st w hfx h
      obtain ⟨e0, e1, -⟩ : _ = _ ∧ _ = _ ∧ True := hfx
      try dsimp only at h
      cases h
    · exact (show _ = _ ∧ _ = _ ∧ True from ⟨rfl, rfl, trivial⟩)
-- MoorGuides.named(II)I
def tX11_named : List EN := [
  (0, .iload_n 1, 0, 0, 0, 0, 0, []), (1, .ifCond .ne 22, 0, 11, 0, 0, 0, []), (4, .aload_n 0, 0, 0, 0, 0, 0, []), (5, .getfield 16, 0, 11, 2, 0, 0, []),
  (8, .getfield 124, 0, 4, 1, 0, 0, []), (11, .aload_n 0, 0, 0, 0, 0, 0, []), (12, .getfield 16, 0, 11, 2, 0, 0, []), (15, .getfield 127, 0, 4, 0, 0, 0, []),
  (18, .iload_n 2, 0, 0, 0, 0, 0, []), (19, .invokestatic 130, 0, 0, 3, 0, 0, []), (22, .ireturn, 0, 0, 0, 0, 0, []), (23, .iload_n 1, 0, 0, 0, 0, 0, []),
  (24, .iconst 1, 0, 0, 0, 1, 0, []), (25, .if_icmp .ne 30, 0, 25, 0, 0, 0, []), (28, .aload_n 0, 0, 0, 0, 0, 0, []), (29, .getfield 16, 0, 11, 2, 0, 0, []),
  (32, .getfield 134, 0, 4, 4, 0, 0, []), (35, .getfield 138, 0, 6, 1, 0, 0, []), (38, .aload_n 0, 0, 0, 0, 0, 0, []), (39, .getfield 16, 0, 11, 2, 0, 0, []),
  (42, .getfield 134, 0, 4, 4, 0, 0, []), (45, .getfield 143, 0, 6, 0, 0, 0, []), (48, .iload_n 2, 0, 0, 0, 0, 0, []), (49, .invokestatic 130, 0, 0, 3, 0, 0, []),
  (52, .goto 4, 0, 26, 0, 0, 0, []), (55, .iconst (-1), 0, 0, 0, (-1), 0, []), (56, .ireturn, 0, 0, 0, 0, 0, [])]
noncomputable def pX11_named (N : Nat) (a1 : Int32) (a2 : Int32) (w : Wd) : Option (Int32 × Wd) :=
  if a1 = 0 then
    (callW (pX11_indexOf N 30 (gR w 15 0 2) (gI w 8 (gR w 15 0 2) 0) a2) w).bind fun r1 =>
    some (r1.1, r1.2)
  else
  if a1 = (1 : Int32) then
    (callW (pX11_indexOf N 48 (gR w 15 0 2) (gI w 10 (gR w 15 0 2) 0) a2) w).bind fun r2 =>
    some (r2.1, r2.2)
  else
  some ((-1 : Int32), w)
noncomputable def mX11_named (N : Nat) (as : List AV) (w : Wd) : Option (Int32 × Wd) := xS1 15 as fun t => xI1 t fun a1 t => xI1 t fun a2 t => xN1 t (callW (pX11_named N a1 a2) w)
set_option maxRecDepth 100000 in
set_option maxHeartbeats 4000000 in
theorem kX11_named : TK cX11_named RX11 3 tX11_named := ⟨by decide +kernel, wok_of [727, 263, 727, 259, 727, 279, 199, 727, 279, 195] (by decide +kernel) (by decide +kernel)⟩
set_option maxRecDepth 100000 in
set_option maxHeartbeats 4000000 in
theorem crX11_named {N : Nat} {X : XT} (G : GX X cX11_named RX11) (hR : xR X = rmL 2) : CRs X tX11_named (oF [(mX11_indexOf N)]) (oF []) (oF []) := by
  have hl : tX11_named.filter isInv = [(19, .invokestatic 130, 0, 0, 3, 0, 0, []), (49, .invokestatic 130, 0, 0, 3, 0, 0, [])] := rfl
  intro e he
  rw [hl] at he
  simp only [List.mem_cons, List.not_mem_nil, or_false] at he
  rcases he with rfl | rfl
  · exact crI_S (idx := 130) G (by decide +kernel) (MX11_indexOf N) (cw_of (ps := [999, 867, 146, 868]) (by decide +kernel) (by decide +kernel)) ⟨by decide +kernel, by decide +kernel, by decide +kernel⟩ (by unfold rmOk; rw [hR]; exact ⟨by decide, by decide⟩)
  · exact crI_S (idx := 130) G (by decide +kernel) (MX11_indexOf N) (cw_of (ps := [999, 867, 146, 868]) (by decide +kernel) (by decide +kernel)) ⟨by decide +kernel, by decide +kernel, by decide +kernel⟩ (by unfold rmOk; rw [hR]; exact ⟨by decide, by decide⟩)
set_option maxRecDepth 100000 in
set_option maxHeartbeats 4000000 in
theorem MX11_named (N : Nat) : SndI yX11_named cX11_named 3 (some .int) 2 3 true (mX11_named N) := by
  refine SndI.of tX11_named (by decide +kernel) rfl rfl ?_ ?_
  · intro as w x h
    obtain ⟨t1, rfl, h_1⟩ := xS1_some h
    obtain ⟨a1, t2, rfl, h_2⟩ := xI1_some h_1
    obtain ⟨a2, t3, rfl, h_3⟩ := xI1_some h_2
    obtain ⟨rfl, h_4⟩ := xN1_some h_3
    clear h h_1 h_2 h_3
    have h := h_4
    rw [callW_eq] at h
    exact ⟨fun _ => ⟨_, _, _, rfl, rfl, _, rfl, rfl⟩, rfl, Nat.le_of_ble_eq_true rfl⟩
  · intro X G hn hR as w r h hr
    have hC := crX11_named (N := N) G hR
    obtain ⟨t1, rfl, h_1⟩ := xS1_some h
    obtain ⟨a1, t2, rfl, h_2⟩ := xI1_some h_1
    obtain ⟨a2, t3, rfl, h_3⟩ := xI1_some h_2
    obtain ⟨rfl, h_4⟩ := xN1_some h_3
    clear h h_1 h_2 h_3
    have h := h_4
    rw [callW_eq] at h
    refine run_sound (r := r) (X := X) (cc := cX11_named) (own := RX11) (tab := tX11_named) G (by rw [hn]; exact kX11_named) (oI := (oF [(mX11_indexOf N)])) (oL := (oF [])) (oV := (oF [])) (rI := (fun x w => some (x, w))) (rL := (fun _ _ => none)) (rV := (fun _ => none))
      (K := (fun j ls st w => none)) (fun x w pc ls hx hd => hr x w pc ls (Option.some.inj hx) hd) (fun _ _ _ _ hx => by cases hx) (fun _ _ _ hx => by cases hx) hC (fun ls => lsb [some (.inr (.inr (15, 0))), some (.inl a1), some (.inl a2)] 0 ls) (keepsP_of rfl) ?_ 29 0 [some (.inr (.inr (15, 0))), some (.inl a1), some (.inl a2)] [] w ?_ h
    · intro j ls st w hfx h
      obtain ⟨e0, e1, e2, -⟩ : _ = _ ∧ _ = _ ∧ _ = _ ∧ True := hfx
      try dsimp only at h
      cases h
    · exact (show _ = _ ∧ _ = _ ∧ _ = _ ∧ True from ⟨rfl, rfl, rfl, trivial⟩)
-- MoorGuides.isPart(I)Z
def tX11_isPart : List EN := [
  (0, .iload_n 1, 0, 0, 0, 0, 0, []), (1, .ifCond .lt 18, 0, 9, 0, 0, 0, []), (4, .iload_n 1, 0, 0, 0, 0, 0, []), (5, .aload_n 0, 0, 0, 0, 0, 0, []),
  (6, .getfield 16, 0, 11, 2, 0, 0, []), (9, .getfield 127, 0, 4, 0, 0, 0, []), (12, .if_icmp .ge 7, 0, 9, 0, 0, 0, []), (15, .iconst 1, 0, 0, 0, 1, 0, []),
  (16, .goto 4, 0, 10, 0, 0, 0, []), (19, .iconst 0, 0, 0, 0, 0, 0, []), (20, .ireturn, 0, 0, 0, 0, 0, [])]
noncomputable def pX11_isPart (N : Nat) (a1 : Int32) (w : Wd) : Option (Int32 × Wd) :=
  if a1 < 0 then some ((0 : Int32), w) else
  if a1 < (gI w 8 (gR w 15 0 2) 0) then some ((1 : Int32), w) else
  some ((0 : Int32), w)
noncomputable def mX11_isPart (N : Nat) (as : List AV) (w : Wd) : Option (Int32 × Wd) := xS1 15 as fun t => xI1 t fun a1 t => xN1 t (callW (pX11_isPart N a1) w)
set_option maxRecDepth 100000 in
set_option maxHeartbeats 4000000 in
theorem kX11_isPart : TK cX11_isPart RX11 2 tX11_isPart := ⟨by decide +kernel, wok_of [727, 259] (by decide +kernel) (by decide +kernel)⟩
set_option maxRecDepth 100000 in
set_option maxHeartbeats 4000000 in
theorem crX11_isPart {N : Nat} {X : XT} (G : GX X cX11_isPart RX11) (hR : xR X = rmL 1) : CRs X tX11_isPart (oF []) (oF []) (oF []) := by
  have hl : tX11_isPart.filter isInv = [] := rfl
  intro e he
  rw [hl] at he
  cases he
set_option maxRecDepth 100000 in
set_option maxHeartbeats 4000000 in
theorem MX11_isPart (N : Nat) : SndI yX11_isPart cX11_isPart 2 (some .boolean) 1 2 true (mX11_isPart N) := by
  refine SndI.ofZ tX11_isPart (by decide +kernel) rfl rfl ?_ ?_
  · intro as w x h
    obtain ⟨t1, rfl, h_1⟩ := xS1_some h
    obtain ⟨a1, t2, rfl, h_2⟩ := xI1_some h_1
    obtain ⟨rfl, h_3⟩ := xN1_some h_2
    clear h h_1 h_2
    have h := h_3
    rw [callW_eq] at h
    exact ⟨fun _ => ⟨_, _, _, rfl, rfl, _, rfl, rfl⟩, rfl, Nat.le_of_ble_eq_true rfl⟩
  · intro X G hn hR as w r h hr
    have hC := crX11_isPart (N := N) G hR
    obtain ⟨t1, rfl, h_1⟩ := xS1_some h
    obtain ⟨a1, t2, rfl, h_2⟩ := xI1_some h_1
    obtain ⟨rfl, h_3⟩ := xN1_some h_2
    clear h h_1 h_2
    have h := h_3
    rw [callW_eq] at h
    refine run_sound (r := r) (X := X) (cc := cX11_isPart) (own := RX11) (tab := tX11_isPart) G (by rw [hn]; exact kX11_isPart) (oI := (oF [])) (oL := (oF [])) (oV := (oF [])) (rI := retZ) (rL := (fun _ _ => none)) (rV := (fun _ => none))
      (K := (fun j ls st w => none)) hr (fun _ _ _ _ hx => by cases hx) (fun _ _ _ hx => by cases hx) hC (fun ls => lsb [some (.inr (.inr (15, 0))), some (.inl a1)] 0 ls) (keepsP_of rfl) ?_ 13 0 [some (.inr (.inr (15, 0))), some (.inl a1)] [] w ?_ h
    · intro j ls st w hfx h
      obtain ⟨e0, e1, -⟩ : _ = _ ∧ _ = _ ∧ True := hfx
      try dsimp only at h
      cases h
    · exact (show _ = _ ∧ _ = _ ∧ True from ⟨rfl, rfl, trivial⟩)
-- MoorGuides.part(II)I
def tX11_part : List EN := [
  (0, .aload_n 0, 0, 0, 0, 0, 0, []), (1, .iload_n 1, 0, 0, 0, 0, 0, []), (2, .invokevirtual 185, 0, 0, 2, 0, 0, []), (5, .ifCond .ne 5, 0, 6, 0, 0, 0, []),
  (8, .iconst (-1), 0, 0, 0, (-1), 0, []), (9, .ireturn, 0, 0, 0, 0, 0, []), (10, .iload_n 2, 0, 0, 0, 0, 0, []), (11, .tableswitch 74 0 3 #[29, 39, 49, 65], 0, 33, 29, 0, 0, [(0, 8), (1, 14), (2, 20), (3, 28)]),
  (40, .aload_n 0, 0, 0, 0, 0, 0, []), (41, .getfield 16, 0, 11, 2, 0, 0, []), (44, .getfield 188, 0, 4, 2, 0, 0, []), (47, .iload_n 1, 0, 0, 0, 0, 0, []),
  (48, .iaload, 0, 0, 0, 0, 0, []), (49, .ireturn, 0, 0, 0, 0, 0, []), (50, .aload_n 0, 0, 0, 0, 0, 0, []), (51, .getfield 16, 0, 11, 2, 0, 0, []),
  (54, .getfield 191, 0, 4, 3, 0, 0, []), (57, .iload_n 1, 0, 0, 0, 0, 0, []), (58, .iaload, 0, 0, 0, 0, 0, []), (59, .ireturn, 0, 0, 0, 0, 0, []),
  (60, .aload_n 0, 0, 0, 0, 0, 0, []), (61, .getfield 16, 0, 11, 2, 0, 0, []), (64, .iload_n 1, 0, 0, 0, 0, 0, []), (65, .aload_n 0, 0, 0, 0, 0, 0, []),
  (66, .getfield 35, 0, 11, 5, 0, 0, []), (69, .getfield 157, 0, 9, 1, 0, 0, []), (72, .invokevirtual 194, 0, 1, 3, 0, 0, []), (75, .ireturn, 0, 0, 0, 0, 0, []),
  (76, .aload_n 0, 0, 0, 0, 0, 0, []), (77, .getfield 35, 0, 11, 5, 0, 0, []), (80, .iload_n 1, 0, 0, 0, 0, 0, []), (81, .invokevirtual 197, 0, 2, 2, 0, 0, []),
  (84, .ireturn, 0, 0, 0, 0, 0, []), (85, .iconst (-1), 0, 0, 0, (-1), 0, []), (86, .ireturn, 0, 0, 0, 0, 0, [])]
noncomputable def pX11_part (N : Nat) (a1 : Int32) (a2 : Int32) (w : Wd) : Option (Int32 × Wd) :=
  (callW (pX11_isPart N a1) w).bind fun r1 =>
  if r1.1 = 0 then some ((-1 : Int32), r1.2) else
  if a2 = (0 : Int32) then
    (ldI r1.2 31 (gR r1.2 15 0 2) a1 8).bind fun x2 =>
    some (x2, r1.2)
  else
  if a2 = (1 : Int32) then
    (ldI r1.2 32 (gR r1.2 15 0 2) a1 8).bind fun x3 =>
    some (x3, r1.2)
  else
  if a2 = (2 : Int32) then
    (callW (pX4_wantedOn N (gR r1.2 15 0 2) a1 (gI r1.2 13 0 1)) r1.2).bind fun r4 =>
    some (r4.1, r4.2)
  else
  if a2 = (3 : Int32) then
    (callW (pX9_knowers N 0 a1) r1.2).bind fun r5 =>
    some (r5.1, r5.2)
  else
  some ((-1 : Int32), r1.2)
noncomputable def mX11_part (N : Nat) (as : List AV) (w : Wd) : Option (Int32 × Wd) := xS1 15 as fun t => xI1 t fun a1 t => xI1 t fun a2 t => xN1 t (callW (pX11_part N a1 a2) w)
set_option maxRecDepth 100000 in
set_option maxHeartbeats 4000000 in
theorem kX11_part : TK cX11_part RX11 3 tX11_part := ⟨by decide +kernel, wok_of [727, 266, 727, 272, 727, 730, 522, 730] (by decide +kernel) (by decide +kernel)⟩
set_option maxRecDepth 100000 in
set_option maxHeartbeats 4000000 in
theorem crX11_part {N : Nat} {X : XT} (G : GX X cX11_part RX11) (hR : xR X = rmL 4) : CRs X tX11_part (oF [(mX11_isPart N), (mX4_wantedOn N), (mX9_knowers N)]) (oF []) (oF []) := by
  have hl : tX11_part.filter isInv = [(2, .invokevirtual 185, 0, 0, 2, 0, 0, []), (72, .invokevirtual 194, 0, 1, 3, 0, 0, []), (81, .invokevirtual 197, 0, 2, 2, 0, 0, [])] := rfl
  intro e he
  rw [hl] at he
  simp only [List.mem_cons, List.not_mem_nil, or_false] at he
  rcases he with rfl | rfl | rfl
  · exact crI_V (idx := 185) G (by decide +kernel) (MX11_isPart N) (cw_of (ps := [1004, 1006, 33, 146, 1007]) (by decide +kernel) (by decide +kernel)) ⟨by decide +kernel, by decide +kernel, by decide +kernel⟩ (by unfold rmOk; rw [hR]; exact ⟨by decide, by decide⟩)
  · exact crI_V (idx := 194) G (by decide +kernel) (MX4_wantedOn N) (cw_of (ps := [1008, 1009, 1010, 147, 1011]) (by decide +kernel) (by decide +kernel)) ⟨by decide +kernel, by decide +kernel, by decide +kernel⟩ (by unfold rmOk; rw [hR]; exact ⟨by decide, by decide⟩)
  · exact crI_V (idx := 197) G (by decide +kernel) (MX9_knowers N) (cw_of (ps := [1012, 1013, 1014, 156, 1015]) (by decide +kernel) (by decide +kernel)) ⟨by decide +kernel, by decide +kernel, by decide +kernel⟩ (by unfold rmOk; rw [hR]; exact ⟨by decide, by decide⟩)
set_option maxRecDepth 100000 in
set_option maxHeartbeats 4000000 in
theorem MX11_part (N : Nat) : SndI yX11_part cX11_part 3 (some .int) 4 3 true (mX11_part N) := by
  refine SndI.of tX11_part (by decide +kernel) rfl rfl ?_ ?_
  · intro as w x h
    obtain ⟨t1, rfl, h_1⟩ := xS1_some h
    obtain ⟨a1, t2, rfl, h_2⟩ := xI1_some h_1
    obtain ⟨a2, t3, rfl, h_3⟩ := xI1_some h_2
    obtain ⟨rfl, h_4⟩ := xN1_some h_3
    clear h h_1 h_2 h_3
    have h := h_4
    rw [callW_eq] at h
    exact ⟨fun _ => ⟨_, _, _, rfl, rfl, _, rfl, rfl⟩, rfl, Nat.le_of_ble_eq_true rfl⟩
  · intro X G hn hR as w r h hr
    have hC := crX11_part (N := N) G hR
    obtain ⟨t1, rfl, h_1⟩ := xS1_some h
    obtain ⟨a1, t2, rfl, h_2⟩ := xI1_some h_1
    obtain ⟨a2, t3, rfl, h_3⟩ := xI1_some h_2
    obtain ⟨rfl, h_4⟩ := xN1_some h_3
    clear h h_1 h_2 h_3
    have h := h_4
    rw [callW_eq] at h
    refine run_sound (r := r) (X := X) (cc := cX11_part) (own := RX11) (tab := tX11_part) G (by rw [hn]; exact kX11_part) (oI := (oF [(mX11_isPart N), (mX4_wantedOn N), (mX9_knowers N)])) (oL := (oF [])) (oV := (oF [])) (rI := (fun x w => some (x, w))) (rL := (fun _ _ => none)) (rV := (fun _ => none))
      (K := (fun j ls st w => none)) (fun x w pc ls hx hd => hr x w pc ls (Option.some.inj hx) hd) (fun _ _ _ _ hx => by cases hx) (fun _ _ _ hx => by cases hx) hC (fun ls => lsb [some (.inr (.inr (15, 0))), some (.inl a1), some (.inl a2)] 0 ls) (keepsP_of rfl) ?_ 37 0 [some (.inr (.inr (15, 0))), some (.inl a1), some (.inl a2)] [] w ?_ h
    · intro j ls st w hfx h
      obtain ⟨e0, e1, e2, -⟩ : _ = _ ∧ _ = _ ∧ _ = _ ∧ True := hfx
      try dsimp only at h
      cases h
    · exact (show _ = _ ∧ _ = _ ∧ _ = _ ∧ True from ⟨rfl, rfl, rfl, trivial⟩)
-- MoorGuides.isPerson(I)Z
def tX11_isPerson : List EN := [
  (0, .iload_n 1, 0, 0, 0, 0, 0, []), (1, .ifCond .lt 21, 0, 10, 0, 0, 0, []), (4, .iload_n 1, 0, 0, 0, 0, 0, []), (5, .aload_n 0, 0, 0, 0, 0, 0, []),
  (6, .getfield 16, 0, 11, 2, 0, 0, []), (9, .getfield 134, 0, 4, 4, 0, 0, []), (12, .getfield 143, 0, 6, 0, 0, 0, []), (15, .if_icmp .ge 7, 0, 10, 0, 0, 0, []),
  (18, .iconst 1, 0, 0, 0, 1, 0, []), (19, .goto 4, 0, 11, 0, 0, 0, []), (22, .iconst 0, 0, 0, 0, 0, 0, []), (23, .ireturn, 0, 0, 0, 0, 0, [])]
noncomputable def pX11_isPerson (N : Nat) (a1 : Int32) (w : Wd) : Option (Int32 × Wd) :=
  if a1 < 0 then some ((0 : Int32), w) else
  if a1 < (gI w 10 (gR w 15 0 2) 0) then some ((1 : Int32), w) else
  some ((0 : Int32), w)
noncomputable def mX11_isPerson (N : Nat) (as : List AV) (w : Wd) : Option (Int32 × Wd) := xS1 15 as fun t => xI1 t fun a1 t => xN1 t (callW (pX11_isPerson N a1) w)
set_option maxRecDepth 100000 in
set_option maxHeartbeats 4000000 in
theorem kX11_isPerson : TK cX11_isPerson RX11 2 tX11_isPerson := ⟨by decide +kernel, wok_of [727, 279, 195] (by decide +kernel) (by decide +kernel)⟩
set_option maxRecDepth 100000 in
set_option maxHeartbeats 4000000 in
theorem crX11_isPerson {N : Nat} {X : XT} (G : GX X cX11_isPerson RX11) (hR : xR X = rmL 1) : CRs X tX11_isPerson (oF []) (oF []) (oF []) := by
  have hl : tX11_isPerson.filter isInv = [] := rfl
  intro e he
  rw [hl] at he
  cases he
set_option maxRecDepth 100000 in
set_option maxHeartbeats 4000000 in
theorem MX11_isPerson (N : Nat) : SndI yX11_isPerson cX11_isPerson 2 (some .boolean) 1 2 true (mX11_isPerson N) := by
  refine SndI.ofZ tX11_isPerson (by decide +kernel) rfl rfl ?_ ?_
  · intro as w x h
    obtain ⟨t1, rfl, h_1⟩ := xS1_some h
    obtain ⟨a1, t2, rfl, h_2⟩ := xI1_some h_1
    obtain ⟨rfl, h_3⟩ := xN1_some h_2
    clear h h_1 h_2
    have h := h_3
    rw [callW_eq] at h
    exact ⟨fun _ => ⟨_, _, _, rfl, rfl, _, rfl, rfl⟩, rfl, Nat.le_of_ble_eq_true rfl⟩
  · intro X G hn hR as w r h hr
    have hC := crX11_isPerson (N := N) G hR
    obtain ⟨t1, rfl, h_1⟩ := xS1_some h
    obtain ⟨a1, t2, rfl, h_2⟩ := xI1_some h_1
    obtain ⟨rfl, h_3⟩ := xN1_some h_2
    clear h h_1 h_2
    have h := h_3
    rw [callW_eq] at h
    refine run_sound (r := r) (X := X) (cc := cX11_isPerson) (own := RX11) (tab := tX11_isPerson) G (by rw [hn]; exact kX11_isPerson) (oI := (oF [])) (oL := (oF [])) (oV := (oF [])) (rI := retZ) (rL := (fun _ _ => none)) (rV := (fun _ => none))
      (K := (fun j ls st w => none)) hr (fun _ _ _ _ hx => by cases hx) (fun _ _ _ hx => by cases hx) hC (fun ls => lsb [some (.inr (.inr (15, 0))), some (.inl a1)] 0 ls) (keepsP_of rfl) ?_ 14 0 [some (.inr (.inr (15, 0))), some (.inl a1)] [] w ?_ h
    · intro j ls st w hfx h
      obtain ⟨e0, e1, -⟩ : _ = _ ∧ _ = _ ∧ True := hfx
      try dsimp only at h
      cases h
    · exact (show _ = _ ∧ _ = _ ∧ True from ⟨rfl, rfl, trivial⟩)
-- MoorGuides.isNight(I)Z
def tX11_isNight : List EN := [
  (0, .iload_n 0, 0, 0, 0, 0, 0, []), (1, .ifCond .lt 14, 0, 7, 0, 0, 0, []), (4, .iload_n 0, 0, 0, 0, 0, 0, []), (5, .sipush 999, 0, 0, 0, 999, 0, []),
  (8, .if_icmp .gt 7, 0, 7, 0, 0, 0, []), (11, .iconst 1, 0, 0, 0, 1, 0, []), (12, .goto 4, 0, 8, 0, 0, 0, []), (15, .iconst 0, 0, 0, 0, 0, 0, []),
  (16, .ireturn, 0, 0, 0, 0, 0, [])]
noncomputable def pX11_isNight (N : Nat) (a0 : Int32) (w : Wd) : Option (Int32 × Wd) :=
  if a0 < 0 then some ((0 : Int32), w) else
  if (999 : Int32) < a0 then some ((0 : Int32), w) else
  some ((1 : Int32), w)
noncomputable def mX11_isNight (N : Nat) (as : List AV) (w : Wd) : Option (Int32 × Wd) := xI1 as fun a0 t => xN1 t (callW (pX11_isNight N a0) w)
set_option maxRecDepth 100000 in
set_option maxHeartbeats 4000000 in
theorem kX11_isNight : TK cX11_isNight RX11 1 tX11_isNight := ⟨by decide +kernel, wok_of [] (by decide +kernel) (by decide +kernel)⟩
set_option maxRecDepth 100000 in
set_option maxHeartbeats 4000000 in
theorem crX11_isNight {N : Nat} {X : XT} (G : GX X cX11_isNight RX11) (hR : xR X = rmL 1) : CRs X tX11_isNight (oF []) (oF []) (oF []) := by
  have hl : tX11_isNight.filter isInv = [] := rfl
  intro e he
  rw [hl] at he
  cases he
set_option maxRecDepth 100000 in
set_option maxHeartbeats 4000000 in
theorem MX11_isNight (N : Nat) : SndI yX11_isNight cX11_isNight 1 (some .boolean) 1 1 false (mX11_isNight N) := by
  refine SndI.ofZ tX11_isNight (by decide +kernel) rfl rfl ?_ ?_
  · intro as w x h
    obtain ⟨a0, t1, rfl, h_1⟩ := xI1_some h
    obtain ⟨rfl, h_2⟩ := xN1_some h_1
    clear h h_1
    have h := h_2
    rw [callW_eq] at h
    exact ⟨(fun z => by cases z), rfl, Nat.le_of_ble_eq_true rfl⟩
  · intro X G hn hR as w r h hr
    have hC := crX11_isNight (N := N) G hR
    obtain ⟨a0, t1, rfl, h_1⟩ := xI1_some h
    obtain ⟨rfl, h_2⟩ := xN1_some h_1
    clear h h_1
    have h := h_2
    rw [callW_eq] at h
    refine run_sound (r := r) (X := X) (cc := cX11_isNight) (own := RX11) (tab := tX11_isNight) G (by rw [hn]; exact kX11_isNight) (oI := (oF [])) (oL := (oF [])) (oV := (oF [])) (rI := retZ) (rL := (fun _ _ => none)) (rV := (fun _ => none))
      (K := (fun j ls st w => none)) hr (fun _ _ _ _ hx => by cases hx) (fun _ _ _ hx => by cases hx) hC (fun ls => lsb [some (.inl a0)] 0 ls) (keepsP_of rfl) ?_ 11 0 [some (.inl a0)] [] w ?_ h
    · intro j ls st w hfx h
      obtain ⟨e0, -⟩ : _ = _ ∧ True := hfx
      try dsimp only at h
      cases h
    · exact (show _ = _ ∧ True from ⟨rfl, trivial⟩)
-- MoorGuides.knows(III)I
def tX11_knows : List EN := [
  (0, .aload_n 0, 0, 0, 0, 0, 0, []), (1, .iload_n 1, 0, 0, 0, 0, 0, []), (2, .invokevirtual 146, 0, 0, 2, 0, 0, []), (5, .ifCond .eq 18, 0, 11, 0, 0, 0, []),
  (8, .aload_n 0, 0, 0, 0, 0, 0, []), (9, .iload_n 2, 0, 0, 0, 0, 0, []), (10, .invokevirtual 185, 0, 1, 2, 0, 0, []), (13, .ifCond .eq 10, 0, 11, 0, 0, 0, []),
  (16, .iload_n 3, 0, 0, 0, 0, 0, []), (17, .invokestatic 201, 0, 2, 1, 0, 0, []), (20, .ifCond .ne 5, 0, 13, 0, 0, 0, []), (23, .iconst (-1), 0, 0, 0, (-1), 0, []),
  (24, .ireturn, 0, 0, 0, 0, 0, []), (25, .aload_n 0, 0, 0, 0, 0, 0, []), (26, .getfield 35, 0, 11, 5, 0, 0, []), (29, .iload_n 1, 0, 0, 0, 0, 0, []),
  (30, .iload_n 3, 0, 0, 0, 0, 0, []), (31, .invokevirtual 167, 0, 3, 3, 0, 0, []), (34, .iload_n 2, 0, 0, 0, 0, 0, []), (35, .ishr, 0, 0, 0, 0, 0, []),
  (36, .iconst 1, 0, 0, 0, 1, 0, []), (37, .iand, 0, 0, 0, 0, 0, []), (38, .ireturn, 0, 0, 0, 0, 0, [])]
noncomputable def pX11_knows (N : Nat) (a1 : Int32) (a2 : Int32) (a3 : Int32) (w : Wd) : Option (Int32 × Wd) :=
  (callW (pX11_isPerson N a1) w).bind fun r1 =>
  if r1.1 = 0 then some ((-1 : Int32), r1.2) else
  (callW (pX11_isPart N a2) r1.2).bind fun r2 =>
  if r2.1 = 0 then some ((-1 : Int32), r2.2) else
  (callW (pX11_isNight N a3) r2.2).bind fun r3 =>
  if r3.1 = 0 then some ((-1 : Int32), r3.2) else
  (callW (pX9_knownBits N 0 a1 a3) r3.2).bind fun r4 =>
  some (((r4.1 >>> (a2 &&& (31 : Int32))) &&& (1 : Int32)), r4.2)
noncomputable def mX11_knows (N : Nat) (as : List AV) (w : Wd) : Option (Int32 × Wd) := xS1 15 as fun t => xI1 t fun a1 t => xI1 t fun a2 t => xI1 t fun a3 t => xN1 t (callW (pX11_knows N a1 a2 a3) w)
set_option maxRecDepth 100000 in
set_option maxHeartbeats 4000000 in
theorem kX11_knows : TK cX11_knows RX11 4 tX11_knows := ⟨by decide +kernel, wok_of [730] (by decide +kernel) (by decide +kernel)⟩
set_option maxRecDepth 100000 in
set_option maxHeartbeats 4000000 in
theorem crX11_knows {N : Nat} {X : XT} (G : GX X cX11_knows RX11) (hR : xR X = rmL 3) : CRs X tX11_knows (oF [(mX11_isPerson N), (mX11_isPart N), (mX11_isNight N), (mX9_knownBits N)]) (oF []) (oF []) := by
  have hl : tX11_knows.filter isInv = [(2, .invokevirtual 146, 0, 0, 2, 0, 0, []), (10, .invokevirtual 185, 0, 1, 2, 0, 0, []), (17, .invokestatic 201, 0, 2, 1, 0, 0, []), (31, .invokevirtual 167, 0, 3, 3, 0, 0, [])] := rfl
  intro e he
  rw [hl] at he
  simp only [List.mem_cons, List.not_mem_nil, or_false] at he
  rcases he with rfl | rfl | rfl | rfl
  · exact crI_V (idx := 146) G (by decide +kernel) (MX11_isPerson N) (cw_of (ps := [1028, 1030, 34, 146, 1031]) (by decide +kernel) (by decide +kernel)) ⟨by decide +kernel, by decide +kernel, by decide +kernel⟩ (by unfold rmOk; rw [hR]; exact ⟨by decide, by decide⟩)
  · exact crI_V (idx := 185) G (by decide +kernel) (MX11_isPart N) (cw_of (ps := [1004, 1006, 33, 146, 1007]) (by decide +kernel) (by decide +kernel)) ⟨by decide +kernel, by decide +kernel, by decide +kernel⟩ (by unfold rmOk; rw [hR]; exact ⟨by decide, by decide⟩)
  · exact crI_S (idx := 201) G (by decide +kernel) (MX11_isNight N) (cw_of (ps := [1032, 1033, 146, 1034]) (by decide +kernel) (by decide +kernel)) ⟨by decide +kernel, by decide +kernel, by decide +kernel⟩ (by unfold rmOk; rw [hR]; exact ⟨by decide, by decide⟩)
  · exact crI_V (idx := 167) G (by decide +kernel) (MX9_knownBits N) (cw_of (ps := [1035, 1017, 1018, 156, 1019]) (by decide +kernel) (by decide +kernel)) ⟨by decide +kernel, by decide +kernel, by decide +kernel⟩ (by unfold rmOk; rw [hR]; exact ⟨by decide, by decide⟩)
set_option maxRecDepth 100000 in
set_option maxHeartbeats 4000000 in
theorem MX11_knows (N : Nat) : SndI yX11_knows cX11_knows 4 (some .int) 3 4 true (mX11_knows N) := by
  refine SndI.of tX11_knows (by decide +kernel) rfl rfl ?_ ?_
  · intro as w x h
    obtain ⟨t1, rfl, h_1⟩ := xS1_some h
    obtain ⟨a1, t2, rfl, h_2⟩ := xI1_some h_1
    obtain ⟨a2, t3, rfl, h_3⟩ := xI1_some h_2
    obtain ⟨a3, t4, rfl, h_4⟩ := xI1_some h_3
    obtain ⟨rfl, h_5⟩ := xN1_some h_4
    clear h h_1 h_2 h_3 h_4
    have h := h_5
    rw [callW_eq] at h
    exact ⟨fun _ => ⟨_, _, _, rfl, rfl, _, rfl, rfl⟩, rfl, Nat.le_of_ble_eq_true rfl⟩
  · intro X G hn hR as w r h hr
    have hC := crX11_knows (N := N) G hR
    obtain ⟨t1, rfl, h_1⟩ := xS1_some h
    obtain ⟨a1, t2, rfl, h_2⟩ := xI1_some h_1
    obtain ⟨a2, t3, rfl, h_3⟩ := xI1_some h_2
    obtain ⟨a3, t4, rfl, h_4⟩ := xI1_some h_3
    obtain ⟨rfl, h_5⟩ := xN1_some h_4
    clear h h_1 h_2 h_3 h_4
    have h := h_5
    rw [callW_eq] at h
    refine run_sound (r := r) (X := X) (cc := cX11_knows) (own := RX11) (tab := tX11_knows) G (by rw [hn]; exact kX11_knows) (oI := (oF [(mX11_isPerson N), (mX11_isPart N), (mX11_isNight N), (mX9_knownBits N)])) (oL := (oF [])) (oV := (oF [])) (rI := (fun x w => some (x, w))) (rL := (fun _ _ => none)) (rV := (fun _ => none))
      (K := (fun j ls st w => none)) (fun x w pc ls hx hd => hr x w pc ls (Option.some.inj hx) hd) (fun _ _ _ _ hx => by cases hx) (fun _ _ _ hx => by cases hx) hC (fun ls => lsb [some (.inr (.inr (15, 0))), some (.inl a1), some (.inl a2), some (.inl a3)] 0 ls) (keepsP_of rfl) ?_ 25 0 [some (.inr (.inr (15, 0))), some (.inl a1), some (.inl a2), some (.inl a3)] [] w ?_ h
    · intro j ls st w hfx h
      obtain ⟨e0, e1, e2, e3, -⟩ : _ = _ ∧ _ = _ ∧ _ = _ ∧ _ = _ ∧ True := hfx
      try dsimp only at h
      cases h
    · exact (show _ = _ ∧ _ = _ ∧ _ = _ ∧ _ = _ ∧ True from ⟨rfl, rfl, rfl, rfl, trivial⟩)
-- MoorGuides.steps(II)I
def tX11_steps : List EN := [
  (0, .aload_n 0, 0, 0, 0, 0, 0, []), (1, .iload_n 1, 0, 0, 0, 0, 0, []), (2, .invokevirtual 185, 0, 0, 2, 0, 0, []), (5, .ifCond .eq 30, 0, 17, 0, 0, 0, []),
  (8, .aload_n 0, 0, 0, 0, 0, 0, []), (9, .iload_n 2, 0, 0, 0, 0, 0, []), (10, .invokevirtual 185, 0, 0, 2, 0, 0, []), (13, .ifCond .eq 22, 0, 17, 0, 0, 0, []),
  (16, .aload_n 0, 0, 0, 0, 0, 0, []), (17, .getfield 16, 0, 11, 2, 0, 0, []), (20, .iload_n 1, 0, 0, 0, 0, 0, []), (21, .iload_n 2, 0, 0, 0, 0, 0, []),
  (22, .aload_n 0, 0, 0, 0, 0, 0, []), (23, .getfield 16, 0, 11, 2, 0, 0, []), (26, .invokevirtual 204, 0, 1, 1, 0, 0, []), (29, .invokevirtual 208, 0, 2, 4, 0, 0, []),
  (32, .goto 4, 0, 18, 0, 0, 0, []), (35, .iconst (-1), 0, 0, 0, (-1), 0, []), (36, .ireturn, 0, 0, 0, 0, 0, [])]
noncomputable def pX11_steps (N : Nat) (a1 : Int32) (a2 : Int32) (w : Wd) : Option (Int32 × Wd) :=
  (callW (pX11_isPart N a1) w).bind fun r1 =>
  if r1.1 = 0 then some ((-1 : Int32), r1.2) else
  (callW (pX11_isPart N a2) r1.2).bind fun r2 =>
  if r2.1 = 0 then some ((-1 : Int32), r2.2) else
  (callW (pX4_allParts N (gR r2.2 15 0 2)) r2.2).bind fun r3 =>
  (callW (pX4_distance N (gR r2.2 15 0 2) a1 a2 r3.1) r3.2).bind fun r4 =>
  some (r4.1, r4.2)
noncomputable def mX11_steps (N : Nat) (as : List AV) (w : Wd) : Option (Int32 × Wd) := xS1 15 as fun t => xI1 t fun a1 t => xI1 t fun a2 t => xN1 t (callW (pX11_steps N a1 a2) w)
set_option maxRecDepth 100000 in
set_option maxHeartbeats 4000000 in
theorem kX11_steps : TK cX11_steps RX11 3 tX11_steps := ⟨by decide +kernel, wok_of [727, 727] (by decide +kernel) (by decide +kernel)⟩
set_option maxRecDepth 100000 in
set_option maxHeartbeats 4000000 in
theorem crX11_steps {N : Nat} {X : XT} (G : GX X cX11_steps RX11) (hR : xR X = rmL 2) : CRs X tX11_steps (oF [(mX11_isPart N), (mX4_allParts N), (mX4_distance N)]) (oF []) (oF []) := by
  have hl : tX11_steps.filter isInv = [(2, .invokevirtual 185, 0, 0, 2, 0, 0, []), (10, .invokevirtual 185, 0, 0, 2, 0, 0, []), (26, .invokevirtual 204, 0, 1, 1, 0, 0, []), (29, .invokevirtual 208, 0, 2, 4, 0, 0, [])] := rfl
  intro e he
  rw [hl] at he
  simp only [List.mem_cons, List.not_mem_nil, or_false] at he
  rcases he with rfl | rfl | rfl | rfl
  · exact crI_V (idx := 185) G (by decide +kernel) (MX11_isPart N) (cw_of (ps := [1004, 1006, 33, 146, 1007]) (by decide +kernel) (by decide +kernel)) ⟨by decide +kernel, by decide +kernel, by decide +kernel⟩ (by unfold rmOk; rw [hR]; exact ⟨by decide, by decide⟩)
  · exact crI_V (idx := 185) G (by decide +kernel) (MX11_isPart N) (cw_of (ps := [1004, 1006, 33, 146, 1007]) (by decide +kernel) (by decide +kernel)) ⟨by decide +kernel, by decide +kernel, by decide +kernel⟩ (by unfold rmOk; rw [hR]; exact ⟨by decide, by decide⟩)
  · exact crI_V (idx := 204) G (by decide +kernel) (MX4_allParts N) (cw_of (ps := [1040, 1041, 1042, 147, 1043]) (by decide +kernel) (by decide +kernel)) ⟨by decide +kernel, by decide +kernel, by decide +kernel⟩ (by unfold rmOk; rw [hR]; exact ⟨by decide, by decide⟩)
  · exact crI_V (idx := 208) G (by decide +kernel) (MX4_distance N) (cw_of (ps := [1044, 1045, 1046, 147, 1047]) (by decide +kernel) (by decide +kernel)) ⟨by decide +kernel, by decide +kernel, by decide +kernel⟩ (by unfold rmOk; rw [hR]; exact ⟨by decide, by decide⟩)
set_option maxRecDepth 100000 in
set_option maxHeartbeats 4000000 in
theorem MX11_steps (N : Nat) : SndI yX11_steps cX11_steps 3 (some .int) 2 3 true (mX11_steps N) := by
  refine SndI.of tX11_steps (by decide +kernel) rfl rfl ?_ ?_
  · intro as w x h
    obtain ⟨t1, rfl, h_1⟩ := xS1_some h
    obtain ⟨a1, t2, rfl, h_2⟩ := xI1_some h_1
    obtain ⟨a2, t3, rfl, h_3⟩ := xI1_some h_2
    obtain ⟨rfl, h_4⟩ := xN1_some h_3
    clear h h_1 h_2 h_3
    have h := h_4
    rw [callW_eq] at h
    exact ⟨fun _ => ⟨_, _, _, rfl, rfl, _, rfl, rfl⟩, rfl, Nat.le_of_ble_eq_true rfl⟩
  · intro X G hn hR as w r h hr
    have hC := crX11_steps (N := N) G hR
    obtain ⟨t1, rfl, h_1⟩ := xS1_some h
    obtain ⟨a1, t2, rfl, h_2⟩ := xI1_some h_1
    obtain ⟨a2, t3, rfl, h_3⟩ := xI1_some h_2
    obtain ⟨rfl, h_4⟩ := xN1_some h_3
    clear h h_1 h_2 h_3
    have h := h_4
    rw [callW_eq] at h
    refine run_sound (r := r) (X := X) (cc := cX11_steps) (own := RX11) (tab := tX11_steps) G (by rw [hn]; exact kX11_steps) (oI := (oF [(mX11_isPart N), (mX4_allParts N), (mX4_distance N)])) (oL := (oF [])) (oV := (oF [])) (rI := (fun x w => some (x, w))) (rL := (fun _ _ => none)) (rV := (fun _ => none))
      (K := (fun j ls st w => none)) (fun x w pc ls hx hd => hr x w pc ls (Option.some.inj hx) hd) (fun _ _ _ _ hx => by cases hx) (fun _ _ _ hx => by cases hx) hC (fun ls => lsb [some (.inr (.inr (15, 0))), some (.inl a1), some (.inl a2)] 0 ls) (keepsP_of rfl) ?_ 21 0 [some (.inr (.inr (15, 0))), some (.inl a1), some (.inl a2)] [] w ?_ h
    · intro j ls st w hfx h
      obtain ⟨e0, e1, e2, -⟩ : _ = _ ∧ _ = _ ∧ _ = _ ∧ True := hfx
      try dsimp only at h
      cases h
    · exact (show _ = _ ∧ _ = _ ∧ _ = _ ∧ True from ⟨rfl, rfl, rfl, trivial⟩)
-- MoorGuides.isThereTonight(I)Z
def tX11_isThereTonight : List EN := [
  (0, .aload_n 0, 0, 0, 0, 0, 0, []), (1, .iload_n 1, 0, 0, 0, 0, 0, []), (2, .invokevirtual 146, 0, 0, 2, 0, 0, []), (5, .ifCond .eq 25, 0, 14, 0, 0, 0, []),
  (8, .aload_n 0, 0, 0, 0, 0, 0, []), (9, .getfield 35, 0, 11, 5, 0, 0, []), (12, .iload_n 1, 0, 0, 0, 0, 0, []), (13, .aload_n 0, 0, 0, 0, 0, 0, []),
  (14, .getfield 35, 0, 11, 5, 0, 0, []), (17, .getfield 157, 0, 9, 1, 0, 0, []), (20, .invokevirtual 160, 0, 1, 3, 0, 0, []), (23, .ifCond .eq 7, 0, 14, 0, 0, 0, []),
  (26, .iconst 1, 0, 0, 0, 1, 0, []), (27, .goto 4, 0, 15, 0, 0, 0, []), (30, .iconst 0, 0, 0, 0, 0, 0, []), (31, .ireturn, 0, 0, 0, 0, 0, [])]
noncomputable def pX11_isThereTonight (N : Nat) (a1 : Int32) (w : Wd) : Option (Int32 × Wd) :=
  (callW (pX11_isPerson N a1) w).bind fun r1 =>
  if r1.1 = 0 then some ((0 : Int32), r1.2) else
  (callW (pX9_isThere N 0 a1 (gI r1.2 13 0 1)) r1.2).bind fun r2 =>
  if r2.1 = 0 then some ((0 : Int32), r2.2) else
  some ((1 : Int32), r2.2)
noncomputable def mX11_isThereTonight (N : Nat) (as : List AV) (w : Wd) : Option (Int32 × Wd) := xS1 15 as fun t => xI1 t fun a1 t => xN1 t (callW (pX11_isThereTonight N a1) w)
set_option maxRecDepth 100000 in
set_option maxHeartbeats 4000000 in
theorem kX11_isThereTonight : TK cX11_isThereTonight RX11 2 tX11_isThereTonight := ⟨by decide +kernel, wok_of [730, 730, 522] (by decide +kernel) (by decide +kernel)⟩
set_option maxRecDepth 100000 in
set_option maxHeartbeats 4000000 in
theorem crX11_isThereTonight {N : Nat} {X : XT} (G : GX X cX11_isThereTonight RX11) (hR : xR X = rmL 2) : CRs X tX11_isThereTonight (oF [(mX11_isPerson N), (mX9_isThere N)]) (oF []) (oF []) := by
  have hl : tX11_isThereTonight.filter isInv = [(2, .invokevirtual 146, 0, 0, 2, 0, 0, []), (20, .invokevirtual 160, 0, 1, 3, 0, 0, [])] := rfl
  intro e he
  rw [hl] at he
  simp only [List.mem_cons, List.not_mem_nil, or_false] at he
  rcases he with rfl | rfl
  · exact crI_V (idx := 146) G (by decide +kernel) (MX11_isPerson N) (cw_of (ps := [1028, 1030, 34, 146, 1031]) (by decide +kernel) (by decide +kernel)) ⟨by decide +kernel, by decide +kernel, by decide +kernel⟩ (by unfold rmOk; rw [hR]; exact ⟨by decide, by decide⟩)
  · exact crI_V (idx := 160) G (by decide +kernel) (MX9_isThere N) (cw_of (ps := [1056, 1021, 1022, 156, 1023]) (by decide +kernel) (by decide +kernel)) ⟨by decide +kernel, by decide +kernel, by decide +kernel⟩ (by unfold rmOk; rw [hR]; exact ⟨by decide, by decide⟩)
set_option maxRecDepth 100000 in
set_option maxHeartbeats 4000000 in
theorem MX11_isThereTonight (N : Nat) : SndI yX11_isThereTonight cX11_isThereTonight 2 (some .boolean) 2 2 true (mX11_isThereTonight N) := by
  refine SndI.ofZ tX11_isThereTonight (by decide +kernel) rfl rfl ?_ ?_
  · intro as w x h
    obtain ⟨t1, rfl, h_1⟩ := xS1_some h
    obtain ⟨a1, t2, rfl, h_2⟩ := xI1_some h_1
    obtain ⟨rfl, h_3⟩ := xN1_some h_2
    clear h h_1 h_2
    have h := h_3
    rw [callW_eq] at h
    exact ⟨fun _ => ⟨_, _, _, rfl, rfl, _, rfl, rfl⟩, rfl, Nat.le_of_ble_eq_true rfl⟩
  · intro X G hn hR as w r h hr
    have hC := crX11_isThereTonight (N := N) G hR
    obtain ⟨t1, rfl, h_1⟩ := xS1_some h
    obtain ⟨a1, t2, rfl, h_2⟩ := xI1_some h_1
    obtain ⟨rfl, h_3⟩ := xN1_some h_2
    clear h h_1 h_2
    have h := h_3
    rw [callW_eq] at h
    refine run_sound (r := r) (X := X) (cc := cX11_isThereTonight) (own := RX11) (tab := tX11_isThereTonight) G (by rw [hn]; exact kX11_isThereTonight) (oI := (oF [(mX11_isPerson N), (mX9_isThere N)])) (oL := (oF [])) (oV := (oF [])) (rI := retZ) (rL := (fun _ _ => none)) (rV := (fun _ => none))
      (K := (fun j ls st w => none)) hr (fun _ _ _ _ hx => by cases hx) (fun _ _ _ hx => by cases hx) hC (fun ls => lsb [some (.inr (.inr (15, 0))), some (.inl a1)] 0 ls) (keepsP_of rfl) ?_ 18 0 [some (.inr (.inr (15, 0))), some (.inl a1)] [] w ?_ h
    · intro j ls st w hfx h
      obtain ⟨e0, e1, -⟩ : _ = _ ∧ _ = _ ∧ True := hfx
      try dsimp only at h
      cases h
    · exact (show _ = _ ∧ _ = _ ∧ True from ⟨rfl, rfl, trivial⟩)
-- MoorGuides.chance(II)I
def tX11_chance : List EN := [
  (0, .aload_n 0, 0, 0, 0, 0, 0, []), (1, .iload_n 1, 0, 0, 0, 0, 0, []), (2, .invokevirtual 212, 0, 0, 2, 0, 0, []), (5, .ifCond .eq 23, 0, 14, 0, 0, 0, []),
  (8, .aload_n 0, 0, 0, 0, 0, 0, []), (9, .iload_n 2, 0, 0, 0, 0, 0, []), (10, .invokevirtual 185, 0, 1, 2, 0, 0, []), (13, .ifCond .eq 15, 0, 14, 0, 0, 0, []),
  (16, .aload_n 0, 0, 0, 0, 0, 0, []), (17, .getfield 35, 0, 11, 5, 0, 0, []), (20, .iload_n 1, 0, 0, 0, 0, 0, []), (21, .iload_n 2, 0, 0, 0, 0, 0, []),
  (22, .invokevirtual 215, 0, 2, 3, 0, 0, []), (25, .goto 4, 0, 15, 0, 0, 0, []), (28, .iconst (-1), 0, 0, 0, (-1), 0, []), (29, .ireturn, 0, 0, 0, 0, 0, [])]
noncomputable def pX11_chance (N : Nat) (a1 : Int32) (a2 : Int32) (w : Wd) : Option (Int32 × Wd) :=
  (callW (pX11_isThereTonight N a1) w).bind fun r1 =>
  if r1.1 = 0 then some ((-1 : Int32), r1.2) else
  (callW (pX11_isPart N a2) r1.2).bind fun r2 =>
  if r2.1 = 0 then some ((-1 : Int32), r2.2) else
  (callW (pX9_chanceTonight N 0 a1 a2) r2.2).bind fun r3 =>
  some (r3.1, r3.2)
noncomputable def mX11_chance (N : Nat) (as : List AV) (w : Wd) : Option (Int32 × Wd) := xS1 15 as fun t => xI1 t fun a1 t => xI1 t fun a2 t => xN1 t (callW (pX11_chance N a1 a2) w)
set_option maxRecDepth 100000 in
set_option maxHeartbeats 4000000 in
theorem kX11_chance : TK cX11_chance RX11 3 tX11_chance := ⟨by decide +kernel, wok_of [730] (by decide +kernel) (by decide +kernel)⟩
set_option maxRecDepth 100000 in
set_option maxHeartbeats 4000000 in
theorem crX11_chance {N : Nat} {X : XT} (G : GX X cX11_chance RX11) (hR : xR X = rmL 6) : CRs X tX11_chance (oF [(mX11_isThereTonight N), (mX11_isPart N), (mX9_chanceTonight N)]) (oF []) (oF []) := by
  have hl : tX11_chance.filter isInv = [(2, .invokevirtual 212, 0, 0, 2, 0, 0, []), (10, .invokevirtual 185, 0, 1, 2, 0, 0, []), (22, .invokevirtual 215, 0, 2, 3, 0, 0, [])] := rfl
  intro e he
  rw [hl] at he
  simp only [List.mem_cons, List.not_mem_nil, or_false] at he
  rcases he with rfl | rfl | rfl
  · exact crI_V (idx := 212) G (by decide +kernel) (MX11_isThereTonight N) (cw_of (ps := [1052, 1054, 35, 146, 1055]) (by decide +kernel) (by decide +kernel)) ⟨by decide +kernel, by decide +kernel, by decide +kernel⟩ (by unfold rmOk; rw [hR]; exact ⟨by decide, by decide⟩)
  · exact crI_V (idx := 185) G (by decide +kernel) (MX11_isPart N) (cw_of (ps := [1004, 1006, 33, 146, 1007]) (by decide +kernel) (by decide +kernel)) ⟨by decide +kernel, by decide +kernel, by decide +kernel⟩ (by unfold rmOk; rw [hR]; exact ⟨by decide, by decide⟩)
  · exact crI_V (idx := 215) G (by decide +kernel) (MX9_chanceTonight N) (cw_of (ps := [1057, 1058, 1059, 156, 1060]) (by decide +kernel) (by decide +kernel)) ⟨by decide +kernel, by decide +kernel, by decide +kernel⟩ (by unfold rmOk; rw [hR]; exact ⟨by decide, by decide⟩)
set_option maxRecDepth 100000 in
set_option maxHeartbeats 4000000 in
theorem MX11_chance (N : Nat) : SndI yX11_chance cX11_chance 3 (some .int) 6 3 true (mX11_chance N) := by
  refine SndI.of tX11_chance (by decide +kernel) rfl rfl ?_ ?_
  · intro as w x h
    obtain ⟨t1, rfl, h_1⟩ := xS1_some h
    obtain ⟨a1, t2, rfl, h_2⟩ := xI1_some h_1
    obtain ⟨a2, t3, rfl, h_3⟩ := xI1_some h_2
    obtain ⟨rfl, h_4⟩ := xN1_some h_3
    clear h h_1 h_2 h_3
    have h := h_4
    rw [callW_eq] at h
    exact ⟨fun _ => ⟨_, _, _, rfl, rfl, _, rfl, rfl⟩, rfl, Nat.le_of_ble_eq_true rfl⟩
  · intro X G hn hR as w r h hr
    have hC := crX11_chance (N := N) G hR
    obtain ⟨t1, rfl, h_1⟩ := xS1_some h
    obtain ⟨a1, t2, rfl, h_2⟩ := xI1_some h_1
    obtain ⟨a2, t3, rfl, h_3⟩ := xI1_some h_2
    obtain ⟨rfl, h_4⟩ := xN1_some h_3
    clear h h_1 h_2 h_3
    have h := h_4
    rw [callW_eq] at h
    refine run_sound (r := r) (X := X) (cc := cX11_chance) (own := RX11) (tab := tX11_chance) G (by rw [hn]; exact kX11_chance) (oI := (oF [(mX11_isThereTonight N), (mX11_isPart N), (mX9_chanceTonight N)])) (oL := (oF [])) (oV := (oF [])) (rI := (fun x w => some (x, w))) (rL := (fun _ _ => none)) (rV := (fun _ => none))
      (K := (fun j ls st w => none)) (fun x w pc ls hx hd => hr x w pc ls (Option.some.inj hx) hd) (fun _ _ _ _ hx => by cases hx) (fun _ _ _ hx => by cases hx) hC (fun ls => lsb [some (.inr (.inr (15, 0))), some (.inl a1), some (.inl a2)] 0 ls) (keepsP_of rfl) ?_ 18 0 [some (.inr (.inr (15, 0))), some (.inl a1), some (.inl a2)] [] w ?_ h
    · intro j ls st w hfx h
      obtain ⟨e0, e1, e2, -⟩ : _ = _ ∧ _ = _ ∧ _ = _ ∧ True := hfx
      try dsimp only at h
      cases h
    · exact (show _ = _ ∧ _ = _ ∧ _ = _ ∧ True from ⟨rfl, rfl, rfl, trivial⟩)
-- MoorGuides.law(III)J
def tX11_law : List EN := [
  (0, .iload_n 1, 0, 0, 0, 0, 0, []), (1, .ifCond .lt 24, 0, 13, 0, 0, 0, []), (4, .iload_n 1, 0, 0, 0, 0, 0, []), (5, .iconst 1, 0, 0, 0, 1, 0, []),
  (6, .if_icmp .gt 19, 0, 13, 0, 0, 0, []), (9, .aload_n 0, 0, 0, 0, 0, 0, []), (10, .iload_n 2, 0, 0, 0, 0, 0, []), (11, .invokevirtual 212, 0, 0, 2, 0, 0, []),
  (14, .ifCond .eq 11, 0, 13, 0, 0, 0, []), (17, .aload_n 0, 0, 0, 0, 0, 0, []), (18, .iload_n 3, 0, 0, 0, 0, 0, []), (19, .invokevirtual 185, 0, 1, 2, 0, 0, []),
  (22, .ifCond .ne 7, 0, 15, 0, 0, 0, []), (25, .ldc2_w 220, 0, 0, 0, 0, (-9223372036854775808), []), (28, .lreturn, 0, 0, 0, 0, 0, []), (29, .aload_n 0, 0, 0, 0, 0, 0, []),
  (30, .getfield 35, 0, 11, 5, 0, 0, []), (33, .iload_n 1, 0, 0, 0, 0, 0, []), (34, .ifCond .ne 13, 0, 23, 0, 0, 0, []), (37, .aload_n 0, 0, 0, 0, 0, 0, []),
  (38, .getfield 16, 0, 11, 2, 0, 0, []), (41, .getfield 222, 0, 4, 18, 0, 0, []), (44, .goto 10, 0, 26, 0, 0, 0, []), (47, .aload_n 0, 0, 0, 0, 0, 0, []),
  (48, .getfield 16, 0, 11, 2, 0, 0, []), (51, .getfield 226, 0, 4, 19, 0, 0, []), (54, .iload_n 2, 0, 0, 0, 0, 0, []), (55, .iload_n 3, 0, 0, 0, 0, 0, []),
  (56, .invokevirtual 229, 0, 0, 4, 0, 0, [(0, 0)]), (59, .lreturn, 0, 0, 0, 0, 0, [])]
noncomputable def pX11_law (N : Nat) (a1 : Int32) (a2 : Int32) (a3 : Int32) (w : Wd) : Option (Int64 × Wd) :=
  if a1 < 0 then some ((-9223372036854775808 : Int64), w) else
  if (1 : Int32) < a1 then some ((-9223372036854775808 : Int64), w) else
  (callW (pX11_isThereTonight N a2) w).bind fun r1 =>
  if r1.1 = 0 then some ((-9223372036854775808 : Int64), r1.2) else
  (callW (pX11_isPart N a3) r1.2).bind fun r2 =>
  if r2.1 = 0 then some ((-9223372036854775808 : Int64), r2.2) else
  if a1 = 0 then
    (callW (pX9_lawTonight N 0 (2 * (gR r2.2 15 0 2) + 0) a2 a3) r2.2).bind fun r3 =>
    some (r3.1, r3.2)
  else
  (callW (pX9_lawTonight N 0 (2 * (gR r2.2 15 0 2) + 1) a2 a3) r2.2).bind fun r4 =>
  some (r4.1, r4.2)
noncomputable def mX11_law (N : Nat) (as : List AV) (w : Wd) : Option (Int64 × Wd) := xS1 15 as fun t => xI1 t fun a1 t => xI1 t fun a2 t => xI1 t fun a3 t => xN1 t (callW (pX11_law N a1 a2 a3) w)
set_option maxRecDepth 100000 in
set_option maxHeartbeats 4000000 in
theorem kX11_law : TK cX11_law RX11 4 tX11_law := ⟨by decide +kernel, wok_of [1107, 730, 727, 318, 727, 323] (by decide +kernel) (by decide +kernel)⟩
set_option maxRecDepth 100000 in
set_option maxHeartbeats 4000000 in
theorem crX11_law {N : Nat} {X : XT} (G : GX X cX11_law RX11) (hR : xR X = rmL 5) : CRs X tX11_law (oF [(mX11_isThereTonight N), (mX11_isPart N)]) (oF [(mX9_lawTonight N)]) (oF []) := by
  have hl : tX11_law.filter isInv = [(11, .invokevirtual 212, 0, 0, 2, 0, 0, []), (19, .invokevirtual 185, 0, 1, 2, 0, 0, []), (56, .invokevirtual 229, 0, 0, 4, 0, 0, [(0, 0)])] := rfl
  intro e he
  rw [hl] at he
  simp only [List.mem_cons, List.not_mem_nil, or_false] at he
  rcases he with rfl | rfl | rfl
  · exact crI_V (idx := 212) G (by decide +kernel) (MX11_isThereTonight N) (cw_of (ps := [1052, 1054, 35, 146, 1055]) (by decide +kernel) (by decide +kernel)) ⟨by decide +kernel, by decide +kernel, by decide +kernel⟩ (by unfold rmOk; rw [hR]; exact ⟨by decide, by decide⟩)
  · exact crI_V (idx := 185) G (by decide +kernel) (MX11_isPart N) (cw_of (ps := [1004, 1006, 33, 146, 1007]) (by decide +kernel) (by decide +kernel)) ⟨by decide +kernel, by decide +kernel, by decide +kernel⟩ (by unfold rmOk; rw [hR]; exact ⟨by decide, by decide⟩)
  · exact crL_V (idx := 229) G (by decide +kernel) (MX9_lawTonight N) (cw_of (ps := [1108, 1109, 1110, 156, 1111]) (by decide +kernel) (by decide +kernel)) ⟨by decide +kernel, by decide +kernel, by decide +kernel⟩ (by unfold rmOk; rw [hR]; exact ⟨by decide, by decide⟩)
set_option maxRecDepth 100000 in
set_option maxHeartbeats 4000000 in
theorem MX11_law (N : Nat) : SndL yX11_law cX11_law 4 (some .long) 5 4 true (mX11_law N) := by
  refine SndL.of tX11_law (by decide +kernel) rfl rfl ?_ ?_
  · intro as w x h
    obtain ⟨t1, rfl, h_1⟩ := xS1_some h
    obtain ⟨a1, t2, rfl, h_2⟩ := xI1_some h_1
    obtain ⟨a2, t3, rfl, h_3⟩ := xI1_some h_2
    obtain ⟨a3, t4, rfl, h_4⟩ := xI1_some h_3
    obtain ⟨rfl, h_5⟩ := xN1_some h_4
    clear h h_1 h_2 h_3 h_4
    have h := h_5
    rw [callW_eq] at h
    exact ⟨fun _ => ⟨_, _, _, rfl, rfl, _, rfl, rfl⟩, rfl, Nat.le_of_ble_eq_true rfl⟩
  · intro X G hn hR as w r h hr
    have hC := crX11_law (N := N) G hR
    obtain ⟨t1, rfl, h_1⟩ := xS1_some h
    obtain ⟨a1, t2, rfl, h_2⟩ := xI1_some h_1
    obtain ⟨a2, t3, rfl, h_3⟩ := xI1_some h_2
    obtain ⟨a3, t4, rfl, h_4⟩ := xI1_some h_3
    obtain ⟨rfl, h_5⟩ := xN1_some h_4
    clear h h_1 h_2 h_3 h_4
    have h := h_5
    rw [callW_eq] at h
    refine run_sound (r := r) (X := X) (cc := cX11_law) (own := RX11) (tab := tX11_law) G (by rw [hn]; exact kX11_law) (oI := (oF [(mX11_isThereTonight N), (mX11_isPart N)])) (oL := (oF [(mX9_lawTonight N)])) (oV := (oF [])) (rI := (fun _ _ => none)) (rL := (fun x w => some (x, w))) (rV := (fun _ => none))
      (K := (fun j ls st w => none)) (fun _ _ _ _ hx => by cases hx) (fun x w pc ls hx hd => hr x w pc ls (Option.some.inj hx) hd) (fun _ _ _ hx => by cases hx) hC (fun ls => lsb [some (.inr (.inr (15, 0))), some (.inl a1), some (.inl a2), some (.inl a3)] 0 ls) (keepsP_of rfl) ?_ 32 0 [some (.inr (.inr (15, 0))), some (.inl a1), some (.inl a2), some (.inl a3)] [] w ?_ h
    · intro j ls st w hfx h
      obtain ⟨e0, e1, e2, e3, -⟩ : _ = _ ∧ _ = _ ∧ _ = _ ∧ _ = _ ∧ True := hfx
      try dsimp only at h
      cases h
    · exact (show _ = _ ∧ _ = _ ∧ _ = _ ∧ _ = _ ∧ True from ⟨rfl, rfl, rfl, rfl, trivial⟩)
-- MoorGuides.remember(II)V
def tX11_remember : List EN := [
  (0, .aload_n 0, 0, 0, 0, 0, 0, []), (1, .getfield 109, 0, 11, 8, 0, 0, []), (4, .bipush 20, 0, 0, 0, 20, 0, []), (6, .if_icmp .ne 47, 0, 28, 0, 0, 0, []),
  (9, .aload_n 0, 0, 0, 0, 0, 0, []), (10, .dup, 0, 0, 0, 0, 0, []), (11, .getfield 109, 0, 11, 8, 0, 0, []), (14, .iconst 1, 0, 0, 0, 1, 0, []),
  (15, .isub, 0, 0, 0, 0, 0, []), (16, .putfield 109, 0, 11, 8, 0, 0, []), (19, .aload_n 0, 0, 0, 0, 0, 0, []), (20, .getfield 42, 0, 11, 9, 0, 0, []),
  (23, .iconst 1, 0, 0, 0, 1, 0, []), (24, .aload_n 0, 0, 0, 0, 0, 0, []), (25, .getfield 42, 0, 11, 9, 0, 0, []), (28, .iconst 0, 0, 0, 0, 0, 0, []),
  (29, .aload_n 0, 0, 0, 0, 0, 0, []), (30, .getfield 109, 0, 11, 8, 0, 0, []), (33, .invokestatic 360, 0, 0, 5, 0, 0, [(0, 0), (0, 0), (0, 0)]), (36, .aload_n 0, 0, 0, 0, 0, 0, []),
  (37, .getfield 46, 0, 11, 10, 0, 0, []), (40, .iconst 1, 0, 0, 0, 1, 0, []), (41, .aload_n 0, 0, 0, 0, 0, 0, []), (42, .getfield 46, 0, 11, 10, 0, 0, []),
  (45, .iconst 0, 0, 0, 0, 0, 0, []), (46, .aload_n 0, 0, 0, 0, 0, 0, []), (47, .getfield 109, 0, 11, 8, 0, 0, []), (50, .invokestatic 360, 0, 0, 5, 0, 0, [(0, 0), (0, 0), (0, 0)]),
  (53, .aload_n 0, 29, 0, 0, 0, 0, []), (54, .getfield 42, 0, 11, 9, 0, 0, []), (57, .aload_n 0, 0, 0, 0, 0, 0, []), (58, .getfield 109, 0, 11, 8, 0, 0, []),
  (61, .iload_n 1, 0, 0, 0, 0, 0, []), (62, .iastore, 0, 0, 0, 0, 0, []), (63, .aload_n 0, 0, 0, 0, 0, 0, []), (64, .getfield 46, 0, 11, 10, 0, 0, []),
  (67, .aload_n 0, 0, 0, 0, 0, 0, []), (68, .getfield 109, 0, 11, 8, 0, 0, []), (71, .iload_n 2, 0, 0, 0, 0, 0, []), (72, .iastore, 0, 0, 0, 0, 0, []),
  (73, .aload_n 0, 0, 0, 0, 0, 0, []), (74, .dup, 0, 0, 0, 0, 0, []), (75, .getfield 109, 0, 11, 8, 0, 0, []), (78, .iconst 1, 0, 0, 0, 1, 0, []),
  (79, .iadd, 0, 0, 0, 0, 0, []), (80, .putfield 109, 0, 11, 8, 0, 0, []), (83, .return_, 0, 0, 0, 0, 0, [])]
noncomputable def fX11_remember_28 (N : Nat) (a1 : Int32) (a2 : Int32) (w : Wd) : Option (Wd) :=
  (stI w 71 0 (gI w 15 0 8) 20 a1).bind fun w1 =>
  (stI w1 72 0 (gI w1 15 0 8) 20 a2).bind fun w2 =>
  some (setI w2 15 0 8 ((gI w2 15 0 8) + (1 : Int32)))
noncomputable def pX11_remember (N : Nat) (a1 : Int32) (a2 : Int32) (w : Wd) : Option (Wd) :=
  if (gI w 15 0 8) = (20 : Int32) then
    (cpI (setI w 15 0 8 ((gI w 15 0 8) - (1 : Int32))) 71 0 (1 : Int32) 20 71 0 (0 : Int32) 20 (gI (setI w 15 0 8 ((gI w 15 0 8) - (1 : Int32))) 15 0 8)).bind fun w1 =>
    (cpI w1 72 0 (1 : Int32) 20 72 0 (0 : Int32) 20 (gI w1 15 0 8)).bind fun w2 =>
    callW (fX11_remember_28 N a1 a2) w2
  else
  callW (fX11_remember_28 N a1 a2) w
noncomputable def mX11_remember (N : Nat) (as : List AV) (w : Wd) : Option (Wd) := xS1 15 as fun t => xI1 t fun a1 t => xI1 t fun a2 t => xN1 t (callW (pX11_remember N a1 a2) w)
set_option maxRecDepth 100000 in
set_option maxHeartbeats 4000000 in
theorem kX11_remember : TK cX11_remember RX11 3 tX11_remember := ⟨by decide +kernel, wok_of [733, 733, 733, 734, 734, 733, 1120, 1122, 1121, 170, 735, 735, 733, 1120, 1122, 1121, 170, 734, 733, 735, 733, 733, 733] (by decide +kernel) (by decide +kernel)⟩
set_option maxRecDepth 100000 in
set_option maxHeartbeats 4000000 in
theorem sX11_remember_28 {N : Nat} {X : XT} (G : GX X cX11_remember RX11) (hn : xnL X = 3) (hC : CRs X tX11_remember (oF []) (oF []) (oF [])) {r : Wd} (hr : RTV X cX11_remember r) (a1 : Int32) (a2 : Int32) : ∀ (w : Wd), fX11_remember_28 N a1 a2 w = some r → WW X (pcAt tX11_remember 28) [some (.inr (.inr (15, 0))), some (.inl a1), some (.inl a2)] [] w := by
  intro w h
  refine run_sound (r := r) (X := X) (cc := cX11_remember) (own := RX11) (tab := tX11_remember) G (by rw [hn]; exact kX11_remember) (oI := (oF [])) (oL := (oF [])) (oV := (oF [])) (rI := (fun _ _ => none)) (rL := (fun _ _ => none)) (rV := (fun w => some w))
    (K := (fun j ls st w => none)) (fun _ _ _ _ hx => by cases hx) (fun _ _ _ _ hx => by cases hx) (fun w pc ls hx hd => hr w pc ls (Option.some.inj hx) hd) hC (fun ls => lsb [some (.inr (.inr (15, 0))), some (.inl a1), some (.inl a2)] 0 ls) (keepsP_of rfl) ?_ 49 28 [some (.inr (.inr (15, 0))), some (.inl a1), some (.inl a2)] [] w ?_ h
  · intro j ls st w hfx h
    obtain ⟨e0, e1, e2, -⟩ : _ = _ ∧ _ = _ ∧ _ = _ ∧ True := hfx
    try dsimp only at h
    cases h
  · exact (show _ = _ ∧ _ = _ ∧ _ = _ ∧ True from ⟨rfl, rfl, rfl, trivial⟩)
set_option maxRecDepth 100000 in
set_option maxHeartbeats 4000000 in
theorem crX11_remember {N : Nat} {X : XT} (G : GX X cX11_remember RX11) (hR : xR X = rmL 1) : CRs X tX11_remember (oF []) (oF []) (oF []) := by
  have hl : tX11_remember.filter isInv = [(33, .invokestatic 360, 0, 0, 5, 0, 0, [(0, 0), (0, 0), (0, 0)]), (50, .invokestatic 360, 0, 0, 5, 0, 0, [(0, 0), (0, 0), (0, 0)])] := rfl
  intro e he
  rw [hl] at he
  simp only [List.mem_cons, List.not_mem_nil, or_false] at he
  rcases he with rfl | rfl
  · trivial
  · trivial
set_option maxRecDepth 100000 in
set_option maxHeartbeats 4000000 in
theorem MX11_remember (N : Nat) : SndV yX11_remember cX11_remember 3 none 1 3 true (mX11_remember N) := by
  refine SndV.of tX11_remember (by decide +kernel) rfl rfl ?_ ?_
  · intro as w x h
    obtain ⟨t1, rfl, h_1⟩ := xS1_some h
    obtain ⟨a1, t2, rfl, h_2⟩ := xI1_some h_1
    obtain ⟨a2, t3, rfl, h_3⟩ := xI1_some h_2
    obtain ⟨rfl, h_4⟩ := xN1_some h_3
    clear h h_1 h_2 h_3
    have h := h_4
    rw [callW_eq] at h
    exact ⟨fun _ => ⟨_, _, _, rfl, rfl, _, rfl, rfl⟩, rfl, Nat.le_of_ble_eq_true rfl⟩
  · intro X G hn hR as w r h hr
    have hC := crX11_remember (N := N) G hR
    obtain ⟨t1, rfl, h_1⟩ := xS1_some h
    obtain ⟨a1, t2, rfl, h_2⟩ := xI1_some h_1
    obtain ⟨a2, t3, rfl, h_3⟩ := xI1_some h_2
    obtain ⟨rfl, h_4⟩ := xN1_some h_3
    clear h h_1 h_2 h_3
    have h := h_4
    rw [callW_eq] at h
    refine run_sound (r := r) (X := X) (cc := cX11_remember) (own := RX11) (tab := tX11_remember) G (by rw [hn]; exact kX11_remember) (oI := (oF [])) (oL := (oF [])) (oV := (oF [])) (rI := (fun _ _ => none)) (rL := (fun _ _ => none)) (rV := (fun w => some w))
      (K := (fun j ls st w => if j = 28 then (st0 st (callW (fX11_remember_28 N a1 a2) w)) else none)) (fun _ _ _ _ hx => by cases hx) (fun _ _ _ _ hx => by cases hx) (fun w pc ls hx hd => hr w pc ls (Option.some.inj hx) hd) hC (fun ls => lsb [some (.inr (.inr (15, 0))), some (.inl a1), some (.inl a2)] 0 ls) (keepsP_of rfl) ?_ 49 0 [some (.inr (.inr (15, 0))), some (.inl a1), some (.inl a2)] [] w ?_ h
    · intro j ls st w hfx h
      obtain ⟨e0, e1, e2, -⟩ : _ = _ ∧ _ = _ ∧ _ = _ ∧ True := hfx
      try dsimp only at h
      by_cases hj : j = 28
      · subst hj
        rw [if_pos rfl] at h
        obtain ⟨rfl, h_1⟩ := st0_some h
        clear h
        have h := h_1
        try rw [callW_eq] at h
        exact WW.le (a := [some (.inr (.inr (15, 0))), some (.inl a1), some (.inl a2)]) (by rw [hn]; rfl) (show _ = _ ∧ _ = _ ∧ _ = _ ∧ True from ⟨e0, e1, e2, trivial⟩) (sX11_remember_28 G hn hC hr a1 a2 w h)
      rw [if_neg hj] at h
      cases h
    · exact (show _ = _ ∧ _ = _ ∧ _ = _ ∧ True from ⟨rfl, rfl, rfl, trivial⟩)

-- MoorGuidesModel.isOf(II)Z
def tX12_isOf : List EN := [
  (0, .iload_n 0, 0, 0, 0, 0, 0, []), (1, .iload_n 1, 0, 0, 0, 0, 0, []), (2, .ishr, 0, 0, 0, 0, 0, []), (3, .iconst 1, 0, 0, 0, 1, 0, []),
  (4, .iand, 0, 0, 0, 0, 0, []), (5, .iconst 1, 0, 0, 0, 1, 0, []), (6, .if_icmp .ne 7, 0, 9, 0, 0, 0, []), (9, .iconst 1, 0, 0, 0, 1, 0, []),
  (10, .goto 4, 0, 10, 0, 0, 0, []), (13, .iconst 0, 0, 0, 0, 0, 0, []), (14, .ireturn, 0, 0, 0, 0, 0, [])]
noncomputable def pX12_isOf (N : Nat) (a0 : Int32) (a1 : Int32) (w : Wd) : Option (Int32 × Wd) :=
  if ((a0 >>> (a1 &&& (31 : Int32))) &&& (1 : Int32)) = (1 : Int32) then some ((1 : Int32), w) else
  some ((0 : Int32), w)
noncomputable def mX12_isOf (N : Nat) (as : List AV) (w : Wd) : Option (Int32 × Wd) := xI1 as fun a0 t => xI1 t fun a1 t => xN1 t (callW (pX12_isOf N a0 a1) w)
set_option maxRecDepth 100000 in
set_option maxHeartbeats 4000000 in
theorem kX12_isOf : TK cX12_isOf RX12 2 tX12_isOf := ⟨by decide +kernel, wok_of [] (by decide +kernel) (by decide +kernel)⟩
set_option maxRecDepth 100000 in
set_option maxHeartbeats 4000000 in
theorem crX12_isOf {N : Nat} {X : XT} (G : GX X cX12_isOf RX12) (hR : xR X = rmL 1) : CRs X tX12_isOf (oF []) (oF []) (oF []) := by
  have hl : tX12_isOf.filter isInv = [] := rfl
  intro e he
  rw [hl] at he
  cases he
set_option maxRecDepth 100000 in
set_option maxHeartbeats 4000000 in
theorem MX12_isOf (N : Nat) : SndI yX12_isOf cX12_isOf 2 (some .boolean) 1 2 false (mX12_isOf N) := by
  refine SndI.ofZ tX12_isOf (by decide +kernel) rfl rfl ?_ ?_
  · intro as w x h
    obtain ⟨a0, t1, rfl, h_1⟩ := xI1_some h
    obtain ⟨a1, t2, rfl, h_2⟩ := xI1_some h_1
    obtain ⟨rfl, h_3⟩ := xN1_some h_2
    clear h h_1 h_2
    have h := h_3
    rw [callW_eq] at h
    exact ⟨(fun z => by cases z), rfl, Nat.le_of_ble_eq_true rfl⟩
  · intro X G hn hR as w r h hr
    have hC := crX12_isOf (N := N) G hR
    obtain ⟨a0, t1, rfl, h_1⟩ := xI1_some h
    obtain ⟨a1, t2, rfl, h_2⟩ := xI1_some h_1
    obtain ⟨rfl, h_3⟩ := xN1_some h_2
    clear h h_1 h_2
    have h := h_3
    rw [callW_eq] at h
    refine run_sound (r := r) (X := X) (cc := cX12_isOf) (own := RX12) (tab := tX12_isOf) G (by rw [hn]; exact kX12_isOf) (oI := (oF [])) (oL := (oF [])) (oV := (oF [])) (rI := retZ) (rL := (fun _ _ => none)) (rV := (fun _ => none))
      (K := (fun j ls st w => none)) hr (fun _ _ _ _ hx => by cases hx) (fun _ _ _ hx => by cases hx) hC (fun ls => lsb [some (.inl a0), some (.inl a1)] 0 ls) (keepsP_of rfl) ?_ 13 0 [some (.inl a0), some (.inl a1)] [] w ?_ h
    · intro j ls st w hfx h
      obtain ⟨e0, e1, -⟩ : _ = _ ∧ _ = _ ∧ True := hfx
      try dsimp only at h
      cases h
    · exact (show _ = _ ∧ _ = _ ∧ True from ⟨rfl, rfl, trivial⟩)
-- MoorGuidesModel.wrong(I)Z
def tX12_wrong : List EN := [
  (0, .aload_n 0, 0, 0, 0, 0, 0, []), (1, .iload_n 1, 0, 0, 0, 0, 0, []), (2, .putfield 202, 0, 12, 4, 0, 0, []), (5, .aload_n 0, 0, 0, 0, 0, 0, []),
  (6, .aload_n 0, 0, 0, 0, 0, 0, []), (7, .getfield 205, 0, 12, 10, 0, 0, []), (10, .putfield 16, 0, 12, 5, 0, 0, []), (13, .iconst 0, 0, 0, 0, 0, 0, []),
  (14, .ireturn, 0, 0, 0, 0, 0, [])]
noncomputable def pX12_wrong (N : Nat) (a1 : Int32) (w : Wd) : Option (Int32 × Wd) :=
  some ((0 : Int32), (setI (setI w 16 0 4 a1) 16 0 5 (gI (setI w 16 0 4 a1) 16 0 10)))
noncomputable def mX12_wrong (N : Nat) (as : List AV) (w : Wd) : Option (Int32 × Wd) := xS1 16 as fun t => xI1 t fun a1 t => xN1 t (callW (pX12_wrong N a1) w)
set_option maxRecDepth 100000 in
set_option maxHeartbeats 4000000 in
theorem kX12_wrong : TK cX12_wrong RX12 2 tX12_wrong := ⟨by decide +kernel, wok_of [1604, 1610, 1605] (by decide +kernel) (by decide +kernel)⟩
set_option maxRecDepth 100000 in
set_option maxHeartbeats 4000000 in
theorem crX12_wrong {N : Nat} {X : XT} (G : GX X cX12_wrong RX12) (hR : xR X = rmL 1) : CRs X tX12_wrong (oF []) (oF []) (oF []) := by
  have hl : tX12_wrong.filter isInv = [] := rfl
  intro e he
  rw [hl] at he
  cases he
set_option maxRecDepth 100000 in
set_option maxHeartbeats 4000000 in
theorem MX12_wrong (N : Nat) : SndI yX12_wrong cX12_wrong 2 (some .boolean) 1 2 true (mX12_wrong N) := by
  refine SndI.ofZ tX12_wrong (by decide +kernel) rfl rfl ?_ ?_
  · intro as w x h
    obtain ⟨t1, rfl, h_1⟩ := xS1_some h
    obtain ⟨a1, t2, rfl, h_2⟩ := xI1_some h_1
    obtain ⟨rfl, h_3⟩ := xN1_some h_2
    clear h h_1 h_2
    have h := h_3
    rw [callW_eq] at h
    exact ⟨fun _ => ⟨_, _, _, rfl, rfl, _, rfl, rfl⟩, rfl, Nat.le_of_ble_eq_true rfl⟩
  · intro X G hn hR as w r h hr
    have hC := crX12_wrong (N := N) G hR
    obtain ⟨t1, rfl, h_1⟩ := xS1_some h
    obtain ⟨a1, t2, rfl, h_2⟩ := xI1_some h_1
    obtain ⟨rfl, h_3⟩ := xN1_some h_2
    clear h h_1 h_2
    have h := h_3
    rw [callW_eq] at h
    refine run_sound (r := r) (X := X) (cc := cX12_wrong) (own := RX12) (tab := tX12_wrong) G (by rw [hn]; exact kX12_wrong) (oI := (oF [])) (oL := (oF [])) (oV := (oF [])) (rI := retZ) (rL := (fun _ _ => none)) (rV := (fun _ => none))
      (K := (fun j ls st w => none)) hr (fun _ _ _ _ hx => by cases hx) (fun _ _ _ hx => by cases hx) hC (fun ls => lsb [some (.inr (.inr (16, 0))), some (.inl a1)] 0 ls) (keepsP_of rfl) ?_ 11 0 [some (.inr (.inr (16, 0))), some (.inl a1)] [] w ?_ h
    · intro j ls st w hfx h
      obtain ⟨e0, e1, -⟩ : _ = _ ∧ _ = _ ∧ True := hfx
      try dsimp only at h
      cases h
    · exact (show _ = _ ∧ _ = _ ∧ True from ⟨rfl, rfl, trivial⟩)
-- MoorGuidesModel.wordAt(II)I
def tX12_wordAt : List EN := [
  (0, .iconst 0, 0, 0, 0, 0, 0, []), (1, .istore_n 3, 0, 0, 0, 0, 0, []), (2, .iconst 0, 0, 0, 0, 0, 0, []), (3, .istore 4, 0, 0, 0, 0, 0, []),
  (5, .iload 4, 5, 0, 0, 0, 0, []), (7, .aload_n 0, 0, 0, 0, 0, 0, []), (8, .getfield 13, 0, 12, 3, 0, 0, []), (11, .arraylength, 0, 0, 0, 0, 0, []),
  (12, .if_icmp .ge 114, 0, 68, 0, 0, 0, []), (15, .iconst 0, 0, 0, 0, 0, 0, []), (16, .istore 5, 0, 0, 0, 0, 0, []), (18, .aload_n 0, 12, 0, 0, 0, 0, []),
  (19, .getfield 13, 0, 12, 3, 0, 0, []), (22, .iload 4, 0, 0, 0, 0, 0, []), (24, .iload 5, 0, 0, 0, 0, 0, []), (26, .iadd, 0, 0, 0, 0, 0, []),
  (27, .iaload, 0, 0, 0, 0, 0, []), (28, .bipush 32, 0, 0, 0, 32, 0, []), (30, .if_icmp .eq 9, 0, 21, 0, 0, 0, []), (33, .iinc 5 1, 0, 0, 0, 1, 0, []),
  (36, .goto (-18), 0, 11, 0, 0, 0, []), (39, .iload 5, 22, 0, 0, 0, 0, []), (41, .iload_n 2, 0, 0, 0, 0, 0, []), (42, .iload_n 1, 0, 0, 0, 0, 0, []),
  (43, .isub, 0, 0, 0, 0, 0, []), (44, .if_icmp .ne 7, 0, 28, 0, 0, 0, []), (47, .iconst 1, 0, 0, 0, 1, 0, []), (48, .goto 4, 0, 29, 0, 0, 0, []),
  (51, .iconst 0, 0, 0, 0, 0, 0, []), (52, .istore 6, 0, 0, 0, 0, 0, []), (54, .iconst 0, 0, 0, 0, 0, 0, []), (55, .istore 7, 0, 0, 0, 0, 0, []),
  (57, .iload 7, 33, 0, 0, 0, 0, []), (59, .iload 5, 0, 0, 0, 0, 0, []), (61, .if_icmp .ge 43, 0, 56, 0, 0, 0, []), (64, .iload 6, 0, 0, 0, 0, 0, []),
  (66, .ifCond .eq 38, 0, 56, 0, 0, 0, []), (69, .aload_n 0, 0, 0, 0, 0, 0, []), (70, .getfield 13, 0, 12, 3, 0, 0, []), (73, .iload 4, 0, 0, 0, 0, 0, []),
  (75, .iload 7, 0, 0, 0, 0, 0, []), (77, .iadd, 0, 0, 0, 0, 0, []), (78, .iaload, 0, 0, 0, 0, 0, []), (79, .aload_n 0, 0, 0, 0, 0, 0, []),
  (80, .getfield 7, 0, 12, 0, 0, 0, []), (83, .iload_n 1, 0, 0, 0, 0, 0, []), (84, .iload 7, 0, 0, 0, 0, 0, []), (86, .iadd, 0, 0, 0, 0, 0, []),
  (87, .iaload, 0, 0, 0, 0, 0, []), (88, .if_icmp .ne 7, 0, 52, 0, 0, 0, []), (91, .iconst 1, 0, 0, 0, 1, 0, []), (92, .goto 4, 0, 53, 0, 0, 0, []),
  (95, .iconst 0, 0, 0, 0, 0, 0, []), (96, .istore 6, 0, 0, 0, 0, 0, []), (98, .iinc 7 1, 0, 0, 0, 1, 0, []), (101, .goto (-44), 0, 32, 0, 0, 0, []),
  (104, .iload 6, 57, 0, 0, 0, 0, []), (106, .ifCond .eq 5, 0, 60, 0, 0, 0, []), (109, .iload_n 3, 0, 0, 0, 0, 0, []), (110, .ireturn, 0, 0, 0, 0, 0, []),
  (111, .iload 4, 0, 0, 0, 0, 0, []), (113, .iload 5, 0, 0, 0, 0, 0, []), (115, .iconst 1, 0, 0, 0, 1, 0, []), (116, .iadd, 0, 0, 0, 0, 0, []),
  (117, .iadd, 0, 0, 0, 0, 0, []), (118, .istore 4, 0, 0, 0, 0, 0, []), (120, .iinc 3 1, 0, 0, 0, 1, 0, []), (123, .goto (-118), 0, 4, 0, 0, 0, []),
  (126, .iconst (-1), 0, 0, 0, (-1), 0, []), (127, .ireturn, 0, 0, 0, 0, 0, [])]
noncomputable def fX12_wordAt_56 (N : Nat) (a1 : Int32) (a2 : Int32) (k4 : Int32 → Int32 → Wd → Option (Int32 × Wd)) (v3 : Int32) (v4 : Int32) (v5 : Int32) (v6 : Int32) (w : Wd) : Option (Int32 × Wd) :=
  if v6 = 0 then k4 (v3 + (1 : Int32)) (v4 + (v5 + (1 : Int32))) w else
  some (v3, w)
noncomputable def fX12_wordAt_32 (N : Nat) (a1 : Int32) (a2 : Int32) : Nat → (Int32 → Int32 → Int32 → Int32 → Wd → Option (Int32 × Wd)) → Int32 → Int32 → Int32 → Int32 → Int32 → Wd → Option (Int32 × Wd)
  | 0, _, _, _, _, _, _, _ => none
  | n + 1, k56, v3, v4, v5, v6, v7, w =>
    if v7 < v5 then
      if v6 = 0 then k56 v3 v4 v5 v6 w else
      (ldI w 74 0 (v4 + v7) 132).bind fun x1 =>
      (ldI w 73 0 (a1 + v7) 900).bind fun x2 =>
      if x1 = x2 then callW (fX12_wordAt_32 N a1 a2 n k56 v3 v4 v5 (1 : Int32) (v7 + (1 : Int32))) w else
      callW (fX12_wordAt_32 N a1 a2 n k56 v3 v4 v5 (0 : Int32) (v7 + (1 : Int32))) w
    else
    k56 v3 v4 v5 v6 w
noncomputable def fX12_wordAt_21 (N : Nat) (a1 : Int32) (a2 : Int32) (k4 : Int32 → Int32 → Wd → Option (Int32 × Wd)) (v3 : Int32) (v4 : Int32) (v5 : Int32) (w : Wd) : Option (Int32 × Wd) :=
  if v5 = (a2 - a1) then callW (fX12_wordAt_32 N a1 a2 N (fX12_wordAt_56 N a1 a2 k4) v3 v4 v5 (1 : Int32) (0 : Int32)) w else
  callW (fX12_wordAt_32 N a1 a2 N (fX12_wordAt_56 N a1 a2 k4) v3 v4 v5 (0 : Int32) (0 : Int32)) w
noncomputable def fX12_wordAt_11 (N : Nat) (a1 : Int32) (a2 : Int32) : Nat → (Int32 → Int32 → Int32 → Wd → Option (Int32 × Wd)) → Int32 → Int32 → Int32 → Wd → Option (Int32 × Wd)
  | 0, _, _, _, _, _ => none
  | n + 1, k21, v3, v4, v5, w =>
    (ldI w 74 0 (v4 + v5) 132).bind fun x1 =>
    if x1 = (32 : Int32) then k21 v3 v4 v5 w else
    callW (fX12_wordAt_11 N a1 a2 n k21 v3 v4 (v5 + (1 : Int32))) w
noncomputable def fX12_wordAt_4 (N : Nat) (a1 : Int32) (a2 : Int32) : Nat → Int32 → Int32 → Wd → Option (Int32 × Wd)
  | 0, _, _, _ => none
  | n + 1, v3, v4, w =>
    if v4 < (Int32.ofNat 132) then
      callW (fX12_wordAt_11 N a1 a2 N (fX12_wordAt_21 N a1 a2 (fX12_wordAt_4 N a1 a2 n)) v3 v4 (0 : Int32)) w
    else
    some ((-1 : Int32), w)
noncomputable def pX12_wordAt (N : Nat) (a1 : Int32) (a2 : Int32) (w : Wd) : Option (Int32 × Wd) :=
  callW (fX12_wordAt_4 N a1 a2 N (0 : Int32) (0 : Int32)) w
noncomputable def mX12_wordAt (N : Nat) (as : List AV) (w : Wd) : Option (Int32 × Wd) := xS1 16 as fun t => xI1 t fun a1 t => xI1 t fun a2 t => xN1 t (callW (pX12_wordAt N a1 a2) w)
set_option maxRecDepth 100000 in
set_option maxHeartbeats 4000000 in
theorem kX12_wordAt : TK cX12_wordAt RX12 8 tX12_wordAt := ⟨by decide +kernel, wok_of [1603, 1603, 1603, 1600] (by decide +kernel) (by decide +kernel)⟩
set_option maxRecDepth 100000 in
set_option maxHeartbeats 4000000 in
theorem sX12_wordAt_56 {N : Nat} {X : XT} (G : GX X cX12_wordAt RX12) (hn : xnL X = 8) (hC : CRs X tX12_wordAt (oF []) (oF []) (oF [])) {r : Int32 × Wd} (hr : RTI X cX12_wordAt r) (a1 : Int32) (a2 : Int32) : ∀ (k4 : Int32 → Int32 → Wd → Option (Int32 × Wd)) (v3 : Int32) (v4 : Int32) (v5 : Int32) (v6 : Int32) (w : Wd), fX12_wordAt_56 N a1 a2 k4 v3 v4 v5 v6 w = some r → (∀ (v3 : Int32) (v4 : Int32) (w : Wd), k4 v3 v4 w = some r → WW X (pcAt tX12_wordAt 4) [some (.inr (.inr (16, 0))), some (.inl a1), some (.inl a2), some (.inl v3), some (.inl v4), none, none, none] [] w) → WW X (pcAt tX12_wordAt 56) [some (.inr (.inr (16, 0))), some (.inl a1), some (.inl a2), some (.inl v3), some (.inl v4), some (.inl v5), some (.inl v6), none] [] w := by
  intro k4 v3 v4 v5 v6 w h h4
  refine run_sound (r := r) (X := X) (cc := cX12_wordAt) (own := RX12) (tab := tX12_wordAt) G (by rw [hn]; exact kX12_wordAt) (oI := (oF [])) (oL := (oF [])) (oV := (oF [])) (rI := (fun x w => some (x, w))) (rL := (fun _ _ => none)) (rV := (fun _ => none))
    (K := (fun j ls st w => if j = 4 then (lgI ls 3 fun v3 => lgI ls 4 fun v4 => st0 st (k4 v3 v4 w)) else none)) (fun x w pc ls hx hd => hr x w pc ls (Option.some.inj hx) hd) (fun _ _ _ _ hx => by cases hx) (fun _ _ _ hx => by cases hx) hC (fun ls => lsb [some (.inr (.inr (16, 0))), some (.inl a1), some (.inl a2), none, none, none, none, none] 0 ls) (keepsP_of rfl) ?_ 72 56 [some (.inr (.inr (16, 0))), some (.inl a1), some (.inl a2), some (.inl v3), some (.inl v4), some (.inl v5), some (.inl v6), none] [] w ?_ h
  · intro j ls st w hfx h
    obtain ⟨e0, e1, e2, -⟩ : _ = _ ∧ _ = _ ∧ _ = _ ∧ True := hfx
    try dsimp only at h
    by_cases hj : j = 4
    · subst hj
      rw [if_pos rfl] at h
      obtain ⟨v3, e3, h_1⟩ := lgI_some h
      obtain ⟨v4, e4, h_2⟩ := lgI_some h_1
      obtain ⟨rfl, h_3⟩ := st0_some h_2
      clear h h_1 h_2
      have h := h_3
      try rw [callW_eq] at h
      exact WW.le (a := [some (.inr (.inr (16, 0))), some (.inl a1), some (.inl a2), some (.inl v3), some (.inl v4), none, none, none]) (by rw [hn]; rfl) (show _ = _ ∧ _ = _ ∧ _ = _ ∧ _ = _ ∧ _ = _ ∧ True from ⟨e0, e1, e2, e3, e4, trivial⟩) (h4 v3 v4 w h)
    rw [if_neg hj] at h
    cases h
  · exact (show _ = _ ∧ _ = _ ∧ _ = _ ∧ True from ⟨rfl, rfl, rfl, trivial⟩)
set_option maxRecDepth 100000 in
set_option maxHeartbeats 4000000 in
theorem sX12_wordAt_32 {N : Nat} {X : XT} (G : GX X cX12_wordAt RX12) (hn : xnL X = 8) (hC : CRs X tX12_wordAt (oF []) (oF []) (oF [])) {r : Int32 × Wd} (hr : RTI X cX12_wordAt r) (a1 : Int32) (a2 : Int32) : ∀ (n : Nat) (k56 : Int32 → Int32 → Int32 → Int32 → Wd → Option (Int32 × Wd)) (v3 : Int32) (v4 : Int32) (v5 : Int32) (v6 : Int32) (v7 : Int32) (w : Wd), fX12_wordAt_32 N a1 a2 n k56 v3 v4 v5 v6 v7 w = some r → (∀ (v3 : Int32) (v4 : Int32) (v5 : Int32) (v6 : Int32) (w : Wd), k56 v3 v4 v5 v6 w = some r → WW X (pcAt tX12_wordAt 56) [some (.inr (.inr (16, 0))), some (.inl a1), some (.inl a2), some (.inl v3), some (.inl v4), some (.inl v5), some (.inl v6), none] [] w) → WW X (pcAt tX12_wordAt 32) [some (.inr (.inr (16, 0))), some (.inl a1), some (.inl a2), some (.inl v3), some (.inl v4), some (.inl v5), some (.inl v6), some (.inl v7)] [] w := by
  intro n
  induction n with
  | zero => intro k56 v3 v4 v5 v6 v7 w h h56; cases h
  | succ n ih =>
    intro k56 v3 v4 v5 v6 v7 w h h56
    refine run_sound (r := r) (X := X) (cc := cX12_wordAt) (own := RX12) (tab := tX12_wordAt) G (by rw [hn]; exact kX12_wordAt) (oI := (oF [])) (oL := (oF [])) (oV := (oF [])) (rI := (fun x w => some (x, w))) (rL := (fun _ _ => none)) (rV := (fun _ => none))
      (K := (fun j ls st w => if j = 32 then (lgI ls 3 fun v3 => lgI ls 4 fun v4 => lgI ls 5 fun v5 => lgI ls 6 fun v6 => lgI ls 7 fun v7 => st0 st (callW (fX12_wordAt_32 N a1 a2 n k56 v3 v4 v5 v6 v7) w)) else if j = 56 then (lgI ls 3 fun v3 => lgI ls 4 fun v4 => lgI ls 5 fun v5 => lgI ls 6 fun v6 => st0 st (k56 v3 v4 v5 v6 w)) else none)) (fun x w pc ls hx hd => hr x w pc ls (Option.some.inj hx) hd) (fun _ _ _ _ hx => by cases hx) (fun _ _ _ hx => by cases hx) hC (fun ls => lsb [some (.inr (.inr (16, 0))), some (.inl a1), some (.inl a2), none, none, none, none, none] 0 ls) (keepsP_of rfl) ?_ 72 32 [some (.inr (.inr (16, 0))), some (.inl a1), some (.inl a2), some (.inl v3), some (.inl v4), some (.inl v5), some (.inl v6), some (.inl v7)] [] w ?_ h
    · intro j ls st w hfx h
      obtain ⟨e0, e1, e2, -⟩ : _ = _ ∧ _ = _ ∧ _ = _ ∧ True := hfx
      try dsimp only at h
      by_cases hj : j = 32
      · subst hj
        rw [if_pos rfl] at h
        obtain ⟨v3, e3, h_1⟩ := lgI_some h
        obtain ⟨v4, e4, h_2⟩ := lgI_some h_1
        obtain ⟨v5, e5, h_3⟩ := lgI_some h_2
        obtain ⟨v6, e6, h_4⟩ := lgI_some h_3
        obtain ⟨v7, e7, h_5⟩ := lgI_some h_4
        obtain ⟨rfl, h_6⟩ := st0_some h_5
        clear h h_1 h_2 h_3 h_4 h_5
        have h := h_6
        try rw [callW_eq] at h
        exact WW.le (a := [some (.inr (.inr (16, 0))), some (.inl a1), some (.inl a2), some (.inl v3), some (.inl v4), some (.inl v5), some (.inl v6), some (.inl v7)]) (by rw [hn]; rfl) (show _ = _ ∧ _ = _ ∧ _ = _ ∧ _ = _ ∧ _ = _ ∧ _ = _ ∧ _ = _ ∧ _ = _ ∧ True from ⟨e0, e1, e2, e3, e4, e5, e6, e7, trivial⟩) (ih k56 v3 v4 v5 v6 v7 w h h56)
      rw [if_neg hj] at h
      by_cases hj : j = 56
      · subst hj
        rw [if_pos rfl] at h
        obtain ⟨v3, e3, h_1⟩ := lgI_some h
        obtain ⟨v4, e4, h_2⟩ := lgI_some h_1
        obtain ⟨v5, e5, h_3⟩ := lgI_some h_2
        obtain ⟨v6, e6, h_4⟩ := lgI_some h_3
        obtain ⟨rfl, h_5⟩ := st0_some h_4
        clear h h_1 h_2 h_3 h_4
        have h := h_5
        try rw [callW_eq] at h
        exact WW.le (a := [some (.inr (.inr (16, 0))), some (.inl a1), some (.inl a2), some (.inl v3), some (.inl v4), some (.inl v5), some (.inl v6), none]) (by rw [hn]; rfl) (show _ = _ ∧ _ = _ ∧ _ = _ ∧ _ = _ ∧ _ = _ ∧ _ = _ ∧ _ = _ ∧ True from ⟨e0, e1, e2, e3, e4, e5, e6, trivial⟩) (h56 v3 v4 v5 v6 w h)
      rw [if_neg hj] at h
      cases h
    · exact (show _ = _ ∧ _ = _ ∧ _ = _ ∧ True from ⟨rfl, rfl, rfl, trivial⟩)
set_option maxRecDepth 100000 in
set_option maxHeartbeats 4000000 in
theorem sX12_wordAt_21 {N : Nat} {X : XT} (G : GX X cX12_wordAt RX12) (hn : xnL X = 8) (hC : CRs X tX12_wordAt (oF []) (oF []) (oF [])) {r : Int32 × Wd} (hr : RTI X cX12_wordAt r) (a1 : Int32) (a2 : Int32) : ∀ (k4 : Int32 → Int32 → Wd → Option (Int32 × Wd)) (v3 : Int32) (v4 : Int32) (v5 : Int32) (w : Wd), fX12_wordAt_21 N a1 a2 k4 v3 v4 v5 w = some r → (∀ (v3 : Int32) (v4 : Int32) (w : Wd), k4 v3 v4 w = some r → WW X (pcAt tX12_wordAt 4) [some (.inr (.inr (16, 0))), some (.inl a1), some (.inl a2), some (.inl v3), some (.inl v4), none, none, none] [] w) → WW X (pcAt tX12_wordAt 21) [some (.inr (.inr (16, 0))), some (.inl a1), some (.inl a2), some (.inl v3), some (.inl v4), some (.inl v5), none, none] [] w := by
  intro k4 v3 v4 v5 w h h4
  refine run_sound (r := r) (X := X) (cc := cX12_wordAt) (own := RX12) (tab := tX12_wordAt) G (by rw [hn]; exact kX12_wordAt) (oI := (oF [])) (oL := (oF [])) (oV := (oF [])) (rI := (fun x w => some (x, w))) (rL := (fun _ _ => none)) (rV := (fun _ => none))
    (K := (fun j ls st w => if j = 32 then (lgI ls 3 fun v3 => lgI ls 4 fun v4 => lgI ls 5 fun v5 => lgI ls 6 fun v6 => lgI ls 7 fun v7 => st0 st (callW (fX12_wordAt_32 N a1 a2 N (fX12_wordAt_56 N a1 a2 k4) v3 v4 v5 v6 v7) w)) else none)) (fun x w pc ls hx hd => hr x w pc ls (Option.some.inj hx) hd) (fun _ _ _ _ hx => by cases hx) (fun _ _ _ hx => by cases hx) hC (fun ls => lsb [some (.inr (.inr (16, 0))), some (.inl a1), some (.inl a2), none, none, none, none, none] 0 ls) (keepsP_of rfl) ?_ 72 21 [some (.inr (.inr (16, 0))), some (.inl a1), some (.inl a2), some (.inl v3), some (.inl v4), some (.inl v5), none, none] [] w ?_ h
  · intro j ls st w hfx h
    obtain ⟨e0, e1, e2, -⟩ : _ = _ ∧ _ = _ ∧ _ = _ ∧ True := hfx
    try dsimp only at h
    by_cases hj : j = 32
    · subst hj
      rw [if_pos rfl] at h
      obtain ⟨v3, e3, h_1⟩ := lgI_some h
      obtain ⟨v4, e4, h_2⟩ := lgI_some h_1
      obtain ⟨v5, e5, h_3⟩ := lgI_some h_2
      obtain ⟨v6, e6, h_4⟩ := lgI_some h_3
      obtain ⟨v7, e7, h_5⟩ := lgI_some h_4
      obtain ⟨rfl, h_6⟩ := st0_some h_5
      clear h h_1 h_2 h_3 h_4 h_5
      have h := h_6
      try rw [callW_eq] at h
      exact WW.le (a := [some (.inr (.inr (16, 0))), some (.inl a1), some (.inl a2), some (.inl v3), some (.inl v4), some (.inl v5), some (.inl v6), some (.inl v7)]) (by rw [hn]; rfl) (show _ = _ ∧ _ = _ ∧ _ = _ ∧ _ = _ ∧ _ = _ ∧ _ = _ ∧ _ = _ ∧ _ = _ ∧ True from ⟨e0, e1, e2, e3, e4, e5, e6, e7, trivial⟩) (sX12_wordAt_32 G hn hC hr a1 a2 N (fX12_wordAt_56 N a1 a2 k4) v3 v4 v5 v6 v7 w h (fun v3 v4 v5 v6 w h => (sX12_wordAt_56 G hn hC hr a1 a2 k4 v3 v4 v5 v6 w h (fun v3 v4 w h => (h4 v3 v4 w h)))))
    rw [if_neg hj] at h
    cases h
  · exact (show _ = _ ∧ _ = _ ∧ _ = _ ∧ True from ⟨rfl, rfl, rfl, trivial⟩)
set_option maxRecDepth 100000 in
set_option maxHeartbeats 4000000 in
theorem sX12_wordAt_11 {N : Nat} {X : XT} (G : GX X cX12_wordAt RX12) (hn : xnL X = 8) (hC : CRs X tX12_wordAt (oF []) (oF []) (oF [])) {r : Int32 × Wd} (hr : RTI X cX12_wordAt r) (a1 : Int32) (a2 : Int32) : ∀ (n : Nat) (k21 : Int32 → Int32 → Int32 → Wd → Option (Int32 × Wd)) (v3 : Int32) (v4 : Int32) (v5 : Int32) (w : Wd), fX12_wordAt_11 N a1 a2 n k21 v3 v4 v5 w = some r → (∀ (v3 : Int32) (v4 : Int32) (v5 : Int32) (w : Wd), k21 v3 v4 v5 w = some r → WW X (pcAt tX12_wordAt 21) [some (.inr (.inr (16, 0))), some (.inl a1), some (.inl a2), some (.inl v3), some (.inl v4), some (.inl v5), none, none] [] w) → WW X (pcAt tX12_wordAt 11) [some (.inr (.inr (16, 0))), some (.inl a1), some (.inl a2), some (.inl v3), some (.inl v4), some (.inl v5), none, none] [] w := by
  intro n
  induction n with
  | zero => intro k21 v3 v4 v5 w h h21; cases h
  | succ n ih =>
    intro k21 v3 v4 v5 w h h21
    refine run_sound (r := r) (X := X) (cc := cX12_wordAt) (own := RX12) (tab := tX12_wordAt) G (by rw [hn]; exact kX12_wordAt) (oI := (oF [])) (oL := (oF [])) (oV := (oF [])) (rI := (fun x w => some (x, w))) (rL := (fun _ _ => none)) (rV := (fun _ => none))
      (K := (fun j ls st w => if j = 11 then (lgI ls 3 fun v3 => lgI ls 4 fun v4 => lgI ls 5 fun v5 => st0 st (callW (fX12_wordAt_11 N a1 a2 n k21 v3 v4 v5) w)) else if j = 21 then (lgI ls 3 fun v3 => lgI ls 4 fun v4 => lgI ls 5 fun v5 => st0 st (k21 v3 v4 v5 w)) else none)) (fun x w pc ls hx hd => hr x w pc ls (Option.some.inj hx) hd) (fun _ _ _ _ hx => by cases hx) (fun _ _ _ hx => by cases hx) hC (fun ls => lsb [some (.inr (.inr (16, 0))), some (.inl a1), some (.inl a2), none, none, none, none, none] 0 ls) (keepsP_of rfl) ?_ 72 11 [some (.inr (.inr (16, 0))), some (.inl a1), some (.inl a2), some (.inl v3), some (.inl v4), some (.inl v5), none, none] [] w ?_ h
    · intro j ls st w hfx h
      obtain ⟨e0, e1, e2, -⟩ : _ = _ ∧ _ = _ ∧ _ = _ ∧ True := hfx
      try dsimp only at h
      by_cases hj : j = 11
      · subst hj
        rw [if_pos rfl] at h
        obtain ⟨v3, e3, h_1⟩ := lgI_some h
        obtain ⟨v4, e4, h_2⟩ := lgI_some h_1
        obtain ⟨v5, e5, h_3⟩ := lgI_some h_2
        obtain ⟨rfl, h_4⟩ := st0_some h_3
        clear h h_1 h_2 h_3
        have h := h_4
        try rw [callW_eq] at h
        exact WW.le (a := [some (.inr (.inr (16, 0))), some (.inl a1), some (.inl a2), some (.inl v3), some (.inl v4), some (.inl v5), none, none]) (by rw [hn]; rfl) (show _ = _ ∧ _ = _ ∧ _ = _ ∧ _ = _ ∧ _ = _ ∧ _ = _ ∧ True from ⟨e0, e1, e2, e3, e4, e5, trivial⟩) (ih k21 v3 v4 v5 w h h21)
      rw [if_neg hj] at h
      by_cases hj : j = 21
      · subst hj
        rw [if_pos rfl] at h
        obtain ⟨v3, e3, h_1⟩ := lgI_some h
        obtain ⟨v4, e4, h_2⟩ := lgI_some h_1
        obtain ⟨v5, e5, h_3⟩ := lgI_some h_2
        obtain ⟨rfl, h_4⟩ := st0_some h_3
        clear h h_1 h_2 h_3
        have h := h_4
        try rw [callW_eq] at h
        exact WW.le (a := [some (.inr (.inr (16, 0))), some (.inl a1), some (.inl a2), some (.inl v3), some (.inl v4), some (.inl v5), none, none]) (by rw [hn]; rfl) (show _ = _ ∧ _ = _ ∧ _ = _ ∧ _ = _ ∧ _ = _ ∧ _ = _ ∧ True from ⟨e0, e1, e2, e3, e4, e5, trivial⟩) (h21 v3 v4 v5 w h)
      rw [if_neg hj] at h
      cases h
    · exact (show _ = _ ∧ _ = _ ∧ _ = _ ∧ True from ⟨rfl, rfl, rfl, trivial⟩)
set_option maxRecDepth 100000 in
set_option maxHeartbeats 4000000 in
theorem sX12_wordAt_4 {N : Nat} {X : XT} (G : GX X cX12_wordAt RX12) (hn : xnL X = 8) (hC : CRs X tX12_wordAt (oF []) (oF []) (oF [])) {r : Int32 × Wd} (hr : RTI X cX12_wordAt r) (a1 : Int32) (a2 : Int32) : ∀ (n : Nat) (v3 : Int32) (v4 : Int32) (w : Wd), fX12_wordAt_4 N a1 a2 n v3 v4 w = some r → WW X (pcAt tX12_wordAt 4) [some (.inr (.inr (16, 0))), some (.inl a1), some (.inl a2), some (.inl v3), some (.inl v4), none, none, none] [] w := by
  intro n
  induction n with
  | zero => intro v3 v4 w h; cases h
  | succ n ih =>
    intro v3 v4 w h
    refine run_sound (r := r) (X := X) (cc := cX12_wordAt) (own := RX12) (tab := tX12_wordAt) G (by rw [hn]; exact kX12_wordAt) (oI := (oF [])) (oL := (oF [])) (oV := (oF [])) (rI := (fun x w => some (x, w))) (rL := (fun _ _ => none)) (rV := (fun _ => none))
      (K := (fun j ls st w => if j = 11 then (lgI ls 3 fun v3 => lgI ls 4 fun v4 => lgI ls 5 fun v5 => st0 st (callW (fX12_wordAt_11 N a1 a2 N (fX12_wordAt_21 N a1 a2 (fX12_wordAt_4 N a1 a2 n)) v3 v4 v5) w)) else none)) (fun x w pc ls hx hd => hr x w pc ls (Option.some.inj hx) hd) (fun _ _ _ _ hx => by cases hx) (fun _ _ _ hx => by cases hx) hC (fun ls => lsb [some (.inr (.inr (16, 0))), some (.inl a1), some (.inl a2), none, none, none, none, none] 0 ls) (keepsP_of rfl) ?_ 72 4 [some (.inr (.inr (16, 0))), some (.inl a1), some (.inl a2), some (.inl v3), some (.inl v4), none, none, none] [] w ?_ h
    · intro j ls st w hfx h
      obtain ⟨e0, e1, e2, -⟩ : _ = _ ∧ _ = _ ∧ _ = _ ∧ True := hfx
      try dsimp only at h
      by_cases hj : j = 11
      · subst hj
        rw [if_pos rfl] at h
        obtain ⟨v3, e3, h_1⟩ := lgI_some h
        obtain ⟨v4, e4, h_2⟩ := lgI_some h_1
        obtain ⟨v5, e5, h_3⟩ := lgI_some h_2
        obtain ⟨rfl, h_4⟩ := st0_some h_3
        clear h h_1 h_2 h_3
        have h := h_4
        try rw [callW_eq] at h
        exact WW.le (a := [some (.inr (.inr (16, 0))), some (.inl a1), some (.inl a2), some (.inl v3), some (.inl v4), some (.inl v5), none, none]) (by rw [hn]; rfl) (show _ = _ ∧ _ = _ ∧ _ = _ ∧ _ = _ ∧ _ = _ ∧ _ = _ ∧ True from ⟨e0, e1, e2, e3, e4, e5, trivial⟩) (sX12_wordAt_11 G hn hC hr a1 a2 N (fX12_wordAt_21 N a1 a2 (fX12_wordAt_4 N a1 a2 n)) v3 v4 v5 w h (fun v3 v4 v5 w h => (sX12_wordAt_21 G hn hC hr a1 a2 (fX12_wordAt_4 N a1 a2 n) v3 v4 v5 w h (fun v3 v4 w h => (ih v3 v4 w h)))))
      rw [if_neg hj] at h
      cases h
    · exact (show _ = _ ∧ _ = _ ∧ _ = _ ∧ True from ⟨rfl, rfl, rfl, trivial⟩)
set_option maxRecDepth 100000 in
set_option maxHeartbeats 4000000 in
theorem crX12_wordAt {N : Nat} {X : XT} (G : GX X cX12_wordAt RX12) (hR : xR X = rmL 1) : CRs X tX12_wordAt (oF []) (oF []) (oF []) := by
  have hl : tX12_wordAt.filter isInv = [] := rfl
  intro e he
  rw [hl] at he
  cases he
set_option maxRecDepth 100000 in
set_option maxHeartbeats 4000000 in
theorem MX12_wordAt (N : Nat) : SndI yX12_wordAt cX12_wordAt 8 (some .int) 1 3 true (mX12_wordAt N) := by
  refine SndI.of tX12_wordAt (by decide +kernel) rfl rfl ?_ ?_
  · intro as w x h
    obtain ⟨t1, rfl, h_1⟩ := xS1_some h
    obtain ⟨a1, t2, rfl, h_2⟩ := xI1_some h_1
    obtain ⟨a2, t3, rfl, h_3⟩ := xI1_some h_2
    obtain ⟨rfl, h_4⟩ := xN1_some h_3
    clear h h_1 h_2 h_3
    have h := h_4
    rw [callW_eq] at h
    exact ⟨fun _ => ⟨_, _, _, rfl, rfl, _, rfl, rfl⟩, rfl, Nat.le_of_ble_eq_true rfl⟩
  · intro X G hn hR as w r h hr
    have hC := crX12_wordAt (N := N) G hR
    obtain ⟨t1, rfl, h_1⟩ := xS1_some h
    obtain ⟨a1, t2, rfl, h_2⟩ := xI1_some h_1
    obtain ⟨a2, t3, rfl, h_3⟩ := xI1_some h_2
    obtain ⟨rfl, h_4⟩ := xN1_some h_3
    clear h h_1 h_2 h_3
    have h := h_4
    rw [callW_eq] at h
    refine run_sound (r := r) (X := X) (cc := cX12_wordAt) (own := RX12) (tab := tX12_wordAt) G (by rw [hn]; exact kX12_wordAt) (oI := (oF [])) (oL := (oF [])) (oV := (oF [])) (rI := (fun x w => some (x, w))) (rL := (fun _ _ => none)) (rV := (fun _ => none))
      (K := (fun j ls st w => if j = 4 then (lgI ls 3 fun v3 => lgI ls 4 fun v4 => st0 st (callW (fX12_wordAt_4 N a1 a2 N v3 v4) w)) else none)) (fun x w pc ls hx hd => hr x w pc ls (Option.some.inj hx) hd) (fun _ _ _ _ hx => by cases hx) (fun _ _ _ hx => by cases hx) hC (fun ls => lsb [some (.inr (.inr (16, 0))), some (.inl a1), some (.inl a2), none, none, none, none, none] 0 ls) (keepsP_of rfl) ?_ 72 0 [some (.inr (.inr (16, 0))), some (.inl a1), some (.inl a2), none, none, none, none, none] [] w ?_ h
    · intro j ls st w hfx h
      obtain ⟨e0, e1, e2, -⟩ : _ = _ ∧ _ = _ ∧ _ = _ ∧ True := hfx
      try dsimp only at h
      by_cases hj : j = 4
      · subst hj
        rw [if_pos rfl] at h
        obtain ⟨v3, e3, h_1⟩ := lgI_some h
        obtain ⟨v4, e4, h_2⟩ := lgI_some h_1
        obtain ⟨rfl, h_3⟩ := st0_some h_2
        clear h h_1 h_2
        have h := h_3
        try rw [callW_eq] at h
        exact WW.le (a := [some (.inr (.inr (16, 0))), some (.inl a1), some (.inl a2), some (.inl v3), some (.inl v4), none, none, none]) (by rw [hn]; rfl) (show _ = _ ∧ _ = _ ∧ _ = _ ∧ _ = _ ∧ _ = _ ∧ True from ⟨e0, e1, e2, e3, e4, trivial⟩) (sX12_wordAt_4 G hn hC hr a1 a2 N v3 v4 w h)
      rw [if_neg hj] at h
      cases h
    · exact (show _ = _ ∧ _ = _ ∧ _ = _ ∧ True from ⟨rfl, rfl, rfl, trivial⟩)
-- MoorGuidesModel.isSmall(I)Z
def tX12_isSmall : List EN := [
  (0, .iload_n 1, 0, 0, 0, 0, 0, []), (1, .aload_n 0, 0, 0, 0, 0, 0, []), (2, .getfield 208, 0, 12, 6, 0, 0, []), (5, .if_icmp .ge 29, 0, 18, 0, 0, 0, []),
  (8, .aload_n 0, 0, 0, 0, 0, 0, []), (9, .getfield 7, 0, 12, 0, 0, 0, []), (12, .iload_n 1, 0, 0, 0, 0, 0, []), (13, .iaload, 0, 0, 0, 0, 0, []),
  (14, .bipush 97, 0, 0, 0, 97, 0, []), (16, .if_icmp .lt 18, 0, 18, 0, 0, 0, []), (19, .aload_n 0, 0, 0, 0, 0, 0, []), (20, .getfield 7, 0, 12, 0, 0, 0, []),
  (23, .iload_n 1, 0, 0, 0, 0, 0, []), (24, .iaload, 0, 0, 0, 0, 0, []), (25, .bipush 122, 0, 0, 0, 122, 0, []), (27, .if_icmp .gt 7, 0, 18, 0, 0, 0, []),
  (30, .iconst 1, 0, 0, 0, 1, 0, []), (31, .goto 4, 0, 19, 0, 0, 0, []), (34, .iconst 0, 0, 0, 0, 0, 0, []), (35, .ireturn, 0, 0, 0, 0, 0, [])]
noncomputable def pX12_isSmall (N : Nat) (a1 : Int32) (w : Wd) : Option (Int32 × Wd) :=
  if a1 < (gI w 16 0 6) then
    (ldI w 73 0 a1 900).bind fun x1 =>
    if x1 < (97 : Int32) then some ((0 : Int32), w) else
    (ldI w 73 0 a1 900).bind fun x2 =>
    if (122 : Int32) < x2 then some ((0 : Int32), w) else
    some ((1 : Int32), w)
  else
  some ((0 : Int32), w)
noncomputable def mX12_isSmall (N : Nat) (as : List AV) (w : Wd) : Option (Int32 × Wd) := xS1 16 as fun t => xI1 t fun a1 t => xN1 t (callW (pX12_isSmall N a1) w)
set_option maxRecDepth 100000 in
set_option maxHeartbeats 4000000 in
theorem kX12_isSmall : TK cX12_isSmall RX12 2 tX12_isSmall := ⟨by decide +kernel, wok_of [1606, 1600, 1600] (by decide +kernel) (by decide +kernel)⟩
set_option maxRecDepth 100000 in
set_option maxHeartbeats 4000000 in
theorem crX12_isSmall {N : Nat} {X : XT} (G : GX X cX12_isSmall RX12) (hR : xR X = rmL 1) : CRs X tX12_isSmall (oF []) (oF []) (oF []) := by
  have hl : tX12_isSmall.filter isInv = [] := rfl
  intro e he
  rw [hl] at he
  cases he
set_option maxRecDepth 100000 in
set_option maxHeartbeats 4000000 in
theorem MX12_isSmall (N : Nat) : SndI yX12_isSmall cX12_isSmall 2 (some .boolean) 1 2 true (mX12_isSmall N) := by
  refine SndI.ofZ tX12_isSmall (by decide +kernel) rfl rfl ?_ ?_
  · intro as w x h
    obtain ⟨t1, rfl, h_1⟩ := xS1_some h
    obtain ⟨a1, t2, rfl, h_2⟩ := xI1_some h_1
    obtain ⟨rfl, h_3⟩ := xN1_some h_2
    clear h h_1 h_2
    have h := h_3
    rw [callW_eq] at h
    exact ⟨fun _ => ⟨_, _, _, rfl, rfl, _, rfl, rfl⟩, rfl, Nat.le_of_ble_eq_true rfl⟩
  · intro X G hn hR as w r h hr
    have hC := crX12_isSmall (N := N) G hR
    obtain ⟨t1, rfl, h_1⟩ := xS1_some h
    obtain ⟨a1, t2, rfl, h_2⟩ := xI1_some h_1
    obtain ⟨rfl, h_3⟩ := xN1_some h_2
    clear h h_1 h_2
    have h := h_3
    rw [callW_eq] at h
    refine run_sound (r := r) (X := X) (cc := cX12_isSmall) (own := RX12) (tab := tX12_isSmall) G (by rw [hn]; exact kX12_isSmall) (oI := (oF [])) (oL := (oF [])) (oV := (oF [])) (rI := retZ) (rL := (fun _ _ => none)) (rV := (fun _ => none))
      (K := (fun j ls st w => none)) hr (fun _ _ _ _ hx => by cases hx) (fun _ _ _ hx => by cases hx) hC (fun ls => lsb [some (.inr (.inr (16, 0))), some (.inl a1)] 0 ls) (keepsP_of rfl) ?_ 22 0 [some (.inr (.inr (16, 0))), some (.inl a1)] [] w ?_ h
    · intro j ls st w hfx h
      obtain ⟨e0, e1, -⟩ : _ = _ ∧ _ = _ ∧ True := hfx
      try dsimp only at h
      cases h
    · exact (show _ = _ ∧ _ = _ ∧ True from ⟨rfl, rfl, trivial⟩)
-- MoorGuidesModel.isDigit(I)Z
def tX12_isDigit : List EN := [
  (0, .iload_n 1, 0, 0, 0, 0, 0, []), (1, .aload_n 0, 0, 0, 0, 0, 0, []), (2, .getfield 208, 0, 12, 6, 0, 0, []), (5, .if_icmp .ge 29, 0, 18, 0, 0, 0, []),
  (8, .aload_n 0, 0, 0, 0, 0, 0, []), (9, .getfield 7, 0, 12, 0, 0, 0, []), (12, .iload_n 1, 0, 0, 0, 0, 0, []), (13, .iaload, 0, 0, 0, 0, 0, []),
  (14, .bipush 48, 0, 0, 0, 48, 0, []), (16, .if_icmp .lt 18, 0, 18, 0, 0, 0, []), (19, .aload_n 0, 0, 0, 0, 0, 0, []), (20, .getfield 7, 0, 12, 0, 0, 0, []),
  (23, .iload_n 1, 0, 0, 0, 0, 0, []), (24, .iaload, 0, 0, 0, 0, 0, []), (25, .bipush 57, 0, 0, 0, 57, 0, []), (27, .if_icmp .gt 7, 0, 18, 0, 0, 0, []),
  (30, .iconst 1, 0, 0, 0, 1, 0, []), (31, .goto 4, 0, 19, 0, 0, 0, []), (34, .iconst 0, 0, 0, 0, 0, 0, []), (35, .ireturn, 0, 0, 0, 0, 0, [])]
noncomputable def pX12_isDigit (N : Nat) (a1 : Int32) (w : Wd) : Option (Int32 × Wd) :=
  if a1 < (gI w 16 0 6) then
    (ldI w 73 0 a1 900).bind fun x1 =>
    if x1 < (48 : Int32) then some ((0 : Int32), w) else
    (ldI w 73 0 a1 900).bind fun x2 =>
    if (57 : Int32) < x2 then some ((0 : Int32), w) else
    some ((1 : Int32), w)
  else
  some ((0 : Int32), w)
noncomputable def mX12_isDigit (N : Nat) (as : List AV) (w : Wd) : Option (Int32 × Wd) := xS1 16 as fun t => xI1 t fun a1 t => xN1 t (callW (pX12_isDigit N a1) w)
set_option maxRecDepth 100000 in
set_option maxHeartbeats 4000000 in
theorem kX12_isDigit : TK cX12_isDigit RX12 2 tX12_isDigit := ⟨by decide +kernel, wok_of [1606, 1600, 1600] (by decide +kernel) (by decide +kernel)⟩
set_option maxRecDepth 100000 in
set_option maxHeartbeats 4000000 in
theorem crX12_isDigit {N : Nat} {X : XT} (G : GX X cX12_isDigit RX12) (hR : xR X = rmL 1) : CRs X tX12_isDigit (oF []) (oF []) (oF []) := by
  have hl : tX12_isDigit.filter isInv = [] := rfl
  intro e he
  rw [hl] at he
  cases he
set_option maxRecDepth 100000 in
set_option maxHeartbeats 4000000 in
theorem MX12_isDigit (N : Nat) : SndI yX12_isDigit cX12_isDigit 2 (some .boolean) 1 2 true (mX12_isDigit N) := by
  refine SndI.ofZ tX12_isDigit (by decide +kernel) rfl rfl ?_ ?_
  · intro as w x h
    obtain ⟨t1, rfl, h_1⟩ := xS1_some h
    obtain ⟨a1, t2, rfl, h_2⟩ := xI1_some h_1
    obtain ⟨rfl, h_3⟩ := xN1_some h_2
    clear h h_1 h_2
    have h := h_3
    rw [callW_eq] at h
    exact ⟨fun _ => ⟨_, _, _, rfl, rfl, _, rfl, rfl⟩, rfl, Nat.le_of_ble_eq_true rfl⟩
  · intro X G hn hR as w r h hr
    have hC := crX12_isDigit (N := N) G hR
    obtain ⟨t1, rfl, h_1⟩ := xS1_some h
    obtain ⟨a1, t2, rfl, h_2⟩ := xI1_some h_1
    obtain ⟨rfl, h_3⟩ := xN1_some h_2
    clear h h_1 h_2
    have h := h_3
    rw [callW_eq] at h
    refine run_sound (r := r) (X := X) (cc := cX12_isDigit) (own := RX12) (tab := tX12_isDigit) G (by rw [hn]; exact kX12_isDigit) (oI := (oF [])) (oL := (oF [])) (oV := (oF [])) (rI := retZ) (rL := (fun _ _ => none)) (rV := (fun _ => none))
      (K := (fun j ls st w => none)) hr (fun _ _ _ _ hx => by cases hx) (fun _ _ _ hx => by cases hx) hC (fun ls => lsb [some (.inr (.inr (16, 0))), some (.inl a1)] 0 ls) (keepsP_of rfl) ?_ 22 0 [some (.inr (.inr (16, 0))), some (.inl a1)] [] w ?_ h
    · intro j ls st w hfx h
      obtain ⟨e0, e1, -⟩ : _ = _ ∧ _ = _ ∧ True := hfx
      try dsimp only at h
      cases h
    · exact (show _ = _ ∧ _ = _ ∧ True from ⟨rfl, rfl, trivial⟩)
-- MoorGuidesModel.packed(II)I
def tX12_packed : List EN := [
  (0, .iconst 0, 0, 0, 0, 0, 0, []), (1, .istore_n 3, 0, 0, 0, 0, 0, []), (2, .iload_n 1, 0, 0, 0, 0, 0, []), (3, .istore 4, 0, 0, 0, 0, 0, []),
  (5, .iload 4, 5, 0, 0, 0, 0, []), (7, .iload_n 1, 0, 0, 0, 0, 0, []), (8, .bipush 6, 0, 0, 0, 6, 0, []), (10, .iadd, 0, 0, 0, 0, 0, []),
  (11, .if_icmp .ge 34, 0, 27, 0, 0, 0, []), (14, .iload_n 3, 0, 0, 0, 0, 0, []), (15, .iconst 5, 0, 0, 0, 5, 0, []), (16, .ishl, 0, 0, 0, 0, 0, []),
  (17, .iload 4, 0, 0, 0, 0, 0, []), (19, .iload_n 2, 0, 0, 0, 0, 0, []), (20, .if_icmp .ge 16, 0, 22, 0, 0, 0, []), (23, .aload_n 0, 0, 0, 0, 0, 0, []),
  (24, .getfield 7, 0, 12, 0, 0, 0, []), (27, .iload 4, 0, 0, 0, 0, 0, []), (29, .iaload, 0, 0, 0, 0, 0, []), (30, .bipush 96, 0, 0, 0, 96, 0, []),
  (32, .isub, 0, 0, 0, 0, 0, []), (33, .goto 4, 0, 23, 0, 0, 0, []), (36, .iconst 0, 0, 0, 0, 0, 0, []), (37, .ior, 0, 0, 0, 0, 0, []),
  (38, .istore_n 3, 0, 0, 0, 0, 0, []), (39, .iinc 4 1, 0, 0, 0, 1, 0, []), (42, .goto (-37), 0, 4, 0, 0, 0, []), (45, .iload_n 3, 0, 0, 0, 0, 0, []),
  (46, .ireturn, 0, 0, 0, 0, 0, [])]
noncomputable def fX12_packed_4 (N : Nat) (a1 : Int32) (a2 : Int32) : Nat → Int32 → Int32 → Wd → Option (Int32 × Wd)
  | 0, _, _, _ => none
  | n + 1, v3, v4, w =>
    if v4 < (a1 + (6 : Int32)) then
      if v4 < a2 then
        (ldI w 73 0 v4 900).bind fun x1 =>
        callW (fX12_packed_4 N a1 a2 n ((v3 <<< ((5 : Int32) &&& (31 : Int32))) ||| (x1 - (96 : Int32))) (v4 + (1 : Int32))) w
      else
      callW (fX12_packed_4 N a1 a2 n ((v3 <<< ((5 : Int32) &&& (31 : Int32))) ||| (0 : Int32)) (v4 + (1 : Int32))) w
    else
    some (v3, w)
noncomputable def pX12_packed (N : Nat) (a1 : Int32) (a2 : Int32) (w : Wd) : Option (Int32 × Wd) :=
  callW (fX12_packed_4 N a1 a2 N (0 : Int32) a1) w
noncomputable def mX12_packed (N : Nat) (as : List AV) (w : Wd) : Option (Int32 × Wd) := xS1 16 as fun t => xI1 t fun a1 t => xI1 t fun a2 t => xN1 t (callW (pX12_packed N a1 a2) w)
set_option maxRecDepth 100000 in
set_option maxHeartbeats 4000000 in
theorem kX12_packed : TK cX12_packed RX12 5 tX12_packed := ⟨by decide +kernel, wok_of [1600] (by decide +kernel) (by decide +kernel)⟩
set_option maxRecDepth 100000 in
set_option maxHeartbeats 4000000 in
theorem sX12_packed_4 {N : Nat} {X : XT} (G : GX X cX12_packed RX12) (hn : xnL X = 5) (hC : CRs X tX12_packed (oF []) (oF []) (oF [])) {r : Int32 × Wd} (hr : RTI X cX12_packed r) (a1 : Int32) (a2 : Int32) : ∀ (n : Nat) (v3 : Int32) (v4 : Int32) (w : Wd), fX12_packed_4 N a1 a2 n v3 v4 w = some r → WW X (pcAt tX12_packed 4) [some (.inr (.inr (16, 0))), some (.inl a1), some (.inl a2), some (.inl v3), some (.inl v4)] [] w := by
  intro n
  induction n with
  | zero => intro v3 v4 w h; cases h
  | succ n ih =>
    intro v3 v4 w h
    refine run_sound (r := r) (X := X) (cc := cX12_packed) (own := RX12) (tab := tX12_packed) G (by rw [hn]; exact kX12_packed) (oI := (oF [])) (oL := (oF [])) (oV := (oF [])) (rI := (fun x w => some (x, w))) (rL := (fun _ _ => none)) (rV := (fun _ => none))
      (K := (fun j ls st w => if j = 4 then (lgI ls 3 fun v3 => lgI ls 4 fun v4 => st0 st (callW (fX12_packed_4 N a1 a2 n v3 v4) w)) else none)) (fun x w pc ls hx hd => hr x w pc ls (Option.some.inj hx) hd) (fun _ _ _ _ hx => by cases hx) (fun _ _ _ hx => by cases hx) hC (fun ls => lsb [some (.inr (.inr (16, 0))), some (.inl a1), some (.inl a2), none, none] 0 ls) (keepsP_of rfl) ?_ 31 4 [some (.inr (.inr (16, 0))), some (.inl a1), some (.inl a2), some (.inl v3), some (.inl v4)] [] w ?_ h
    · intro j ls st w hfx h
      obtain ⟨e0, e1, e2, -⟩ : _ = _ ∧ _ = _ ∧ _ = _ ∧ True := hfx
      try dsimp only at h
      by_cases hj : j = 4
      · subst hj
        rw [if_pos rfl] at h
        obtain ⟨v3, e3, h_1⟩ := lgI_some h
        obtain ⟨v4, e4, h_2⟩ := lgI_some h_1
        obtain ⟨rfl, h_3⟩ := st0_some h_2
        clear h h_1 h_2
        have h := h_3
        try rw [callW_eq] at h
        exact WW.le (a := [some (.inr (.inr (16, 0))), some (.inl a1), some (.inl a2), some (.inl v3), some (.inl v4)]) (by rw [hn]; rfl) (show _ = _ ∧ _ = _ ∧ _ = _ ∧ _ = _ ∧ _ = _ ∧ True from ⟨e0, e1, e2, e3, e4, trivial⟩) (ih v3 v4 w h)
      rw [if_neg hj] at h
      cases h
    · exact (show _ = _ ∧ _ = _ ∧ _ = _ ∧ True from ⟨rfl, rfl, rfl, trivial⟩)
set_option maxRecDepth 100000 in
set_option maxHeartbeats 4000000 in
theorem crX12_packed {N : Nat} {X : XT} (G : GX X cX12_packed RX12) (hR : xR X = rmL 1) : CRs X tX12_packed (oF []) (oF []) (oF []) := by
  have hl : tX12_packed.filter isInv = [] := rfl
  intro e he
  rw [hl] at he
  cases he
set_option maxRecDepth 100000 in
set_option maxHeartbeats 4000000 in
theorem MX12_packed (N : Nat) : SndI yX12_packed cX12_packed 5 (some .int) 1 3 true (mX12_packed N) := by
  refine SndI.of tX12_packed (by decide +kernel) rfl rfl ?_ ?_
  · intro as w x h
    obtain ⟨t1, rfl, h_1⟩ := xS1_some h
    obtain ⟨a1, t2, rfl, h_2⟩ := xI1_some h_1
    obtain ⟨a2, t3, rfl, h_3⟩ := xI1_some h_2
    obtain ⟨rfl, h_4⟩ := xN1_some h_3
    clear h h_1 h_2 h_3
    have h := h_4
    rw [callW_eq] at h
    exact ⟨fun _ => ⟨_, _, _, rfl, rfl, _, rfl, rfl⟩, rfl, Nat.le_of_ble_eq_true rfl⟩
  · intro X G hn hR as w r h hr
    have hC := crX12_packed (N := N) G hR
    obtain ⟨t1, rfl, h_1⟩ := xS1_some h
    obtain ⟨a1, t2, rfl, h_2⟩ := xI1_some h_1
    obtain ⟨a2, t3, rfl, h_3⟩ := xI1_some h_2
    obtain ⟨rfl, h_4⟩ := xN1_some h_3
    clear h h_1 h_2 h_3
    have h := h_4
    rw [callW_eq] at h
    refine run_sound (r := r) (X := X) (cc := cX12_packed) (own := RX12) (tab := tX12_packed) G (by rw [hn]; exact kX12_packed) (oI := (oF [])) (oL := (oF [])) (oV := (oF [])) (rI := (fun x w => some (x, w))) (rL := (fun _ _ => none)) (rV := (fun _ => none))
      (K := (fun j ls st w => if j = 4 then (lgI ls 3 fun v3 => lgI ls 4 fun v4 => st0 st (callW (fX12_packed_4 N a1 a2 N v3 v4) w)) else none)) (fun x w pc ls hx hd => hr x w pc ls (Option.some.inj hx) hd) (fun _ _ _ _ hx => by cases hx) (fun _ _ _ hx => by cases hx) hC (fun ls => lsb [some (.inr (.inr (16, 0))), some (.inl a1), some (.inl a2), none, none] 0 ls) (keepsP_of rfl) ?_ 31 0 [some (.inr (.inr (16, 0))), some (.inl a1), some (.inl a2), none, none] [] w ?_ h
    · intro j ls st w hfx h
      obtain ⟨e0, e1, e2, -⟩ : _ = _ ∧ _ = _ ∧ _ = _ ∧ True := hfx
      try dsimp only at h
      by_cases hj : j = 4
      · subst hj
        rw [if_pos rfl] at h
        obtain ⟨v3, e3, h_1⟩ := lgI_some h
        obtain ⟨v4, e4, h_2⟩ := lgI_some h_1
        obtain ⟨rfl, h_3⟩ := st0_some h_2
        clear h h_1 h_2
        have h := h_3
        try rw [callW_eq] at h
        exact WW.le (a := [some (.inr (.inr (16, 0))), some (.inl a1), some (.inl a2), some (.inl v3), some (.inl v4)]) (by rw [hn]; rfl) (show _ = _ ∧ _ = _ ∧ _ = _ ∧ _ = _ ∧ _ = _ ∧ True from ⟨e0, e1, e2, e3, e4, trivial⟩) (sX12_packed_4 G hn hC hr a1 a2 N v3 v4 w h)
      rw [if_neg hj] at h
      cases h
    · exact (show _ = _ ∧ _ = _ ∧ _ = _ ∧ True from ⟨rfl, rfl, rfl, trivial⟩)
-- MoorGuidesModel.signToken()V
def tX12_signToken : List EN := [
  (0, .aload_n 0, 0, 0, 0, 0, 0, []), (1, .aload_n 0, 0, 0, 0, 0, 0, []), (2, .getfield 7, 0, 12, 0, 0, 0, []), (5, .aload_n 0, 0, 0, 0, 0, 0, []),
  (6, .getfield 211, 0, 12, 7, 0, 0, []), (9, .iaload, 0, 0, 0, 0, 0, []), (10, .putfield 225, 0, 12, 9, 0, 0, []), (13, .aload_n 0, 0, 0, 0, 0, 0, []),
  (14, .dup, 0, 0, 0, 0, 0, []), (15, .getfield 211, 0, 12, 7, 0, 0, []), (18, .iconst 1, 0, 0, 0, 1, 0, []), (19, .iadd, 0, 0, 0, 0, 0, []),
  (20, .putfield 211, 0, 12, 7, 0, 0, []), (23, .aload_n 0, 0, 0, 0, 0, 0, []), (24, .getfield 225, 0, 12, 9, 0, 0, []), (27, .bipush 60, 0, 0, 0, 60, 0, []),
  (29, .if_icmp .eq 21, 0, 25, 0, 0, 0, []), (32, .aload_n 0, 0, 0, 0, 0, 0, []), (33, .getfield 225, 0, 12, 9, 0, 0, []), (36, .bipush 62, 0, 0, 0, 62, 0, []),
  (38, .if_icmp .eq 12, 0, 25, 0, 0, 0, []), (41, .aload_n 0, 0, 0, 0, 0, 0, []), (42, .getfield 225, 0, 12, 9, 0, 0, []), (45, .bipush 61, 0, 0, 0, 61, 0, []),
  (47, .if_icmp .ne 151, 0, 101, 0, 0, 0, []), (50, .aload_n 0, 26, 0, 0, 0, 0, []), (51, .getfield 211, 0, 12, 7, 0, 0, []), (54, .aload_n 0, 0, 0, 0, 0, 0, []),
  (55, .getfield 208, 0, 12, 6, 0, 0, []), (58, .if_icmp .ge 15, 0, 36, 0, 0, 0, []), (61, .aload_n 0, 0, 0, 0, 0, 0, []), (62, .getfield 7, 0, 12, 0, 0, 0, []),
  (65, .aload_n 0, 0, 0, 0, 0, 0, []), (66, .getfield 211, 0, 12, 7, 0, 0, []), (69, .iaload, 0, 0, 0, 0, 0, []), (70, .goto 4, 0, 37, 0, 0, 0, []),
  (73, .iconst 0, 0, 0, 0, 0, 0, []), (74, .istore_n 1, 38, 0, 0, 0, 0, []), (75, .aload_n 0, 0, 0, 0, 0, 0, []), (76, .getfield 225, 0, 12, 9, 0, 0, []),
  (79, .bipush 61, 0, 0, 0, 61, 0, []), (81, .if_icmp .eq 13, 0, 47, 0, 0, 0, []), (84, .iload_n 1, 0, 0, 0, 0, 0, []), (85, .bipush 61, 0, 0, 0, 61, 0, []),
  (87, .if_icmp .ne 7, 0, 47, 0, 0, 0, []), (90, .iconst 1, 0, 0, 0, 1, 0, []), (91, .goto 4, 0, 48, 0, 0, 0, []), (94, .iconst 0, 48, 0, 0, 0, 0, []),
  (95, .istore_n 2, 49, 0, 0, 0, 0, []), (96, .aload_n 0, 0, 0, 0, 0, 0, []), (97, .getfield 225, 0, 12, 9, 0, 0, []), (100, .bipush 60, 0, 0, 0, 60, 0, []),
  (102, .if_icmp .ne 13, 0, 58, 0, 0, 0, []), (105, .iload_n 1, 0, 0, 0, 0, 0, []), (106, .bipush 62, 0, 0, 0, 62, 0, []), (108, .if_icmp .ne 7, 0, 58, 0, 0, 0, []),
  (111, .iconst 1, 0, 0, 0, 1, 0, []), (112, .goto 4, 0, 59, 0, 0, 0, []), (115, .iconst 0, 59, 0, 0, 0, 0, []), (116, .istore_n 3, 60, 0, 0, 0, 0, []),
  (117, .iload_n 2, 0, 0, 0, 0, 0, []), (118, .ifCond .ne 7, 0, 64, 0, 0, 0, []), (121, .iload_n 3, 0, 0, 0, 0, 0, []), (122, .ifCond .eq 13, 0, 70, 0, 0, 0, []),
  (125, .aload_n 0, 65, 0, 0, 0, 0, []), (126, .dup, 0, 0, 0, 0, 0, []), (127, .getfield 211, 0, 12, 7, 0, 0, []), (130, .iconst 1, 0, 0, 0, 1, 0, []),
  (131, .iadd, 0, 0, 0, 0, 0, []), (132, .putfield 211, 0, 12, 7, 0, 0, []), (135, .aload_n 0, 71, 0, 0, 0, 0, []), (136, .iconst 5, 0, 0, 0, 5, 0, []),
  (137, .putfield 214, 0, 12, 8, 0, 0, []), (140, .aload_n 0, 0, 0, 0, 0, 0, []), (141, .aload_n 0, 0, 0, 0, 0, 0, []), (142, .getfield 225, 0, 12, 9, 0, 0, []),
  (145, .bipush 61, 0, 0, 0, 61, 0, []), (147, .if_icmp .ne 7, 0, 80, 0, 0, 0, []), (150, .iconst 2, 0, 0, 0, 2, 0, []), (151, .goto 41, 0, 99, 0, 0, 0, []),
  (154, .aload_n 0, 0, 0, 0, 0, 0, []), (155, .getfield 225, 0, 12, 9, 0, 0, []), (158, .bipush 60, 0, 0, 0, 60, 0, []), (160, .if_icmp .ne 23, 0, 94, 0, 0, 0, []),
  (163, .iload_n 2, 0, 0, 0, 0, 0, []), (164, .ifCond .eq 7, 0, 88, 0, 0, 0, []), (167, .iconst 1, 0, 0, 0, 1, 0, []), (168, .goto 24, 0, 99, 0, 0, 0, []),
  (171, .iload_n 3, 0, 0, 0, 0, 0, []), (172, .ifCond .eq 7, 0, 92, 0, 0, 0, []), (175, .iconst 3, 0, 0, 0, 3, 0, []), (176, .goto 16, 0, 99, 0, 0, 0, []),
  (179, .iconst 0, 0, 0, 0, 0, 0, []), (180, .goto 12, 0, 99, 0, 0, 0, []), (183, .iload_n 2, 0, 0, 0, 0, 0, []), (184, .ifCond .eq 7, 0, 98, 0, 0, 0, []),
  (187, .iconst 4, 0, 0, 0, 4, 0, []), (188, .goto 4, 0, 99, 0, 0, 0, []), (191, .iconst 5, 0, 0, 0, 5, 0, []), (192, .putfield 225, 0, 12, 9, 0, 0, []),
  (195, .goto 95, 0, 144, 0, 0, 0, []), (198, .aload_n 0, 0, 0, 0, 0, 0, []), (199, .getfield 225, 0, 12, 9, 0, 0, []), (202, .bipush 59, 0, 0, 0, 59, 0, []),
  (204, .if_icmp .eq 66, 0, 133, 0, 0, 0, []), (207, .aload_n 0, 0, 0, 0, 0, 0, []), (208, .getfield 225, 0, 12, 9, 0, 0, []), (211, .bipush 40, 0, 0, 0, 40, 0, []),
  (213, .if_icmp .eq 57, 0, 133, 0, 0, 0, []), (216, .aload_n 0, 0, 0, 0, 0, 0, []), (217, .getfield 225, 0, 12, 9, 0, 0, []), (220, .bipush 41, 0, 0, 0, 41, 0, []),
  (222, .if_icmp .eq 48, 0, 133, 0, 0, 0, []), (225, .aload_n 0, 0, 0, 0, 0, 0, []), (226, .getfield 225, 0, 12, 9, 0, 0, []), (229, .bipush 43, 0, 0, 0, 43, 0, []),
  (231, .if_icmp .eq 39, 0, 133, 0, 0, 0, []), (234, .aload_n 0, 0, 0, 0, 0, 0, []), (235, .getfield 225, 0, 12, 9, 0, 0, []), (238, .bipush 45, 0, 0, 0, 45, 0, []),
  (240, .if_icmp .eq 30, 0, 133, 0, 0, 0, []), (243, .aload_n 0, 0, 0, 0, 0, 0, []), (244, .getfield 225, 0, 12, 9, 0, 0, []), (247, .bipush 42, 0, 0, 0, 42, 0, []),
  (249, .if_icmp .eq 21, 0, 133, 0, 0, 0, []), (252, .aload_n 0, 0, 0, 0, 0, 0, []), (253, .getfield 225, 0, 12, 9, 0, 0, []), (256, .bipush 47, 0, 0, 0, 47, 0, []),
  (258, .if_icmp .eq 12, 0, 133, 0, 0, 0, []), (261, .aload_n 0, 0, 0, 0, 0, 0, []), (262, .getfield 225, 0, 12, 9, 0, 0, []), (265, .bipush 37, 0, 0, 0, 37, 0, []),
  (267, .if_icmp .ne 7, 0, 135, 0, 0, 0, []), (270, .iconst 1, 134, 0, 0, 1, 0, []), (271, .goto 4, 0, 136, 0, 0, 0, []), (274, .iconst 0, 0, 0, 0, 0, 0, []),
  (275, .istore_n 1, 137, 0, 0, 0, 0, []), (276, .aload_n 0, 0, 0, 0, 0, 0, []), (277, .iload_n 1, 0, 0, 0, 0, 0, []), (278, .ifCond .eq 7, 0, 142, 0, 0, 0, []),
  (281, .iconst 4, 0, 0, 0, 4, 0, []), (282, .goto 5, 0, 143, 0, 0, 0, []), (285, .bipush 6, 0, 0, 0, 6, 0, []), (287, .putfield 214, 0, 12, 8, 0, 0, []),
  (290, .return_, 0, 0, 0, 0, 0, [])]
noncomputable def fX12_signToken_136 (N : Nat) (s0 : Int32) (w : Wd) : Option (Wd) :=
  if s0 = 0 then some (setI w 16 0 8 (6 : Int32)) else
  some (setI w 16 0 8 (4 : Int32))
noncomputable def fX12_signToken_133 (N : Nat) (w : Wd) : Option (Wd) :=
  callW (fX12_signToken_136 N (1 : Int32)) w
noncomputable def fX12_signToken_70 (N : Nat) (v2 : Int32) (v3 : Int32) (w : Wd) : Option (Wd) :=
  if (gI (setI w 16 0 8 (5 : Int32)) 16 0 9) = (61 : Int32) then some (setI (setI w 16 0 8 (5 : Int32)) 16 0 9 (2 : Int32)) else
  if (gI (setI w 16 0 8 (5 : Int32)) 16 0 9) = (60 : Int32) then
    if v2 = 0 then
      if v3 = 0 then some (setI (setI w 16 0 8 (5 : Int32)) 16 0 9 (0 : Int32)) else
      some (setI (setI w 16 0 8 (5 : Int32)) 16 0 9 (3 : Int32))
    else
    some (setI (setI w 16 0 8 (5 : Int32)) 16 0 9 (1 : Int32))
  else
  if v2 = 0 then some (setI (setI w 16 0 8 (5 : Int32)) 16 0 9 (5 : Int32)) else
  some (setI (setI w 16 0 8 (5 : Int32)) 16 0 9 (4 : Int32))
noncomputable def fX12_signToken_64 (N : Nat) (v2 : Int32) (v3 : Int32) (w : Wd) : Option (Wd) :=
  callW (fX12_signToken_70 N v2 v3) (setI w 16 0 7 ((gI w 16 0 7) + (1 : Int32)))
noncomputable def fX12_signToken_59 (N : Nat) (v2 : Int32) (s0 : Int32) (w : Wd) : Option (Wd) :=
  if v2 = 0 then
    if s0 = 0 then callW (fX12_signToken_70 N v2 s0) w else
    callW (fX12_signToken_64 N v2 s0) w
  else
  callW (fX12_signToken_64 N v2 s0) w
noncomputable def fX12_signToken_58 (N : Nat) (v2 : Int32) (w : Wd) : Option (Wd) :=
  callW (fX12_signToken_59 N v2 (0 : Int32)) w
noncomputable def fX12_signToken_48 (N : Nat) (v1 : Int32) (s0 : Int32) (w : Wd) : Option (Wd) :=
  if (gI w 16 0 9) = (60 : Int32) then
    if v1 = (62 : Int32) then callW (fX12_signToken_59 N s0 (1 : Int32)) w else
    callW (fX12_signToken_58 N s0) w
  else
  callW (fX12_signToken_58 N s0) w
noncomputable def fX12_signToken_47 (N : Nat) (v1 : Int32) (w : Wd) : Option (Wd) :=
  callW (fX12_signToken_48 N v1 (0 : Int32)) w
noncomputable def fX12_signToken_37 (N : Nat) (s0 : Int32) (w : Wd) : Option (Wd) :=
  if (gI w 16 0 9) = (61 : Int32) then callW (fX12_signToken_47 N s0) w else
  if s0 = (61 : Int32) then callW (fX12_signToken_48 N s0 (1 : Int32)) w else
  callW (fX12_signToken_47 N s0) w
noncomputable def fX12_signToken_25 (N : Nat) (w : Wd) : Option (Wd) :=
  if (gI w 16 0 7) < (gI w 16 0 6) then
    (ldI w 73 0 (gI w 16 0 7) 900).bind fun x1 =>
    callW (fX12_signToken_37 N x1) w
  else
  callW (fX12_signToken_37 N (0 : Int32)) w
noncomputable def pX12_signToken (N : Nat) (w : Wd) : Option (Wd) :=
  (ldI w 73 0 (gI w 16 0 7) 900).bind fun x1 =>
  if (gI (setI (setI w 16 0 9 x1) 16 0 7 ((gI (setI w 16 0 9 x1) 16 0 7) + (1 : Int32))) 16 0 9) = (60 : Int32) then
    callW (fX12_signToken_25 N) (setI (setI w 16 0 9 x1) 16 0 7 ((gI (setI w 16 0 9 x1) 16 0 7) + (1 : Int32)))
  else
  if (gI (setI (setI w 16 0 9 x1) 16 0 7 ((gI (setI w 16 0 9 x1) 16 0 7) + (1 : Int32))) 16 0 9) = (62 : Int32) then
    callW (fX12_signToken_25 N) (setI (setI w 16 0 9 x1) 16 0 7 ((gI (setI w 16 0 9 x1) 16 0 7) + (1 : Int32)))
  else
  if (gI (setI (setI w 16 0 9 x1) 16 0 7 ((gI (setI w 16 0 9 x1) 16 0 7) + (1 : Int32))) 16 0 9) = (61 : Int32) then
    callW (fX12_signToken_25 N) (setI (setI w 16 0 9 x1) 16 0 7 ((gI (setI w 16 0 9 x1) 16 0 7) + (1 : Int32)))
  else
  if (gI (setI (setI w 16 0 9 x1) 16 0 7 ((gI (setI w 16 0 9 x1) 16 0 7) + (1 : Int32))) 16 0 9) = (59 : Int32) then
    callW (fX12_signToken_133 N) (setI (setI w 16 0 9 x1) 16 0 7 ((gI (setI w 16 0 9 x1) 16 0 7) + (1 : Int32)))
  else
  if (gI (setI (setI w 16 0 9 x1) 16 0 7 ((gI (setI w 16 0 9 x1) 16 0 7) + (1 : Int32))) 16 0 9) = (40 : Int32) then
    callW (fX12_signToken_133 N) (setI (setI w 16 0 9 x1) 16 0 7 ((gI (setI w 16 0 9 x1) 16 0 7) + (1 : Int32)))
  else
  if (gI (setI (setI w 16 0 9 x1) 16 0 7 ((gI (setI w 16 0 9 x1) 16 0 7) + (1 : Int32))) 16 0 9) = (41 : Int32) then
    callW (fX12_signToken_133 N) (setI (setI w 16 0 9 x1) 16 0 7 ((gI (setI w 16 0 9 x1) 16 0 7) + (1 : Int32)))
  else
  if (gI (setI (setI w 16 0 9 x1) 16 0 7 ((gI (setI w 16 0 9 x1) 16 0 7) + (1 : Int32))) 16 0 9) = (43 : Int32) then
    callW (fX12_signToken_133 N) (setI (setI w 16 0 9 x1) 16 0 7 ((gI (setI w 16 0 9 x1) 16 0 7) + (1 : Int32)))
  else
  if (gI (setI (setI w 16 0 9 x1) 16 0 7 ((gI (setI w 16 0 9 x1) 16 0 7) + (1 : Int32))) 16 0 9) = (45 : Int32) then
    callW (fX12_signToken_133 N) (setI (setI w 16 0 9 x1) 16 0 7 ((gI (setI w 16 0 9 x1) 16 0 7) + (1 : Int32)))
  else
  if (gI (setI (setI w 16 0 9 x1) 16 0 7 ((gI (setI w 16 0 9 x1) 16 0 7) + (1 : Int32))) 16 0 9) = (42 : Int32) then
    callW (fX12_signToken_133 N) (setI (setI w 16 0 9 x1) 16 0 7 ((gI (setI w 16 0 9 x1) 16 0 7) + (1 : Int32)))
  else
  if (gI (setI (setI w 16 0 9 x1) 16 0 7 ((gI (setI w 16 0 9 x1) 16 0 7) + (1 : Int32))) 16 0 9) = (47 : Int32) then
    callW (fX12_signToken_133 N) (setI (setI w 16 0 9 x1) 16 0 7 ((gI (setI w 16 0 9 x1) 16 0 7) + (1 : Int32)))
  else
  if (gI (setI (setI w 16 0 9 x1) 16 0 7 ((gI (setI w 16 0 9 x1) 16 0 7) + (1 : Int32))) 16 0 9) = (37 : Int32) then
    callW (fX12_signToken_133 N) (setI (setI w 16 0 9 x1) 16 0 7 ((gI (setI w 16 0 9 x1) 16 0 7) + (1 : Int32)))
  else
  callW (fX12_signToken_136 N (0 : Int32)) (setI (setI w 16 0 9 x1) 16 0 7 ((gI (setI w 16 0 9 x1) 16 0 7) + (1 : Int32)))
noncomputable def mX12_signToken (N : Nat) (as : List AV) (w : Wd) : Option (Wd) := xS1 16 as fun t => xN1 t (callW (pX12_signToken N) w)
set_option maxRecDepth 100000 in
set_option maxHeartbeats 4000000 in
theorem kX12_signToken : TK cX12_signToken RX12 4 tX12_signToken := ⟨by decide +kernel, wok_of [1600, 1607, 1609, 1607, 1607, 1609, 1609, 1609, 1607, 1606, 1600, 1607, 1609, 1609, 1607, 1607, 1608, 1609, 1609, 1609, 1609, 1609, 1609, 1609, 1609, 1609, 1609, 1609, 1608] (by decide +kernel) (by decide +kernel)⟩
set_option maxRecDepth 100000 in
set_option maxHeartbeats 4000000 in
theorem sX12_signToken_136 {N : Nat} {X : XT} (G : GX X cX12_signToken RX12) (hn : xnL X = 4) (hC : CRs X tX12_signToken (oF []) (oF []) (oF [])) {r : Wd} (hr : RTV X cX12_signToken r)  : ∀ (s0 : Int32) (w : Wd), fX12_signToken_136 N s0 w = some r → WW X (pcAt tX12_signToken 136) [some (.inr (.inr (16, 0))), none, none, none] [.inl s0] w := by
  intro s0 w h
  refine run_sound (r := r) (X := X) (cc := cX12_signToken) (own := RX12) (tab := tX12_signToken) G (by rw [hn]; exact kX12_signToken) (oI := (oF [])) (oL := (oF [])) (oV := (oF [])) (rI := (fun _ _ => none)) (rL := (fun _ _ => none)) (rV := (fun w => some w))
    (K := (fun j ls st w => none)) (fun _ _ _ _ hx => by cases hx) (fun _ _ _ _ hx => by cases hx) (fun w pc ls hx hd => hr w pc ls (Option.some.inj hx) hd) hC (fun ls => lsb [some (.inr (.inr (16, 0))), none, none, none] 0 ls) (keepsP_of rfl) ?_ 147 136 [some (.inr (.inr (16, 0))), none, none, none] [.inl s0] w ?_ h
  · intro j ls st w hfx h
    obtain ⟨e0, -⟩ : _ = _ ∧ True := hfx
    try dsimp only at h
    cases h
  · exact (show _ = _ ∧ True from ⟨rfl, trivial⟩)
set_option maxRecDepth 100000 in
set_option maxHeartbeats 4000000 in
theorem sX12_signToken_133 {N : Nat} {X : XT} (G : GX X cX12_signToken RX12) (hn : xnL X = 4) (hC : CRs X tX12_signToken (oF []) (oF []) (oF [])) {r : Wd} (hr : RTV X cX12_signToken r)  : ∀ (w : Wd), fX12_signToken_133 N w = some r → WW X (pcAt tX12_signToken 133) [some (.inr (.inr (16, 0))), none, none, none] [] w := by
  intro w h
  refine run_sound (r := r) (X := X) (cc := cX12_signToken) (own := RX12) (tab := tX12_signToken) G (by rw [hn]; exact kX12_signToken) (oI := (oF [])) (oL := (oF [])) (oV := (oF [])) (rI := (fun _ _ => none)) (rL := (fun _ _ => none)) (rV := (fun w => some w))
    (K := (fun j ls st w => if j = 136 then (po1 st fun s0 st => st0 st (callW (fX12_signToken_136 N s0) w)) else none)) (fun _ _ _ _ hx => by cases hx) (fun _ _ _ _ hx => by cases hx) (fun w pc ls hx hd => hr w pc ls (Option.some.inj hx) hd) hC (fun ls => lsb [some (.inr (.inr (16, 0))), none, none, none] 0 ls) (keepsP_of rfl) ?_ 147 133 [some (.inr (.inr (16, 0))), none, none, none] [] w ?_ h
  · intro j ls st w hfx h
    obtain ⟨e0, -⟩ : _ = _ ∧ True := hfx
    try dsimp only at h
    by_cases hj : j = 136
    · subst hj
      rw [if_pos rfl] at h
      obtain ⟨s0, st0, rfl, h_1⟩ := po1_some h
      obtain ⟨rfl, h_2⟩ := st0_some h_1
      clear h h_1
      have h := h_2
      try rw [callW_eq] at h
      exact WW.le (a := [some (.inr (.inr (16, 0))), none, none, none]) (by rw [hn]; rfl) (show _ = _ ∧ True from ⟨e0, trivial⟩) (sX12_signToken_136 G hn hC hr s0 w h)
    rw [if_neg hj] at h
    cases h
  · exact (show _ = _ ∧ True from ⟨rfl, trivial⟩)
set_option maxRecDepth 100000 in
set_option maxHeartbeats 4000000 in
theorem sX12_signToken_70 {N : Nat} {X : XT} (G : GX X cX12_signToken RX12) (hn : xnL X = 4) (hC : CRs X tX12_signToken (oF []) (oF []) (oF [])) {r : Wd} (hr : RTV X cX12_signToken r)  : ∀ (v2 : Int32) (v3 : Int32) (w : Wd), fX12_signToken_70 N v2 v3 w = some r → WW X (pcAt tX12_signToken 70) [some (.inr (.inr (16, 0))), none, some (.inl v2), some (.inl v3)] [] w := by
  intro v2 v3 w h
  refine run_sound (r := r) (X := X) (cc := cX12_signToken) (own := RX12) (tab := tX12_signToken) G (by rw [hn]; exact kX12_signToken) (oI := (oF [])) (oL := (oF [])) (oV := (oF [])) (rI := (fun _ _ => none)) (rL := (fun _ _ => none)) (rV := (fun w => some w))
    (K := (fun j ls st w => none)) (fun _ _ _ _ hx => by cases hx) (fun _ _ _ _ hx => by cases hx) (fun w pc ls hx hd => hr w pc ls (Option.some.inj hx) hd) hC (fun ls => lsb [some (.inr (.inr (16, 0))), none, none, none] 0 ls) (keepsP_of rfl) ?_ 147 70 [some (.inr (.inr (16, 0))), none, some (.inl v2), some (.inl v3)] [] w ?_ h
  · intro j ls st w hfx h
    obtain ⟨e0, -⟩ : _ = _ ∧ True := hfx
    try dsimp only at h
    cases h
  · exact (show _ = _ ∧ True from ⟨rfl, trivial⟩)
set_option maxRecDepth 100000 in
set_option maxHeartbeats 4000000 in
theorem sX12_signToken_64 {N : Nat} {X : XT} (G : GX X cX12_signToken RX12) (hn : xnL X = 4) (hC : CRs X tX12_signToken (oF []) (oF []) (oF [])) {r : Wd} (hr : RTV X cX12_signToken r)  : ∀ (v2 : Int32) (v3 : Int32) (w : Wd), fX12_signToken_64 N v2 v3 w = some r → WW X (pcAt tX12_signToken 64) [some (.inr (.inr (16, 0))), none, some (.inl v2), some (.inl v3)] [] w := by
  intro v2 v3 w h
  refine run_sound (r := r) (X := X) (cc := cX12_signToken) (own := RX12) (tab := tX12_signToken) G (by rw [hn]; exact kX12_signToken) (oI := (oF [])) (oL := (oF [])) (oV := (oF [])) (rI := (fun _ _ => none)) (rL := (fun _ _ => none)) (rV := (fun w => some w))
    (K := (fun j ls st w => if j = 70 then (lgI ls 2 fun v2 => lgI ls 3 fun v3 => st0 st (callW (fX12_signToken_70 N v2 v3) w)) else none)) (fun _ _ _ _ hx => by cases hx) (fun _ _ _ _ hx => by cases hx) (fun w pc ls hx hd => hr w pc ls (Option.some.inj hx) hd) hC (fun ls => lsb [some (.inr (.inr (16, 0))), none, none, none] 0 ls) (keepsP_of rfl) ?_ 147 64 [some (.inr (.inr (16, 0))), none, some (.inl v2), some (.inl v3)] [] w ?_ h
  · intro j ls st w hfx h
    obtain ⟨e0, -⟩ : _ = _ ∧ True := hfx
    try dsimp only at h
    by_cases hj : j = 70
    · subst hj
      rw [if_pos rfl] at h
      obtain ⟨v2, e2, h_1⟩ := lgI_some h
      obtain ⟨v3, e3, h_2⟩ := lgI_some h_1
      obtain ⟨rfl, h_3⟩ := st0_some h_2
      clear h h_1 h_2
      have h := h_3
      try rw [callW_eq] at h
      exact WW.le (a := [some (.inr (.inr (16, 0))), none, some (.inl v2), some (.inl v3)]) (by rw [hn]; rfl) (show _ = _ ∧ _ = _ ∧ _ = _ ∧ True from ⟨e0, e2, e3, trivial⟩) (sX12_signToken_70 G hn hC hr v2 v3 w h)
    rw [if_neg hj] at h
    cases h
  · exact (show _ = _ ∧ True from ⟨rfl, trivial⟩)
set_option maxRecDepth 100000 in
set_option maxHeartbeats 4000000 in
theorem sX12_signToken_59 {N : Nat} {X : XT} (G : GX X cX12_signToken RX12) (hn : xnL X = 4) (hC : CRs X tX12_signToken (oF []) (oF []) (oF [])) {r : Wd} (hr : RTV X cX12_signToken r)  : ∀ (v2 : Int32) (s0 : Int32) (w : Wd), fX12_signToken_59 N v2 s0 w = some r → WW X (pcAt tX12_signToken 59) [some (.inr (.inr (16, 0))), none, some (.inl v2), none] [.inl s0] w := by
  intro v2 s0 w h
  refine run_sound (r := r) (X := X) (cc := cX12_signToken) (own := RX12) (tab := tX12_signToken) G (by rw [hn]; exact kX12_signToken) (oI := (oF [])) (oL := (oF [])) (oV := (oF [])) (rI := (fun _ _ => none)) (rL := (fun _ _ => none)) (rV := (fun w => some w))
    (K := (fun j ls st w => if j = 64 then (lgI ls 2 fun v2 => lgI ls 3 fun v3 => st0 st (callW (fX12_signToken_64 N v2 v3) w)) else if j = 70 then (lgI ls 2 fun v2 => lgI ls 3 fun v3 => st0 st (callW (fX12_signToken_70 N v2 v3) w)) else none)) (fun _ _ _ _ hx => by cases hx) (fun _ _ _ _ hx => by cases hx) (fun w pc ls hx hd => hr w pc ls (Option.some.inj hx) hd) hC (fun ls => lsb [some (.inr (.inr (16, 0))), none, none, none] 0 ls) (keepsP_of rfl) ?_ 147 59 [some (.inr (.inr (16, 0))), none, some (.inl v2), none] [.inl s0] w ?_ h
  · intro j ls st w hfx h
    obtain ⟨e0, -⟩ : _ = _ ∧ True := hfx
    try dsimp only at h
    by_cases hj : j = 64
    · subst hj
      rw [if_pos rfl] at h
      obtain ⟨v2, e2, h_1⟩ := lgI_some h
      obtain ⟨v3, e3, h_2⟩ := lgI_some h_1
      obtain ⟨rfl, h_3⟩ := st0_some h_2
      clear h h_1 h_2
      have h := h_3
      try rw [callW_eq] at h
      exact WW.le (a := [some (.inr (.inr (16, 0))), none, some (.inl v2), some (.inl v3)]) (by rw [hn]; rfl) (show _ = _ ∧ _ = _ ∧ _ = _ ∧ True from ⟨e0, e2, e3, trivial⟩) (sX12_signToken_64 G hn hC hr v2 v3 w h)
    rw [if_neg hj] at h
    by_cases hj : j = 70
    · subst hj
      rw [if_pos rfl] at h
      obtain ⟨v2, e2, h_1⟩ := lgI_some h
      obtain ⟨v3, e3, h_2⟩ := lgI_some h_1
      obtain ⟨rfl, h_3⟩ := st0_some h_2
      clear h h_1 h_2
      have h := h_3
      try rw [callW_eq] at h
      exact WW.le (a := [some (.inr (.inr (16, 0))), none, some (.inl v2), some (.inl v3)]) (by rw [hn]; rfl) (show _ = _ ∧ _ = _ ∧ _ = _ ∧ True from ⟨e0, e2, e3, trivial⟩) (sX12_signToken_70 G hn hC hr v2 v3 w h)
    rw [if_neg hj] at h
    cases h
  · exact (show _ = _ ∧ True from ⟨rfl, trivial⟩)
set_option maxRecDepth 100000 in
set_option maxHeartbeats 4000000 in
theorem sX12_signToken_58 {N : Nat} {X : XT} (G : GX X cX12_signToken RX12) (hn : xnL X = 4) (hC : CRs X tX12_signToken (oF []) (oF []) (oF [])) {r : Wd} (hr : RTV X cX12_signToken r)  : ∀ (v2 : Int32) (w : Wd), fX12_signToken_58 N v2 w = some r → WW X (pcAt tX12_signToken 58) [some (.inr (.inr (16, 0))), none, some (.inl v2), none] [] w := by
  intro v2 w h
  refine run_sound (r := r) (X := X) (cc := cX12_signToken) (own := RX12) (tab := tX12_signToken) G (by rw [hn]; exact kX12_signToken) (oI := (oF [])) (oL := (oF [])) (oV := (oF [])) (rI := (fun _ _ => none)) (rL := (fun _ _ => none)) (rV := (fun w => some w))
    (K := (fun j ls st w => if j = 59 then (lgI ls 2 fun v2 => po1 st fun s0 st => st0 st (callW (fX12_signToken_59 N v2 s0) w)) else none)) (fun _ _ _ _ hx => by cases hx) (fun _ _ _ _ hx => by cases hx) (fun w pc ls hx hd => hr w pc ls (Option.some.inj hx) hd) hC (fun ls => lsb [some (.inr (.inr (16, 0))), none, none, none] 0 ls) (keepsP_of rfl) ?_ 147 58 [some (.inr (.inr (16, 0))), none, some (.inl v2), none] [] w ?_ h
  · intro j ls st w hfx h
    obtain ⟨e0, -⟩ : _ = _ ∧ True := hfx
    try dsimp only at h
    by_cases hj : j = 59
    · subst hj
      rw [if_pos rfl] at h
      obtain ⟨v2, e2, h_1⟩ := lgI_some h
      obtain ⟨s0, st0, rfl, h_2⟩ := po1_some h_1
      obtain ⟨rfl, h_3⟩ := st0_some h_2
      clear h h_1 h_2
      have h := h_3
      try rw [callW_eq] at h
      exact WW.le (a := [some (.inr (.inr (16, 0))), none, some (.inl v2), none]) (by rw [hn]; rfl) (show _ = _ ∧ _ = _ ∧ True from ⟨e0, e2, trivial⟩) (sX12_signToken_59 G hn hC hr v2 s0 w h)
    rw [if_neg hj] at h
    cases h
  · exact (show _ = _ ∧ True from ⟨rfl, trivial⟩)
set_option maxRecDepth 100000 in
set_option maxHeartbeats 4000000 in
theorem sX12_signToken_48 {N : Nat} {X : XT} (G : GX X cX12_signToken RX12) (hn : xnL X = 4) (hC : CRs X tX12_signToken (oF []) (oF []) (oF [])) {r : Wd} (hr : RTV X cX12_signToken r)  : ∀ (v1 : Int32) (s0 : Int32) (w : Wd), fX12_signToken_48 N v1 s0 w = some r → WW X (pcAt tX12_signToken 48) [some (.inr (.inr (16, 0))), some (.inl v1), none, none] [.inl s0] w := by
  intro v1 s0 w h
  refine run_sound (r := r) (X := X) (cc := cX12_signToken) (own := RX12) (tab := tX12_signToken) G (by rw [hn]; exact kX12_signToken) (oI := (oF [])) (oL := (oF [])) (oV := (oF [])) (rI := (fun _ _ => none)) (rL := (fun _ _ => none)) (rV := (fun w => some w))
    (K := (fun j ls st w => if j = 58 then (lgI ls 2 fun v2 => st0 st (callW (fX12_signToken_58 N v2) w)) else if j = 59 then (lgI ls 2 fun v2 => po1 st fun s0 st => st0 st (callW (fX12_signToken_59 N v2 s0) w)) else none)) (fun _ _ _ _ hx => by cases hx) (fun _ _ _ _ hx => by cases hx) (fun w pc ls hx hd => hr w pc ls (Option.some.inj hx) hd) hC (fun ls => lsb [some (.inr (.inr (16, 0))), none, none, none] 0 ls) (keepsP_of rfl) ?_ 147 48 [some (.inr (.inr (16, 0))), some (.inl v1), none, none] [.inl s0] w ?_ h
  · intro j ls st w hfx h
    obtain ⟨e0, -⟩ : _ = _ ∧ True := hfx
    try dsimp only at h
    by_cases hj : j = 58
    · subst hj
      rw [if_pos rfl] at h
      obtain ⟨v2, e2, h_1⟩ := lgI_some h
      obtain ⟨rfl, h_2⟩ := st0_some h_1
      clear h h_1
      have h := h_2
      try rw [callW_eq] at h
      exact WW.le (a := [some (.inr (.inr (16, 0))), none, some (.inl v2), none]) (by rw [hn]; rfl) (show _ = _ ∧ _ = _ ∧ True from ⟨e0, e2, trivial⟩) (sX12_signToken_58 G hn hC hr v2 w h)
    rw [if_neg hj] at h
    by_cases hj : j = 59
    · subst hj
      rw [if_pos rfl] at h
      obtain ⟨v2, e2, h_1⟩ := lgI_some h
      obtain ⟨s0, st0, rfl, h_2⟩ := po1_some h_1
      obtain ⟨rfl, h_3⟩ := st0_some h_2
      clear h h_1 h_2
      have h := h_3
      try rw [callW_eq] at h
      exact WW.le (a := [some (.inr (.inr (16, 0))), none, some (.inl v2), none]) (by rw [hn]; rfl) (show _ = _ ∧ _ = _ ∧ True from ⟨e0, e2, trivial⟩) (sX12_signToken_59 G hn hC hr v2 s0 w h)
    rw [if_neg hj] at h
    cases h
  · exact (show _ = _ ∧ True from ⟨rfl, trivial⟩)
set_option maxRecDepth 100000 in
set_option maxHeartbeats 4000000 in
theorem sX12_signToken_47 {N : Nat} {X : XT} (G : GX X cX12_signToken RX12) (hn : xnL X = 4) (hC : CRs X tX12_signToken (oF []) (oF []) (oF [])) {r : Wd} (hr : RTV X cX12_signToken r)  : ∀ (v1 : Int32) (w : Wd), fX12_signToken_47 N v1 w = some r → WW X (pcAt tX12_signToken 47) [some (.inr (.inr (16, 0))), some (.inl v1), none, none] [] w := by
  intro v1 w h
  refine run_sound (r := r) (X := X) (cc := cX12_signToken) (own := RX12) (tab := tX12_signToken) G (by rw [hn]; exact kX12_signToken) (oI := (oF [])) (oL := (oF [])) (oV := (oF [])) (rI := (fun _ _ => none)) (rL := (fun _ _ => none)) (rV := (fun w => some w))
    (K := (fun j ls st w => if j = 48 then (lgI ls 1 fun v1 => po1 st fun s0 st => st0 st (callW (fX12_signToken_48 N v1 s0) w)) else none)) (fun _ _ _ _ hx => by cases hx) (fun _ _ _ _ hx => by cases hx) (fun w pc ls hx hd => hr w pc ls (Option.some.inj hx) hd) hC (fun ls => lsb [some (.inr (.inr (16, 0))), none, none, none] 0 ls) (keepsP_of rfl) ?_ 147 47 [some (.inr (.inr (16, 0))), some (.inl v1), none, none] [] w ?_ h
  · intro j ls st w hfx h
    obtain ⟨e0, -⟩ : _ = _ ∧ True := hfx
    try dsimp only at h
    by_cases hj : j = 48
    · subst hj
      rw [if_pos rfl] at h
      obtain ⟨v1, e1, h_1⟩ := lgI_some h
      obtain ⟨s0, st0, rfl, h_2⟩ := po1_some h_1
      obtain ⟨rfl, h_3⟩ := st0_some h_2
      clear h h_1 h_2
      have h := h_3
      try rw [callW_eq] at h
      exact WW.le (a := [some (.inr (.inr (16, 0))), some (.inl v1), none, none]) (by rw [hn]; rfl) (show _ = _ ∧ _ = _ ∧ True from ⟨e0, e1, trivial⟩) (sX12_signToken_48 G hn hC hr v1 s0 w h)
    rw [if_neg hj] at h
    cases h
  · exact (show _ = _ ∧ True from ⟨rfl, trivial⟩)
set_option maxRecDepth 100000 in
set_option maxHeartbeats 4000000 in
theorem sX12_signToken_37 {N : Nat} {X : XT} (G : GX X cX12_signToken RX12) (hn : xnL X = 4) (hC : CRs X tX12_signToken (oF []) (oF []) (oF [])) {r : Wd} (hr : RTV X cX12_signToken r)  : ∀ (s0 : Int32) (w : Wd), fX12_signToken_37 N s0 w = some r → WW X (pcAt tX12_signToken 37) [some (.inr (.inr (16, 0))), none, none, none] [.inl s0] w := by
  intro s0 w h
  refine run_sound (r := r) (X := X) (cc := cX12_signToken) (own := RX12) (tab := tX12_signToken) G (by rw [hn]; exact kX12_signToken) (oI := (oF [])) (oL := (oF [])) (oV := (oF [])) (rI := (fun _ _ => none)) (rL := (fun _ _ => none)) (rV := (fun w => some w))
    (K := (fun j ls st w => if j = 47 then (lgI ls 1 fun v1 => st0 st (callW (fX12_signToken_47 N v1) w)) else if j = 48 then (lgI ls 1 fun v1 => po1 st fun s0 st => st0 st (callW (fX12_signToken_48 N v1 s0) w)) else none)) (fun _ _ _ _ hx => by cases hx) (fun _ _ _ _ hx => by cases hx) (fun w pc ls hx hd => hr w pc ls (Option.some.inj hx) hd) hC (fun ls => lsb [some (.inr (.inr (16, 0))), none, none, none] 0 ls) (keepsP_of rfl) ?_ 147 37 [some (.inr (.inr (16, 0))), none, none, none] [.inl s0] w ?_ h
  · intro j ls st w hfx h
    obtain ⟨e0, -⟩ : _ = _ ∧ True := hfx
    try dsimp only at h
    by_cases hj : j = 47
    · subst hj
      rw [if_pos rfl] at h
      obtain ⟨v1, e1, h_1⟩ := lgI_some h
      obtain ⟨rfl, h_2⟩ := st0_some h_1
      clear h h_1
      have h := h_2
      try rw [callW_eq] at h
      exact WW.le (a := [some (.inr (.inr (16, 0))), some (.inl v1), none, none]) (by rw [hn]; rfl) (show _ = _ ∧ _ = _ ∧ True from ⟨e0, e1, trivial⟩) (sX12_signToken_47 G hn hC hr v1 w h)
    rw [if_neg hj] at h
    by_cases hj : j = 48
    · subst hj
      rw [if_pos rfl] at h
      obtain ⟨v1, e1, h_1⟩ := lgI_some h
      obtain ⟨s0, st0, rfl, h_2⟩ := po1_some h_1
      obtain ⟨rfl, h_3⟩ := st0_some h_2
      clear h h_1 h_2
      have h := h_3
      try rw [callW_eq] at h
      exact WW.le (a := [some (.inr (.inr (16, 0))), some (.inl v1), none, none]) (by rw [hn]; rfl) (show _ = _ ∧ _ = _ ∧ True from ⟨e0, e1, trivial⟩) (sX12_signToken_48 G hn hC hr v1 s0 w h)
    rw [if_neg hj] at h
    cases h
  · exact (show _ = _ ∧ True from ⟨rfl, trivial⟩)
set_option maxRecDepth 100000 in
set_option maxHeartbeats 4000000 in
theorem sX12_signToken_25 {N : Nat} {X : XT} (G : GX X cX12_signToken RX12) (hn : xnL X = 4) (hC : CRs X tX12_signToken (oF []) (oF []) (oF [])) {r : Wd} (hr : RTV X cX12_signToken r)  : ∀ (w : Wd), fX12_signToken_25 N w = some r → WW X (pcAt tX12_signToken 25) [some (.inr (.inr (16, 0))), none, none, none] [] w := by
  intro w h
  refine run_sound (r := r) (X := X) (cc := cX12_signToken) (own := RX12) (tab := tX12_signToken) G (by rw [hn]; exact kX12_signToken) (oI := (oF [])) (oL := (oF [])) (oV := (oF [])) (rI := (fun _ _ => none)) (rL := (fun _ _ => none)) (rV := (fun w => some w))
    (K := (fun j ls st w => if j = 37 then (po1 st fun s0 st => st0 st (callW (fX12_signToken_37 N s0) w)) else none)) (fun _ _ _ _ hx => by cases hx) (fun _ _ _ _ hx => by cases hx) (fun w pc ls hx hd => hr w pc ls (Option.some.inj hx) hd) hC (fun ls => lsb [some (.inr (.inr (16, 0))), none, none, none] 0 ls) (keepsP_of rfl) ?_ 147 25 [some (.inr (.inr (16, 0))), none, none, none] [] w ?_ h
  · intro j ls st w hfx h
    obtain ⟨e0, -⟩ : _ = _ ∧ True := hfx
    try dsimp only at h
    by_cases hj : j = 37
    · subst hj
      rw [if_pos rfl] at h
      obtain ⟨s0, st0, rfl, h_1⟩ := po1_some h
      obtain ⟨rfl, h_2⟩ := st0_some h_1
      clear h h_1
      have h := h_2
      try rw [callW_eq] at h
      exact WW.le (a := [some (.inr (.inr (16, 0))), none, none, none]) (by rw [hn]; rfl) (show _ = _ ∧ True from ⟨e0, trivial⟩) (sX12_signToken_37 G hn hC hr s0 w h)
    rw [if_neg hj] at h
    cases h
  · exact (show _ = _ ∧ True from ⟨rfl, trivial⟩)
set_option maxRecDepth 100000 in
set_option maxHeartbeats 4000000 in
theorem crX12_signToken {N : Nat} {X : XT} (G : GX X cX12_signToken RX12) (hR : xR X = rmL 1) : CRs X tX12_signToken (oF []) (oF []) (oF []) := by
  have hl : tX12_signToken.filter isInv = [] := rfl
  intro e he
  rw [hl] at he
  cases he
set_option maxRecDepth 100000 in
set_option maxHeartbeats 4000000 in
theorem MX12_signToken (N : Nat) : SndV yX12_signToken cX12_signToken 4 none 1 1 true (mX12_signToken N) := by
  refine SndV.of tX12_signToken (by decide +kernel) rfl rfl ?_ ?_
  · intro as w x h
    obtain ⟨t1, rfl, h_1⟩ := xS1_some h
    obtain ⟨rfl, h_2⟩ := xN1_some h_1
    clear h h_1
    have h := h_2
    rw [callW_eq] at h
    exact ⟨fun _ => ⟨_, _, _, rfl, rfl, _, rfl, rfl⟩, rfl, Nat.le_of_ble_eq_true rfl⟩
  · intro X G hn hR as w r h hr
    have hC := crX12_signToken (N := N) G hR
    obtain ⟨t1, rfl, h_1⟩ := xS1_some h
    obtain ⟨rfl, h_2⟩ := xN1_some h_1
    clear h h_1
    have h := h_2
    rw [callW_eq] at h
    refine run_sound (r := r) (X := X) (cc := cX12_signToken) (own := RX12) (tab := tX12_signToken) G (by rw [hn]; exact kX12_signToken) (oI := (oF [])) (oL := (oF [])) (oV := (oF [])) (rI := (fun _ _ => none)) (rL := (fun _ _ => none)) (rV := (fun w => some w))
      (K := (fun j ls st w => if j = 25 then (st0 st (callW (fX12_signToken_25 N) w)) else if j = 133 then (st0 st (callW (fX12_signToken_133 N) w)) else if j = 136 then (po1 st fun s0 st => st0 st (callW (fX12_signToken_136 N s0) w)) else none)) (fun _ _ _ _ hx => by cases hx) (fun _ _ _ _ hx => by cases hx) (fun w pc ls hx hd => hr w pc ls (Option.some.inj hx) hd) hC (fun ls => lsb [some (.inr (.inr (16, 0))), none, none, none] 0 ls) (keepsP_of rfl) ?_ 147 0 [some (.inr (.inr (16, 0))), none, none, none] [] w ?_ h
    · intro j ls st w hfx h
      obtain ⟨e0, -⟩ : _ = _ ∧ True := hfx
      try dsimp only at h
      by_cases hj : j = 25
      · subst hj
        rw [if_pos rfl] at h
        obtain ⟨rfl, h_1⟩ := st0_some h
        clear h
        have h := h_1
        try rw [callW_eq] at h
        exact WW.le (a := [some (.inr (.inr (16, 0))), none, none, none]) (by rw [hn]; rfl) (show _ = _ ∧ True from ⟨e0, trivial⟩) (sX12_signToken_25 G hn hC hr w h)
      rw [if_neg hj] at h
      by_cases hj : j = 133
      · subst hj
        rw [if_pos rfl] at h
        obtain ⟨rfl, h_1⟩ := st0_some h
        clear h
        have h := h_1
        try rw [callW_eq] at h
        exact WW.le (a := [some (.inr (.inr (16, 0))), none, none, none]) (by rw [hn]; rfl) (show _ = _ ∧ True from ⟨e0, trivial⟩) (sX12_signToken_133 G hn hC hr w h)
      rw [if_neg hj] at h
      by_cases hj : j = 136
      · subst hj
        rw [if_pos rfl] at h
        obtain ⟨s0, st0, rfl, h_1⟩ := po1_some h
        obtain ⟨rfl, h_2⟩ := st0_some h_1
        clear h h_1
        have h := h_2
        try rw [callW_eq] at h
        exact WW.le (a := [some (.inr (.inr (16, 0))), none, none, none]) (by rw [hn]; rfl) (show _ = _ ∧ True from ⟨e0, trivial⟩) (sX12_signToken_136 G hn hC hr s0 w h)
      rw [if_neg hj] at h
      cases h
    · exact (show _ = _ ∧ True from ⟨rfl, trivial⟩)
-- MoorGuidesModel.token()V
def tX12_token : List EN := [
  (0, .aload_n 0, 1, 0, 0, 0, 0, []), (1, .getfield 211, 0, 12, 7, 0, 0, []), (4, .aload_n 0, 0, 0, 0, 0, 0, []), (5, .getfield 208, 0, 12, 6, 0, 0, []),
  (8, .if_icmp .ge 44, 0, 26, 0, 0, 0, []), (11, .aload_n 0, 0, 0, 0, 0, 0, []), (12, .getfield 7, 0, 12, 0, 0, 0, []), (15, .aload_n 0, 0, 0, 0, 0, 0, []),
  (16, .getfield 211, 0, 12, 7, 0, 0, []), (19, .iaload, 0, 0, 0, 0, 0, []), (20, .bipush 10, 0, 0, 0, 10, 0, []), (22, .if_icmp .eq 17, 0, 19, 0, 0, 0, []),
  (25, .aload_n 0, 0, 0, 0, 0, 0, []), (26, .getfield 7, 0, 12, 0, 0, 0, []), (29, .aload_n 0, 0, 0, 0, 0, 0, []), (30, .getfield 211, 0, 12, 7, 0, 0, []),
  (33, .iaload, 0, 0, 0, 0, 0, []), (34, .bipush 32, 0, 0, 0, 32, 0, []), (36, .if_icmp .ne 16, 0, 26, 0, 0, 0, []), (39, .aload_n 0, 0, 0, 0, 0, 0, []),
  (40, .dup, 0, 0, 0, 0, 0, []), (41, .getfield 211, 0, 12, 7, 0, 0, []), (44, .iconst 1, 0, 0, 0, 1, 0, []), (45, .iadd, 0, 0, 0, 0, 0, []),
  (46, .putfield 211, 0, 12, 7, 0, 0, []), (49, .goto (-49), 0, 0, 0, 0, 0, []), (52, .aload_n 0, 27, 0, 0, 0, 0, []), (53, .aload_n 0, 0, 0, 0, 0, 0, []),
  (54, .getfield 211, 0, 12, 7, 0, 0, []), (57, .putfield 205, 0, 12, 10, 0, 0, []), (60, .aload_n 0, 0, 0, 0, 0, 0, []), (61, .getfield 211, 0, 12, 7, 0, 0, []),
  (64, .aload_n 0, 0, 0, 0, 0, 0, []), (65, .getfield 208, 0, 12, 6, 0, 0, []), (68, .if_icmp .ne 11, 0, 39, 0, 0, 0, []), (71, .aload_n 0, 0, 0, 0, 0, 0, []),
  (72, .iconst 0, 0, 0, 0, 0, 0, []), (73, .putfield 214, 0, 12, 8, 0, 0, []), (76, .goto 205, 0, 140, 0, 0, 0, []), (79, .aload_n 0, 0, 0, 0, 0, 0, []),
  (80, .aload_n 0, 0, 0, 0, 0, 0, []), (81, .getfield 211, 0, 12, 7, 0, 0, []), (84, .invokevirtual 217, 0, 0, 2, 0, 0, []), (87, .ifCond .eq 105, 0, 94, 0, 0, 0, []),
  (90, .aload_n 0, 45, 0, 0, 0, 0, []), (91, .aload_n 0, 0, 0, 0, 0, 0, []), (92, .getfield 211, 0, 12, 7, 0, 0, []), (95, .invokevirtual 217, 0, 0, 2, 0, 0, []),
  (98, .ifCond .eq 16, 0, 56, 0, 0, 0, []), (101, .aload_n 0, 0, 0, 0, 0, 0, []), (102, .dup, 0, 0, 0, 0, 0, []), (103, .getfield 211, 0, 12, 7, 0, 0, []),
  (106, .iconst 1, 0, 0, 0, 1, 0, []), (107, .iadd, 0, 0, 0, 0, 0, []), (108, .putfield 211, 0, 12, 7, 0, 0, []), (111, .goto (-21), 0, 44, 0, 0, 0, []),
  (114, .aload_n 0, 57, 0, 0, 0, 0, []), (115, .aload_n 0, 0, 0, 0, 0, 0, []), (116, .aload_n 0, 0, 0, 0, 0, 0, []), (117, .getfield 205, 0, 12, 10, 0, 0, []),
  (120, .aload_n 0, 0, 0, 0, 0, 0, []), (121, .getfield 211, 0, 12, 7, 0, 0, []), (124, .invokevirtual 221, 0, 1, 3, 0, 0, []), (127, .putfield 225, 0, 12, 9, 0, 0, []),
  (130, .aload_n 0, 0, 0, 0, 0, 0, []), (131, .aload_n 0, 0, 0, 0, 0, 0, []), (132, .getfield 225, 0, 12, 9, 0, 0, []), (135, .ifCond .lt 7, 0, 70, 0, 0, 0, []),
  (138, .iconst 1, 0, 0, 0, 1, 0, []), (139, .goto 23, 0, 80, 0, 0, 0, []), (142, .aload_n 0, 0, 0, 0, 0, 0, []), (143, .getfield 211, 0, 12, 7, 0, 0, []),
  (146, .aload_n 0, 0, 0, 0, 0, 0, []), (147, .getfield 205, 0, 12, 10, 0, 0, []), (150, .isub, 0, 0, 0, 0, 0, []), (151, .bipush 6, 0, 0, 0, 6, 0, []),
  (153, .if_icmp .le 8, 0, 79, 0, 0, 0, []), (156, .bipush 6, 0, 0, 0, 6, 0, []), (158, .goto 4, 0, 80, 0, 0, 0, []), (161, .iconst 2, 0, 0, 0, 2, 0, []),
  (162, .putfield 214, 81, 12, 8, 0, 0, []), (165, .aload_n 0, 0, 0, 0, 0, 0, []), (166, .getfield 214, 0, 12, 8, 0, 0, []), (169, .iconst 2, 0, 0, 0, 2, 0, []),
  (170, .if_icmp .ne 111, 0, 140, 0, 0, 0, []), (173, .aload_n 0, 0, 0, 0, 0, 0, []), (174, .aload_n 0, 0, 0, 0, 0, 0, []), (175, .aload_n 0, 0, 0, 0, 0, 0, []),
  (176, .getfield 205, 0, 12, 10, 0, 0, []), (179, .aload_n 0, 0, 0, 0, 0, 0, []), (180, .getfield 211, 0, 12, 7, 0, 0, []), (183, .invokevirtual 228, 0, 2, 3, 0, 0, []),
  (186, .putfield 225, 0, 12, 9, 0, 0, []), (189, .goto 92, 0, 140, 0, 0, 0, []), (192, .aload_n 0, 0, 0, 0, 0, 0, []), (193, .aload_n 0, 0, 0, 0, 0, 0, []),
  (194, .getfield 211, 0, 12, 7, 0, 0, []), (197, .invokevirtual 231, 0, 3, 2, 0, 0, []), (200, .ifCond .eq 77, 0, 138, 0, 0, 0, []), (203, .aload_n 0, 0, 0, 0, 0, 0, []),
  (204, .iconst 3, 0, 0, 0, 3, 0, []), (205, .putfield 214, 0, 12, 8, 0, 0, []), (208, .aload_n 0, 0, 0, 0, 0, 0, []), (209, .iconst 0, 0, 0, 0, 0, 0, []),
  (210, .putfield 225, 0, 12, 9, 0, 0, []), (213, .aload_n 0, 106, 0, 0, 0, 0, []), (214, .aload_n 0, 0, 0, 0, 0, 0, []), (215, .getfield 211, 0, 12, 7, 0, 0, []),
  (218, .invokevirtual 231, 0, 3, 2, 0, 0, []), (221, .ifCond .eq 60, 0, 140, 0, 0, 0, []), (224, .aload_n 0, 0, 0, 0, 0, 0, []), (225, .aload_n 0, 0, 0, 0, 0, 0, []),
  (226, .getfield 225, 0, 12, 9, 0, 0, []), (229, .ldc 234, 0, 0, 0, 99999, 0, []), (231, .if_icmp .le 10, 0, 118, 0, 0, 0, []), (234, .aload_n 0, 0, 0, 0, 0, 0, []),
  (235, .getfield 225, 0, 12, 9, 0, 0, []), (238, .goto 23, 0, 130, 0, 0, 0, []), (241, .bipush 10, 0, 0, 0, 10, 0, []), (243, .aload_n 0, 0, 0, 0, 0, 0, []),
  (244, .getfield 225, 0, 12, 9, 0, 0, []), (247, .imul, 0, 0, 0, 0, 0, []), (248, .aload_n 0, 0, 0, 0, 0, 0, []), (249, .getfield 7, 0, 12, 0, 0, 0, []),
  (252, .aload_n 0, 0, 0, 0, 0, 0, []), (253, .getfield 211, 0, 12, 7, 0, 0, []), (256, .iaload, 0, 0, 0, 0, 0, []), (257, .iadd, 0, 0, 0, 0, 0, []),
  (258, .bipush 48, 0, 0, 0, 48, 0, []), (260, .isub, 0, 0, 0, 0, 0, []), (261, .putfield 225, 131, 12, 9, 0, 0, []), (264, .aload_n 0, 0, 0, 0, 0, 0, []),
  (265, .dup, 0, 0, 0, 0, 0, []), (266, .getfield 211, 0, 12, 7, 0, 0, []), (269, .iconst 1, 0, 0, 0, 1, 0, []), (270, .iadd, 0, 0, 0, 0, 0, []),
  (271, .putfield 211, 0, 12, 7, 0, 0, []), (274, .goto (-61), 0, 105, 0, 0, 0, []), (277, .aload_n 0, 0, 0, 0, 0, 0, []), (278, .invokevirtual 235, 0, 0, 1, 0, 0, [(0, 0), (0, 0)]),
  (281, .return_, 0, 0, 0, 0, 0, [])]
noncomputable def fX12_token_130 (N : Nat) (k105 : Wd → Option (Wd)) (s0 : Int32) (w : Wd) : Option (Wd) :=
  k105 (setI (setI w 16 0 9 s0) 16 0 7 ((gI (setI w 16 0 9 s0) 16 0 7) + (1 : Int32)))
noncomputable def fX12_token_105 (N : Nat) : Nat → Wd → Option (Wd)
  | 0, _ => none
  | n + 1, w =>
    (callW (pX12_isDigit N (gI w 16 0 7)) w).bind fun r1 =>
    if r1.1 = 0 then some r1.2 else
    if (99999 : Int32) < (gI r1.2 16 0 9) then callW (fX12_token_130 N (fX12_token_105 N n) (gI r1.2 16 0 9)) r1.2 else
    (ldI r1.2 73 0 (gI r1.2 16 0 7) 900).bind fun x2 =>
    callW (fX12_token_130 N (fX12_token_105 N n) ((((10 : Int32) * (gI r1.2 16 0 9)) + x2) - (48 : Int32))) r1.2
noncomputable def fX12_token_80 (N : Nat) (s0 : Int32) (w : Wd) : Option (Wd) :=
  if (gI (setI w 16 0 8 s0) 16 0 8) = (2 : Int32) then
    (callW (pX12_packed N (gI (setI w 16 0 8 s0) 16 0 10) (gI (setI w 16 0 8 s0) 16 0 7)) (setI w 16 0 8 s0)).bind fun r1 =>
    some (setI r1.2 16 0 9 r1.1)
  else
  some (setI w 16 0 8 s0)
noncomputable def fX12_token_56 (N : Nat) (w : Wd) : Option (Wd) :=
  (callW (pX12_wordAt N (gI w 16 0 10) (gI w 16 0 7)) w).bind fun r1 =>
  if (gI (setI r1.2 16 0 9 r1.1) 16 0 9) < 0 then
    if (6 : Int32) < ((gI (setI r1.2 16 0 9 r1.1) 16 0 7) - (gI (setI r1.2 16 0 9 r1.1) 16 0 10)) then callW (fX12_token_80 N (6 : Int32)) (setI r1.2 16 0 9 r1.1) else
    callW (fX12_token_80 N (2 : Int32)) (setI r1.2 16 0 9 r1.1)
  else
  callW (fX12_token_80 N (1 : Int32)) (setI r1.2 16 0 9 r1.1)
noncomputable def fX12_token_44 (N : Nat) : Nat → (Wd → Option (Wd)) → Wd → Option (Wd)
  | 0, _, _ => none
  | n + 1, k56, w =>
    (callW (pX12_isSmall N (gI w 16 0 7)) w).bind fun r1 =>
    if r1.1 = 0 then k56 r1.2 else
    callW (fX12_token_44 N n k56) (setI r1.2 16 0 7 ((gI r1.2 16 0 7) + (1 : Int32)))
noncomputable def fX12_token_26 (N : Nat) (w : Wd) : Option (Wd) :=
  if (gI (setI w 16 0 10 (gI w 16 0 7)) 16 0 7) = (gI (setI w 16 0 10 (gI w 16 0 7)) 16 0 6) then some (setI (setI w 16 0 10 (gI w 16 0 7)) 16 0 8 (0 : Int32)) else
  (callW (pX12_isSmall N (gI (setI w 16 0 10 (gI w 16 0 7)) 16 0 7)) (setI w 16 0 10 (gI w 16 0 7))).bind fun r1 =>
  if r1.1 = 0 then
    (callW (pX12_isDigit N (gI r1.2 16 0 7)) r1.2).bind fun r2 =>
    if r2.1 = 0 then
      (callW (pX12_signToken N) r2.2).bind fun w3 =>
      some w3
    else
    callW (fX12_token_105 N N) (setI (setI r2.2 16 0 8 (3 : Int32)) 16 0 9 (0 : Int32))
  else
  callW (fX12_token_44 N N (fX12_token_56 N)) r1.2
noncomputable def fX12_token_0 (N : Nat) : Nat → (Wd → Option (Wd)) → Wd → Option (Wd)
  | 0, _, _ => none
  | n + 1, k26, w =>
    if (gI w 16 0 7) < (gI w 16 0 6) then
      (ldI w 73 0 (gI w 16 0 7) 900).bind fun x1 =>
      if x1 = (10 : Int32) then callW (fX12_token_0 N n k26) (setI w 16 0 7 ((gI w 16 0 7) + (1 : Int32))) else
      (ldI w 73 0 (gI w 16 0 7) 900).bind fun x2 =>
      if x2 = (32 : Int32) then callW (fX12_token_0 N n k26) (setI w 16 0 7 ((gI w 16 0 7) + (1 : Int32))) else
      k26 w
    else
    k26 w
noncomputable def pX12_token (N : Nat) (w : Wd) : Option (Wd) :=
  callW (fX12_token_0 N N (fX12_token_26 N)) w
noncomputable def mX12_token (N : Nat) (as : List AV) (w : Wd) : Option (Wd) := xS1 16 as fun t => xN1 t (callW (pX12_token N) w)
set_option maxRecDepth 100000 in
set_option maxHeartbeats 4000000 in
theorem kX12_token : TK cX12_token RX12 1 tX12_token := ⟨by decide +kernel, wok_of [1607, 1606, 1600, 1607, 1600, 1607, 1607, 1607, 1607, 1610, 1607, 1606, 1608, 1607, 1607, 1607, 1607, 1610, 1607, 1609, 1609, 1607, 1610, 1608, 1608, 1610, 1607, 1609, 1607, 1608, 1609, 1607, 1609, 1958, 1609, 1609, 1600, 1607, 1609, 1607, 1607] (by decide +kernel) (by decide +kernel)⟩
set_option maxRecDepth 100000 in
set_option maxHeartbeats 4000000 in
theorem sX12_token_130 {N : Nat} {X : XT} (G : GX X cX12_token RX12) (hn : xnL X = 1) (hC : CRs X tX12_token (oF [(mX12_isSmall N), (mX12_wordAt N), (mX12_packed N), (mX12_isDigit N)]) (oF []) (oF [(mX12_signToken N)])) {r : Wd} (hr : RTV X cX12_token r)  : ∀ (k105 : Wd → Option (Wd)) (s0 : Int32) (w : Wd), fX12_token_130 N k105 s0 w = some r → (∀ (w : Wd), k105 w = some r → WW X (pcAt tX12_token 105) [some (.inr (.inr (16, 0)))] [] w) → WW X (pcAt tX12_token 130) [some (.inr (.inr (16, 0)))] [.inl s0, .inr (.inr (16, 0))] w := by
  intro k105 s0 w h h105
  refine run_sound (r := r) (X := X) (cc := cX12_token) (own := RX12) (tab := tX12_token) G (by rw [hn]; exact kX12_token) (oI := (oF [(mX12_isSmall N), (mX12_wordAt N), (mX12_packed N), (mX12_isDigit N)])) (oL := (oF [])) (oV := (oF [(mX12_signToken N)])) (rI := (fun _ _ => none)) (rL := (fun _ _ => none)) (rV := (fun w => some w))
    (K := (fun j ls st w => if j = 105 then (st0 st (k105 w)) else none)) (fun _ _ _ _ hx => by cases hx) (fun _ _ _ _ hx => by cases hx) (fun w pc ls hx hd => hr w pc ls (Option.some.inj hx) hd) hC (fun ls => lsb [some (.inr (.inr (16, 0)))] 0 ls) (keepsP_of rfl) ?_ 143 130 [some (.inr (.inr (16, 0)))] [.inl s0, .inr (.inr (16, 0))] w ?_ h
  · intro j ls st w hfx h
    obtain ⟨e0, -⟩ : _ = _ ∧ True := hfx
    try dsimp only at h
    by_cases hj : j = 105
    · subst hj
      rw [if_pos rfl] at h
      obtain ⟨rfl, h_1⟩ := st0_some h
      clear h
      have h := h_1
      try rw [callW_eq] at h
      exact WW.le (a := [some (.inr (.inr (16, 0)))]) (by rw [hn]; rfl) (show _ = _ ∧ True from ⟨e0, trivial⟩) (h105 w h)
    rw [if_neg hj] at h
    cases h
  · exact (show _ = _ ∧ True from ⟨rfl, trivial⟩)
set_option maxRecDepth 100000 in
set_option maxHeartbeats 4000000 in
theorem sX12_token_105 {N : Nat} {X : XT} (G : GX X cX12_token RX12) (hn : xnL X = 1) (hC : CRs X tX12_token (oF [(mX12_isSmall N), (mX12_wordAt N), (mX12_packed N), (mX12_isDigit N)]) (oF []) (oF [(mX12_signToken N)])) {r : Wd} (hr : RTV X cX12_token r)  : ∀ (n : Nat) (w : Wd), fX12_token_105 N n w = some r → WW X (pcAt tX12_token 105) [some (.inr (.inr (16, 0)))] [] w := by
  intro n
  induction n with
  | zero => intro w h; cases h
  | succ n ih =>
    intro w h
    refine run_sound (r := r) (X := X) (cc := cX12_token) (own := RX12) (tab := tX12_token) G (by rw [hn]; exact kX12_token) (oI := (oF [(mX12_isSmall N), (mX12_wordAt N), (mX12_packed N), (mX12_isDigit N)])) (oL := (oF [])) (oV := (oF [(mX12_signToken N)])) (rI := (fun _ _ => none)) (rL := (fun _ _ => none)) (rV := (fun w => some w))
      (K := (fun j ls st w => if j = 130 then (po1 st fun s0 st => pr1 st fun kk qq st => if kk = 16 ∧ qq = 0 then st0 st (callW (fX12_token_130 N (fX12_token_105 N n) s0) w) else none) else none)) (fun _ _ _ _ hx => by cases hx) (fun _ _ _ _ hx => by cases hx) (fun w pc ls hx hd => hr w pc ls (Option.some.inj hx) hd) hC (fun ls => lsb [some (.inr (.inr (16, 0)))] 0 ls) (keepsP_of rfl) ?_ 143 105 [some (.inr (.inr (16, 0)))] [] w ?_ h
    · intro j ls st w hfx h
      obtain ⟨e0, -⟩ : _ = _ ∧ True := hfx
      try dsimp only at h
      by_cases hj : j = 130
      · subst hj
        rw [if_pos rfl] at h
        obtain ⟨s0, st0, rfl, h_1⟩ := po1_some h
        obtain ⟨kkk1, s1, st1, rfl, h_2⟩ := pr1_some h_1
        obtain ⟨⟨rfl, rfl⟩, h_3⟩ := if_some _ h_2
        obtain ⟨rfl, h_4⟩ := st0_some h_3
        clear h h_1 h_2 h_3
        have h := h_4
        try rw [callW_eq] at h
        exact WW.le (a := [some (.inr (.inr (16, 0)))]) (by rw [hn]; rfl) (show _ = _ ∧ True from ⟨e0, trivial⟩) (sX12_token_130 G hn hC hr (fX12_token_105 N n) s0 w h (fun w h => (ih w h)))
      rw [if_neg hj] at h
      cases h
    · exact (show _ = _ ∧ True from ⟨rfl, trivial⟩)
set_option maxRecDepth 100000 in
set_option maxHeartbeats 4000000 in
theorem sX12_token_80 {N : Nat} {X : XT} (G : GX X cX12_token RX12) (hn : xnL X = 1) (hC : CRs X tX12_token (oF [(mX12_isSmall N), (mX12_wordAt N), (mX12_packed N), (mX12_isDigit N)]) (oF []) (oF [(mX12_signToken N)])) {r : Wd} (hr : RTV X cX12_token r)  : ∀ (s0 : Int32) (w : Wd), fX12_token_80 N s0 w = some r → WW X (pcAt tX12_token 80) [some (.inr (.inr (16, 0)))] [.inl s0, .inr (.inr (16, 0))] w := by
  intro s0 w h
  refine run_sound (r := r) (X := X) (cc := cX12_token) (own := RX12) (tab := tX12_token) G (by rw [hn]; exact kX12_token) (oI := (oF [(mX12_isSmall N), (mX12_wordAt N), (mX12_packed N), (mX12_isDigit N)])) (oL := (oF [])) (oV := (oF [(mX12_signToken N)])) (rI := (fun _ _ => none)) (rL := (fun _ _ => none)) (rV := (fun w => some w))
    (K := (fun j ls st w => none)) (fun _ _ _ _ hx => by cases hx) (fun _ _ _ _ hx => by cases hx) (fun w pc ls hx hd => hr w pc ls (Option.some.inj hx) hd) hC (fun ls => lsb [some (.inr (.inr (16, 0)))] 0 ls) (keepsP_of rfl) ?_ 143 80 [some (.inr (.inr (16, 0)))] [.inl s0, .inr (.inr (16, 0))] w ?_ h
  · intro j ls st w hfx h
    obtain ⟨e0, -⟩ : _ = _ ∧ True := hfx
    try dsimp only at h
    cases h
  · exact (show _ = _ ∧ True from ⟨rfl, trivial⟩)
set_option maxRecDepth 100000 in
set_option maxHeartbeats 4000000 in
theorem sX12_token_56 {N : Nat} {X : XT} (G : GX X cX12_token RX12) (hn : xnL X = 1) (hC : CRs X tX12_token (oF [(mX12_isSmall N), (mX12_wordAt N), (mX12_packed N), (mX12_isDigit N)]) (oF []) (oF [(mX12_signToken N)])) {r : Wd} (hr : RTV X cX12_token r)  : ∀ (w : Wd), fX12_token_56 N w = some r → WW X (pcAt tX12_token 56) [some (.inr (.inr (16, 0)))] [] w := by
  intro w h
  refine run_sound (r := r) (X := X) (cc := cX12_token) (own := RX12) (tab := tX12_token) G (by rw [hn]; exact kX12_token) (oI := (oF [(mX12_isSmall N), (mX12_wordAt N), (mX12_packed N), (mX12_isDigit N)])) (oL := (oF [])) (oV := (oF [(mX12_signToken N)])) (rI := (fun _ _ => none)) (rL := (fun _ _ => none)) (rV := (fun w => some w))
    (K := (fun j ls st w => if j = 80 then (po1 st fun s0 st => pr1 st fun kk qq st => if kk = 16 ∧ qq = 0 then st0 st (callW (fX12_token_80 N s0) w) else none) else none)) (fun _ _ _ _ hx => by cases hx) (fun _ _ _ _ hx => by cases hx) (fun w pc ls hx hd => hr w pc ls (Option.some.inj hx) hd) hC (fun ls => lsb [some (.inr (.inr (16, 0)))] 0 ls) (keepsP_of rfl) ?_ 143 56 [some (.inr (.inr (16, 0)))] [] w ?_ h
  · intro j ls st w hfx h
    obtain ⟨e0, -⟩ : _ = _ ∧ True := hfx
    try dsimp only at h
    by_cases hj : j = 80
    · subst hj
      rw [if_pos rfl] at h
      obtain ⟨s0, st0, rfl, h_1⟩ := po1_some h
      obtain ⟨kkk1, s1, st1, rfl, h_2⟩ := pr1_some h_1
      obtain ⟨⟨rfl, rfl⟩, h_3⟩ := if_some _ h_2
      obtain ⟨rfl, h_4⟩ := st0_some h_3
      clear h h_1 h_2 h_3
      have h := h_4
      try rw [callW_eq] at h
      exact WW.le (a := [some (.inr (.inr (16, 0)))]) (by rw [hn]; rfl) (show _ = _ ∧ True from ⟨e0, trivial⟩) (sX12_token_80 G hn hC hr s0 w h)
    rw [if_neg hj] at h
    cases h
  · exact (show _ = _ ∧ True from ⟨rfl, trivial⟩)
set_option maxRecDepth 100000 in
set_option maxHeartbeats 4000000 in
theorem sX12_token_44 {N : Nat} {X : XT} (G : GX X cX12_token RX12) (hn : xnL X = 1) (hC : CRs X tX12_token (oF [(mX12_isSmall N), (mX12_wordAt N), (mX12_packed N), (mX12_isDigit N)]) (oF []) (oF [(mX12_signToken N)])) {r : Wd} (hr : RTV X cX12_token r)  : ∀ (n : Nat) (k56 : Wd → Option (Wd)) (w : Wd), fX12_token_44 N n k56 w = some r → (∀ (w : Wd), k56 w = some r → WW X (pcAt tX12_token 56) [some (.inr (.inr (16, 0)))] [] w) → WW X (pcAt tX12_token 44) [some (.inr (.inr (16, 0)))] [] w := by
  intro n
  induction n with
  | zero => intro k56 w h h56; cases h
  | succ n ih =>
    intro k56 w h h56
    refine run_sound (r := r) (X := X) (cc := cX12_token) (own := RX12) (tab := tX12_token) G (by rw [hn]; exact kX12_token) (oI := (oF [(mX12_isSmall N), (mX12_wordAt N), (mX12_packed N), (mX12_isDigit N)])) (oL := (oF [])) (oV := (oF [(mX12_signToken N)])) (rI := (fun _ _ => none)) (rL := (fun _ _ => none)) (rV := (fun w => some w))
      (K := (fun j ls st w => if j = 44 then (st0 st (callW (fX12_token_44 N n k56) w)) else if j = 56 then (st0 st (k56 w)) else none)) (fun _ _ _ _ hx => by cases hx) (fun _ _ _ _ hx => by cases hx) (fun w pc ls hx hd => hr w pc ls (Option.some.inj hx) hd) hC (fun ls => lsb [some (.inr (.inr (16, 0)))] 0 ls) (keepsP_of rfl) ?_ 143 44 [some (.inr (.inr (16, 0)))] [] w ?_ h
    · intro j ls st w hfx h
      obtain ⟨e0, -⟩ : _ = _ ∧ True := hfx
      try dsimp only at h
      by_cases hj : j = 44
      · subst hj
        rw [if_pos rfl] at h
        obtain ⟨rfl, h_1⟩ := st0_some h
        clear h
        have h := h_1
        try rw [callW_eq] at h
        exact WW.le (a := [some (.inr (.inr (16, 0)))]) (by rw [hn]; rfl) (show _ = _ ∧ True from ⟨e0, trivial⟩) (ih k56 w h h56)
      rw [if_neg hj] at h
      by_cases hj : j = 56
      · subst hj
        rw [if_pos rfl] at h
        obtain ⟨rfl, h_1⟩ := st0_some h
        clear h
        have h := h_1
        try rw [callW_eq] at h
        exact WW.le (a := [some (.inr (.inr (16, 0)))]) (by rw [hn]; rfl) (show _ = _ ∧ True from ⟨e0, trivial⟩) (h56 w h)
      rw [if_neg hj] at h
      cases h
    · exact (show _ = _ ∧ True from ⟨rfl, trivial⟩)
set_option maxRecDepth 100000 in
set_option maxHeartbeats 4000000 in
theorem sX12_token_26 {N : Nat} {X : XT} (G : GX X cX12_token RX12) (hn : xnL X = 1) (hC : CRs X tX12_token (oF [(mX12_isSmall N), (mX12_wordAt N), (mX12_packed N), (mX12_isDigit N)]) (oF []) (oF [(mX12_signToken N)])) {r : Wd} (hr : RTV X cX12_token r)  : ∀ (w : Wd), fX12_token_26 N w = some r → WW X (pcAt tX12_token 26) [some (.inr (.inr (16, 0)))] [] w := by
  intro w h
  refine run_sound (r := r) (X := X) (cc := cX12_token) (own := RX12) (tab := tX12_token) G (by rw [hn]; exact kX12_token) (oI := (oF [(mX12_isSmall N), (mX12_wordAt N), (mX12_packed N), (mX12_isDigit N)])) (oL := (oF [])) (oV := (oF [(mX12_signToken N)])) (rI := (fun _ _ => none)) (rL := (fun _ _ => none)) (rV := (fun w => some w))
    (K := (fun j ls st w => if j = 44 then (st0 st (callW (fX12_token_44 N N (fX12_token_56 N)) w)) else if j = 105 then (st0 st (callW (fX12_token_105 N N) w)) else none)) (fun _ _ _ _ hx => by cases hx) (fun _ _ _ _ hx => by cases hx) (fun w pc ls hx hd => hr w pc ls (Option.some.inj hx) hd) hC (fun ls => lsb [some (.inr (.inr (16, 0)))] 0 ls) (keepsP_of rfl) ?_ 143 26 [some (.inr (.inr (16, 0)))] [] w ?_ h
  · intro j ls st w hfx h
    obtain ⟨e0, -⟩ : _ = _ ∧ True := hfx
    try dsimp only at h
    by_cases hj : j = 44
    · subst hj
      rw [if_pos rfl] at h
      obtain ⟨rfl, h_1⟩ := st0_some h
      clear h
      have h := h_1
      try rw [callW_eq] at h
      exact WW.le (a := [some (.inr (.inr (16, 0)))]) (by rw [hn]; rfl) (show _ = _ ∧ True from ⟨e0, trivial⟩) (sX12_token_44 G hn hC hr N (fX12_token_56 N) w h (fun w h => (sX12_token_56 G hn hC hr w h)))
    rw [if_neg hj] at h
    by_cases hj : j = 105
    · subst hj
      rw [if_pos rfl] at h
      obtain ⟨rfl, h_1⟩ := st0_some h
      clear h
      have h := h_1
      try rw [callW_eq] at h
      exact WW.le (a := [some (.inr (.inr (16, 0)))]) (by rw [hn]; rfl) (show _ = _ ∧ True from ⟨e0, trivial⟩) (sX12_token_105 G hn hC hr N w h)
    rw [if_neg hj] at h
    cases h
  · exact (show _ = _ ∧ True from ⟨rfl, trivial⟩)
set_option maxRecDepth 100000 in
set_option maxHeartbeats 4000000 in
theorem sX12_token_0 {N : Nat} {X : XT} (G : GX X cX12_token RX12) (hn : xnL X = 1) (hC : CRs X tX12_token (oF [(mX12_isSmall N), (mX12_wordAt N), (mX12_packed N), (mX12_isDigit N)]) (oF []) (oF [(mX12_signToken N)])) {r : Wd} (hr : RTV X cX12_token r)  : ∀ (n : Nat) (k26 : Wd → Option (Wd)) (w : Wd), fX12_token_0 N n k26 w = some r → (∀ (w : Wd), k26 w = some r → WW X (pcAt tX12_token 26) [some (.inr (.inr (16, 0)))] [] w) → WW X (pcAt tX12_token 0) [some (.inr (.inr (16, 0)))] [] w := by
  intro n
  induction n with
  | zero => intro k26 w h h26; cases h
  | succ n ih =>
    intro k26 w h h26
    refine run_sound (r := r) (X := X) (cc := cX12_token) (own := RX12) (tab := tX12_token) G (by rw [hn]; exact kX12_token) (oI := (oF [(mX12_isSmall N), (mX12_wordAt N), (mX12_packed N), (mX12_isDigit N)])) (oL := (oF [])) (oV := (oF [(mX12_signToken N)])) (rI := (fun _ _ => none)) (rL := (fun _ _ => none)) (rV := (fun w => some w))
      (K := (fun j ls st w => if j = 0 then (st0 st (callW (fX12_token_0 N n k26) w)) else if j = 26 then (st0 st (k26 w)) else none)) (fun _ _ _ _ hx => by cases hx) (fun _ _ _ _ hx => by cases hx) (fun w pc ls hx hd => hr w pc ls (Option.some.inj hx) hd) hC (fun ls => lsb [some (.inr (.inr (16, 0)))] 0 ls) (keepsP_of rfl) ?_ 143 0 [some (.inr (.inr (16, 0)))] [] w ?_ h
    · intro j ls st w hfx h
      obtain ⟨e0, -⟩ : _ = _ ∧ True := hfx
      try dsimp only at h
      by_cases hj : j = 0
      · subst hj
        rw [if_pos rfl] at h
        obtain ⟨rfl, h_1⟩ := st0_some h
        clear h
        have h := h_1
        try rw [callW_eq] at h
        exact WW.le (a := [some (.inr (.inr (16, 0)))]) (by rw [hn]; rfl) (show _ = _ ∧ True from ⟨e0, trivial⟩) (ih k26 w h h26)
      rw [if_neg hj] at h
      by_cases hj : j = 26
      · subst hj
        rw [if_pos rfl] at h
        obtain ⟨rfl, h_1⟩ := st0_some h
        clear h
        have h := h_1
        try rw [callW_eq] at h
        exact WW.le (a := [some (.inr (.inr (16, 0)))]) (by rw [hn]; rfl) (show _ = _ ∧ True from ⟨e0, trivial⟩) (h26 w h)
      rw [if_neg hj] at h
      cases h
    · exact (show _ = _ ∧ True from ⟨rfl, trivial⟩)
set_option maxRecDepth 100000 in
set_option maxHeartbeats 4000000 in
theorem crX12_token {N : Nat} {X : XT} (G : GX X cX12_token RX12) (hR : xR X = rmL 2) : CRs X tX12_token (oF [(mX12_isSmall N), (mX12_wordAt N), (mX12_packed N), (mX12_isDigit N)]) (oF []) (oF [(mX12_signToken N)]) := by
  have hl : tX12_token.filter isInv = [(84, .invokevirtual 217, 0, 0, 2, 0, 0, []), (95, .invokevirtual 217, 0, 0, 2, 0, 0, []), (124, .invokevirtual 221, 0, 1, 3, 0, 0, []), (183, .invokevirtual 228, 0, 2, 3, 0, 0, []), (197, .invokevirtual 231, 0, 3, 2, 0, 0, []), (218, .invokevirtual 231, 0, 3, 2, 0, 0, []), (278, .invokevirtual 235, 0, 0, 1, 0, 0, [(0, 0), (0, 0)])] := rfl
  intro e he
  rw [hl] at he
  simp only [List.mem_cons, List.not_mem_nil, or_false] at he
  rcases he with rfl | rfl | rfl | rfl | rfl | rfl | rfl
  · exact crI_V (idx := 217) G (by decide +kernel) (MX12_isSmall N) (cw_of (ps := [1942, 1944, 77, 164, 1945]) (by decide +kernel) (by decide +kernel)) ⟨by decide +kernel, by decide +kernel, by decide +kernel⟩ (by unfold rmOk; rw [hR]; exact ⟨by decide, by decide⟩)
  · exact crI_V (idx := 217) G (by decide +kernel) (MX12_isSmall N) (cw_of (ps := [1942, 1944, 77, 164, 1945]) (by decide +kernel) (by decide +kernel)) ⟨by decide +kernel, by decide +kernel, by decide +kernel⟩ (by unfold rmOk; rw [hR]; exact ⟨by decide, by decide⟩)
  · exact crI_V (idx := 221) G (by decide +kernel) (MX12_wordAt N) (cw_of (ps := [1946, 1948, 78, 164, 1949]) (by decide +kernel) (by decide +kernel)) ⟨by decide +kernel, by decide +kernel, by decide +kernel⟩ (by unfold rmOk; rw [hR]; exact ⟨by decide, by decide⟩)
  · exact crI_V (idx := 228) G (by decide +kernel) (MX12_packed N) (cw_of (ps := [1950, 1952, 79, 164, 1953]) (by decide +kernel) (by decide +kernel)) ⟨by decide +kernel, by decide +kernel, by decide +kernel⟩ (by unfold rmOk; rw [hR]; exact ⟨by decide, by decide⟩)
  · exact crI_V (idx := 231) G (by decide +kernel) (MX12_isDigit N) (cw_of (ps := [1954, 1956, 80, 164, 1957]) (by decide +kernel) (by decide +kernel)) ⟨by decide +kernel, by decide +kernel, by decide +kernel⟩ (by unfold rmOk; rw [hR]; exact ⟨by decide, by decide⟩)
  · exact crI_V (idx := 231) G (by decide +kernel) (MX12_isDigit N) (cw_of (ps := [1954, 1956, 80, 164, 1957]) (by decide +kernel) (by decide +kernel)) ⟨by decide +kernel, by decide +kernel, by decide +kernel⟩ (by unfold rmOk; rw [hR]; exact ⟨by decide, by decide⟩)
  · exact crV_V (idx := 235) G (by decide +kernel) (MX12_signToken N) (cw_of (ps := [1959, 1961, 81, 164, 1962]) (by decide +kernel) (by decide +kernel)) ⟨by decide +kernel, by decide +kernel, by decide +kernel⟩ (by unfold rmOk; rw [hR]; exact ⟨by decide, by decide⟩)
set_option maxRecDepth 100000 in
set_option maxHeartbeats 4000000 in
theorem MX12_token (N : Nat) : SndV yX12_token cX12_token 1 none 2 1 true (mX12_token N) := by
  refine SndV.of tX12_token (by decide +kernel) rfl rfl ?_ ?_
  · intro as w x h
    obtain ⟨t1, rfl, h_1⟩ := xS1_some h
    obtain ⟨rfl, h_2⟩ := xN1_some h_1
    clear h h_1
    have h := h_2
    rw [callW_eq] at h
    exact ⟨fun _ => ⟨_, _, _, rfl, rfl, _, rfl, rfl⟩, rfl, Nat.le_of_ble_eq_true rfl⟩
  · intro X G hn hR as w r h hr
    have hC := crX12_token (N := N) G hR
    obtain ⟨t1, rfl, h_1⟩ := xS1_some h
    obtain ⟨rfl, h_2⟩ := xN1_some h_1
    clear h h_1
    have h := h_2
    rw [callW_eq] at h
    unfold pX12_token at h
    rw [callW_eq] at h
    have k0 := sX12_token_0 G hn hC hr N (fX12_token_26 N) w h (fun w h => (sX12_token_26 G hn hC hr w h))
    exact WW.le (a := [some (.inr (.inr (16, 0)))]) (by rw [hn]; rfl) (show _ = _ ∧ True from ⟨rfl, trivial⟩) k0
-- MoorGuidesModel.isKey(I)Z
def tX12_isKey : List EN := [
  (0, .aload_n 0, 0, 0, 0, 0, 0, []), (1, .getfield 214, 0, 12, 8, 0, 0, []), (4, .iconst 1, 0, 0, 0, 1, 0, []), (5, .if_icmp .ne 15, 0, 10, 0, 0, 0, []),
  (8, .aload_n 0, 0, 0, 0, 0, 0, []), (9, .getfield 225, 0, 12, 9, 0, 0, []), (12, .iload_n 1, 0, 0, 0, 0, 0, []), (13, .if_icmp .ne 7, 0, 10, 0, 0, 0, []),
  (16, .iconst 1, 0, 0, 0, 1, 0, []), (17, .goto 4, 0, 11, 0, 0, 0, []), (20, .iconst 0, 0, 0, 0, 0, 0, []), (21, .ireturn, 0, 0, 0, 0, 0, [])]
noncomputable def pX12_isKey (N : Nat) (a1 : Int32) (w : Wd) : Option (Int32 × Wd) :=
  if (gI w 16 0 8) = (1 : Int32) then
    if (gI w 16 0 9) = a1 then some ((1 : Int32), w) else
    some ((0 : Int32), w)
  else
  some ((0 : Int32), w)
noncomputable def mX12_isKey (N : Nat) (as : List AV) (w : Wd) : Option (Int32 × Wd) := xS1 16 as fun t => xI1 t fun a1 t => xN1 t (callW (pX12_isKey N a1) w)
set_option maxRecDepth 100000 in
set_option maxHeartbeats 4000000 in
theorem kX12_isKey : TK cX12_isKey RX12 2 tX12_isKey := ⟨by decide +kernel, wok_of [1608, 1609] (by decide +kernel) (by decide +kernel)⟩
set_option maxRecDepth 100000 in
set_option maxHeartbeats 4000000 in
theorem crX12_isKey {N : Nat} {X : XT} (G : GX X cX12_isKey RX12) (hR : xR X = rmL 1) : CRs X tX12_isKey (oF []) (oF []) (oF []) := by
  have hl : tX12_isKey.filter isInv = [] := rfl
  intro e he
  rw [hl] at he
  cases he
set_option maxRecDepth 100000 in
set_option maxHeartbeats 4000000 in
theorem MX12_isKey (N : Nat) : SndI yX12_isKey cX12_isKey 2 (some .boolean) 1 2 true (mX12_isKey N) := by
  refine SndI.ofZ tX12_isKey (by decide +kernel) rfl rfl ?_ ?_
  · intro as w x h
    obtain ⟨t1, rfl, h_1⟩ := xS1_some h
    obtain ⟨a1, t2, rfl, h_2⟩ := xI1_some h_1
    obtain ⟨rfl, h_3⟩ := xN1_some h_2
    clear h h_1 h_2
    have h := h_3
    rw [callW_eq] at h
    exact ⟨fun _ => ⟨_, _, _, rfl, rfl, _, rfl, rfl⟩, rfl, Nat.le_of_ble_eq_true rfl⟩
  · intro X G hn hR as w r h hr
    have hC := crX12_isKey (N := N) G hR
    obtain ⟨t1, rfl, h_1⟩ := xS1_some h
    obtain ⟨a1, t2, rfl, h_2⟩ := xI1_some h_1
    obtain ⟨rfl, h_3⟩ := xN1_some h_2
    clear h h_1 h_2
    have h := h_3
    rw [callW_eq] at h
    refine run_sound (r := r) (X := X) (cc := cX12_isKey) (own := RX12) (tab := tX12_isKey) G (by rw [hn]; exact kX12_isKey) (oI := (oF [])) (oL := (oF [])) (oV := (oF [])) (rI := retZ) (rL := (fun _ _ => none)) (rV := (fun _ => none))
      (K := (fun j ls st w => none)) hr (fun _ _ _ _ hx => by cases hx) (fun _ _ _ hx => by cases hx) hC (fun ls => lsb [some (.inr (.inr (16, 0))), some (.inl a1)] 0 ls) (keepsP_of rfl) ?_ 14 0 [some (.inr (.inr (16, 0))), some (.inl a1)] [] w ?_ h
    · intro j ls st w hfx h
      obtain ⟨e0, e1, -⟩ : _ = _ ∧ _ = _ ∧ True := hfx
      try dsimp only at h
      cases h
    · exact (show _ = _ ∧ _ = _ ∧ True from ⟨rfl, rfl, trivial⟩)
-- MoorGuidesModel.isSign(I)Z
def tX12_isSign : List EN := [
  (0, .aload_n 0, 0, 0, 0, 0, 0, []), (1, .getfield 214, 0, 12, 8, 0, 0, []), (4, .iconst 4, 0, 0, 0, 4, 0, []), (5, .if_icmp .ne 15, 0, 10, 0, 0, 0, []),
  (8, .aload_n 0, 0, 0, 0, 0, 0, []), (9, .getfield 225, 0, 12, 9, 0, 0, []), (12, .iload_n 1, 0, 0, 0, 0, 0, []), (13, .if_icmp .ne 7, 0, 10, 0, 0, 0, []),
  (16, .iconst 1, 0, 0, 0, 1, 0, []), (17, .goto 4, 0, 11, 0, 0, 0, []), (20, .iconst 0, 0, 0, 0, 0, 0, []), (21, .ireturn, 0, 0, 0, 0, 0, [])]
noncomputable def pX12_isSign (N : Nat) (a1 : Int32) (w : Wd) : Option (Int32 × Wd) :=
  if (gI w 16 0 8) = (4 : Int32) then
    if (gI w 16 0 9) = a1 then some ((1 : Int32), w) else
    some ((0 : Int32), w)
  else
  some ((0 : Int32), w)
noncomputable def mX12_isSign (N : Nat) (as : List AV) (w : Wd) : Option (Int32 × Wd) := xS1 16 as fun t => xI1 t fun a1 t => xN1 t (callW (pX12_isSign N a1) w)
set_option maxRecDepth 100000 in
set_option maxHeartbeats 4000000 in
theorem kX12_isSign : TK cX12_isSign RX12 2 tX12_isSign := ⟨by decide +kernel, wok_of [1608, 1609] (by decide +kernel) (by decide +kernel)⟩
set_option maxRecDepth 100000 in
set_option maxHeartbeats 4000000 in
theorem crX12_isSign {N : Nat} {X : XT} (G : GX X cX12_isSign RX12) (hR : xR X = rmL 1) : CRs X tX12_isSign (oF []) (oF []) (oF []) := by
  have hl : tX12_isSign.filter isInv = [] := rfl
  intro e he
  rw [hl] at he
  cases he
set_option maxRecDepth 100000 in
set_option maxHeartbeats 4000000 in
theorem MX12_isSign (N : Nat) : SndI yX12_isSign cX12_isSign 2 (some .boolean) 1 2 true (mX12_isSign N) := by
  refine SndI.ofZ tX12_isSign (by decide +kernel) rfl rfl ?_ ?_
  · intro as w x h
    obtain ⟨t1, rfl, h_1⟩ := xS1_some h
    obtain ⟨a1, t2, rfl, h_2⟩ := xI1_some h_1
    obtain ⟨rfl, h_3⟩ := xN1_some h_2
    clear h h_1 h_2
    have h := h_3
    rw [callW_eq] at h
    exact ⟨fun _ => ⟨_, _, _, rfl, rfl, _, rfl, rfl⟩, rfl, Nat.le_of_ble_eq_true rfl⟩
  · intro X G hn hR as w r h hr
    have hC := crX12_isSign (N := N) G hR
    obtain ⟨t1, rfl, h_1⟩ := xS1_some h
    obtain ⟨a1, t2, rfl, h_2⟩ := xI1_some h_1
    obtain ⟨rfl, h_3⟩ := xN1_some h_2
    clear h h_1 h_2
    have h := h_3
    rw [callW_eq] at h
    refine run_sound (r := r) (X := X) (cc := cX12_isSign) (own := RX12) (tab := tX12_isSign) G (by rw [hn]; exact kX12_isSign) (oI := (oF [])) (oL := (oF [])) (oV := (oF [])) (rI := retZ) (rL := (fun _ _ => none)) (rV := (fun _ => none))
      (K := (fun j ls st w => none)) hr (fun _ _ _ _ hx => by cases hx) (fun _ _ _ hx => by cases hx) hC (fun ls => lsb [some (.inr (.inr (16, 0))), some (.inl a1)] 0 ls) (keepsP_of rfl) ?_ 14 0 [some (.inr (.inr (16, 0))), some (.inl a1)] [] w ?_ h
    · intro j ls st w hfx h
      obtain ⟨e0, e1, -⟩ : _ = _ ∧ _ = _ ∧ True := hfx
      try dsimp only at h
      cases h
    · exact (show _ = _ ∧ _ = _ ∧ True from ⟨rfl, rfl, trivial⟩)
-- MoorGuidesModel.number(II)Z
def tX12_number : List EN := [
  (0, .aload_n 0, 0, 0, 0, 0, 0, []), (1, .getfield 214, 0, 12, 8, 0, 0, []), (4, .iconst 3, 0, 0, 0, 3, 0, []), (5, .if_icmp .eq 9, 0, 8, 0, 0, 0, []),
  (8, .aload_n 0, 0, 0, 0, 0, 0, []), (9, .iconst 1, 0, 0, 0, 1, 0, []), (10, .invokevirtual 238, 0, 0, 2, 0, 0, []), (13, .ireturn, 0, 0, 0, 0, 0, []),
  (14, .aload_n 0, 0, 0, 0, 0, 0, []), (15, .getfield 225, 0, 12, 9, 0, 0, []), (18, .iload_n 1, 0, 0, 0, 0, 0, []), (19, .iload_n 2, 0, 0, 0, 0, 0, []),
  (20, .invokestatic 241, 0, 1, 3, 0, 0, []), (23, .ifCond .ne 9, 0, 18, 0, 0, 0, []), (26, .aload_n 0, 0, 0, 0, 0, 0, []), (27, .iconst 2, 0, 0, 0, 2, 0, []),
  (28, .invokevirtual 238, 0, 0, 2, 0, 0, []), (31, .ireturn, 0, 0, 0, 0, 0, []), (32, .aload_n 0, 0, 0, 0, 0, 0, []), (33, .aload_n 0, 0, 0, 0, 0, 0, []),
  (34, .getfield 225, 0, 12, 9, 0, 0, []), (37, .putfield 245, 0, 12, 11, 0, 0, []), (40, .aload_n 0, 0, 0, 0, 0, 0, []), (41, .invokevirtual 248, 0, 0, 1, 0, 0, [(0, 0), (0, 0)]),
  (44, .iconst 1, 0, 0, 0, 1, 0, []), (45, .ireturn, 0, 0, 0, 0, 0, [])]
noncomputable def pX12_number (N : Nat) (a1 : Int32) (a2 : Int32) (w : Wd) : Option (Int32 × Wd) :=
  if (gI w 16 0 8) = (3 : Int32) then
    (callW (pX12_isIn N (gI w 16 0 9) a1 a2) w).bind fun r1 =>
    if r1.1 = 0 then
      (callW (pX12_wrong N (2 : Int32)) r1.2).bind fun r2 =>
      retZ r2.1 r2.2
    else
    (callW (pX12_token N) (setI r1.2 16 0 11 (gI r1.2 16 0 9))).bind fun w3 =>
    some ((1 : Int32), w3)
  else
  (callW (pX12_wrong N (1 : Int32)) w).bind fun r4 =>
  retZ r4.1 r4.2
noncomputable def mX12_number (N : Nat) (as : List AV) (w : Wd) : Option (Int32 × Wd) := xS1 16 as fun t => xI1 t fun a1 t => xI1 t fun a2 t => xN1 t (callW (pX12_number N a1 a2) w)
set_option maxRecDepth 100000 in
set_option maxHeartbeats 4000000 in
theorem kX12_number : TK cX12_number RX12 3 tX12_number := ⟨by decide +kernel, wok_of [1608, 1609, 1609, 1611] (by decide +kernel) (by decide +kernel)⟩
set_option maxRecDepth 100000 in
set_option maxHeartbeats 4000000 in
theorem crX12_number {N : Nat} {X : XT} (G : GX X cX12_number RX12) (hR : xR X = rmL 3) : CRs X tX12_number (oF [(mX12_wrong N), (mX12_isIn N)]) (oF []) (oF [(mX12_token N)]) := by
  have hl : tX12_number.filter isInv = [(10, .invokevirtual 238, 0, 0, 2, 0, 0, []), (20, .invokestatic 241, 0, 1, 3, 0, 0, []), (28, .invokevirtual 238, 0, 0, 2, 0, 0, []), (41, .invokevirtual 248, 0, 0, 1, 0, 0, [(0, 0), (0, 0)])] := rfl
  intro e he
  rw [hl] at he
  simp only [List.mem_cons, List.not_mem_nil, or_false] at he
  rcases he with rfl | rfl | rfl | rfl
  · exact crI_V (idx := 238) G (by decide +kernel) (MX12_wrong N) (cw_of (ps := [1967, 1969, 83, 164, 1970]) (by decide +kernel) (by decide +kernel)) ⟨by decide +kernel, by decide +kernel, by decide +kernel⟩ (by unfold rmOk; rw [hR]; exact ⟨by decide, by decide⟩)
  · exact crI_S (idx := 241) G (by decide +kernel) (MX12_isIn N) (cw_of (ps := [1986, 1987, 164, 1988]) (by decide +kernel) (by decide +kernel)) ⟨by decide +kernel, by decide +kernel, by decide +kernel⟩ (by unfold rmOk; rw [hR]; exact ⟨by decide, by decide⟩)
  · exact crI_V (idx := 238) G (by decide +kernel) (MX12_wrong N) (cw_of (ps := [1967, 1969, 83, 164, 1970]) (by decide +kernel) (by decide +kernel)) ⟨by decide +kernel, by decide +kernel, by decide +kernel⟩ (by unfold rmOk; rw [hR]; exact ⟨by decide, by decide⟩)
  · exact crV_V (idx := 248) G (by decide +kernel) (MX12_token N) (cw_of (ps := [1938, 1940, 76, 164, 1941]) (by decide +kernel) (by decide +kernel)) ⟨by decide +kernel, by decide +kernel, by decide +kernel⟩ (by unfold rmOk; rw [hR]; exact ⟨by decide, by decide⟩)
set_option maxRecDepth 100000 in
set_option maxHeartbeats 4000000 in
theorem MX12_number (N : Nat) : SndI yX12_number cX12_number 3 (some .boolean) 3 3 true (mX12_number N) := by
  refine SndI.ofZ tX12_number (by decide +kernel) rfl rfl ?_ ?_
  · intro as w x h
    obtain ⟨t1, rfl, h_1⟩ := xS1_some h
    obtain ⟨a1, t2, rfl, h_2⟩ := xI1_some h_1
    obtain ⟨a2, t3, rfl, h_3⟩ := xI1_some h_2
    obtain ⟨rfl, h_4⟩ := xN1_some h_3
    clear h h_1 h_2 h_3
    have h := h_4
    rw [callW_eq] at h
    exact ⟨fun _ => ⟨_, _, _, rfl, rfl, _, rfl, rfl⟩, rfl, Nat.le_of_ble_eq_true rfl⟩
  · intro X G hn hR as w r h hr
    have hC := crX12_number (N := N) G hR
    obtain ⟨t1, rfl, h_1⟩ := xS1_some h
    obtain ⟨a1, t2, rfl, h_2⟩ := xI1_some h_1
    obtain ⟨a2, t3, rfl, h_3⟩ := xI1_some h_2
    obtain ⟨rfl, h_4⟩ := xN1_some h_3
    clear h h_1 h_2 h_3
    have h := h_4
    rw [callW_eq] at h
    refine run_sound (r := r) (X := X) (cc := cX12_number) (own := RX12) (tab := tX12_number) G (by rw [hn]; exact kX12_number) (oI := (oF [(mX12_wrong N), (mX12_isIn N)])) (oL := (oF [])) (oV := (oF [(mX12_token N)])) (rI := retZ) (rL := (fun _ _ => none)) (rV := (fun _ => none))
      (K := (fun j ls st w => none)) hr (fun _ _ _ _ hx => by cases hx) (fun _ _ _ hx => by cases hx) hC (fun ls => lsb [some (.inr (.inr (16, 0))), some (.inl a1), some (.inl a2)] 0 ls) (keepsP_of rfl) ?_ 28 0 [some (.inr (.inr (16, 0))), some (.inl a1), some (.inl a2)] [] w ?_ h
    · intro j ls st w hfx h
      obtain ⟨e0, e1, e2, -⟩ : _ = _ ∧ _ = _ ∧ _ = _ ∧ True := hfx
      try dsimp only at h
      cases h
    · exact (show _ = _ ∧ _ = _ ∧ _ = _ ∧ True from ⟨rfl, rfl, rfl, trivial⟩)
-- MoorGuidesModel.plain()V
def tX12_plain : List EN := [
  (0, .aload_n 0, 0, 0, 0, 0, 0, []), (1, .iconst 0, 0, 0, 0, 0, 0, []), (2, .putfield 258, 0, 12, 20, 0, 0, []), (5, .aload_n 0, 0, 0, 0, 0, 0, []),
  (6, .iconst 0, 0, 0, 0, 0, 0, []), (7, .putfield 261, 0, 12, 21, 0, 0, []), (10, .aload_n 0, 0, 0, 0, 0, 0, []), (11, .iconst 0, 0, 0, 0, 0, 0, []),
  (12, .putfield 264, 0, 12, 22, 0, 0, []), (15, .aload_n 0, 0, 0, 0, 0, 0, []), (16, .iconst 0, 0, 0, 0, 0, 0, []), (17, .putfield 267, 0, 12, 23, 0, 0, []),
  (20, .aload_n 0, 0, 0, 0, 0, 0, []), (21, .iconst 0, 0, 0, 0, 0, 0, []), (22, .putfield 270, 0, 12, 24, 0, 0, []), (25, .aload_n 0, 0, 0, 0, 0, 0, []),
  (26, .iconst 0, 0, 0, 0, 0, 0, []), (27, .putfield 273, 0, 12, 25, 0, 0, []), (30, .aload_n 0, 0, 0, 0, 0, 0, []), (31, .iconst 0, 0, 0, 0, 0, 0, []),
  (32, .putfield 276, 0, 12, 26, 0, 0, []), (35, .aload_n 0, 0, 0, 0, 0, 0, []), (36, .iconst 0, 0, 0, 0, 0, 0, []), (37, .putfield 279, 0, 12, 27, 0, 0, []),
  (40, .aload_n 0, 0, 0, 0, 0, 0, []), (41, .iconst 0, 0, 0, 0, 0, 0, []), (42, .putfield 282, 0, 12, 58, 0, 0, []), (45, .aload_n 0, 0, 0, 0, 0, 0, []),
  (46, .iconst 0, 0, 0, 0, 0, 0, []), (47, .putfield 285, 0, 12, 28, 0, 0, [(0, 0)]), (50, .aload_n 0, 0, 0, 0, 0, 0, []), (51, .iconst 0, 0, 0, 0, 0, 0, []),
  (52, .putfield 289, 0, 12, 29, 0, 0, [(0, 0)]), (55, .aload_n 0, 0, 0, 0, 0, 0, []), (56, .iconst 0, 0, 0, 0, 0, 0, []), (57, .putfield 292, 0, 12, 30, 0, 0, [(0, 0)]),
  (60, .aload_n 0, 0, 0, 0, 0, 0, []), (61, .getfield 68, 0, 12, 47, 0, 0, []), (64, .iconst 2, 0, 0, 0, 2, 0, []), (65, .iconst 0, 0, 0, 0, 0, 0, []),
  (66, .bastore, 0, 0, 0, 0, 0, []), (67, .aload_n 0, 0, 0, 0, 0, 0, []), (68, .getfield 68, 0, 12, 47, 0, 0, []), (71, .iconst 3, 0, 0, 0, 3, 0, []),
  (72, .iconst 0, 0, 0, 0, 0, 0, []), (73, .bastore, 0, 0, 0, 0, 0, []), (74, .return_, 0, 0, 0, 0, 0, [])]
noncomputable def pX12_plain (N : Nat) (w : Wd) : Option (Wd) :=
  let w1 : Wd := (setI (setI (setI (setI (setI (setI w 16 0 20 (0 : Int32)) 16 0 21 (0 : Int32)) 16 0 22 (0 : Int32)) 16 0 23 (0 : Int32)) 16 0 24 (0 : Int32)) 16 0 25 (0 : Int32))
  let w2 : Wd := (setI (setI (setI (setI (setI (setI w1 16 0 26 (0 : Int32)) 16 0 27 (0 : Int32)) 16 0 58 (0 : Int32)) 16 0 28 (0 : Int32)) 16 0 29 (0 : Int32)) 16 0 30 (0 : Int32))
  (stI w2 91 0 (2 : Int32) 4 ((0 : Int32) &&& 1)).bind fun w3 =>
  (stI w3 91 0 (3 : Int32) 4 ((0 : Int32) &&& 1)).bind fun w4 =>
  some w4
noncomputable def mX12_plain (N : Nat) (as : List AV) (w : Wd) : Option (Wd) := xS1 16 as fun t => xN1 t (callW (pX12_plain N) w)
set_option maxRecDepth 100000 in
set_option maxHeartbeats 4000000 in
theorem kX12_plain : TK cX12_plain RX12 1 tX12_plain := ⟨by decide +kernel, wok_of [1620, 1621, 1622, 1623, 1624, 1625, 1626, 1627, 1658, 1628, 1629, 1630, 1647, 1647] (by decide +kernel) (by decide +kernel)⟩
set_option maxRecDepth 100000 in
set_option maxHeartbeats 4000000 in
theorem crX12_plain {N : Nat} {X : XT} (G : GX X cX12_plain RX12) (hR : xR X = rmL 1) : CRs X tX12_plain (oF []) (oF []) (oF []) := by
  have hl : tX12_plain.filter isInv = [] := rfl
  intro e he
  rw [hl] at he
  cases he
set_option maxRecDepth 100000 in
set_option maxHeartbeats 4000000 in
theorem MX12_plain (N : Nat) : SndV yX12_plain cX12_plain 1 none 1 1 true (mX12_plain N) := by
  refine SndV.of tX12_plain (by decide +kernel) rfl rfl ?_ ?_
  · intro as w x h
    obtain ⟨t1, rfl, h_1⟩ := xS1_some h
    obtain ⟨rfl, h_2⟩ := xN1_some h_1
    clear h h_1
    have h := h_2
    rw [callW_eq] at h
    exact ⟨fun _ => ⟨_, _, _, rfl, rfl, _, rfl, rfl⟩, rfl, Nat.le_of_ble_eq_true rfl⟩
  · intro X G hn hR as w r h hr
    have hC := crX12_plain (N := N) G hR
    obtain ⟨t1, rfl, h_1⟩ := xS1_some h
    obtain ⟨rfl, h_2⟩ := xN1_some h_1
    clear h h_1
    have h := h_2
    rw [callW_eq] at h
    refine run_sound (r := r) (X := X) (cc := cX12_plain) (own := RX12) (tab := tX12_plain) G (by rw [hn]; exact kX12_plain) (oI := (oF [])) (oL := (oF [])) (oV := (oF [])) (rI := (fun _ _ => none)) (rL := (fun _ _ => none)) (rV := (fun w => some w))
      (K := (fun j ls st w => none)) (fun _ _ _ _ hx => by cases hx) (fun _ _ _ _ hx => by cases hx) (fun w pc ls hx hd => hr w pc ls (Option.some.inj hx) hd) hC (fun ls => lsb [some (.inr (.inr (16, 0)))] 0 ls) (keepsP_of rfl) ?_ 49 0 [some (.inr (.inr (16, 0)))] [] w ?_ h
    · intro j ls st w hfx h
      obtain ⟨e0, -⟩ : _ = _ ∧ True := hfx
      try dsimp only at h
      cases h
    · exact (show _ = _ ∧ True from ⟨rfl, trivial⟩)
-- MoorGuidesModel.copies([II)V
def tX12_copies : List EN := [
  (0, .iconst 0, 0, 0, 0, 0, 0, []), (1, .istore_n 2, 0, 0, 0, 0, 0, []), (2, .iload_n 2, 3, 0, 0, 0, 0, []), (3, .iload_n 1, 0, 0, 0, 0, 0, []),
  (4, .if_icmp .ge 17, 0, 15, 0, 0, 0, []), (7, .aload_n 0, 0, 0, 0, 0, 0, []), (8, .iload_n 2, 0, 0, 0, 0, 0, []), (9, .aload_n 0, 0, 0, 0, 0, 0, []),
  (10, .iload_n 1, 0, 0, 0, 0, 0, []), (11, .iload_n 2, 0, 0, 0, 0, 0, []), (12, .iadd, 0, 0, 0, 0, 0, []), (13, .iaload, 0, 0, 0, 0, 0, []),
  (14, .iastore, 0, 0, 0, 0, 0, []), (15, .iinc 2 1, 0, 0, 0, 1, 0, []), (18, .goto (-16), 0, 2, 0, 0, 0, []), (21, .return_, 0, 0, 0, 0, 0, [])]
noncomputable def fX12_copies_2 (N : Nat) (k0 : Nat) (i0 : Nat) (a1 : Int32) : Nat → Int32 → Wd → Option (Wd)
  | 0, _, _ => none
  | n + 1, v2, w =>
    if v2 < a1 then
      (ldI w k0 i0 (a1 + v2) (ln k0 i0)).bind fun x1 =>
      (stI w k0 i0 v2 (ln k0 i0) x1).bind fun w2 =>
      callW (fX12_copies_2 N k0 i0 a1 n (v2 + (1 : Int32))) w2
    else
    some w
noncomputable def pX12_copies (N : Nat) (k0 : Nat) (i0 : Nat) (a1 : Int32) (w : Wd) : Option (Wd) :=
  callW (fX12_copies_2 N k0 i0 a1 N (0 : Int32)) w
noncomputable def mX12_copies (N : Nat) (as : List AV) (w : Wd) : Option (Wd) := xA1 [75, 76, 77, 78, 79, 80, 81, 82, 83, 84, 85, 86, 87, 88, 89, 90, 92, 93, 94, 95, 96] as fun k0 i0 t => xI1 t fun a1 t => xN1 t (callW (pX12_copies N k0 i0 a1) w)
set_option maxRecDepth 100000 in
set_option maxHeartbeats 4000000 in
theorem kX12_copies : TK cX12_copies RX12 3 tX12_copies := ⟨by decide +kernel, wok_of [] (by decide +kernel) (by decide +kernel)⟩
set_option maxRecDepth 100000 in
set_option maxHeartbeats 4000000 in
theorem sX12_copies_2_k75 {N : Nat} {X : XT} (G : GX X cX12_copies RX12) (hn : xnL X = 3) (hC : CRs X tX12_copies (oF []) (oF []) (oF [])) {r : Wd} (hr : RTV X cX12_copies r) (i0 : Nat) (a1 : Int32) : ∀ (n : Nat) (v2 : Int32) (w : Wd), fX12_copies_2 N 75 i0 a1 n v2 w = some r → WW X (pcAt tX12_copies 2) [some (.inr (.inr (75, i0))), some (.inl a1), some (.inl v2)] [] w := by
  intro n
  induction n with
  | zero => intro v2 w h; cases h
  | succ n ih =>
    intro v2 w h
    refine run_sound (r := r) (X := X) (cc := cX12_copies) (own := RX12) (tab := tX12_copies) G (by rw [hn]; exact kX12_copies) (oI := (oF [])) (oL := (oF [])) (oV := (oF [])) (rI := (fun _ _ => none)) (rL := (fun _ _ => none)) (rV := (fun w => some w))
      (K := (fun j ls st w => if j = 2 then (lgI ls 2 fun v2 => st0 st (callW (fX12_copies_2 N 75 i0 a1 n v2) w)) else none)) (fun _ _ _ _ hx => by cases hx) (fun _ _ _ _ hx => by cases hx) (fun w pc ls hx hd => hr w pc ls (Option.some.inj hx) hd) hC (fun ls => lsb [some (.inr (.inr (75, i0))), some (.inl a1), none] 0 ls) (keepsP_of rfl) ?_ 18 2 [some (.inr (.inr (75, i0))), some (.inl a1), some (.inl v2)] [] w ?_ h
    · intro j ls st w hfx h
      obtain ⟨e0, e1, -⟩ : _ = _ ∧ _ = _ ∧ True := hfx
      try dsimp only at h
      by_cases hj : j = 2
      · subst hj
        rw [if_pos rfl] at h
        obtain ⟨v2, e2, h_1⟩ := lgI_some h
        obtain ⟨rfl, h_2⟩ := st0_some h_1
        clear h h_1
        have h := h_2
        try rw [callW_eq] at h
        exact WW.le (a := [some (.inr (.inr (75, i0))), some (.inl a1), some (.inl v2)]) (by rw [hn]; rfl) (show _ = _ ∧ _ = _ ∧ _ = _ ∧ True from ⟨e0, e1, e2, trivial⟩) (ih v2 w h)
      rw [if_neg hj] at h
      cases h
    · exact (show _ = _ ∧ _ = _ ∧ True from ⟨rfl, rfl, trivial⟩)
set_option maxRecDepth 100000 in
set_option maxHeartbeats 4000000 in
theorem sX12_copies_2_k76 {N : Nat} {X : XT} (G : GX X cX12_copies RX12) (hn : xnL X = 3) (hC : CRs X tX12_copies (oF []) (oF []) (oF [])) {r : Wd} (hr : RTV X cX12_copies r) (i0 : Nat) (a1 : Int32) : ∀ (n : Nat) (v2 : Int32) (w : Wd), fX12_copies_2 N 76 i0 a1 n v2 w = some r → WW X (pcAt tX12_copies 2) [some (.inr (.inr (76, i0))), some (.inl a1), some (.inl v2)] [] w := by
  intro n
  induction n with
  | zero => intro v2 w h; cases h
  | succ n ih =>
    intro v2 w h
    refine run_sound (r := r) (X := X) (cc := cX12_copies) (own := RX12) (tab := tX12_copies) G (by rw [hn]; exact kX12_copies) (oI := (oF [])) (oL := (oF [])) (oV := (oF [])) (rI := (fun _ _ => none)) (rL := (fun _ _ => none)) (rV := (fun w => some w))
      (K := (fun j ls st w => if j = 2 then (lgI ls 2 fun v2 => st0 st (callW (fX12_copies_2 N 76 i0 a1 n v2) w)) else none)) (fun _ _ _ _ hx => by cases hx) (fun _ _ _ _ hx => by cases hx) (fun w pc ls hx hd => hr w pc ls (Option.some.inj hx) hd) hC (fun ls => lsb [some (.inr (.inr (76, i0))), some (.inl a1), none] 0 ls) (keepsP_of rfl) ?_ 18 2 [some (.inr (.inr (76, i0))), some (.inl a1), some (.inl v2)] [] w ?_ h
    · intro j ls st w hfx h
      obtain ⟨e0, e1, -⟩ : _ = _ ∧ _ = _ ∧ True := hfx
      try dsimp only at h
      by_cases hj : j = 2
      · subst hj
        rw [if_pos rfl] at h
        obtain ⟨v2, e2, h_1⟩ := lgI_some h
        obtain ⟨rfl, h_2⟩ := st0_some h_1
        clear h h_1
        have h := h_2
        try rw [callW_eq] at h
        exact WW.le (a := [some (.inr (.inr (76, i0))), some (.inl a1), some (.inl v2)]) (by rw [hn]; rfl) (show _ = _ ∧ _ = _ ∧ _ = _ ∧ True from ⟨e0, e1, e2, trivial⟩) (ih v2 w h)
      rw [if_neg hj] at h
      cases h
    · exact (show _ = _ ∧ _ = _ ∧ True from ⟨rfl, rfl, trivial⟩)
set_option maxRecDepth 100000 in
set_option maxHeartbeats 4000000 in
theorem sX12_copies_2_k77 {N : Nat} {X : XT} (G : GX X cX12_copies RX12) (hn : xnL X = 3) (hC : CRs X tX12_copies (oF []) (oF []) (oF [])) {r : Wd} (hr : RTV X cX12_copies r) (i0 : Nat) (a1 : Int32) : ∀ (n : Nat) (v2 : Int32) (w : Wd), fX12_copies_2 N 77 i0 a1 n v2 w = some r → WW X (pcAt tX12_copies 2) [some (.inr (.inr (77, i0))), some (.inl a1), some (.inl v2)] [] w := by
  intro n
  induction n with
  | zero => intro v2 w h; cases h
  | succ n ih =>
    intro v2 w h
    refine run_sound (r := r) (X := X) (cc := cX12_copies) (own := RX12) (tab := tX12_copies) G (by rw [hn]; exact kX12_copies) (oI := (oF [])) (oL := (oF [])) (oV := (oF [])) (rI := (fun _ _ => none)) (rL := (fun _ _ => none)) (rV := (fun w => some w))
      (K := (fun j ls st w => if j = 2 then (lgI ls 2 fun v2 => st0 st (callW (fX12_copies_2 N 77 i0 a1 n v2) w)) else none)) (fun _ _ _ _ hx => by cases hx) (fun _ _ _ _ hx => by cases hx) (fun w pc ls hx hd => hr w pc ls (Option.some.inj hx) hd) hC (fun ls => lsb [some (.inr (.inr (77, i0))), some (.inl a1), none] 0 ls) (keepsP_of rfl) ?_ 18 2 [some (.inr (.inr (77, i0))), some (.inl a1), some (.inl v2)] [] w ?_ h
    · intro j ls st w hfx h
      obtain ⟨e0, e1, -⟩ : _ = _ ∧ _ = _ ∧ True := hfx
      try dsimp only at h
      by_cases hj : j = 2
      · subst hj
        rw [if_pos rfl] at h
        obtain ⟨v2, e2, h_1⟩ := lgI_some h
        obtain ⟨rfl, h_2⟩ := st0_some h_1
        clear h h_1
        have h := h_2
        try rw [callW_eq] at h
        exact WW.le (a := [some (.inr (.inr (77, i0))), some (.inl a1), some (.inl v2)]) (by rw [hn]; rfl) (show _ = _ ∧ _ = _ ∧ _ = _ ∧ True from ⟨e0, e1, e2, trivial⟩) (ih v2 w h)
      rw [if_neg hj] at h
      cases h
    · exact (show _ = _ ∧ _ = _ ∧ True from ⟨rfl, rfl, trivial⟩)
set_option maxRecDepth 100000 in
set_option maxHeartbeats 4000000 in
theorem sX12_copies_2_k78 {N : Nat} {X : XT} (G : GX X cX12_copies RX12) (hn : xnL X = 3) (hC : CRs X tX12_copies (oF []) (oF []) (oF [])) {r : Wd} (hr : RTV X cX12_copies r) (i0 : Nat) (a1 : Int32) : ∀ (n : Nat) (v2 : Int32) (w : Wd), fX12_copies_2 N 78 i0 a1 n v2 w = some r → WW X (pcAt tX12_copies 2) [some (.inr (.inr (78, i0))), some (.inl a1), some (.inl v2)] [] w := by
  intro n
  induction n with
  | zero => intro v2 w h; cases h
  | succ n ih =>
    intro v2 w h
    refine run_sound (r := r) (X := X) (cc := cX12_copies) (own := RX12) (tab := tX12_copies) G (by rw [hn]; exact kX12_copies) (oI := (oF [])) (oL := (oF [])) (oV := (oF [])) (rI := (fun _ _ => none)) (rL := (fun _ _ => none)) (rV := (fun w => some w))
      (K := (fun j ls st w => if j = 2 then (lgI ls 2 fun v2 => st0 st (callW (fX12_copies_2 N 78 i0 a1 n v2) w)) else none)) (fun _ _ _ _ hx => by cases hx) (fun _ _ _ _ hx => by cases hx) (fun w pc ls hx hd => hr w pc ls (Option.some.inj hx) hd) hC (fun ls => lsb [some (.inr (.inr (78, i0))), some (.inl a1), none] 0 ls) (keepsP_of rfl) ?_ 18 2 [some (.inr (.inr (78, i0))), some (.inl a1), some (.inl v2)] [] w ?_ h
    · intro j ls st w hfx h
      obtain ⟨e0, e1, -⟩ : _ = _ ∧ _ = _ ∧ True := hfx
      try dsimp only at h
      by_cases hj : j = 2
      · subst hj
        rw [if_pos rfl] at h
        obtain ⟨v2, e2, h_1⟩ := lgI_some h
        obtain ⟨rfl, h_2⟩ := st0_some h_1
        clear h h_1
        have h := h_2
        try rw [callW_eq] at h
        exact WW.le (a := [some (.inr (.inr (78, i0))), some (.inl a1), some (.inl v2)]) (by rw [hn]; rfl) (show _ = _ ∧ _ = _ ∧ _ = _ ∧ True from ⟨e0, e1, e2, trivial⟩) (ih v2 w h)
      rw [if_neg hj] at h
      cases h
    · exact (show _ = _ ∧ _ = _ ∧ True from ⟨rfl, rfl, trivial⟩)
set_option maxRecDepth 100000 in
set_option maxHeartbeats 4000000 in
theorem sX12_copies_2_k79 {N : Nat} {X : XT} (G : GX X cX12_copies RX12) (hn : xnL X = 3) (hC : CRs X tX12_copies (oF []) (oF []) (oF [])) {r : Wd} (hr : RTV X cX12_copies r) (i0 : Nat) (a1 : Int32) : ∀ (n : Nat) (v2 : Int32) (w : Wd), fX12_copies_2 N 79 i0 a1 n v2 w = some r → WW X (pcAt tX12_copies 2) [some (.inr (.inr (79, i0))), some (.inl a1), some (.inl v2)] [] w := by
  intro n
  induction n with
  | zero => intro v2 w h; cases h
  | succ n ih =>
    intro v2 w h
    refine run_sound (r := r) (X := X) (cc := cX12_copies) (own := RX12) (tab := tX12_copies) G (by rw [hn]; exact kX12_copies) (oI := (oF [])) (oL := (oF [])) (oV := (oF [])) (rI := (fun _ _ => none)) (rL := (fun _ _ => none)) (rV := (fun w => some w))
      (K := (fun j ls st w => if j = 2 then (lgI ls 2 fun v2 => st0 st (callW (fX12_copies_2 N 79 i0 a1 n v2) w)) else none)) (fun _ _ _ _ hx => by cases hx) (fun _ _ _ _ hx => by cases hx) (fun w pc ls hx hd => hr w pc ls (Option.some.inj hx) hd) hC (fun ls => lsb [some (.inr (.inr (79, i0))), some (.inl a1), none] 0 ls) (keepsP_of rfl) ?_ 18 2 [some (.inr (.inr (79, i0))), some (.inl a1), some (.inl v2)] [] w ?_ h
    · intro j ls st w hfx h
      obtain ⟨e0, e1, -⟩ : _ = _ ∧ _ = _ ∧ True := hfx
      try dsimp only at h
      by_cases hj : j = 2
      · subst hj
        rw [if_pos rfl] at h
        obtain ⟨v2, e2, h_1⟩ := lgI_some h
        obtain ⟨rfl, h_2⟩ := st0_some h_1
        clear h h_1
        have h := h_2
        try rw [callW_eq] at h
        exact WW.le (a := [some (.inr (.inr (79, i0))), some (.inl a1), some (.inl v2)]) (by rw [hn]; rfl) (show _ = _ ∧ _ = _ ∧ _ = _ ∧ True from ⟨e0, e1, e2, trivial⟩) (ih v2 w h)
      rw [if_neg hj] at h
      cases h
    · exact (show _ = _ ∧ _ = _ ∧ True from ⟨rfl, rfl, trivial⟩)
set_option maxRecDepth 100000 in
set_option maxHeartbeats 4000000 in
theorem sX12_copies_2_k80 {N : Nat} {X : XT} (G : GX X cX12_copies RX12) (hn : xnL X = 3) (hC : CRs X tX12_copies (oF []) (oF []) (oF [])) {r : Wd} (hr : RTV X cX12_copies r) (i0 : Nat) (a1 : Int32) : ∀ (n : Nat) (v2 : Int32) (w : Wd), fX12_copies_2 N 80 i0 a1 n v2 w = some r → WW X (pcAt tX12_copies 2) [some (.inr (.inr (80, i0))), some (.inl a1), some (.inl v2)] [] w := by
  intro n
  induction n with
  | zero => intro v2 w h; cases h
  | succ n ih =>
    intro v2 w h
    refine run_sound (r := r) (X := X) (cc := cX12_copies) (own := RX12) (tab := tX12_copies) G (by rw [hn]; exact kX12_copies) (oI := (oF [])) (oL := (oF [])) (oV := (oF [])) (rI := (fun _ _ => none)) (rL := (fun _ _ => none)) (rV := (fun w => some w))
      (K := (fun j ls st w => if j = 2 then (lgI ls 2 fun v2 => st0 st (callW (fX12_copies_2 N 80 i0 a1 n v2) w)) else none)) (fun _ _ _ _ hx => by cases hx) (fun _ _ _ _ hx => by cases hx) (fun w pc ls hx hd => hr w pc ls (Option.some.inj hx) hd) hC (fun ls => lsb [some (.inr (.inr (80, i0))), some (.inl a1), none] 0 ls) (keepsP_of rfl) ?_ 18 2 [some (.inr (.inr (80, i0))), some (.inl a1), some (.inl v2)] [] w ?_ h
    · intro j ls st w hfx h
      obtain ⟨e0, e1, -⟩ : _ = _ ∧ _ = _ ∧ True := hfx
      try dsimp only at h
      by_cases hj : j = 2
      · subst hj
        rw [if_pos rfl] at h
        obtain ⟨v2, e2, h_1⟩ := lgI_some h
        obtain ⟨rfl, h_2⟩ := st0_some h_1
        clear h h_1
        have h := h_2
        try rw [callW_eq] at h
        exact WW.le (a := [some (.inr (.inr (80, i0))), some (.inl a1), some (.inl v2)]) (by rw [hn]; rfl) (show _ = _ ∧ _ = _ ∧ _ = _ ∧ True from ⟨e0, e1, e2, trivial⟩) (ih v2 w h)
      rw [if_neg hj] at h
      cases h
    · exact (show _ = _ ∧ _ = _ ∧ True from ⟨rfl, rfl, trivial⟩)
set_option maxRecDepth 100000 in
set_option maxHeartbeats 4000000 in
theorem sX12_copies_2_k81 {N : Nat} {X : XT} (G : GX X cX12_copies RX12) (hn : xnL X = 3) (hC : CRs X tX12_copies (oF []) (oF []) (oF [])) {r : Wd} (hr : RTV X cX12_copies r) (i0 : Nat) (a1 : Int32) : ∀ (n : Nat) (v2 : Int32) (w : Wd), fX12_copies_2 N 81 i0 a1 n v2 w = some r → WW X (pcAt tX12_copies 2) [some (.inr (.inr (81, i0))), some (.inl a1), some (.inl v2)] [] w := by
  intro n
  induction n with
  | zero => intro v2 w h; cases h
  | succ n ih =>
    intro v2 w h
    refine run_sound (r := r) (X := X) (cc := cX12_copies) (own := RX12) (tab := tX12_copies) G (by rw [hn]; exact kX12_copies) (oI := (oF [])) (oL := (oF [])) (oV := (oF [])) (rI := (fun _ _ => none)) (rL := (fun _ _ => none)) (rV := (fun w => some w))
      (K := (fun j ls st w => if j = 2 then (lgI ls 2 fun v2 => st0 st (callW (fX12_copies_2 N 81 i0 a1 n v2) w)) else none)) (fun _ _ _ _ hx => by cases hx) (fun _ _ _ _ hx => by cases hx) (fun w pc ls hx hd => hr w pc ls (Option.some.inj hx) hd) hC (fun ls => lsb [some (.inr (.inr (81, i0))), some (.inl a1), none] 0 ls) (keepsP_of rfl) ?_ 18 2 [some (.inr (.inr (81, i0))), some (.inl a1), some (.inl v2)] [] w ?_ h
    · intro j ls st w hfx h
      obtain ⟨e0, e1, -⟩ : _ = _ ∧ _ = _ ∧ True := hfx
      try dsimp only at h
      by_cases hj : j = 2
      · subst hj
        rw [if_pos rfl] at h
        obtain ⟨v2, e2, h_1⟩ := lgI_some h
        obtain ⟨rfl, h_2⟩ := st0_some h_1
        clear h h_1
        have h := h_2
        try rw [callW_eq] at h
        exact WW.le (a := [some (.inr (.inr (81, i0))), some (.inl a1), some (.inl v2)]) (by rw [hn]; rfl) (show _ = _ ∧ _ = _ ∧ _ = _ ∧ True from ⟨e0, e1, e2, trivial⟩) (ih v2 w h)
      rw [if_neg hj] at h
      cases h
    · exact (show _ = _ ∧ _ = _ ∧ True from ⟨rfl, rfl, trivial⟩)
set_option maxRecDepth 100000 in
set_option maxHeartbeats 4000000 in
theorem sX12_copies_2_k82 {N : Nat} {X : XT} (G : GX X cX12_copies RX12) (hn : xnL X = 3) (hC : CRs X tX12_copies (oF []) (oF []) (oF [])) {r : Wd} (hr : RTV X cX12_copies r) (i0 : Nat) (a1 : Int32) : ∀ (n : Nat) (v2 : Int32) (w : Wd), fX12_copies_2 N 82 i0 a1 n v2 w = some r → WW X (pcAt tX12_copies 2) [some (.inr (.inr (82, i0))), some (.inl a1), some (.inl v2)] [] w := by
  intro n
  induction n with
  | zero => intro v2 w h; cases h
  | succ n ih =>
    intro v2 w h
    refine run_sound (r := r) (X := X) (cc := cX12_copies) (own := RX12) (tab := tX12_copies) G (by rw [hn]; exact kX12_copies) (oI := (oF [])) (oL := (oF [])) (oV := (oF [])) (rI := (fun _ _ => none)) (rL := (fun _ _ => none)) (rV := (fun w => some w))
      (K := (fun j ls st w => if j = 2 then (lgI ls 2 fun v2 => st0 st (callW (fX12_copies_2 N 82 i0 a1 n v2) w)) else none)) (fun _ _ _ _ hx => by cases hx) (fun _ _ _ _ hx => by cases hx) (fun w pc ls hx hd => hr w pc ls (Option.some.inj hx) hd) hC (fun ls => lsb [some (.inr (.inr (82, i0))), some (.inl a1), none] 0 ls) (keepsP_of rfl) ?_ 18 2 [some (.inr (.inr (82, i0))), some (.inl a1), some (.inl v2)] [] w ?_ h
    · intro j ls st w hfx h
      obtain ⟨e0, e1, -⟩ : _ = _ ∧ _ = _ ∧ True := hfx
      try dsimp only at h
      by_cases hj : j = 2
      · subst hj
        rw [if_pos rfl] at h
        obtain ⟨v2, e2, h_1⟩ := lgI_some h
        obtain ⟨rfl, h_2⟩ := st0_some h_1
        clear h h_1
        have h := h_2
        try rw [callW_eq] at h
        exact WW.le (a := [some (.inr (.inr (82, i0))), some (.inl a1), some (.inl v2)]) (by rw [hn]; rfl) (show _ = _ ∧ _ = _ ∧ _ = _ ∧ True from ⟨e0, e1, e2, trivial⟩) (ih v2 w h)
      rw [if_neg hj] at h
      cases h
    · exact (show _ = _ ∧ _ = _ ∧ True from ⟨rfl, rfl, trivial⟩)
set_option maxRecDepth 100000 in
set_option maxHeartbeats 4000000 in
theorem sX12_copies_2_k83 {N : Nat} {X : XT} (G : GX X cX12_copies RX12) (hn : xnL X = 3) (hC : CRs X tX12_copies (oF []) (oF []) (oF [])) {r : Wd} (hr : RTV X cX12_copies r) (i0 : Nat) (a1 : Int32) : ∀ (n : Nat) (v2 : Int32) (w : Wd), fX12_copies_2 N 83 i0 a1 n v2 w = some r → WW X (pcAt tX12_copies 2) [some (.inr (.inr (83, i0))), some (.inl a1), some (.inl v2)] [] w := by
  intro n
  induction n with
  | zero => intro v2 w h; cases h
  | succ n ih =>
    intro v2 w h
    refine run_sound (r := r) (X := X) (cc := cX12_copies) (own := RX12) (tab := tX12_copies) G (by rw [hn]; exact kX12_copies) (oI := (oF [])) (oL := (oF [])) (oV := (oF [])) (rI := (fun _ _ => none)) (rL := (fun _ _ => none)) (rV := (fun w => some w))
      (K := (fun j ls st w => if j = 2 then (lgI ls 2 fun v2 => st0 st (callW (fX12_copies_2 N 83 i0 a1 n v2) w)) else none)) (fun _ _ _ _ hx => by cases hx) (fun _ _ _ _ hx => by cases hx) (fun w pc ls hx hd => hr w pc ls (Option.some.inj hx) hd) hC (fun ls => lsb [some (.inr (.inr (83, i0))), some (.inl a1), none] 0 ls) (keepsP_of rfl) ?_ 18 2 [some (.inr (.inr (83, i0))), some (.inl a1), some (.inl v2)] [] w ?_ h
    · intro j ls st w hfx h
      obtain ⟨e0, e1, -⟩ : _ = _ ∧ _ = _ ∧ True := hfx
      try dsimp only at h
      by_cases hj : j = 2
      · subst hj
        rw [if_pos rfl] at h
        obtain ⟨v2, e2, h_1⟩ := lgI_some h
        obtain ⟨rfl, h_2⟩ := st0_some h_1
        clear h h_1
        have h := h_2
        try rw [callW_eq] at h
        exact WW.le (a := [some (.inr (.inr (83, i0))), some (.inl a1), some (.inl v2)]) (by rw [hn]; rfl) (show _ = _ ∧ _ = _ ∧ _ = _ ∧ True from ⟨e0, e1, e2, trivial⟩) (ih v2 w h)
      rw [if_neg hj] at h
      cases h
    · exact (show _ = _ ∧ _ = _ ∧ True from ⟨rfl, rfl, trivial⟩)
set_option maxRecDepth 100000 in
set_option maxHeartbeats 4000000 in
theorem sX12_copies_2_k84 {N : Nat} {X : XT} (G : GX X cX12_copies RX12) (hn : xnL X = 3) (hC : CRs X tX12_copies (oF []) (oF []) (oF [])) {r : Wd} (hr : RTV X cX12_copies r) (i0 : Nat) (a1 : Int32) : ∀ (n : Nat) (v2 : Int32) (w : Wd), fX12_copies_2 N 84 i0 a1 n v2 w = some r → WW X (pcAt tX12_copies 2) [some (.inr (.inr (84, i0))), some (.inl a1), some (.inl v2)] [] w := by
  intro n
  induction n with
  | zero => intro v2 w h; cases h
  | succ n ih =>
    intro v2 w h
    refine run_sound (r := r) (X := X) (cc := cX12_copies) (own := RX12) (tab := tX12_copies) G (by rw [hn]; exact kX12_copies) (oI := (oF [])) (oL := (oF [])) (oV := (oF [])) (rI := (fun _ _ => none)) (rL := (fun _ _ => none)) (rV := (fun w => some w))
      (K := (fun j ls st w => if j = 2 then (lgI ls 2 fun v2 => st0 st (callW (fX12_copies_2 N 84 i0 a1 n v2) w)) else none)) (fun _ _ _ _ hx => by cases hx) (fun _ _ _ _ hx => by cases hx) (fun w pc ls hx hd => hr w pc ls (Option.some.inj hx) hd) hC (fun ls => lsb [some (.inr (.inr (84, i0))), some (.inl a1), none] 0 ls) (keepsP_of rfl) ?_ 18 2 [some (.inr (.inr (84, i0))), some (.inl a1), some (.inl v2)] [] w ?_ h
    · intro j ls st w hfx h
      obtain ⟨e0, e1, -⟩ : _ = _ ∧ _ = _ ∧ True := hfx
      try dsimp only at h
      by_cases hj : j = 2
      · subst hj
        rw [if_pos rfl] at h
        obtain ⟨v2, e2, h_1⟩ := lgI_some h
        obtain ⟨rfl, h_2⟩ := st0_some h_1
        clear h h_1
        have h := h_2
        try rw [callW_eq] at h
        exact WW.le (a := [some (.inr (.inr (84, i0))), some (.inl a1), some (.inl v2)]) (by rw [hn]; rfl) (show _ = _ ∧ _ = _ ∧ _ = _ ∧ True from ⟨e0, e1, e2, trivial⟩) (ih v2 w h)
      rw [if_neg hj] at h
      cases h
    · exact (show _ = _ ∧ _ = _ ∧ True from ⟨rfl, rfl, trivial⟩)
set_option maxRecDepth 100000 in
set_option maxHeartbeats 4000000 in
theorem sX12_copies_2_k85 {N : Nat} {X : XT} (G : GX X cX12_copies RX12) (hn : xnL X = 3) (hC : CRs X tX12_copies (oF []) (oF []) (oF [])) {r : Wd} (hr : RTV X cX12_copies r) (i0 : Nat) (a1 : Int32) : ∀ (n : Nat) (v2 : Int32) (w : Wd), fX12_copies_2 N 85 i0 a1 n v2 w = some r → WW X (pcAt tX12_copies 2) [some (.inr (.inr (85, i0))), some (.inl a1), some (.inl v2)] [] w := by
  intro n
  induction n with
  | zero => intro v2 w h; cases h
  | succ n ih =>
    intro v2 w h
    refine run_sound (r := r) (X := X) (cc := cX12_copies) (own := RX12) (tab := tX12_copies) G (by rw [hn]; exact kX12_copies) (oI := (oF [])) (oL := (oF [])) (oV := (oF [])) (rI := (fun _ _ => none)) (rL := (fun _ _ => none)) (rV := (fun w => some w))
      (K := (fun j ls st w => if j = 2 then (lgI ls 2 fun v2 => st0 st (callW (fX12_copies_2 N 85 i0 a1 n v2) w)) else none)) (fun _ _ _ _ hx => by cases hx) (fun _ _ _ _ hx => by cases hx) (fun w pc ls hx hd => hr w pc ls (Option.some.inj hx) hd) hC (fun ls => lsb [some (.inr (.inr (85, i0))), some (.inl a1), none] 0 ls) (keepsP_of rfl) ?_ 18 2 [some (.inr (.inr (85, i0))), some (.inl a1), some (.inl v2)] [] w ?_ h
    · intro j ls st w hfx h
      obtain ⟨e0, e1, -⟩ : _ = _ ∧ _ = _ ∧ True := hfx
      try dsimp only at h
      by_cases hj : j = 2
      · subst hj
        rw [if_pos rfl] at h
        obtain ⟨v2, e2, h_1⟩ := lgI_some h
        obtain ⟨rfl, h_2⟩ := st0_some h_1
        clear h h_1
        have h := h_2
        try rw [callW_eq] at h
        exact WW.le (a := [some (.inr (.inr (85, i0))), some (.inl a1), some (.inl v2)]) (by rw [hn]; rfl) (show _ = _ ∧ _ = _ ∧ _ = _ ∧ True from ⟨e0, e1, e2, trivial⟩) (ih v2 w h)
      rw [if_neg hj] at h
      cases h
    · exact (show _ = _ ∧ _ = _ ∧ True from ⟨rfl, rfl, trivial⟩)
set_option maxRecDepth 100000 in
set_option maxHeartbeats 4000000 in
theorem sX12_copies_2_k86 {N : Nat} {X : XT} (G : GX X cX12_copies RX12) (hn : xnL X = 3) (hC : CRs X tX12_copies (oF []) (oF []) (oF [])) {r : Wd} (hr : RTV X cX12_copies r) (i0 : Nat) (a1 : Int32) : ∀ (n : Nat) (v2 : Int32) (w : Wd), fX12_copies_2 N 86 i0 a1 n v2 w = some r → WW X (pcAt tX12_copies 2) [some (.inr (.inr (86, i0))), some (.inl a1), some (.inl v2)] [] w := by
  intro n
  induction n with
  | zero => intro v2 w h; cases h
  | succ n ih =>
    intro v2 w h
    refine run_sound (r := r) (X := X) (cc := cX12_copies) (own := RX12) (tab := tX12_copies) G (by rw [hn]; exact kX12_copies) (oI := (oF [])) (oL := (oF [])) (oV := (oF [])) (rI := (fun _ _ => none)) (rL := (fun _ _ => none)) (rV := (fun w => some w))
      (K := (fun j ls st w => if j = 2 then (lgI ls 2 fun v2 => st0 st (callW (fX12_copies_2 N 86 i0 a1 n v2) w)) else none)) (fun _ _ _ _ hx => by cases hx) (fun _ _ _ _ hx => by cases hx) (fun w pc ls hx hd => hr w pc ls (Option.some.inj hx) hd) hC (fun ls => lsb [some (.inr (.inr (86, i0))), some (.inl a1), none] 0 ls) (keepsP_of rfl) ?_ 18 2 [some (.inr (.inr (86, i0))), some (.inl a1), some (.inl v2)] [] w ?_ h
    · intro j ls st w hfx h
      obtain ⟨e0, e1, -⟩ : _ = _ ∧ _ = _ ∧ True := hfx
      try dsimp only at h
      by_cases hj : j = 2
      · subst hj
        rw [if_pos rfl] at h
        obtain ⟨v2, e2, h_1⟩ := lgI_some h
        obtain ⟨rfl, h_2⟩ := st0_some h_1
        clear h h_1
        have h := h_2
        try rw [callW_eq] at h
        exact WW.le (a := [some (.inr (.inr (86, i0))), some (.inl a1), some (.inl v2)]) (by rw [hn]; rfl) (show _ = _ ∧ _ = _ ∧ _ = _ ∧ True from ⟨e0, e1, e2, trivial⟩) (ih v2 w h)
      rw [if_neg hj] at h
      cases h
    · exact (show _ = _ ∧ _ = _ ∧ True from ⟨rfl, rfl, trivial⟩)
set_option maxRecDepth 100000 in
set_option maxHeartbeats 4000000 in
theorem sX12_copies_2_k87 {N : Nat} {X : XT} (G : GX X cX12_copies RX12) (hn : xnL X = 3) (hC : CRs X tX12_copies (oF []) (oF []) (oF [])) {r : Wd} (hr : RTV X cX12_copies r) (i0 : Nat) (a1 : Int32) : ∀ (n : Nat) (v2 : Int32) (w : Wd), fX12_copies_2 N 87 i0 a1 n v2 w = some r → WW X (pcAt tX12_copies 2) [some (.inr (.inr (87, i0))), some (.inl a1), some (.inl v2)] [] w := by
  intro n
  induction n with
  | zero => intro v2 w h; cases h
  | succ n ih =>
    intro v2 w h
    refine run_sound (r := r) (X := X) (cc := cX12_copies) (own := RX12) (tab := tX12_copies) G (by rw [hn]; exact kX12_copies) (oI := (oF [])) (oL := (oF [])) (oV := (oF [])) (rI := (fun _ _ => none)) (rL := (fun _ _ => none)) (rV := (fun w => some w))
      (K := (fun j ls st w => if j = 2 then (lgI ls 2 fun v2 => st0 st (callW (fX12_copies_2 N 87 i0 a1 n v2) w)) else none)) (fun _ _ _ _ hx => by cases hx) (fun _ _ _ _ hx => by cases hx) (fun w pc ls hx hd => hr w pc ls (Option.some.inj hx) hd) hC (fun ls => lsb [some (.inr (.inr (87, i0))), some (.inl a1), none] 0 ls) (keepsP_of rfl) ?_ 18 2 [some (.inr (.inr (87, i0))), some (.inl a1), some (.inl v2)] [] w ?_ h
    · intro j ls st w hfx h
      obtain ⟨e0, e1, -⟩ : _ = _ ∧ _ = _ ∧ True := hfx
      try dsimp only at h
      by_cases hj : j = 2
      · subst hj
        rw [if_pos rfl] at h
        obtain ⟨v2, e2, h_1⟩ := lgI_some h
        obtain ⟨rfl, h_2⟩ := st0_some h_1
        clear h h_1
        have h := h_2
        try rw [callW_eq] at h
        exact WW.le (a := [some (.inr (.inr (87, i0))), some (.inl a1), some (.inl v2)]) (by rw [hn]; rfl) (show _ = _ ∧ _ = _ ∧ _ = _ ∧ True from ⟨e0, e1, e2, trivial⟩) (ih v2 w h)
      rw [if_neg hj] at h
      cases h
    · exact (show _ = _ ∧ _ = _ ∧ True from ⟨rfl, rfl, trivial⟩)
set_option maxRecDepth 100000 in
set_option maxHeartbeats 4000000 in
theorem sX12_copies_2_k88 {N : Nat} {X : XT} (G : GX X cX12_copies RX12) (hn : xnL X = 3) (hC : CRs X tX12_copies (oF []) (oF []) (oF [])) {r : Wd} (hr : RTV X cX12_copies r) (i0 : Nat) (a1 : Int32) : ∀ (n : Nat) (v2 : Int32) (w : Wd), fX12_copies_2 N 88 i0 a1 n v2 w = some r → WW X (pcAt tX12_copies 2) [some (.inr (.inr (88, i0))), some (.inl a1), some (.inl v2)] [] w := by
  intro n
  induction n with
  | zero => intro v2 w h; cases h
  | succ n ih =>
    intro v2 w h
    refine run_sound (r := r) (X := X) (cc := cX12_copies) (own := RX12) (tab := tX12_copies) G (by rw [hn]; exact kX12_copies) (oI := (oF [])) (oL := (oF [])) (oV := (oF [])) (rI := (fun _ _ => none)) (rL := (fun _ _ => none)) (rV := (fun w => some w))
      (K := (fun j ls st w => if j = 2 then (lgI ls 2 fun v2 => st0 st (callW (fX12_copies_2 N 88 i0 a1 n v2) w)) else none)) (fun _ _ _ _ hx => by cases hx) (fun _ _ _ _ hx => by cases hx) (fun w pc ls hx hd => hr w pc ls (Option.some.inj hx) hd) hC (fun ls => lsb [some (.inr (.inr (88, i0))), some (.inl a1), none] 0 ls) (keepsP_of rfl) ?_ 18 2 [some (.inr (.inr (88, i0))), some (.inl a1), some (.inl v2)] [] w ?_ h
    · intro j ls st w hfx h
      obtain ⟨e0, e1, -⟩ : _ = _ ∧ _ = _ ∧ True := hfx
      try dsimp only at h
      by_cases hj : j = 2
      · subst hj
        rw [if_pos rfl] at h
        obtain ⟨v2, e2, h_1⟩ := lgI_some h
        obtain ⟨rfl, h_2⟩ := st0_some h_1
        clear h h_1
        have h := h_2
        try rw [callW_eq] at h
        exact WW.le (a := [some (.inr (.inr (88, i0))), some (.inl a1), some (.inl v2)]) (by rw [hn]; rfl) (show _ = _ ∧ _ = _ ∧ _ = _ ∧ True from ⟨e0, e1, e2, trivial⟩) (ih v2 w h)
      rw [if_neg hj] at h
      cases h
    · exact (show _ = _ ∧ _ = _ ∧ True from ⟨rfl, rfl, trivial⟩)
set_option maxRecDepth 100000 in
set_option maxHeartbeats 4000000 in
theorem sX12_copies_2_k89 {N : Nat} {X : XT} (G : GX X cX12_copies RX12) (hn : xnL X = 3) (hC : CRs X tX12_copies (oF []) (oF []) (oF [])) {r : Wd} (hr : RTV X cX12_copies r) (i0 : Nat) (a1 : Int32) : ∀ (n : Nat) (v2 : Int32) (w : Wd), fX12_copies_2 N 89 i0 a1 n v2 w = some r → WW X (pcAt tX12_copies 2) [some (.inr (.inr (89, i0))), some (.inl a1), some (.inl v2)] [] w := by
  intro n
  induction n with
  | zero => intro v2 w h; cases h
  | succ n ih =>
    intro v2 w h
    refine run_sound (r := r) (X := X) (cc := cX12_copies) (own := RX12) (tab := tX12_copies) G (by rw [hn]; exact kX12_copies) (oI := (oF [])) (oL := (oF [])) (oV := (oF [])) (rI := (fun _ _ => none)) (rL := (fun _ _ => none)) (rV := (fun w => some w))
      (K := (fun j ls st w => if j = 2 then (lgI ls 2 fun v2 => st0 st (callW (fX12_copies_2 N 89 i0 a1 n v2) w)) else none)) (fun _ _ _ _ hx => by cases hx) (fun _ _ _ _ hx => by cases hx) (fun w pc ls hx hd => hr w pc ls (Option.some.inj hx) hd) hC (fun ls => lsb [some (.inr (.inr (89, i0))), some (.inl a1), none] 0 ls) (keepsP_of rfl) ?_ 18 2 [some (.inr (.inr (89, i0))), some (.inl a1), some (.inl v2)] [] w ?_ h
    · intro j ls st w hfx h
      obtain ⟨e0, e1, -⟩ : _ = _ ∧ _ = _ ∧ True := hfx
      try dsimp only at h
      by_cases hj : j = 2
      · subst hj
        rw [if_pos rfl] at h
        obtain ⟨v2, e2, h_1⟩ := lgI_some h
        obtain ⟨rfl, h_2⟩ := st0_some h_1
        clear h h_1
        have h := h_2
        try rw [callW_eq] at h
        exact WW.le (a := [some (.inr (.inr (89, i0))), some (.inl a1), some (.inl v2)]) (by rw [hn]; rfl) (show _ = _ ∧ _ = _ ∧ _ = _ ∧ True from ⟨e0, e1, e2, trivial⟩) (ih v2 w h)
      rw [if_neg hj] at h
      cases h
    · exact (show _ = _ ∧ _ = _ ∧ True from ⟨rfl, rfl, trivial⟩)
set_option maxRecDepth 100000 in
set_option maxHeartbeats 4000000 in
theorem sX12_copies_2_k90 {N : Nat} {X : XT} (G : GX X cX12_copies RX12) (hn : xnL X = 3) (hC : CRs X tX12_copies (oF []) (oF []) (oF [])) {r : Wd} (hr : RTV X cX12_copies r) (i0 : Nat) (a1 : Int32) : ∀ (n : Nat) (v2 : Int32) (w : Wd), fX12_copies_2 N 90 i0 a1 n v2 w = some r → WW X (pcAt tX12_copies 2) [some (.inr (.inr (90, i0))), some (.inl a1), some (.inl v2)] [] w := by
  intro n
  induction n with
  | zero => intro v2 w h; cases h
  | succ n ih =>
    intro v2 w h
    refine run_sound (r := r) (X := X) (cc := cX12_copies) (own := RX12) (tab := tX12_copies) G (by rw [hn]; exact kX12_copies) (oI := (oF [])) (oL := (oF [])) (oV := (oF [])) (rI := (fun _ _ => none)) (rL := (fun _ _ => none)) (rV := (fun w => some w))
      (K := (fun j ls st w => if j = 2 then (lgI ls 2 fun v2 => st0 st (callW (fX12_copies_2 N 90 i0 a1 n v2) w)) else none)) (fun _ _ _ _ hx => by cases hx) (fun _ _ _ _ hx => by cases hx) (fun w pc ls hx hd => hr w pc ls (Option.some.inj hx) hd) hC (fun ls => lsb [some (.inr (.inr (90, i0))), some (.inl a1), none] 0 ls) (keepsP_of rfl) ?_ 18 2 [some (.inr (.inr (90, i0))), some (.inl a1), some (.inl v2)] [] w ?_ h
    · intro j ls st w hfx h
      obtain ⟨e0, e1, -⟩ : _ = _ ∧ _ = _ ∧ True := hfx
      try dsimp only at h
      by_cases hj : j = 2
      · subst hj
        rw [if_pos rfl] at h
        obtain ⟨v2, e2, h_1⟩ := lgI_some h
        obtain ⟨rfl, h_2⟩ := st0_some h_1
        clear h h_1
        have h := h_2
        try rw [callW_eq] at h
        exact WW.le (a := [some (.inr (.inr (90, i0))), some (.inl a1), some (.inl v2)]) (by rw [hn]; rfl) (show _ = _ ∧ _ = _ ∧ _ = _ ∧ True from ⟨e0, e1, e2, trivial⟩) (ih v2 w h)
      rw [if_neg hj] at h
      cases h
    · exact (show _ = _ ∧ _ = _ ∧ True from ⟨rfl, rfl, trivial⟩)
set_option maxRecDepth 100000 in
set_option maxHeartbeats 4000000 in
theorem sX12_copies_2_k92 {N : Nat} {X : XT} (G : GX X cX12_copies RX12) (hn : xnL X = 3) (hC : CRs X tX12_copies (oF []) (oF []) (oF [])) {r : Wd} (hr : RTV X cX12_copies r) (i0 : Nat) (a1 : Int32) : ∀ (n : Nat) (v2 : Int32) (w : Wd), fX12_copies_2 N 92 i0 a1 n v2 w = some r → WW X (pcAt tX12_copies 2) [some (.inr (.inr (92, i0))), some (.inl a1), some (.inl v2)] [] w := by
  intro n
  induction n with
  | zero => intro v2 w h; cases h
  | succ n ih =>
    intro v2 w h
    refine run_sound (r := r) (X := X) (cc := cX12_copies) (own := RX12) (tab := tX12_copies) G (by rw [hn]; exact kX12_copies) (oI := (oF [])) (oL := (oF [])) (oV := (oF [])) (rI := (fun _ _ => none)) (rL := (fun _ _ => none)) (rV := (fun w => some w))
      (K := (fun j ls st w => if j = 2 then (lgI ls 2 fun v2 => st0 st (callW (fX12_copies_2 N 92 i0 a1 n v2) w)) else none)) (fun _ _ _ _ hx => by cases hx) (fun _ _ _ _ hx => by cases hx) (fun w pc ls hx hd => hr w pc ls (Option.some.inj hx) hd) hC (fun ls => lsb [some (.inr (.inr (92, i0))), some (.inl a1), none] 0 ls) (keepsP_of rfl) ?_ 18 2 [some (.inr (.inr (92, i0))), some (.inl a1), some (.inl v2)] [] w ?_ h
    · intro j ls st w hfx h
      obtain ⟨e0, e1, -⟩ : _ = _ ∧ _ = _ ∧ True := hfx
      try dsimp only at h
      by_cases hj : j = 2
      · subst hj
        rw [if_pos rfl] at h
        obtain ⟨v2, e2, h_1⟩ := lgI_some h
        obtain ⟨rfl, h_2⟩ := st0_some h_1
        clear h h_1
        have h := h_2
        try rw [callW_eq] at h
        exact WW.le (a := [some (.inr (.inr (92, i0))), some (.inl a1), some (.inl v2)]) (by rw [hn]; rfl) (show _ = _ ∧ _ = _ ∧ _ = _ ∧ True from ⟨e0, e1, e2, trivial⟩) (ih v2 w h)
      rw [if_neg hj] at h
      cases h
    · exact (show _ = _ ∧ _ = _ ∧ True from ⟨rfl, rfl, trivial⟩)
set_option maxRecDepth 100000 in
set_option maxHeartbeats 4000000 in
theorem sX12_copies_2_k93 {N : Nat} {X : XT} (G : GX X cX12_copies RX12) (hn : xnL X = 3) (hC : CRs X tX12_copies (oF []) (oF []) (oF [])) {r : Wd} (hr : RTV X cX12_copies r) (i0 : Nat) (a1 : Int32) : ∀ (n : Nat) (v2 : Int32) (w : Wd), fX12_copies_2 N 93 i0 a1 n v2 w = some r → WW X (pcAt tX12_copies 2) [some (.inr (.inr (93, i0))), some (.inl a1), some (.inl v2)] [] w := by
  intro n
  induction n with
  | zero => intro v2 w h; cases h
  | succ n ih =>
    intro v2 w h
    refine run_sound (r := r) (X := X) (cc := cX12_copies) (own := RX12) (tab := tX12_copies) G (by rw [hn]; exact kX12_copies) (oI := (oF [])) (oL := (oF [])) (oV := (oF [])) (rI := (fun _ _ => none)) (rL := (fun _ _ => none)) (rV := (fun w => some w))
      (K := (fun j ls st w => if j = 2 then (lgI ls 2 fun v2 => st0 st (callW (fX12_copies_2 N 93 i0 a1 n v2) w)) else none)) (fun _ _ _ _ hx => by cases hx) (fun _ _ _ _ hx => by cases hx) (fun w pc ls hx hd => hr w pc ls (Option.some.inj hx) hd) hC (fun ls => lsb [some (.inr (.inr (93, i0))), some (.inl a1), none] 0 ls) (keepsP_of rfl) ?_ 18 2 [some (.inr (.inr (93, i0))), some (.inl a1), some (.inl v2)] [] w ?_ h
    · intro j ls st w hfx h
      obtain ⟨e0, e1, -⟩ : _ = _ ∧ _ = _ ∧ True := hfx
      try dsimp only at h
      by_cases hj : j = 2
      · subst hj
        rw [if_pos rfl] at h
        obtain ⟨v2, e2, h_1⟩ := lgI_some h
        obtain ⟨rfl, h_2⟩ := st0_some h_1
        clear h h_1
        have h := h_2
        try rw [callW_eq] at h
        exact WW.le (a := [some (.inr (.inr (93, i0))), some (.inl a1), some (.inl v2)]) (by rw [hn]; rfl) (show _ = _ ∧ _ = _ ∧ _ = _ ∧ True from ⟨e0, e1, e2, trivial⟩) (ih v2 w h)
      rw [if_neg hj] at h
      cases h
    · exact (show _ = _ ∧ _ = _ ∧ True from ⟨rfl, rfl, trivial⟩)
set_option maxRecDepth 100000 in
set_option maxHeartbeats 4000000 in
theorem sX12_copies_2_k94 {N : Nat} {X : XT} (G : GX X cX12_copies RX12) (hn : xnL X = 3) (hC : CRs X tX12_copies (oF []) (oF []) (oF [])) {r : Wd} (hr : RTV X cX12_copies r) (i0 : Nat) (a1 : Int32) : ∀ (n : Nat) (v2 : Int32) (w : Wd), fX12_copies_2 N 94 i0 a1 n v2 w = some r → WW X (pcAt tX12_copies 2) [some (.inr (.inr (94, i0))), some (.inl a1), some (.inl v2)] [] w := by
  intro n
  induction n with
  | zero => intro v2 w h; cases h
  | succ n ih =>
    intro v2 w h
    refine run_sound (r := r) (X := X) (cc := cX12_copies) (own := RX12) (tab := tX12_copies) G (by rw [hn]; exact kX12_copies) (oI := (oF [])) (oL := (oF [])) (oV := (oF [])) (rI := (fun _ _ => none)) (rL := (fun _ _ => none)) (rV := (fun w => some w))
      (K := (fun j ls st w => if j = 2 then (lgI ls 2 fun v2 => st0 st (callW (fX12_copies_2 N 94 i0 a1 n v2) w)) else none)) (fun _ _ _ _ hx => by cases hx) (fun _ _ _ _ hx => by cases hx) (fun w pc ls hx hd => hr w pc ls (Option.some.inj hx) hd) hC (fun ls => lsb [some (.inr (.inr (94, i0))), some (.inl a1), none] 0 ls) (keepsP_of rfl) ?_ 18 2 [some (.inr (.inr (94, i0))), some (.inl a1), some (.inl v2)] [] w ?_ h
    · intro j ls st w hfx h
      obtain ⟨e0, e1, -⟩ : _ = _ ∧ _ = _ ∧ True := hfx
      try dsimp only at h
      by_cases hj : j = 2
      · subst hj
        rw [if_pos rfl] at h
        obtain ⟨v2, e2, h_1⟩ := lgI_some h
        obtain ⟨rfl, h_2⟩ := st0_some h_1
        clear h h_1
        have h := h_2
        try rw [callW_eq] at h
        exact WW.le (a := [some (.inr (.inr (94, i0))), some (.inl a1), some (.inl v2)]) (by rw [hn]; rfl) (show _ = _ ∧ _ = _ ∧ _ = _ ∧ True from ⟨e0, e1, e2, trivial⟩) (ih v2 w h)
      rw [if_neg hj] at h
      cases h
    · exact (show _ = _ ∧ _ = _ ∧ True from ⟨rfl, rfl, trivial⟩)
set_option maxRecDepth 100000 in
set_option maxHeartbeats 4000000 in
theorem sX12_copies_2_k95 {N : Nat} {X : XT} (G : GX X cX12_copies RX12) (hn : xnL X = 3) (hC : CRs X tX12_copies (oF []) (oF []) (oF [])) {r : Wd} (hr : RTV X cX12_copies r) (i0 : Nat) (a1 : Int32) : ∀ (n : Nat) (v2 : Int32) (w : Wd), fX12_copies_2 N 95 i0 a1 n v2 w = some r → WW X (pcAt tX12_copies 2) [some (.inr (.inr (95, i0))), some (.inl a1), some (.inl v2)] [] w := by
  intro n
  induction n with
  | zero => intro v2 w h; cases h
  | succ n ih =>
    intro v2 w h
    refine run_sound (r := r) (X := X) (cc := cX12_copies) (own := RX12) (tab := tX12_copies) G (by rw [hn]; exact kX12_copies) (oI := (oF [])) (oL := (oF [])) (oV := (oF [])) (rI := (fun _ _ => none)) (rL := (fun _ _ => none)) (rV := (fun w => some w))
      (K := (fun j ls st w => if j = 2 then (lgI ls 2 fun v2 => st0 st (callW (fX12_copies_2 N 95 i0 a1 n v2) w)) else none)) (fun _ _ _ _ hx => by cases hx) (fun _ _ _ _ hx => by cases hx) (fun w pc ls hx hd => hr w pc ls (Option.some.inj hx) hd) hC (fun ls => lsb [some (.inr (.inr (95, i0))), some (.inl a1), none] 0 ls) (keepsP_of rfl) ?_ 18 2 [some (.inr (.inr (95, i0))), some (.inl a1), some (.inl v2)] [] w ?_ h
    · intro j ls st w hfx h
      obtain ⟨e0, e1, -⟩ : _ = _ ∧ _ = _ ∧ True := hfx
      try dsimp only at h
      by_cases hj : j = 2
      · subst hj
        rw [if_pos rfl] at h
        obtain ⟨v2, e2, h_1⟩ := lgI_some h
        obtain ⟨rfl, h_2⟩ := st0_some h_1
        clear h h_1
        have h := h_2
        try rw [callW_eq] at h
        exact WW.le (a := [some (.inr (.inr (95, i0))), some (.inl a1), some (.inl v2)]) (by rw [hn]; rfl) (show _ = _ ∧ _ = _ ∧ _ = _ ∧ True from ⟨e0, e1, e2, trivial⟩) (ih v2 w h)
      rw [if_neg hj] at h
      cases h
    · exact (show _ = _ ∧ _ = _ ∧ True from ⟨rfl, rfl, trivial⟩)
set_option maxRecDepth 100000 in
set_option maxHeartbeats 4000000 in
theorem sX12_copies_2_k96 {N : Nat} {X : XT} (G : GX X cX12_copies RX12) (hn : xnL X = 3) (hC : CRs X tX12_copies (oF []) (oF []) (oF [])) {r : Wd} (hr : RTV X cX12_copies r) (i0 : Nat) (a1 : Int32) : ∀ (n : Nat) (v2 : Int32) (w : Wd), fX12_copies_2 N 96 i0 a1 n v2 w = some r → WW X (pcAt tX12_copies 2) [some (.inr (.inr (96, i0))), some (.inl a1), some (.inl v2)] [] w := by
  intro n
  induction n with
  | zero => intro v2 w h; cases h
  | succ n ih =>
    intro v2 w h
    refine run_sound (r := r) (X := X) (cc := cX12_copies) (own := RX12) (tab := tX12_copies) G (by rw [hn]; exact kX12_copies) (oI := (oF [])) (oL := (oF [])) (oV := (oF [])) (rI := (fun _ _ => none)) (rL := (fun _ _ => none)) (rV := (fun w => some w))
      (K := (fun j ls st w => if j = 2 then (lgI ls 2 fun v2 => st0 st (callW (fX12_copies_2 N 96 i0 a1 n v2) w)) else none)) (fun _ _ _ _ hx => by cases hx) (fun _ _ _ _ hx => by cases hx) (fun w pc ls hx hd => hr w pc ls (Option.some.inj hx) hd) hC (fun ls => lsb [some (.inr (.inr (96, i0))), some (.inl a1), none] 0 ls) (keepsP_of rfl) ?_ 18 2 [some (.inr (.inr (96, i0))), some (.inl a1), some (.inl v2)] [] w ?_ h
    · intro j ls st w hfx h
      obtain ⟨e0, e1, -⟩ : _ = _ ∧ _ = _ ∧ True := hfx
      try dsimp only at h
      by_cases hj : j = 2
      · subst hj
        rw [if_pos rfl] at h
        obtain ⟨v2, e2, h_1⟩ := lgI_some h
        obtain ⟨rfl, h_2⟩ := st0_some h_1
        clear h h_1
        have h := h_2
        try rw [callW_eq] at h
        exact WW.le (a := [some (.inr (.inr (96, i0))), some (.inl a1), some (.inl v2)]) (by rw [hn]; rfl) (show _ = _ ∧ _ = _ ∧ _ = _ ∧ True from ⟨e0, e1, e2, trivial⟩) (ih v2 w h)
      rw [if_neg hj] at h
      cases h
    · exact (show _ = _ ∧ _ = _ ∧ True from ⟨rfl, rfl, trivial⟩)
set_option maxRecDepth 100000 in
set_option maxHeartbeats 4000000 in
theorem crX12_copies {N : Nat} {X : XT} (G : GX X cX12_copies RX12) (hR : xR X = rmL 1) : CRs X tX12_copies (oF []) (oF []) (oF []) := by
  have hl : tX12_copies.filter isInv = [] := rfl
  intro e he
  rw [hl] at he
  cases he
set_option maxRecDepth 100000 in
set_option maxHeartbeats 4000000 in
theorem MX12_copies (N : Nat) : SndV yX12_copies cX12_copies 3 none 1 2 false (mX12_copies N) := by
  refine SndV.of tX12_copies (by decide +kernel) rfl rfl ?_ ?_
  · intro as w x h
    obtain ⟨k0, i0, t1, rfl, hk, h_1⟩ := xA1_some h
    obtain ⟨a1, t2, rfl, h_2⟩ := xI1_some h_1
    obtain ⟨rfl, h_3⟩ := xN1_some h_2
    clear h h_1 h_2
    have h := h_3
    rw [callW_eq] at h
    exact ⟨(fun z => by cases z), rfl, Nat.le_of_ble_eq_true rfl⟩
  · intro X G hn hR as w r h hr
    have hC := crX12_copies (N := N) G hR
    obtain ⟨k0, i0, t1, rfl, hk, h_1⟩ := xA1_some h
    obtain ⟨a1, t2, rfl, h_2⟩ := xI1_some h_1
    obtain ⟨rfl, h_3⟩ := xN1_some h_2
    clear h h_1 h_2
    have h := h_3
    rw [callW_eq] at h
    have hk : k0 = 75 ∨ k0 = 76 ∨ k0 = 77 ∨ k0 = 78 ∨ k0 = 79 ∨ k0 = 80 ∨ k0 = 81 ∨ k0 = 82 ∨ k0 = 83 ∨ k0 = 84 ∨ k0 = 85 ∨ k0 = 86 ∨ k0 = 87 ∨ k0 = 88 ∨ k0 = 89 ∨ k0 = 90 ∨ k0 = 92 ∨ k0 = 93 ∨ k0 = 94 ∨ k0 = 95 ∨ k0 = 96 := by simpa using hk
    rcases hk with rfl | rfl | rfl | rfl | rfl | rfl | rfl | rfl | rfl | rfl | rfl | rfl | rfl | rfl | rfl | rfl | rfl | rfl | rfl | rfl | rfl
    · refine run_sound (r := r) (X := X) (cc := cX12_copies) (own := RX12) (tab := tX12_copies) G (by rw [hn]; exact kX12_copies) (oI := (oF [])) (oL := (oF [])) (oV := (oF [])) (rI := (fun _ _ => none)) (rL := (fun _ _ => none)) (rV := (fun w => some w))
        (K := (fun j ls st w => if j = 2 then (lgI ls 2 fun v2 => st0 st (callW (fX12_copies_2 N 75 i0 a1 N v2) w)) else none)) (fun _ _ _ _ hx => by cases hx) (fun _ _ _ _ hx => by cases hx) (fun w pc ls hx hd => hr w pc ls (Option.some.inj hx) hd) hC (fun ls => lsb [some (.inr (.inr (75, i0))), some (.inl a1), none] 0 ls) (keepsP_of rfl) ?_ 18 0 [some (.inr (.inr (75, i0))), some (.inl a1), none] [] w ?_ h
      · intro j ls st w hfx h
        obtain ⟨e0, e1, -⟩ : _ = _ ∧ _ = _ ∧ True := hfx
        try dsimp only at h
        by_cases hj : j = 2
        · subst hj
          rw [if_pos rfl] at h
          obtain ⟨v2, e2, h_1⟩ := lgI_some h
          obtain ⟨rfl, h_2⟩ := st0_some h_1
          clear h h_1
          have h := h_2
          try rw [callW_eq] at h
          exact WW.le (a := [some (.inr (.inr (75, i0))), some (.inl a1), some (.inl v2)]) (by rw [hn]; rfl) (show _ = _ ∧ _ = _ ∧ _ = _ ∧ True from ⟨e0, e1, e2, trivial⟩) (sX12_copies_2_k75 G hn hC hr i0 a1 N v2 w h)
        rw [if_neg hj] at h
        cases h
      · exact (show _ = _ ∧ _ = _ ∧ True from ⟨rfl, rfl, trivial⟩)
    · refine run_sound (r := r) (X := X) (cc := cX12_copies) (own := RX12) (tab := tX12_copies) G (by rw [hn]; exact kX12_copies) (oI := (oF [])) (oL := (oF [])) (oV := (oF [])) (rI := (fun _ _ => none)) (rL := (fun _ _ => none)) (rV := (fun w => some w))
        (K := (fun j ls st w => if j = 2 then (lgI ls 2 fun v2 => st0 st (callW (fX12_copies_2 N 76 i0 a1 N v2) w)) else none)) (fun _ _ _ _ hx => by cases hx) (fun _ _ _ _ hx => by cases hx) (fun w pc ls hx hd => hr w pc ls (Option.some.inj hx) hd) hC (fun ls => lsb [some (.inr (.inr (76, i0))), some (.inl a1), none] 0 ls) (keepsP_of rfl) ?_ 18 0 [some (.inr (.inr (76, i0))), some (.inl a1), none] [] w ?_ h
      · intro j ls st w hfx h
        obtain ⟨e0, e1, -⟩ : _ = _ ∧ _ = _ ∧ True := hfx
        try dsimp only at h
        by_cases hj : j = 2
        · subst hj
          rw [if_pos rfl] at h
          obtain ⟨v2, e2, h_1⟩ := lgI_some h
          obtain ⟨rfl, h_2⟩ := st0_some h_1
          clear h h_1
          have h := h_2
          try rw [callW_eq] at h
          exact WW.le (a := [some (.inr (.inr (76, i0))), some (.inl a1), some (.inl v2)]) (by rw [hn]; rfl) (show _ = _ ∧ _ = _ ∧ _ = _ ∧ True from ⟨e0, e1, e2, trivial⟩) (sX12_copies_2_k76 G hn hC hr i0 a1 N v2 w h)
        rw [if_neg hj] at h
        cases h
      · exact (show _ = _ ∧ _ = _ ∧ True from ⟨rfl, rfl, trivial⟩)
    · refine run_sound (r := r) (X := X) (cc := cX12_copies) (own := RX12) (tab := tX12_copies) G (by rw [hn]; exact kX12_copies) (oI := (oF [])) (oL := (oF [])) (oV := (oF [])) (rI := (fun _ _ => none)) (rL := (fun _ _ => none)) (rV := (fun w => some w))
        (K := (fun j ls st w => if j = 2 then (lgI ls 2 fun v2 => st0 st (callW (fX12_copies_2 N 77 i0 a1 N v2) w)) else none)) (fun _ _ _ _ hx => by cases hx) (fun _ _ _ _ hx => by cases hx) (fun w pc ls hx hd => hr w pc ls (Option.some.inj hx) hd) hC (fun ls => lsb [some (.inr (.inr (77, i0))), some (.inl a1), none] 0 ls) (keepsP_of rfl) ?_ 18 0 [some (.inr (.inr (77, i0))), some (.inl a1), none] [] w ?_ h
      · intro j ls st w hfx h
        obtain ⟨e0, e1, -⟩ : _ = _ ∧ _ = _ ∧ True := hfx
        try dsimp only at h
        by_cases hj : j = 2
        · subst hj
          rw [if_pos rfl] at h
          obtain ⟨v2, e2, h_1⟩ := lgI_some h
          obtain ⟨rfl, h_2⟩ := st0_some h_1
          clear h h_1
          have h := h_2
          try rw [callW_eq] at h
          exact WW.le (a := [some (.inr (.inr (77, i0))), some (.inl a1), some (.inl v2)]) (by rw [hn]; rfl) (show _ = _ ∧ _ = _ ∧ _ = _ ∧ True from ⟨e0, e1, e2, trivial⟩) (sX12_copies_2_k77 G hn hC hr i0 a1 N v2 w h)
        rw [if_neg hj] at h
        cases h
      · exact (show _ = _ ∧ _ = _ ∧ True from ⟨rfl, rfl, trivial⟩)
    · refine run_sound (r := r) (X := X) (cc := cX12_copies) (own := RX12) (tab := tX12_copies) G (by rw [hn]; exact kX12_copies) (oI := (oF [])) (oL := (oF [])) (oV := (oF [])) (rI := (fun _ _ => none)) (rL := (fun _ _ => none)) (rV := (fun w => some w))
        (K := (fun j ls st w => if j = 2 then (lgI ls 2 fun v2 => st0 st (callW (fX12_copies_2 N 78 i0 a1 N v2) w)) else none)) (fun _ _ _ _ hx => by cases hx) (fun _ _ _ _ hx => by cases hx) (fun w pc ls hx hd => hr w pc ls (Option.some.inj hx) hd) hC (fun ls => lsb [some (.inr (.inr (78, i0))), some (.inl a1), none] 0 ls) (keepsP_of rfl) ?_ 18 0 [some (.inr (.inr (78, i0))), some (.inl a1), none] [] w ?_ h
      · intro j ls st w hfx h
        obtain ⟨e0, e1, -⟩ : _ = _ ∧ _ = _ ∧ True := hfx
        try dsimp only at h
        by_cases hj : j = 2
        · subst hj
          rw [if_pos rfl] at h
          obtain ⟨v2, e2, h_1⟩ := lgI_some h
          obtain ⟨rfl, h_2⟩ := st0_some h_1
          clear h h_1
          have h := h_2
          try rw [callW_eq] at h
          exact WW.le (a := [some (.inr (.inr (78, i0))), some (.inl a1), some (.inl v2)]) (by rw [hn]; rfl) (show _ = _ ∧ _ = _ ∧ _ = _ ∧ True from ⟨e0, e1, e2, trivial⟩) (sX12_copies_2_k78 G hn hC hr i0 a1 N v2 w h)
        rw [if_neg hj] at h
        cases h
      · exact (show _ = _ ∧ _ = _ ∧ True from ⟨rfl, rfl, trivial⟩)
    · refine run_sound (r := r) (X := X) (cc := cX12_copies) (own := RX12) (tab := tX12_copies) G (by rw [hn]; exact kX12_copies) (oI := (oF [])) (oL := (oF [])) (oV := (oF [])) (rI := (fun _ _ => none)) (rL := (fun _ _ => none)) (rV := (fun w => some w))
        (K := (fun j ls st w => if j = 2 then (lgI ls 2 fun v2 => st0 st (callW (fX12_copies_2 N 79 i0 a1 N v2) w)) else none)) (fun _ _ _ _ hx => by cases hx) (fun _ _ _ _ hx => by cases hx) (fun w pc ls hx hd => hr w pc ls (Option.some.inj hx) hd) hC (fun ls => lsb [some (.inr (.inr (79, i0))), some (.inl a1), none] 0 ls) (keepsP_of rfl) ?_ 18 0 [some (.inr (.inr (79, i0))), some (.inl a1), none] [] w ?_ h
      · intro j ls st w hfx h
        obtain ⟨e0, e1, -⟩ : _ = _ ∧ _ = _ ∧ True := hfx
        try dsimp only at h
        by_cases hj : j = 2
        · subst hj
          rw [if_pos rfl] at h
          obtain ⟨v2, e2, h_1⟩ := lgI_some h
          obtain ⟨rfl, h_2⟩ := st0_some h_1
          clear h h_1
          have h := h_2
          try rw [callW_eq] at h
          exact WW.le (a := [some (.inr (.inr (79, i0))), some (.inl a1), some (.inl v2)]) (by rw [hn]; rfl) (show _ = _ ∧ _ = _ ∧ _ = _ ∧ True from ⟨e0, e1, e2, trivial⟩) (sX12_copies_2_k79 G hn hC hr i0 a1 N v2 w h)
        rw [if_neg hj] at h
        cases h
      · exact (show _ = _ ∧ _ = _ ∧ True from ⟨rfl, rfl, trivial⟩)
    · refine run_sound (r := r) (X := X) (cc := cX12_copies) (own := RX12) (tab := tX12_copies) G (by rw [hn]; exact kX12_copies) (oI := (oF [])) (oL := (oF [])) (oV := (oF [])) (rI := (fun _ _ => none)) (rL := (fun _ _ => none)) (rV := (fun w => some w))
        (K := (fun j ls st w => if j = 2 then (lgI ls 2 fun v2 => st0 st (callW (fX12_copies_2 N 80 i0 a1 N v2) w)) else none)) (fun _ _ _ _ hx => by cases hx) (fun _ _ _ _ hx => by cases hx) (fun w pc ls hx hd => hr w pc ls (Option.some.inj hx) hd) hC (fun ls => lsb [some (.inr (.inr (80, i0))), some (.inl a1), none] 0 ls) (keepsP_of rfl) ?_ 18 0 [some (.inr (.inr (80, i0))), some (.inl a1), none] [] w ?_ h
      · intro j ls st w hfx h
        obtain ⟨e0, e1, -⟩ : _ = _ ∧ _ = _ ∧ True := hfx
        try dsimp only at h
        by_cases hj : j = 2
        · subst hj
          rw [if_pos rfl] at h
          obtain ⟨v2, e2, h_1⟩ := lgI_some h
          obtain ⟨rfl, h_2⟩ := st0_some h_1
          clear h h_1
          have h := h_2
          try rw [callW_eq] at h
          exact WW.le (a := [some (.inr (.inr (80, i0))), some (.inl a1), some (.inl v2)]) (by rw [hn]; rfl) (show _ = _ ∧ _ = _ ∧ _ = _ ∧ True from ⟨e0, e1, e2, trivial⟩) (sX12_copies_2_k80 G hn hC hr i0 a1 N v2 w h)
        rw [if_neg hj] at h
        cases h
      · exact (show _ = _ ∧ _ = _ ∧ True from ⟨rfl, rfl, trivial⟩)
    · refine run_sound (r := r) (X := X) (cc := cX12_copies) (own := RX12) (tab := tX12_copies) G (by rw [hn]; exact kX12_copies) (oI := (oF [])) (oL := (oF [])) (oV := (oF [])) (rI := (fun _ _ => none)) (rL := (fun _ _ => none)) (rV := (fun w => some w))
        (K := (fun j ls st w => if j = 2 then (lgI ls 2 fun v2 => st0 st (callW (fX12_copies_2 N 81 i0 a1 N v2) w)) else none)) (fun _ _ _ _ hx => by cases hx) (fun _ _ _ _ hx => by cases hx) (fun w pc ls hx hd => hr w pc ls (Option.some.inj hx) hd) hC (fun ls => lsb [some (.inr (.inr (81, i0))), some (.inl a1), none] 0 ls) (keepsP_of rfl) ?_ 18 0 [some (.inr (.inr (81, i0))), some (.inl a1), none] [] w ?_ h
      · intro j ls st w hfx h
        obtain ⟨e0, e1, -⟩ : _ = _ ∧ _ = _ ∧ True := hfx
        try dsimp only at h
        by_cases hj : j = 2
        · subst hj
          rw [if_pos rfl] at h
          obtain ⟨v2, e2, h_1⟩ := lgI_some h
          obtain ⟨rfl, h_2⟩ := st0_some h_1
          clear h h_1
          have h := h_2
          try rw [callW_eq] at h
          exact WW.le (a := [some (.inr (.inr (81, i0))), some (.inl a1), some (.inl v2)]) (by rw [hn]; rfl) (show _ = _ ∧ _ = _ ∧ _ = _ ∧ True from ⟨e0, e1, e2, trivial⟩) (sX12_copies_2_k81 G hn hC hr i0 a1 N v2 w h)
        rw [if_neg hj] at h
        cases h
      · exact (show _ = _ ∧ _ = _ ∧ True from ⟨rfl, rfl, trivial⟩)
    · refine run_sound (r := r) (X := X) (cc := cX12_copies) (own := RX12) (tab := tX12_copies) G (by rw [hn]; exact kX12_copies) (oI := (oF [])) (oL := (oF [])) (oV := (oF [])) (rI := (fun _ _ => none)) (rL := (fun _ _ => none)) (rV := (fun w => some w))
        (K := (fun j ls st w => if j = 2 then (lgI ls 2 fun v2 => st0 st (callW (fX12_copies_2 N 82 i0 a1 N v2) w)) else none)) (fun _ _ _ _ hx => by cases hx) (fun _ _ _ _ hx => by cases hx) (fun w pc ls hx hd => hr w pc ls (Option.some.inj hx) hd) hC (fun ls => lsb [some (.inr (.inr (82, i0))), some (.inl a1), none] 0 ls) (keepsP_of rfl) ?_ 18 0 [some (.inr (.inr (82, i0))), some (.inl a1), none] [] w ?_ h
      · intro j ls st w hfx h
        obtain ⟨e0, e1, -⟩ : _ = _ ∧ _ = _ ∧ True := hfx
        try dsimp only at h
        by_cases hj : j = 2
        · subst hj
          rw [if_pos rfl] at h
          obtain ⟨v2, e2, h_1⟩ := lgI_some h
          obtain ⟨rfl, h_2⟩ := st0_some h_1
          clear h h_1
          have h := h_2
          try rw [callW_eq] at h
          exact WW.le (a := [some (.inr (.inr (82, i0))), some (.inl a1), some (.inl v2)]) (by rw [hn]; rfl) (show _ = _ ∧ _ = _ ∧ _ = _ ∧ True from ⟨e0, e1, e2, trivial⟩) (sX12_copies_2_k82 G hn hC hr i0 a1 N v2 w h)
        rw [if_neg hj] at h
        cases h
      · exact (show _ = _ ∧ _ = _ ∧ True from ⟨rfl, rfl, trivial⟩)
    · refine run_sound (r := r) (X := X) (cc := cX12_copies) (own := RX12) (tab := tX12_copies) G (by rw [hn]; exact kX12_copies) (oI := (oF [])) (oL := (oF [])) (oV := (oF [])) (rI := (fun _ _ => none)) (rL := (fun _ _ => none)) (rV := (fun w => some w))
        (K := (fun j ls st w => if j = 2 then (lgI ls 2 fun v2 => st0 st (callW (fX12_copies_2 N 83 i0 a1 N v2) w)) else none)) (fun _ _ _ _ hx => by cases hx) (fun _ _ _ _ hx => by cases hx) (fun w pc ls hx hd => hr w pc ls (Option.some.inj hx) hd) hC (fun ls => lsb [some (.inr (.inr (83, i0))), some (.inl a1), none] 0 ls) (keepsP_of rfl) ?_ 18 0 [some (.inr (.inr (83, i0))), some (.inl a1), none] [] w ?_ h
      · intro j ls st w hfx h
        obtain ⟨e0, e1, -⟩ : _ = _ ∧ _ = _ ∧ True := hfx
        try dsimp only at h
        by_cases hj : j = 2
        · subst hj
          rw [if_pos rfl] at h
          obtain ⟨v2, e2, h_1⟩ := lgI_some h
          obtain ⟨rfl, h_2⟩ := st0_some h_1
          clear h h_1
          have h := h_2
          try rw [callW_eq] at h
          exact WW.le (a := [some (.inr (.inr (83, i0))), some (.inl a1), some (.inl v2)]) (by rw [hn]; rfl) (show _ = _ ∧ _ = _ ∧ _ = _ ∧ True from ⟨e0, e1, e2, trivial⟩) (sX12_copies_2_k83 G hn hC hr i0 a1 N v2 w h)
        rw [if_neg hj] at h
        cases h
      · exact (show _ = _ ∧ _ = _ ∧ True from ⟨rfl, rfl, trivial⟩)
    · refine run_sound (r := r) (X := X) (cc := cX12_copies) (own := RX12) (tab := tX12_copies) G (by rw [hn]; exact kX12_copies) (oI := (oF [])) (oL := (oF [])) (oV := (oF [])) (rI := (fun _ _ => none)) (rL := (fun _ _ => none)) (rV := (fun w => some w))
        (K := (fun j ls st w => if j = 2 then (lgI ls 2 fun v2 => st0 st (callW (fX12_copies_2 N 84 i0 a1 N v2) w)) else none)) (fun _ _ _ _ hx => by cases hx) (fun _ _ _ _ hx => by cases hx) (fun w pc ls hx hd => hr w pc ls (Option.some.inj hx) hd) hC (fun ls => lsb [some (.inr (.inr (84, i0))), some (.inl a1), none] 0 ls) (keepsP_of rfl) ?_ 18 0 [some (.inr (.inr (84, i0))), some (.inl a1), none] [] w ?_ h
      · intro j ls st w hfx h
        obtain ⟨e0, e1, -⟩ : _ = _ ∧ _ = _ ∧ True := hfx
        try dsimp only at h
        by_cases hj : j = 2
        · subst hj
          rw [if_pos rfl] at h
          obtain ⟨v2, e2, h_1⟩ := lgI_some h
          obtain ⟨rfl, h_2⟩ := st0_some h_1
          clear h h_1
          have h := h_2
          try rw [callW_eq] at h
          exact WW.le (a := [some (.inr (.inr (84, i0))), some (.inl a1), some (.inl v2)]) (by rw [hn]; rfl) (show _ = _ ∧ _ = _ ∧ _ = _ ∧ True from ⟨e0, e1, e2, trivial⟩) (sX12_copies_2_k84 G hn hC hr i0 a1 N v2 w h)
        rw [if_neg hj] at h
        cases h
      · exact (show _ = _ ∧ _ = _ ∧ True from ⟨rfl, rfl, trivial⟩)
    · refine run_sound (r := r) (X := X) (cc := cX12_copies) (own := RX12) (tab := tX12_copies) G (by rw [hn]; exact kX12_copies) (oI := (oF [])) (oL := (oF [])) (oV := (oF [])) (rI := (fun _ _ => none)) (rL := (fun _ _ => none)) (rV := (fun w => some w))
        (K := (fun j ls st w => if j = 2 then (lgI ls 2 fun v2 => st0 st (callW (fX12_copies_2 N 85 i0 a1 N v2) w)) else none)) (fun _ _ _ _ hx => by cases hx) (fun _ _ _ _ hx => by cases hx) (fun w pc ls hx hd => hr w pc ls (Option.some.inj hx) hd) hC (fun ls => lsb [some (.inr (.inr (85, i0))), some (.inl a1), none] 0 ls) (keepsP_of rfl) ?_ 18 0 [some (.inr (.inr (85, i0))), some (.inl a1), none] [] w ?_ h
      · intro j ls st w hfx h
        obtain ⟨e0, e1, -⟩ : _ = _ ∧ _ = _ ∧ True := hfx
        try dsimp only at h
        by_cases hj : j = 2
        · subst hj
          rw [if_pos rfl] at h
          obtain ⟨v2, e2, h_1⟩ := lgI_some h
          obtain ⟨rfl, h_2⟩ := st0_some h_1
          clear h h_1
          have h := h_2
          try rw [callW_eq] at h
          exact WW.le (a := [some (.inr (.inr (85, i0))), some (.inl a1), some (.inl v2)]) (by rw [hn]; rfl) (show _ = _ ∧ _ = _ ∧ _ = _ ∧ True from ⟨e0, e1, e2, trivial⟩) (sX12_copies_2_k85 G hn hC hr i0 a1 N v2 w h)
        rw [if_neg hj] at h
        cases h
      · exact (show _ = _ ∧ _ = _ ∧ True from ⟨rfl, rfl, trivial⟩)
    · refine run_sound (r := r) (X := X) (cc := cX12_copies) (own := RX12) (tab := tX12_copies) G (by rw [hn]; exact kX12_copies) (oI := (oF [])) (oL := (oF [])) (oV := (oF [])) (rI := (fun _ _ => none)) (rL := (fun _ _ => none)) (rV := (fun w => some w))
        (K := (fun j ls st w => if j = 2 then (lgI ls 2 fun v2 => st0 st (callW (fX12_copies_2 N 86 i0 a1 N v2) w)) else none)) (fun _ _ _ _ hx => by cases hx) (fun _ _ _ _ hx => by cases hx) (fun w pc ls hx hd => hr w pc ls (Option.some.inj hx) hd) hC (fun ls => lsb [some (.inr (.inr (86, i0))), some (.inl a1), none] 0 ls) (keepsP_of rfl) ?_ 18 0 [some (.inr (.inr (86, i0))), some (.inl a1), none] [] w ?_ h
      · intro j ls st w hfx h
        obtain ⟨e0, e1, -⟩ : _ = _ ∧ _ = _ ∧ True := hfx
        try dsimp only at h
        by_cases hj : j = 2
        · subst hj
          rw [if_pos rfl] at h
          obtain ⟨v2, e2, h_1⟩ := lgI_some h
          obtain ⟨rfl, h_2⟩ := st0_some h_1
          clear h h_1
          have h := h_2
          try rw [callW_eq] at h
          exact WW.le (a := [some (.inr (.inr (86, i0))), some (.inl a1), some (.inl v2)]) (by rw [hn]; rfl) (show _ = _ ∧ _ = _ ∧ _ = _ ∧ True from ⟨e0, e1, e2, trivial⟩) (sX12_copies_2_k86 G hn hC hr i0 a1 N v2 w h)
        rw [if_neg hj] at h
        cases h
      · exact (show _ = _ ∧ _ = _ ∧ True from ⟨rfl, rfl, trivial⟩)
    · refine run_sound (r := r) (X := X) (cc := cX12_copies) (own := RX12) (tab := tX12_copies) G (by rw [hn]; exact kX12_copies) (oI := (oF [])) (oL := (oF [])) (oV := (oF [])) (rI := (fun _ _ => none)) (rL := (fun _ _ => none)) (rV := (fun w => some w))
        (K := (fun j ls st w => if j = 2 then (lgI ls 2 fun v2 => st0 st (callW (fX12_copies_2 N 87 i0 a1 N v2) w)) else none)) (fun _ _ _ _ hx => by cases hx) (fun _ _ _ _ hx => by cases hx) (fun w pc ls hx hd => hr w pc ls (Option.some.inj hx) hd) hC (fun ls => lsb [some (.inr (.inr (87, i0))), some (.inl a1), none] 0 ls) (keepsP_of rfl) ?_ 18 0 [some (.inr (.inr (87, i0))), some (.inl a1), none] [] w ?_ h
      · intro j ls st w hfx h
        obtain ⟨e0, e1, -⟩ : _ = _ ∧ _ = _ ∧ True := hfx
        try dsimp only at h
        by_cases hj : j = 2
        · subst hj
          rw [if_pos rfl] at h
          obtain ⟨v2, e2, h_1⟩ := lgI_some h
          obtain ⟨rfl, h_2⟩ := st0_some h_1
          clear h h_1
          have h := h_2
          try rw [callW_eq] at h
          exact WW.le (a := [some (.inr (.inr (87, i0))), some (.inl a1), some (.inl v2)]) (by rw [hn]; rfl) (show _ = _ ∧ _ = _ ∧ _ = _ ∧ True from ⟨e0, e1, e2, trivial⟩) (sX12_copies_2_k87 G hn hC hr i0 a1 N v2 w h)
        rw [if_neg hj] at h
        cases h
      · exact (show _ = _ ∧ _ = _ ∧ True from ⟨rfl, rfl, trivial⟩)
    · refine run_sound (r := r) (X := X) (cc := cX12_copies) (own := RX12) (tab := tX12_copies) G (by rw [hn]; exact kX12_copies) (oI := (oF [])) (oL := (oF [])) (oV := (oF [])) (rI := (fun _ _ => none)) (rL := (fun _ _ => none)) (rV := (fun w => some w))
        (K := (fun j ls st w => if j = 2 then (lgI ls 2 fun v2 => st0 st (callW (fX12_copies_2 N 88 i0 a1 N v2) w)) else none)) (fun _ _ _ _ hx => by cases hx) (fun _ _ _ _ hx => by cases hx) (fun w pc ls hx hd => hr w pc ls (Option.some.inj hx) hd) hC (fun ls => lsb [some (.inr (.inr (88, i0))), some (.inl a1), none] 0 ls) (keepsP_of rfl) ?_ 18 0 [some (.inr (.inr (88, i0))), some (.inl a1), none] [] w ?_ h
      · intro j ls st w hfx h
        obtain ⟨e0, e1, -⟩ : _ = _ ∧ _ = _ ∧ True := hfx
        try dsimp only at h
        by_cases hj : j = 2
        · subst hj
          rw [if_pos rfl] at h
          obtain ⟨v2, e2, h_1⟩ := lgI_some h
          obtain ⟨rfl, h_2⟩ := st0_some h_1
          clear h h_1
          have h := h_2
          try rw [callW_eq] at h
          exact WW.le (a := [some (.inr (.inr (88, i0))), some (.inl a1), some (.inl v2)]) (by rw [hn]; rfl) (show _ = _ ∧ _ = _ ∧ _ = _ ∧ True from ⟨e0, e1, e2, trivial⟩) (sX12_copies_2_k88 G hn hC hr i0 a1 N v2 w h)
        rw [if_neg hj] at h
        cases h
      · exact (show _ = _ ∧ _ = _ ∧ True from ⟨rfl, rfl, trivial⟩)
    · refine run_sound (r := r) (X := X) (cc := cX12_copies) (own := RX12) (tab := tX12_copies) G (by rw [hn]; exact kX12_copies) (oI := (oF [])) (oL := (oF [])) (oV := (oF [])) (rI := (fun _ _ => none)) (rL := (fun _ _ => none)) (rV := (fun w => some w))
        (K := (fun j ls st w => if j = 2 then (lgI ls 2 fun v2 => st0 st (callW (fX12_copies_2 N 89 i0 a1 N v2) w)) else none)) (fun _ _ _ _ hx => by cases hx) (fun _ _ _ _ hx => by cases hx) (fun w pc ls hx hd => hr w pc ls (Option.some.inj hx) hd) hC (fun ls => lsb [some (.inr (.inr (89, i0))), some (.inl a1), none] 0 ls) (keepsP_of rfl) ?_ 18 0 [some (.inr (.inr (89, i0))), some (.inl a1), none] [] w ?_ h
      · intro j ls st w hfx h
        obtain ⟨e0, e1, -⟩ : _ = _ ∧ _ = _ ∧ True := hfx
        try dsimp only at h
        by_cases hj : j = 2
        · subst hj
          rw [if_pos rfl] at h
          obtain ⟨v2, e2, h_1⟩ := lgI_some h
          obtain ⟨rfl, h_2⟩ := st0_some h_1
          clear h h_1
          have h := h_2
          try rw [callW_eq] at h
          exact WW.le (a := [some (.inr (.inr (89, i0))), some (.inl a1), some (.inl v2)]) (by rw [hn]; rfl) (show _ = _ ∧ _ = _ ∧ _ = _ ∧ True from ⟨e0, e1, e2, trivial⟩) (sX12_copies_2_k89 G hn hC hr i0 a1 N v2 w h)
        rw [if_neg hj] at h
        cases h
      · exact (show _ = _ ∧ _ = _ ∧ True from ⟨rfl, rfl, trivial⟩)
    · refine run_sound (r := r) (X := X) (cc := cX12_copies) (own := RX12) (tab := tX12_copies) G (by rw [hn]; exact kX12_copies) (oI := (oF [])) (oL := (oF [])) (oV := (oF [])) (rI := (fun _ _ => none)) (rL := (fun _ _ => none)) (rV := (fun w => some w))
        (K := (fun j ls st w => if j = 2 then (lgI ls 2 fun v2 => st0 st (callW (fX12_copies_2 N 90 i0 a1 N v2) w)) else none)) (fun _ _ _ _ hx => by cases hx) (fun _ _ _ _ hx => by cases hx) (fun w pc ls hx hd => hr w pc ls (Option.some.inj hx) hd) hC (fun ls => lsb [some (.inr (.inr (90, i0))), some (.inl a1), none] 0 ls) (keepsP_of rfl) ?_ 18 0 [some (.inr (.inr (90, i0))), some (.inl a1), none] [] w ?_ h
      · intro j ls st w hfx h
        obtain ⟨e0, e1, -⟩ : _ = _ ∧ _ = _ ∧ True := hfx
        try dsimp only at h
        by_cases hj : j = 2
        · subst hj
          rw [if_pos rfl] at h
          obtain ⟨v2, e2, h_1⟩ := lgI_some h
          obtain ⟨rfl, h_2⟩ := st0_some h_1
          clear h h_1
          have h := h_2
          try rw [callW_eq] at h
          exact WW.le (a := [some (.inr (.inr (90, i0))), some (.inl a1), some (.inl v2)]) (by rw [hn]; rfl) (show _ = _ ∧ _ = _ ∧ _ = _ ∧ True from ⟨e0, e1, e2, trivial⟩) (sX12_copies_2_k90 G hn hC hr i0 a1 N v2 w h)
        rw [if_neg hj] at h
        cases h
      · exact (show _ = _ ∧ _ = _ ∧ True from ⟨rfl, rfl, trivial⟩)
    · refine run_sound (r := r) (X := X) (cc := cX12_copies) (own := RX12) (tab := tX12_copies) G (by rw [hn]; exact kX12_copies) (oI := (oF [])) (oL := (oF [])) (oV := (oF [])) (rI := (fun _ _ => none)) (rL := (fun _ _ => none)) (rV := (fun w => some w))
        (K := (fun j ls st w => if j = 2 then (lgI ls 2 fun v2 => st0 st (callW (fX12_copies_2 N 92 i0 a1 N v2) w)) else none)) (fun _ _ _ _ hx => by cases hx) (fun _ _ _ _ hx => by cases hx) (fun w pc ls hx hd => hr w pc ls (Option.some.inj hx) hd) hC (fun ls => lsb [some (.inr (.inr (92, i0))), some (.inl a1), none] 0 ls) (keepsP_of rfl) ?_ 18 0 [some (.inr (.inr (92, i0))), some (.inl a1), none] [] w ?_ h
      · intro j ls st w hfx h
        obtain ⟨e0, e1, -⟩ : _ = _ ∧ _ = _ ∧ True := hfx
        try dsimp only at h
        by_cases hj : j = 2
        · subst hj
          rw [if_pos rfl] at h
          obtain ⟨v2, e2, h_1⟩ := lgI_some h
          obtain ⟨rfl, h_2⟩ := st0_some h_1
          clear h h_1
          have h := h_2
          try rw [callW_eq] at h
          exact WW.le (a := [some (.inr (.inr (92, i0))), some (.inl a1), some (.inl v2)]) (by rw [hn]; rfl) (show _ = _ ∧ _ = _ ∧ _ = _ ∧ True from ⟨e0, e1, e2, trivial⟩) (sX12_copies_2_k92 G hn hC hr i0 a1 N v2 w h)
        rw [if_neg hj] at h
        cases h
      · exact (show _ = _ ∧ _ = _ ∧ True from ⟨rfl, rfl, trivial⟩)
    · refine run_sound (r := r) (X := X) (cc := cX12_copies) (own := RX12) (tab := tX12_copies) G (by rw [hn]; exact kX12_copies) (oI := (oF [])) (oL := (oF [])) (oV := (oF [])) (rI := (fun _ _ => none)) (rL := (fun _ _ => none)) (rV := (fun w => some w))
        (K := (fun j ls st w => if j = 2 then (lgI ls 2 fun v2 => st0 st (callW (fX12_copies_2 N 93 i0 a1 N v2) w)) else none)) (fun _ _ _ _ hx => by cases hx) (fun _ _ _ _ hx => by cases hx) (fun w pc ls hx hd => hr w pc ls (Option.some.inj hx) hd) hC (fun ls => lsb [some (.inr (.inr (93, i0))), some (.inl a1), none] 0 ls) (keepsP_of rfl) ?_ 18 0 [some (.inr (.inr (93, i0))), some (.inl a1), none] [] w ?_ h
      · intro j ls st w hfx h
        obtain ⟨e0, e1, -⟩ : _ = _ ∧ _ = _ ∧ True := hfx
        try dsimp only at h
        by_cases hj : j = 2
        · subst hj
          rw [if_pos rfl] at h
          obtain ⟨v2, e2, h_1⟩ := lgI_some h
          obtain ⟨rfl, h_2⟩ := st0_some h_1
          clear h h_1
          have h := h_2
          try rw [callW_eq] at h
          exact WW.le (a := [some (.inr (.inr (93, i0))), some (.inl a1), some (.inl v2)]) (by rw [hn]; rfl) (show _ = _ ∧ _ = _ ∧ _ = _ ∧ True from ⟨e0, e1, e2, trivial⟩) (sX12_copies_2_k93 G hn hC hr i0 a1 N v2 w h)
        rw [if_neg hj] at h
        cases h
      · exact (show _ = _ ∧ _ = _ ∧ True from ⟨rfl, rfl, trivial⟩)
    · refine run_sound (r := r) (X := X) (cc := cX12_copies) (own := RX12) (tab := tX12_copies) G (by rw [hn]; exact kX12_copies) (oI := (oF [])) (oL := (oF [])) (oV := (oF [])) (rI := (fun _ _ => none)) (rL := (fun _ _ => none)) (rV := (fun w => some w))
        (K := (fun j ls st w => if j = 2 then (lgI ls 2 fun v2 => st0 st (callW (fX12_copies_2 N 94 i0 a1 N v2) w)) else none)) (fun _ _ _ _ hx => by cases hx) (fun _ _ _ _ hx => by cases hx) (fun w pc ls hx hd => hr w pc ls (Option.some.inj hx) hd) hC (fun ls => lsb [some (.inr (.inr (94, i0))), some (.inl a1), none] 0 ls) (keepsP_of rfl) ?_ 18 0 [some (.inr (.inr (94, i0))), some (.inl a1), none] [] w ?_ h
      · intro j ls st w hfx h
        obtain ⟨e0, e1, -⟩ : _ = _ ∧ _ = _ ∧ True := hfx
        try dsimp only at h
        by_cases hj : j = 2
        · subst hj
          rw [if_pos rfl] at h
          obtain ⟨v2, e2, h_1⟩ := lgI_some h
          obtain ⟨rfl, h_2⟩ := st0_some h_1
          clear h h_1
          have h := h_2
          try rw [callW_eq] at h
          exact WW.le (a := [some (.inr (.inr (94, i0))), some (.inl a1), some (.inl v2)]) (by rw [hn]; rfl) (show _ = _ ∧ _ = _ ∧ _ = _ ∧ True from ⟨e0, e1, e2, trivial⟩) (sX12_copies_2_k94 G hn hC hr i0 a1 N v2 w h)
        rw [if_neg hj] at h
        cases h
      · exact (show _ = _ ∧ _ = _ ∧ True from ⟨rfl, rfl, trivial⟩)
    · refine run_sound (r := r) (X := X) (cc := cX12_copies) (own := RX12) (tab := tX12_copies) G (by rw [hn]; exact kX12_copies) (oI := (oF [])) (oL := (oF [])) (oV := (oF [])) (rI := (fun _ _ => none)) (rL := (fun _ _ => none)) (rV := (fun w => some w))
        (K := (fun j ls st w => if j = 2 then (lgI ls 2 fun v2 => st0 st (callW (fX12_copies_2 N 95 i0 a1 N v2) w)) else none)) (fun _ _ _ _ hx => by cases hx) (fun _ _ _ _ hx => by cases hx) (fun w pc ls hx hd => hr w pc ls (Option.some.inj hx) hd) hC (fun ls => lsb [some (.inr (.inr (95, i0))), some (.inl a1), none] 0 ls) (keepsP_of rfl) ?_ 18 0 [some (.inr (.inr (95, i0))), some (.inl a1), none] [] w ?_ h
      · intro j ls st w hfx h
        obtain ⟨e0, e1, -⟩ : _ = _ ∧ _ = _ ∧ True := hfx
        try dsimp only at h
        by_cases hj : j = 2
        · subst hj
          rw [if_pos rfl] at h
          obtain ⟨v2, e2, h_1⟩ := lgI_some h
          obtain ⟨rfl, h_2⟩ := st0_some h_1
          clear h h_1
          have h := h_2
          try rw [callW_eq] at h
          exact WW.le (a := [some (.inr (.inr (95, i0))), some (.inl a1), some (.inl v2)]) (by rw [hn]; rfl) (show _ = _ ∧ _ = _ ∧ _ = _ ∧ True from ⟨e0, e1, e2, trivial⟩) (sX12_copies_2_k95 G hn hC hr i0 a1 N v2 w h)
        rw [if_neg hj] at h
        cases h
      · exact (show _ = _ ∧ _ = _ ∧ True from ⟨rfl, rfl, trivial⟩)
    · refine run_sound (r := r) (X := X) (cc := cX12_copies) (own := RX12) (tab := tX12_copies) G (by rw [hn]; exact kX12_copies) (oI := (oF [])) (oL := (oF [])) (oV := (oF [])) (rI := (fun _ _ => none)) (rL := (fun _ _ => none)) (rV := (fun w => some w))
        (K := (fun j ls st w => if j = 2 then (lgI ls 2 fun v2 => st0 st (callW (fX12_copies_2 N 96 i0 a1 N v2) w)) else none)) (fun _ _ _ _ hx => by cases hx) (fun _ _ _ _ hx => by cases hx) (fun w pc ls hx hd => hr w pc ls (Option.some.inj hx) hd) hC (fun ls => lsb [some (.inr (.inr (96, i0))), some (.inl a1), none] 0 ls) (keepsP_of rfl) ?_ 18 0 [some (.inr (.inr (96, i0))), some (.inl a1), none] [] w ?_ h
      · intro j ls st w hfx h
        obtain ⟨e0, e1, -⟩ : _ = _ ∧ _ = _ ∧ True := hfx
        try dsimp only at h
        by_cases hj : j = 2
        · subst hj
          rw [if_pos rfl] at h
          obtain ⟨v2, e2, h_1⟩ := lgI_some h
          obtain ⟨rfl, h_2⟩ := st0_some h_1
          clear h h_1
          have h := h_2
          try rw [callW_eq] at h
          exact WW.le (a := [some (.inr (.inr (96, i0))), some (.inl a1), some (.inl v2)]) (by rw [hn]; rfl) (show _ = _ ∧ _ = _ ∧ _ = _ ∧ True from ⟨e0, e1, e2, trivial⟩) (sX12_copies_2_k96 G hn hC hr i0 a1 N v2 w h)
        rw [if_neg hj] at h
        cases h
      · exact (show _ = _ ∧ _ = _ ∧ True from ⟨rfl, rfl, trivial⟩)
-- MoorGuidesModel.layWays([II)V
def tX12_layWays : List EN := [
  (0, .iconst 0, 0, 0, 0, 0, 0, []), (1, .istore_n 3, 0, 0, 0, 0, 0, []), (2, .iload_n 3, 3, 0, 0, 0, 0, []), (3, .bipush 8, 0, 0, 0, 8, 0, []),
  (5, .if_icmp .ge 88, 0, 48, 0, 0, 0, []), (8, .iconst 0, 0, 0, 0, 0, 0, []), (9, .istore 4, 0, 0, 0, 0, 0, []), (11, .iload 4, 8, 0, 0, 0, 0, []),
  (13, .bipush 8, 0, 0, 0, 8, 0, []), (15, .if_icmp .ge 72, 0, 46, 0, 0, 0, []), (18, .aload_n 1, 0, 0, 0, 0, 0, []), (19, .bipush 8, 0, 0, 0, 8, 0, []),
  (21, .iload_n 3, 0, 0, 0, 0, 0, []), (22, .imul, 0, 0, 0, 0, 0, []), (23, .iload 4, 0, 0, 0, 0, 0, []), (25, .iadd, 0, 0, 0, 0, 0, []),
  (26, .iload_n 3, 0, 0, 0, 0, 0, []), (27, .iload_n 2, 0, 0, 0, 0, 0, []), (28, .if_icmp .eq 9, 0, 22, 0, 0, 0, []), (31, .iload 4, 0, 0, 0, 0, 0, []),
  (33, .iload_n 2, 0, 0, 0, 0, 0, []), (34, .if_icmp .ne 8, 0, 24, 0, 0, 0, []), (37, .bipush 99, 0, 0, 0, 99, 0, []), (39, .goto 41, 0, 43, 0, 0, 0, []),
  (42, .iload_n 3, 0, 0, 0, 0, 0, []), (43, .iload 4, 0, 0, 0, 0, 0, []), (45, .if_icmp .ne 7, 0, 29, 0, 0, 0, []), (48, .iconst 0, 0, 0, 0, 0, 0, []),
  (49, .goto 31, 0, 43, 0, 0, 0, []), (52, .iload_n 3, 0, 0, 0, 0, 0, []), (53, .aload_n 0, 0, 0, 0, 0, 0, []), (54, .getfield 295, 0, 12, 12, 0, 0, []),
  (57, .if_icmp .ge 21, 0, 42, 0, 0, 0, []), (60, .aload_n 0, 0, 0, 0, 0, 0, []), (61, .getfield 26, 0, 12, 33, 0, 0, []), (64, .iload_n 3, 0, 0, 0, 0, 0, []),
  (65, .iaload, 0, 0, 0, 0, 0, []), (66, .iload 4, 0, 0, 0, 0, 0, []), (68, .invokestatic 341, 0, 0, 2, 0, 0, []), (71, .ifCond .eq 7, 0, 42, 0, 0, 0, []),
  (74, .iconst 1, 0, 0, 0, 1, 0, []), (75, .goto 5, 0, 43, 0, 0, 0, []), (78, .bipush 99, 0, 0, 0, 99, 0, []), (80, .iastore, 0, 0, 0, 0, 0, []),
  (81, .iinc 4 1, 0, 0, 0, 1, 0, []), (84, .goto (-73), 0, 7, 0, 0, 0, []), (87, .iinc 3 1, 47, 0, 0, 1, 0, []), (90, .goto (-88), 0, 2, 0, 0, 0, []),
  (93, .iconst 0, 49, 0, 0, 0, 0, []), (94, .istore_n 3, 0, 0, 0, 0, 0, []), (95, .iload_n 3, 51, 0, 0, 0, 0, []), (96, .bipush 8, 0, 0, 0, 8, 0, []),
  (98, .if_icmp .ge 102, 0, 110, 0, 0, 0, []), (101, .iconst 0, 0, 0, 0, 0, 0, []), (102, .istore 4, 0, 0, 0, 0, 0, []), (104, .iload 4, 56, 0, 0, 0, 0, []),
  (106, .bipush 8, 0, 0, 0, 8, 0, []), (108, .if_icmp .ge 86, 0, 108, 0, 0, 0, []), (111, .iconst 0, 0, 0, 0, 0, 0, []), (112, .istore 5, 0, 0, 0, 0, 0, []),
  (114, .iload 5, 61, 0, 0, 0, 0, []), (116, .bipush 8, 0, 0, 0, 8, 0, []), (118, .if_icmp .ge 70, 0, 106, 0, 0, 0, []), (121, .aload_n 1, 0, 0, 0, 0, 0, []),
  (122, .bipush 8, 0, 0, 0, 8, 0, []), (124, .iload 4, 0, 0, 0, 0, 0, []), (126, .imul, 0, 0, 0, 0, 0, []), (127, .iload_n 3, 0, 0, 0, 0, 0, []),
  (128, .iadd, 0, 0, 0, 0, 0, []), (129, .iaload, 0, 0, 0, 0, 0, []), (130, .aload_n 1, 0, 0, 0, 0, 0, []), (131, .bipush 8, 0, 0, 0, 8, 0, []),
  (133, .iload_n 3, 0, 0, 0, 0, 0, []), (134, .imul, 0, 0, 0, 0, 0, []), (135, .iload 5, 0, 0, 0, 0, 0, []), (137, .iadd, 0, 0, 0, 0, 0, []),
  (138, .iaload, 0, 0, 0, 0, 0, []), (139, .iadd, 0, 0, 0, 0, 0, []), (140, .istore 6, 0, 0, 0, 0, 0, []), (142, .aload_n 1, 0, 0, 0, 0, 0, []),
  (143, .bipush 8, 0, 0, 0, 8, 0, []), (145, .iload 4, 0, 0, 0, 0, 0, []), (147, .imul, 0, 0, 0, 0, 0, []), (148, .iload 5, 0, 0, 0, 0, 0, []),
  (150, .iadd, 0, 0, 0, 0, 0, []), (151, .iload 6, 0, 0, 0, 0, 0, []), (153, .aload_n 1, 0, 0, 0, 0, 0, []), (154, .bipush 8, 0, 0, 0, 8, 0, []),
  (156, .iload 4, 0, 0, 0, 0, 0, []), (158, .imul, 0, 0, 0, 0, 0, []), (159, .iload 5, 0, 0, 0, 0, 0, []), (161, .iadd, 0, 0, 0, 0, 0, []),
  (162, .iaload, 0, 0, 0, 0, 0, []), (163, .if_icmp .ge 8, 0, 96, 0, 0, 0, []), (166, .iload 6, 0, 0, 0, 0, 0, []), (168, .goto 13, 0, 103, 0, 0, 0, []),
  (171, .aload_n 1, 0, 0, 0, 0, 0, []), (172, .bipush 8, 0, 0, 0, 8, 0, []), (174, .iload 4, 0, 0, 0, 0, 0, []), (176, .imul, 0, 0, 0, 0, 0, []),
  (177, .iload 5, 0, 0, 0, 0, 0, []), (179, .iadd, 0, 0, 0, 0, 0, []), (180, .iaload, 0, 0, 0, 0, 0, []), (181, .iastore, 0, 0, 0, 0, 0, []),
  (182, .iinc 5 1, 0, 0, 0, 1, 0, []), (185, .goto (-71), 0, 60, 0, 0, 0, []), (188, .iinc 4 1, 107, 0, 0, 1, 0, []), (191, .goto (-87), 0, 55, 0, 0, 0, []),
  (194, .iinc 3 1, 109, 0, 0, 1, 0, []), (197, .goto (-102), 0, 50, 0, 0, 0, []), (200, .return_, 0, 0, 0, 0, 0, [])]
noncomputable def fX12_layWays_108 (N : Nat) (k1 : Nat) (i1 : Nat) (k50 : Int32 → Wd → Option (Wd)) (v3 : Int32) (w : Wd) : Option (Wd) :=
  k50 (v3 + (1 : Int32)) w
noncomputable def fX12_layWays_106 (N : Nat) (k1 : Nat) (i1 : Nat) (k55 : Int32 → Int32 → Wd → Option (Wd)) (v3 : Int32) (v4 : Int32) (w : Wd) : Option (Wd) :=
  k55 v3 (v4 + (1 : Int32)) w
noncomputable def fX12_layWays_60 (N : Nat) (k1 : Nat) (i1 : Nat) : Nat → (Int32 → Int32 → Wd → Option (Wd)) → Int32 → Int32 → Int32 → Wd → Option (Wd)
  | 0, _, _, _, _, _ => none
  | n + 1, k106, v3, v4, v5, w =>
    if v5 < (8 : Int32) then
      (ldI w k1 i1 (((8 : Int32) * v4) + v3) (ln k1 i1)).bind fun x1 =>
      (ldI w k1 i1 (((8 : Int32) * v3) + v5) (ln k1 i1)).bind fun x2 =>
      (ldI w k1 i1 (((8 : Int32) * v4) + v5) (ln k1 i1)).bind fun x3 =>
      if (x1 + x2) < x3 then
        (stI w k1 i1 (((8 : Int32) * v4) + v5) (ln k1 i1) (x1 + x2)).bind fun w4 =>
        callW (fX12_layWays_60 N k1 i1 n k106 v3 v4 (v5 + (1 : Int32))) w4
      else
      (ldI w k1 i1 (((8 : Int32) * v4) + v5) (ln k1 i1)).bind fun x5 =>
      (stI w k1 i1 (((8 : Int32) * v4) + v5) (ln k1 i1) x5).bind fun w6 =>
      callW (fX12_layWays_60 N k1 i1 n k106 v3 v4 (v5 + (1 : Int32))) w6
    else
    k106 v3 v4 w
noncomputable def fX12_layWays_55 (N : Nat) (k1 : Nat) (i1 : Nat) : Nat → (Int32 → Wd → Option (Wd)) → Int32 → Int32 → Wd → Option (Wd)
  | 0, _, _, _, _ => none
  | n + 1, k108, v3, v4, w =>
    if v4 < (8 : Int32) then
      callW (fX12_layWays_60 N k1 i1 N (fX12_layWays_106 N k1 i1 (fX12_layWays_55 N k1 i1 n k108)) v3 v4 (0 : Int32)) w
    else
    k108 v3 w
noncomputable def fX12_layWays_50 (N : Nat) (k1 : Nat) (i1 : Nat) : Nat → Int32 → Wd → Option (Wd)
  | 0, _, _ => none
  | n + 1, v3, w =>
    if v3 < (8 : Int32) then
      callW (fX12_layWays_55 N k1 i1 N (fX12_layWays_108 N k1 i1 (fX12_layWays_50 N k1 i1 n)) v3 (0 : Int32)) w
    else
    some w
noncomputable def fX12_layWays_48 (N : Nat) (k1 : Nat) (i1 : Nat) (w : Wd) : Option (Wd) :=
  callW (fX12_layWays_50 N k1 i1 N (0 : Int32)) w
noncomputable def fX12_layWays_46 (N : Nat) (k1 : Nat) (i1 : Nat) (a2 : Int32) (k2 : Int32 → Wd → Option (Wd)) (v3 : Int32) (w : Wd) : Option (Wd) :=
  k2 (v3 + (1 : Int32)) w
noncomputable def fX12_layWays_7 (N : Nat) (k1 : Nat) (i1 : Nat) (a2 : Int32) : Nat → (Int32 → Wd → Option (Wd)) → Int32 → Int32 → Wd → Option (Wd)
  | 0, _, _, _, _ => none
  | n + 1, k46, v3, v4, w =>
    if v4 < (8 : Int32) then
      if v3 = a2 then
        (stI w k1 i1 (((8 : Int32) * v3) + v4) (ln k1 i1) (99 : Int32)).bind fun w1 =>
        callW (fX12_layWays_7 N k1 i1 a2 n k46 v3 (v4 + (1 : Int32))) w1
      else
      if v4 = a2 then
        (stI w k1 i1 (((8 : Int32) * v3) + v4) (ln k1 i1) (99 : Int32)).bind fun w2 =>
        callW (fX12_layWays_7 N k1 i1 a2 n k46 v3 (v4 + (1 : Int32))) w2
      else
      if v3 = v4 then
        (stI w k1 i1 (((8 : Int32) * v3) + v4) (ln k1 i1) (0 : Int32)).bind fun w3 =>
        callW (fX12_layWays_7 N k1 i1 a2 n k46 v3 (v4 + (1 : Int32))) w3
      else
      if v3 < (gI w 16 0 12) then
        (ldI w 77 0 v3 16).bind fun x4 =>
        (callW (pX12_isOf N x4 v4) w).bind fun r5 =>
        if r5.1 = 0 then
          (stI r5.2 k1 i1 (((8 : Int32) * v3) + v4) (ln k1 i1) (99 : Int32)).bind fun w6 =>
          callW (fX12_layWays_7 N k1 i1 a2 n k46 v3 (v4 + (1 : Int32))) w6
        else
        (stI r5.2 k1 i1 (((8 : Int32) * v3) + v4) (ln k1 i1) (1 : Int32)).bind fun w7 =>
        callW (fX12_layWays_7 N k1 i1 a2 n k46 v3 (v4 + (1 : Int32))) w7
      else
      (stI w k1 i1 (((8 : Int32) * v3) + v4) (ln k1 i1) (99 : Int32)).bind fun w8 =>
      callW (fX12_layWays_7 N k1 i1 a2 n k46 v3 (v4 + (1 : Int32))) w8
    else
    k46 v3 w
noncomputable def fX12_layWays_2 (N : Nat) (k1 : Nat) (i1 : Nat) (a2 : Int32) : Nat → (Wd → Option (Wd)) → Int32 → Wd → Option (Wd)
  | 0, _, _, _ => none
  | n + 1, k48, v3, w =>
    if v3 < (8 : Int32) then
      callW (fX12_layWays_7 N k1 i1 a2 N (fX12_layWays_46 N k1 i1 a2 (fX12_layWays_2 N k1 i1 a2 n k48)) v3 (0 : Int32)) w
    else
    k48 w
noncomputable def pX12_layWays (N : Nat) (k1 : Nat) (i1 : Nat) (a2 : Int32) (w : Wd) : Option (Wd) :=
  callW (fX12_layWays_2 N k1 i1 a2 N (fX12_layWays_48 N k1 i1) (0 : Int32)) w
noncomputable def mX12_layWays (N : Nat) (as : List AV) (w : Wd) : Option (Wd) := xS1 16 as fun t => xA1 [107, 108] t fun k1 i1 t => xI1 t fun a2 t => xN1 t (callW (pX12_layWays N k1 i1 a2) w)
set_option maxRecDepth 100000 in
set_option maxHeartbeats 4000000 in
theorem kX12_layWays : TK cX12_layWays RX12 7 tX12_layWays := ⟨by decide +kernel, wok_of [1612, 1633] (by decide +kernel) (by decide +kernel)⟩
set_option maxRecDepth 100000 in
set_option maxHeartbeats 4000000 in
theorem sX12_layWays_108_k107 {N : Nat} {X : XT} (G : GX X cX12_layWays RX12) (hn : xnL X = 7) (hC : CRs X tX12_layWays (oF [(mX12_isOf N)]) (oF []) (oF [])) {r : Wd} (hr : RTV X cX12_layWays r) (i1 : Nat) (a2 : Int32) : ∀ (k50 : Int32 → Wd → Option (Wd)) (v3 : Int32) (w : Wd), fX12_layWays_108 N 107 i1 k50 v3 w = some r → (∀ (v3 : Int32) (w : Wd), k50 v3 w = some r → WW X (pcAt tX12_layWays 50) [some (.inr (.inr (16, 0))), some (.inr (.inr (107, i1))), some (.inl a2), some (.inl v3), none, none, none] [] w) → WW X (pcAt tX12_layWays 108) [some (.inr (.inr (16, 0))), some (.inr (.inr (107, i1))), some (.inl a2), some (.inl v3), none, none, none] [] w := by
  intro k50 v3 w h h50
  refine run_sound (r := r) (X := X) (cc := cX12_layWays) (own := RX12) (tab := tX12_layWays) G (by rw [hn]; exact kX12_layWays) (oI := (oF [(mX12_isOf N)])) (oL := (oF [])) (oV := (oF [])) (rI := (fun _ _ => none)) (rL := (fun _ _ => none)) (rV := (fun w => some w))
    (K := (fun j ls st w => if j = 50 then (lgI ls 3 fun v3 => st0 st (k50 v3 w)) else none)) (fun _ _ _ _ hx => by cases hx) (fun _ _ _ _ hx => by cases hx) (fun w pc ls hx hd => hr w pc ls (Option.some.inj hx) hd) hC (fun ls => lsb [some (.inr (.inr (16, 0))), some (.inr (.inr (107, i1))), some (.inl a2), none, none, none, none] 0 ls) (keepsP_of rfl) ?_ 113 108 [some (.inr (.inr (16, 0))), some (.inr (.inr (107, i1))), some (.inl a2), some (.inl v3), none, none, none] [] w ?_ h
  · intro j ls st w hfx h
    obtain ⟨e0, e1, e2, -⟩ : _ = _ ∧ _ = _ ∧ _ = _ ∧ True := hfx
    try dsimp only at h
    by_cases hj : j = 50
    · subst hj
      rw [if_pos rfl] at h
      obtain ⟨v3, e3, h_1⟩ := lgI_some h
      obtain ⟨rfl, h_2⟩ := st0_some h_1
      clear h h_1
      have h := h_2
      try rw [callW_eq] at h
      exact WW.le (a := [some (.inr (.inr (16, 0))), some (.inr (.inr (107, i1))), some (.inl a2), some (.inl v3), none, none, none]) (by rw [hn]; rfl) (show _ = _ ∧ _ = _ ∧ _ = _ ∧ _ = _ ∧ True from ⟨e0, e1, e2, e3, trivial⟩) (h50 v3 w h)
    rw [if_neg hj] at h
    cases h
  · exact (show _ = _ ∧ _ = _ ∧ _ = _ ∧ True from ⟨rfl, rfl, rfl, trivial⟩)
set_option maxRecDepth 100000 in
set_option maxHeartbeats 4000000 in
theorem sX12_layWays_106_k107 {N : Nat} {X : XT} (G : GX X cX12_layWays RX12) (hn : xnL X = 7) (hC : CRs X tX12_layWays (oF [(mX12_isOf N)]) (oF []) (oF [])) {r : Wd} (hr : RTV X cX12_layWays r) (i1 : Nat) (a2 : Int32) : ∀ (k55 : Int32 → Int32 → Wd → Option (Wd)) (v3 : Int32) (v4 : Int32) (w : Wd), fX12_layWays_106 N 107 i1 k55 v3 v4 w = some r → (∀ (v3 : Int32) (v4 : Int32) (w : Wd), k55 v3 v4 w = some r → WW X (pcAt tX12_layWays 55) [some (.inr (.inr (16, 0))), some (.inr (.inr (107, i1))), some (.inl a2), some (.inl v3), some (.inl v4), none, none] [] w) → WW X (pcAt tX12_layWays 106) [some (.inr (.inr (16, 0))), some (.inr (.inr (107, i1))), some (.inl a2), some (.inl v3), some (.inl v4), none, none] [] w := by
  intro k55 v3 v4 w h h55
  refine run_sound (r := r) (X := X) (cc := cX12_layWays) (own := RX12) (tab := tX12_layWays) G (by rw [hn]; exact kX12_layWays) (oI := (oF [(mX12_isOf N)])) (oL := (oF [])) (oV := (oF [])) (rI := (fun _ _ => none)) (rL := (fun _ _ => none)) (rV := (fun w => some w))
    (K := (fun j ls st w => if j = 55 then (lgI ls 3 fun v3 => lgI ls 4 fun v4 => st0 st (k55 v3 v4 w)) else none)) (fun _ _ _ _ hx => by cases hx) (fun _ _ _ _ hx => by cases hx) (fun w pc ls hx hd => hr w pc ls (Option.some.inj hx) hd) hC (fun ls => lsb [some (.inr (.inr (16, 0))), some (.inr (.inr (107, i1))), some (.inl a2), none, none, none, none] 0 ls) (keepsP_of rfl) ?_ 113 106 [some (.inr (.inr (16, 0))), some (.inr (.inr (107, i1))), some (.inl a2), some (.inl v3), some (.inl v4), none, none] [] w ?_ h
  · intro j ls st w hfx h
    obtain ⟨e0, e1, e2, -⟩ : _ = _ ∧ _ = _ ∧ _ = _ ∧ True := hfx
    try dsimp only at h
    by_cases hj : j = 55
    · subst hj
      rw [if_pos rfl] at h
      obtain ⟨v3, e3, h_1⟩ := lgI_some h
      obtain ⟨v4, e4, h_2⟩ := lgI_some h_1
      obtain ⟨rfl, h_3⟩ := st0_some h_2
      clear h h_1 h_2
      have h := h_3
      try rw [callW_eq] at h
      exact WW.le (a := [some (.inr (.inr (16, 0))), some (.inr (.inr (107, i1))), some (.inl a2), some (.inl v3), some (.inl v4), none, none]) (by rw [hn]; rfl) (show _ = _ ∧ _ = _ ∧ _ = _ ∧ _ = _ ∧ _ = _ ∧ True from ⟨e0, e1, e2, e3, e4, trivial⟩) (h55 v3 v4 w h)
    rw [if_neg hj] at h
    cases h
  · exact (show _ = _ ∧ _ = _ ∧ _ = _ ∧ True from ⟨rfl, rfl, rfl, trivial⟩)
set_option maxRecDepth 100000 in
set_option maxHeartbeats 4000000 in
theorem sX12_layWays_60_k107 {N : Nat} {X : XT} (G : GX X cX12_layWays RX12) (hn : xnL X = 7) (hC : CRs X tX12_layWays (oF [(mX12_isOf N)]) (oF []) (oF [])) {r : Wd} (hr : RTV X cX12_layWays r) (i1 : Nat) (a2 : Int32) : ∀ (n : Nat) (k106 : Int32 → Int32 → Wd → Option (Wd)) (v3 : Int32) (v4 : Int32) (v5 : Int32) (w : Wd), fX12_layWays_60 N 107 i1 n k106 v3 v4 v5 w = some r → (∀ (v3 : Int32) (v4 : Int32) (w : Wd), k106 v3 v4 w = some r → WW X (pcAt tX12_layWays 106) [some (.inr (.inr (16, 0))), some (.inr (.inr (107, i1))), some (.inl a2), some (.inl v3), some (.inl v4), none, none] [] w) → WW X (pcAt tX12_layWays 60) [some (.inr (.inr (16, 0))), some (.inr (.inr (107, i1))), some (.inl a2), some (.inl v3), some (.inl v4), some (.inl v5), none] [] w := by
  intro n
  induction n with
  | zero => intro k106 v3 v4 v5 w h h106; cases h
  | succ n ih =>
    intro k106 v3 v4 v5 w h h106
    refine run_sound (r := r) (X := X) (cc := cX12_layWays) (own := RX12) (tab := tX12_layWays) G (by rw [hn]; exact kX12_layWays) (oI := (oF [(mX12_isOf N)])) (oL := (oF [])) (oV := (oF [])) (rI := (fun _ _ => none)) (rL := (fun _ _ => none)) (rV := (fun w => some w))
      (K := (fun j ls st w => if j = 60 then (lgI ls 3 fun v3 => lgI ls 4 fun v4 => lgI ls 5 fun v5 => st0 st (callW (fX12_layWays_60 N 107 i1 n k106 v3 v4 v5) w)) else if j = 106 then (lgI ls 3 fun v3 => lgI ls 4 fun v4 => st0 st (k106 v3 v4 w)) else none)) (fun _ _ _ _ hx => by cases hx) (fun _ _ _ _ hx => by cases hx) (fun w pc ls hx hd => hr w pc ls (Option.some.inj hx) hd) hC (fun ls => lsb [some (.inr (.inr (16, 0))), some (.inr (.inr (107, i1))), some (.inl a2), none, none, none, none] 0 ls) (keepsP_of rfl) ?_ 113 60 [some (.inr (.inr (16, 0))), some (.inr (.inr (107, i1))), some (.inl a2), some (.inl v3), some (.inl v4), some (.inl v5), none] [] w ?_ h
    · intro j ls st w hfx h
      obtain ⟨e0, e1, e2, -⟩ : _ = _ ∧ _ = _ ∧ _ = _ ∧ True := hfx
      try dsimp only at h
      by_cases hj : j = 60
      · subst hj
        rw [if_pos rfl] at h
        obtain ⟨v3, e3, h_1⟩ := lgI_some h
        obtain ⟨v4, e4, h_2⟩ := lgI_some h_1
        obtain ⟨v5, e5, h_3⟩ := lgI_some h_2
        obtain ⟨rfl, h_4⟩ := st0_some h_3
        clear h h_1 h_2 h_3
        have h := h_4
        try rw [callW_eq] at h
        exact WW.le (a := [some (.inr (.inr (16, 0))), some (.inr (.inr (107, i1))), some (.inl a2), some (.inl v3), some (.inl v4), some (.inl v5), none]) (by rw [hn]; rfl) (show _ = _ ∧ _ = _ ∧ _ = _ ∧ _ = _ ∧ _ = _ ∧ _ = _ ∧ True from ⟨e0, e1, e2, e3, e4, e5, trivial⟩) (ih k106 v3 v4 v5 w h h106)
      rw [if_neg hj] at h
      by_cases hj : j = 106
      · subst hj
        rw [if_pos rfl] at h
        obtain ⟨v3, e3, h_1⟩ := lgI_some h
        obtain ⟨v4, e4, h_2⟩ := lgI_some h_1
        obtain ⟨rfl, h_3⟩ := st0_some h_2
        clear h h_1 h_2
        have h := h_3
        try rw [callW_eq] at h
        exact WW.le (a := [some (.inr (.inr (16, 0))), some (.inr (.inr (107, i1))), some (.inl a2), some (.inl v3), some (.inl v4), none, none]) (by rw [hn]; rfl) (show _ = _ ∧ _ = _ ∧ _ = _ ∧ _ = _ ∧ _ = _ ∧ True from ⟨e0, e1, e2, e3, e4, trivial⟩) (h106 v3 v4 w h)
      rw [if_neg hj] at h
      cases h
    · exact (show _ = _ ∧ _ = _ ∧ _ = _ ∧ True from ⟨rfl, rfl, rfl, trivial⟩)
set_option maxRecDepth 100000 in
set_option maxHeartbeats 4000000 in
theorem sX12_layWays_55_k107 {N : Nat} {X : XT} (G : GX X cX12_layWays RX12) (hn : xnL X = 7) (hC : CRs X tX12_layWays (oF [(mX12_isOf N)]) (oF []) (oF [])) {r : Wd} (hr : RTV X cX12_layWays r) (i1 : Nat) (a2 : Int32) : ∀ (n : Nat) (k108 : Int32 → Wd → Option (Wd)) (v3 : Int32) (v4 : Int32) (w : Wd), fX12_layWays_55 N 107 i1 n k108 v3 v4 w = some r → (∀ (v3 : Int32) (w : Wd), k108 v3 w = some r → WW X (pcAt tX12_layWays 108) [some (.inr (.inr (16, 0))), some (.inr (.inr (107, i1))), some (.inl a2), some (.inl v3), none, none, none] [] w) → WW X (pcAt tX12_layWays 55) [some (.inr (.inr (16, 0))), some (.inr (.inr (107, i1))), some (.inl a2), some (.inl v3), some (.inl v4), none, none] [] w := by
  intro n
  induction n with
  | zero => intro k108 v3 v4 w h h108; cases h
  | succ n ih =>
    intro k108 v3 v4 w h h108
    refine run_sound (r := r) (X := X) (cc := cX12_layWays) (own := RX12) (tab := tX12_layWays) G (by rw [hn]; exact kX12_layWays) (oI := (oF [(mX12_isOf N)])) (oL := (oF [])) (oV := (oF [])) (rI := (fun _ _ => none)) (rL := (fun _ _ => none)) (rV := (fun w => some w))
      (K := (fun j ls st w => if j = 60 then (lgI ls 3 fun v3 => lgI ls 4 fun v4 => lgI ls 5 fun v5 => st0 st (callW (fX12_layWays_60 N 107 i1 N (fX12_layWays_106 N 107 i1 (fX12_layWays_55 N 107 i1 n k108)) v3 v4 v5) w)) else if j = 108 then (lgI ls 3 fun v3 => st0 st (k108 v3 w)) else none)) (fun _ _ _ _ hx => by cases hx) (fun _ _ _ _ hx => by cases hx) (fun w pc ls hx hd => hr w pc ls (Option.some.inj hx) hd) hC (fun ls => lsb [some (.inr (.inr (16, 0))), some (.inr (.inr (107, i1))), some (.inl a2), none, none, none, none] 0 ls) (keepsP_of rfl) ?_ 113 55 [some (.inr (.inr (16, 0))), some (.inr (.inr (107, i1))), some (.inl a2), some (.inl v3), some (.inl v4), none, none] [] w ?_ h
    · intro j ls st w hfx h
      obtain ⟨e0, e1, e2, -⟩ : _ = _ ∧ _ = _ ∧ _ = _ ∧ True := hfx
      try dsimp only at h
      by_cases hj : j = 60
      · subst hj
        rw [if_pos rfl] at h
        obtain ⟨v3, e3, h_1⟩ := lgI_some h
        obtain ⟨v4, e4, h_2⟩ := lgI_some h_1
        obtain ⟨v5, e5, h_3⟩ := lgI_some h_2
        obtain ⟨rfl, h_4⟩ := st0_some h_3
        clear h h_1 h_2 h_3
        have h := h_4
        try rw [callW_eq] at h
        exact WW.le (a := [some (.inr (.inr (16, 0))), some (.inr (.inr (107, i1))), some (.inl a2), some (.inl v3), some (.inl v4), some (.inl v5), none]) (by rw [hn]; rfl) (show _ = _ ∧ _ = _ ∧ _ = _ ∧ _ = _ ∧ _ = _ ∧ _ = _ ∧ True from ⟨e0, e1, e2, e3, e4, e5, trivial⟩) (sX12_layWays_60_k107 G hn hC hr i1 a2 N (fX12_layWays_106 N 107 i1 (fX12_layWays_55 N 107 i1 n k108)) v3 v4 v5 w h (fun v3 v4 w h => (sX12_layWays_106_k107 G hn hC hr i1 a2 (fX12_layWays_55 N 107 i1 n k108) v3 v4 w h (fun v3 v4 w h => (ih k108 v3 v4 w h h108)))))
      rw [if_neg hj] at h
      by_cases hj : j = 108
      · subst hj
        rw [if_pos rfl] at h
        obtain ⟨v3, e3, h_1⟩ := lgI_some h
        obtain ⟨rfl, h_2⟩ := st0_some h_1
        clear h h_1
        have h := h_2
        try rw [callW_eq] at h
        exact WW.le (a := [some (.inr (.inr (16, 0))), some (.inr (.inr (107, i1))), some (.inl a2), some (.inl v3), none, none, none]) (by rw [hn]; rfl) (show _ = _ ∧ _ = _ ∧ _ = _ ∧ _ = _ ∧ True from ⟨e0, e1, e2, e3, trivial⟩) (h108 v3 w h)
      rw [if_neg hj] at h
      cases h
    · exact (show _ = _ ∧ _ = _ ∧ _ = _ ∧ True from ⟨rfl, rfl, rfl, trivial⟩)
set_option maxRecDepth 100000 in
set_option maxHeartbeats 4000000 in
theorem sX12_layWays_50_k107 {N : Nat} {X : XT} (G : GX X cX12_layWays RX12) (hn : xnL X = 7) (hC : CRs X tX12_layWays (oF [(mX12_isOf N)]) (oF []) (oF [])) {r : Wd} (hr : RTV X cX12_layWays r) (i1 : Nat) (a2 : Int32) : ∀ (n : Nat) (v3 : Int32) (w : Wd), fX12_layWays_50 N 107 i1 n v3 w = some r → WW X (pcAt tX12_layWays 50) [some (.inr (.inr (16, 0))), some (.inr (.inr (107, i1))), some (.inl a2), some (.inl v3), none, none, none] [] w := by
  intro n
  induction n with
  | zero => intro v3 w h; cases h
  | succ n ih =>
    intro v3 w h
    refine run_sound (r := r) (X := X) (cc := cX12_layWays) (own := RX12) (tab := tX12_layWays) G (by rw [hn]; exact kX12_layWays) (oI := (oF [(mX12_isOf N)])) (oL := (oF [])) (oV := (oF [])) (rI := (fun _ _ => none)) (rL := (fun _ _ => none)) (rV := (fun w => some w))
      (K := (fun j ls st w => if j = 55 then (lgI ls 3 fun v3 => lgI ls 4 fun v4 => st0 st (callW (fX12_layWays_55 N 107 i1 N (fX12_layWays_108 N 107 i1 (fX12_layWays_50 N 107 i1 n)) v3 v4) w)) else none)) (fun _ _ _ _ hx => by cases hx) (fun _ _ _ _ hx => by cases hx) (fun w pc ls hx hd => hr w pc ls (Option.some.inj hx) hd) hC (fun ls => lsb [some (.inr (.inr (16, 0))), some (.inr (.inr (107, i1))), some (.inl a2), none, none, none, none] 0 ls) (keepsP_of rfl) ?_ 113 50 [some (.inr (.inr (16, 0))), some (.inr (.inr (107, i1))), some (.inl a2), some (.inl v3), none, none, none] [] w ?_ h
    · intro j ls st w hfx h
      obtain ⟨e0, e1, e2, -⟩ : _ = _ ∧ _ = _ ∧ _ = _ ∧ True := hfx
      try dsimp only at h
      by_cases hj : j = 55
      · subst hj
        rw [if_pos rfl] at h
        obtain ⟨v3, e3, h_1⟩ := lgI_some h
        obtain ⟨v4, e4, h_2⟩ := lgI_some h_1
        obtain ⟨rfl, h_3⟩ := st0_some h_2
        clear h h_1 h_2
        have h := h_3
        try rw [callW_eq] at h
        exact WW.le (a := [some (.inr (.inr (16, 0))), some (.inr (.inr (107, i1))), some (.inl a2), some (.inl v3), some (.inl v4), none, none]) (by rw [hn]; rfl) (show _ = _ ∧ _ = _ ∧ _ = _ ∧ _ = _ ∧ _ = _ ∧ True from ⟨e0, e1, e2, e3, e4, trivial⟩) (sX12_layWays_55_k107 G hn hC hr i1 a2 N (fX12_layWays_108 N 107 i1 (fX12_layWays_50 N 107 i1 n)) v3 v4 w h (fun v3 w h => (sX12_layWays_108_k107 G hn hC hr i1 a2 (fX12_layWays_50 N 107 i1 n) v3 w h (fun v3 w h => (ih v3 w h)))))
      rw [if_neg hj] at h
      cases h
    · exact (show _ = _ ∧ _ = _ ∧ _ = _ ∧ True from ⟨rfl, rfl, rfl, trivial⟩)
set_option maxRecDepth 100000 in
set_option maxHeartbeats 4000000 in
theorem sX12_layWays_48_k107 {N : Nat} {X : XT} (G : GX X cX12_layWays RX12) (hn : xnL X = 7) (hC : CRs X tX12_layWays (oF [(mX12_isOf N)]) (oF []) (oF [])) {r : Wd} (hr : RTV X cX12_layWays r) (i1 : Nat) (a2 : Int32) : ∀ (w : Wd), fX12_layWays_48 N 107 i1 w = some r → WW X (pcAt tX12_layWays 48) [some (.inr (.inr (16, 0))), some (.inr (.inr (107, i1))), some (.inl a2), none, none, none, none] [] w := by
  intro w h
  refine run_sound (r := r) (X := X) (cc := cX12_layWays) (own := RX12) (tab := tX12_layWays) G (by rw [hn]; exact kX12_layWays) (oI := (oF [(mX12_isOf N)])) (oL := (oF [])) (oV := (oF [])) (rI := (fun _ _ => none)) (rL := (fun _ _ => none)) (rV := (fun w => some w))
    (K := (fun j ls st w => if j = 50 then (lgI ls 3 fun v3 => st0 st (callW (fX12_layWays_50 N 107 i1 N v3) w)) else none)) (fun _ _ _ _ hx => by cases hx) (fun _ _ _ _ hx => by cases hx) (fun w pc ls hx hd => hr w pc ls (Option.some.inj hx) hd) hC (fun ls => lsb [some (.inr (.inr (16, 0))), some (.inr (.inr (107, i1))), some (.inl a2), none, none, none, none] 0 ls) (keepsP_of rfl) ?_ 113 48 [some (.inr (.inr (16, 0))), some (.inr (.inr (107, i1))), some (.inl a2), none, none, none, none] [] w ?_ h
  · intro j ls st w hfx h
    obtain ⟨e0, e1, e2, -⟩ : _ = _ ∧ _ = _ ∧ _ = _ ∧ True := hfx
    try dsimp only at h
    by_cases hj : j = 50
    · subst hj
      rw [if_pos rfl] at h
      obtain ⟨v3, e3, h_1⟩ := lgI_some h
      obtain ⟨rfl, h_2⟩ := st0_some h_1
      clear h h_1
      have h := h_2
      try rw [callW_eq] at h
      exact WW.le (a := [some (.inr (.inr (16, 0))), some (.inr (.inr (107, i1))), some (.inl a2), some (.inl v3), none, none, none]) (by rw [hn]; rfl) (show _ = _ ∧ _ = _ ∧ _ = _ ∧ _ = _ ∧ True from ⟨e0, e1, e2, e3, trivial⟩) (sX12_layWays_50_k107 G hn hC hr i1 a2 N v3 w h)
    rw [if_neg hj] at h
    cases h
  · exact (show _ = _ ∧ _ = _ ∧ _ = _ ∧ True from ⟨rfl, rfl, rfl, trivial⟩)
set_option maxRecDepth 100000 in
set_option maxHeartbeats 4000000 in
theorem sX12_layWays_46_k107 {N : Nat} {X : XT} (G : GX X cX12_layWays RX12) (hn : xnL X = 7) (hC : CRs X tX12_layWays (oF [(mX12_isOf N)]) (oF []) (oF [])) {r : Wd} (hr : RTV X cX12_layWays r) (i1 : Nat) (a2 : Int32) : ∀ (k2 : Int32 → Wd → Option (Wd)) (v3 : Int32) (w : Wd), fX12_layWays_46 N 107 i1 a2 k2 v3 w = some r → (∀ (v3 : Int32) (w : Wd), k2 v3 w = some r → WW X (pcAt tX12_layWays 2) [some (.inr (.inr (16, 0))), some (.inr (.inr (107, i1))), some (.inl a2), some (.inl v3), none, none, none] [] w) → WW X (pcAt tX12_layWays 46) [some (.inr (.inr (16, 0))), some (.inr (.inr (107, i1))), some (.inl a2), some (.inl v3), none, none, none] [] w := by
  intro k2 v3 w h h2
  refine run_sound (r := r) (X := X) (cc := cX12_layWays) (own := RX12) (tab := tX12_layWays) G (by rw [hn]; exact kX12_layWays) (oI := (oF [(mX12_isOf N)])) (oL := (oF [])) (oV := (oF [])) (rI := (fun _ _ => none)) (rL := (fun _ _ => none)) (rV := (fun w => some w))
    (K := (fun j ls st w => if j = 2 then (lgI ls 3 fun v3 => st0 st (k2 v3 w)) else none)) (fun _ _ _ _ hx => by cases hx) (fun _ _ _ _ hx => by cases hx) (fun w pc ls hx hd => hr w pc ls (Option.some.inj hx) hd) hC (fun ls => lsb [some (.inr (.inr (16, 0))), some (.inr (.inr (107, i1))), some (.inl a2), none, none, none, none] 0 ls) (keepsP_of rfl) ?_ 113 46 [some (.inr (.inr (16, 0))), some (.inr (.inr (107, i1))), some (.inl a2), some (.inl v3), none, none, none] [] w ?_ h
  · intro j ls st w hfx h
    obtain ⟨e0, e1, e2, -⟩ : _ = _ ∧ _ = _ ∧ _ = _ ∧ True := hfx
    try dsimp only at h
    by_cases hj : j = 2
    · subst hj
      rw [if_pos rfl] at h
      obtain ⟨v3, e3, h_1⟩ := lgI_some h
      obtain ⟨rfl, h_2⟩ := st0_some h_1
      clear h h_1
      have h := h_2
      try rw [callW_eq] at h
      exact WW.le (a := [some (.inr (.inr (16, 0))), some (.inr (.inr (107, i1))), some (.inl a2), some (.inl v3), none, none, none]) (by rw [hn]; rfl) (show _ = _ ∧ _ = _ ∧ _ = _ ∧ _ = _ ∧ True from ⟨e0, e1, e2, e3, trivial⟩) (h2 v3 w h)
    rw [if_neg hj] at h
    cases h
  · exact (show _ = _ ∧ _ = _ ∧ _ = _ ∧ True from ⟨rfl, rfl, rfl, trivial⟩)
set_option maxRecDepth 100000 in
set_option maxHeartbeats 4000000 in
theorem sX12_layWays_7_k107 {N : Nat} {X : XT} (G : GX X cX12_layWays RX12) (hn : xnL X = 7) (hC : CRs X tX12_layWays (oF [(mX12_isOf N)]) (oF []) (oF [])) {r : Wd} (hr : RTV X cX12_layWays r) (i1 : Nat) (a2 : Int32) : ∀ (n : Nat) (k46 : Int32 → Wd → Option (Wd)) (v3 : Int32) (v4 : Int32) (w : Wd), fX12_layWays_7 N 107 i1 a2 n k46 v3 v4 w = some r → (∀ (v3 : Int32) (w : Wd), k46 v3 w = some r → WW X (pcAt tX12_layWays 46) [some (.inr (.inr (16, 0))), some (.inr (.inr (107, i1))), some (.inl a2), some (.inl v3), none, none, none] [] w) → WW X (pcAt tX12_layWays 7) [some (.inr (.inr (16, 0))), some (.inr (.inr (107, i1))), some (.inl a2), some (.inl v3), some (.inl v4), none, none] [] w := by
  intro n
  induction n with
  | zero => intro k46 v3 v4 w h h46; cases h
  | succ n ih =>
    intro k46 v3 v4 w h h46
    refine run_sound (r := r) (X := X) (cc := cX12_layWays) (own := RX12) (tab := tX12_layWays) G (by rw [hn]; exact kX12_layWays) (oI := (oF [(mX12_isOf N)])) (oL := (oF [])) (oV := (oF [])) (rI := (fun _ _ => none)) (rL := (fun _ _ => none)) (rV := (fun w => some w))
      (K := (fun j ls st w => if j = 7 then (lgI ls 3 fun v3 => lgI ls 4 fun v4 => st0 st (callW (fX12_layWays_7 N 107 i1 a2 n k46 v3 v4) w)) else if j = 46 then (lgI ls 3 fun v3 => st0 st (k46 v3 w)) else none)) (fun _ _ _ _ hx => by cases hx) (fun _ _ _ _ hx => by cases hx) (fun w pc ls hx hd => hr w pc ls (Option.some.inj hx) hd) hC (fun ls => lsb [some (.inr (.inr (16, 0))), some (.inr (.inr (107, i1))), some (.inl a2), none, none, none, none] 0 ls) (keepsP_of rfl) ?_ 113 7 [some (.inr (.inr (16, 0))), some (.inr (.inr (107, i1))), some (.inl a2), some (.inl v3), some (.inl v4), none, none] [] w ?_ h
    · intro j ls st w hfx h
      obtain ⟨e0, e1, e2, -⟩ : _ = _ ∧ _ = _ ∧ _ = _ ∧ True := hfx
      try dsimp only at h
      by_cases hj : j = 7
      · subst hj
        rw [if_pos rfl] at h
        obtain ⟨v3, e3, h_1⟩ := lgI_some h
        obtain ⟨v4, e4, h_2⟩ := lgI_some h_1
        obtain ⟨rfl, h_3⟩ := st0_some h_2
        clear h h_1 h_2
        have h := h_3
        try rw [callW_eq] at h
        exact WW.le (a := [some (.inr (.inr (16, 0))), some (.inr (.inr (107, i1))), some (.inl a2), some (.inl v3), some (.inl v4), none, none]) (by rw [hn]; rfl) (show _ = _ ∧ _ = _ ∧ _ = _ ∧ _ = _ ∧ _ = _ ∧ True from ⟨e0, e1, e2, e3, e4, trivial⟩) (ih k46 v3 v4 w h h46)
      rw [if_neg hj] at h
      by_cases hj : j = 46
      · subst hj
        rw [if_pos rfl] at h
        obtain ⟨v3, e3, h_1⟩ := lgI_some h
        obtain ⟨rfl, h_2⟩ := st0_some h_1
        clear h h_1
        have h := h_2
        try rw [callW_eq] at h
        exact WW.le (a := [some (.inr (.inr (16, 0))), some (.inr (.inr (107, i1))), some (.inl a2), some (.inl v3), none, none, none]) (by rw [hn]; rfl) (show _ = _ ∧ _ = _ ∧ _ = _ ∧ _ = _ ∧ True from ⟨e0, e1, e2, e3, trivial⟩) (h46 v3 w h)
      rw [if_neg hj] at h
      cases h
    · exact (show _ = _ ∧ _ = _ ∧ _ = _ ∧ True from ⟨rfl, rfl, rfl, trivial⟩)
set_option maxRecDepth 100000 in
set_option maxHeartbeats 4000000 in
theorem sX12_layWays_2_k107 {N : Nat} {X : XT} (G : GX X cX12_layWays RX12) (hn : xnL X = 7) (hC : CRs X tX12_layWays (oF [(mX12_isOf N)]) (oF []) (oF [])) {r : Wd} (hr : RTV X cX12_layWays r) (i1 : Nat) (a2 : Int32) : ∀ (n : Nat) (k48 : Wd → Option (Wd)) (v3 : Int32) (w : Wd), fX12_layWays_2 N 107 i1 a2 n k48 v3 w = some r → (∀ (w : Wd), k48 w = some r → WW X (pcAt tX12_layWays 48) [some (.inr (.inr (16, 0))), some (.inr (.inr (107, i1))), some (.inl a2), none, none, none, none] [] w) → WW X (pcAt tX12_layWays 2) [some (.inr (.inr (16, 0))), some (.inr (.inr (107, i1))), some (.inl a2), some (.inl v3), none, none, none] [] w := by
  intro n
  induction n with
  | zero => intro k48 v3 w h h48; cases h
  | succ n ih =>
    intro k48 v3 w h h48
    refine run_sound (r := r) (X := X) (cc := cX12_layWays) (own := RX12) (tab := tX12_layWays) G (by rw [hn]; exact kX12_layWays) (oI := (oF [(mX12_isOf N)])) (oL := (oF [])) (oV := (oF [])) (rI := (fun _ _ => none)) (rL := (fun _ _ => none)) (rV := (fun w => some w))
      (K := (fun j ls st w => if j = 7 then (lgI ls 3 fun v3 => lgI ls 4 fun v4 => st0 st (callW (fX12_layWays_7 N 107 i1 a2 N (fX12_layWays_46 N 107 i1 a2 (fX12_layWays_2 N 107 i1 a2 n k48)) v3 v4) w)) else if j = 48 then (st0 st (k48 w)) else none)) (fun _ _ _ _ hx => by cases hx) (fun _ _ _ _ hx => by cases hx) (fun w pc ls hx hd => hr w pc ls (Option.some.inj hx) hd) hC (fun ls => lsb [some (.inr (.inr (16, 0))), some (.inr (.inr (107, i1))), some (.inl a2), none, none, none, none] 0 ls) (keepsP_of rfl) ?_ 113 2 [some (.inr (.inr (16, 0))), some (.inr (.inr (107, i1))), some (.inl a2), some (.inl v3), none, none, none] [] w ?_ h
    · intro j ls st w hfx h
      obtain ⟨e0, e1, e2, -⟩ : _ = _ ∧ _ = _ ∧ _ = _ ∧ True := hfx
      try dsimp only at h
      by_cases hj : j = 7
      · subst hj
        rw [if_pos rfl] at h
        obtain ⟨v3, e3, h_1⟩ := lgI_some h
        obtain ⟨v4, e4, h_2⟩ := lgI_some h_1
        obtain ⟨rfl, h_3⟩ := st0_some h_2
        clear h h_1 h_2
        have h := h_3
        try rw [callW_eq] at h
        exact WW.le (a := [some (.inr (.inr (16, 0))), some (.inr (.inr (107, i1))), some (.inl a2), some (.inl v3), some (.inl v4), none, none]) (by rw [hn]; rfl) (show _ = _ ∧ _ = _ ∧ _ = _ ∧ _ = _ ∧ _ = _ ∧ True from ⟨e0, e1, e2, e3, e4, trivial⟩) (sX12_layWays_7_k107 G hn hC hr i1 a2 N (fX12_layWays_46 N 107 i1 a2 (fX12_layWays_2 N 107 i1 a2 n k48)) v3 v4 w h (fun v3 w h => (sX12_layWays_46_k107 G hn hC hr i1 a2 (fX12_layWays_2 N 107 i1 a2 n k48) v3 w h (fun v3 w h => (ih k48 v3 w h h48)))))
      rw [if_neg hj] at h
      by_cases hj : j = 48
      · subst hj
        rw [if_pos rfl] at h
        obtain ⟨rfl, h_1⟩ := st0_some h
        clear h
        have h := h_1
        try rw [callW_eq] at h
        exact WW.le (a := [some (.inr (.inr (16, 0))), some (.inr (.inr (107, i1))), some (.inl a2), none, none, none, none]) (by rw [hn]; rfl) (show _ = _ ∧ _ = _ ∧ _ = _ ∧ True from ⟨e0, e1, e2, trivial⟩) (h48 w h)
      rw [if_neg hj] at h
      cases h
    · exact (show _ = _ ∧ _ = _ ∧ _ = _ ∧ True from ⟨rfl, rfl, rfl, trivial⟩)
set_option maxRecDepth 100000 in
set_option maxHeartbeats 4000000 in
theorem sX12_layWays_108_k108 {N : Nat} {X : XT} (G : GX X cX12_layWays RX12) (hn : xnL X = 7) (hC : CRs X tX12_layWays (oF [(mX12_isOf N)]) (oF []) (oF [])) {r : Wd} (hr : RTV X cX12_layWays r) (i1 : Nat) (a2 : Int32) : ∀ (k50 : Int32 → Wd → Option (Wd)) (v3 : Int32) (w : Wd), fX12_layWays_108 N 108 i1 k50 v3 w = some r → (∀ (v3 : Int32) (w : Wd), k50 v3 w = some r → WW X (pcAt tX12_layWays 50) [some (.inr (.inr (16, 0))), some (.inr (.inr (108, i1))), some (.inl a2), some (.inl v3), none, none, none] [] w) → WW X (pcAt tX12_layWays 108) [some (.inr (.inr (16, 0))), some (.inr (.inr (108, i1))), some (.inl a2), some (.inl v3), none, none, none] [] w := by
  intro k50 v3 w h h50
  refine run_sound (r := r) (X := X) (cc := cX12_layWays) (own := RX12) (tab := tX12_layWays) G (by rw [hn]; exact kX12_layWays) (oI := (oF [(mX12_isOf N)])) (oL := (oF [])) (oV := (oF [])) (rI := (fun _ _ => none)) (rL := (fun _ _ => none)) (rV := (fun w => some w))
    (K := (fun j ls st w => if j = 50 then (lgI ls 3 fun v3 => st0 st (k50 v3 w)) else none)) (fun _ _ _ _ hx => by cases hx) (fun _ _ _ _ hx => by cases hx) (fun w pc ls hx hd => hr w pc ls (Option.some.inj hx) hd) hC (fun ls => lsb [some (.inr (.inr (16, 0))), some (.inr (.inr (108, i1))), some (.inl a2), none, none, none, none] 0 ls) (keepsP_of rfl) ?_ 113 108 [some (.inr (.inr (16, 0))), some (.inr (.inr (108, i1))), some (.inl a2), some (.inl v3), none, none, none] [] w ?_ h
  · intro j ls st w hfx h
    obtain ⟨e0, e1, e2, -⟩ : _ = _ ∧ _ = _ ∧ _ = _ ∧ True := hfx
    try dsimp only at h
    by_cases hj : j = 50
    · subst hj
      rw [if_pos rfl] at h
      obtain ⟨v3, e3, h_1⟩ := lgI_some h
      obtain ⟨rfl, h_2⟩ := st0_some h_1
      clear h h_1
      have h := h_2
      try rw [callW_eq] at h
      exact WW.le (a := [some (.inr (.inr (16, 0))), some (.inr (.inr (108, i1))), some (.inl a2), some (.inl v3), none, none, none]) (by rw [hn]; rfl) (show _ = _ ∧ _ = _ ∧ _ = _ ∧ _ = _ ∧ True from ⟨e0, e1, e2, e3, trivial⟩) (h50 v3 w h)
    rw [if_neg hj] at h
    cases h
  · exact (show _ = _ ∧ _ = _ ∧ _ = _ ∧ True from ⟨rfl, rfl, rfl, trivial⟩)
set_option maxRecDepth 100000 in
set_option maxHeartbeats 4000000 in
theorem sX12_layWays_106_k108 {N : Nat} {X : XT} (G : GX X cX12_layWays RX12) (hn : xnL X = 7) (hC : CRs X tX12_layWays (oF [(mX12_isOf N)]) (oF []) (oF [])) {r : Wd} (hr : RTV X cX12_layWays r) (i1 : Nat) (a2 : Int32) : ∀ (k55 : Int32 → Int32 → Wd → Option (Wd)) (v3 : Int32) (v4 : Int32) (w : Wd), fX12_layWays_106 N 108 i1 k55 v3 v4 w = some r → (∀ (v3 : Int32) (v4 : Int32) (w : Wd), k55 v3 v4 w = some r → WW X (pcAt tX12_layWays 55) [some (.inr (.inr (16, 0))), some (.inr (.inr (108, i1))), some (.inl a2), some (.inl v3), some (.inl v4), none, none] [] w) → WW X (pcAt tX12_layWays 106) [some (.inr (.inr (16, 0))), some (.inr (.inr (108, i1))), some (.inl a2), some (.inl v3), some (.inl v4), none, none] [] w := by
  intro k55 v3 v4 w h h55
  refine run_sound (r := r) (X := X) (cc := cX12_layWays) (own := RX12) (tab := tX12_layWays) G (by rw [hn]; exact kX12_layWays) (oI := (oF [(mX12_isOf N)])) (oL := (oF [])) (oV := (oF [])) (rI := (fun _ _ => none)) (rL := (fun _ _ => none)) (rV := (fun w => some w))
    (K := (fun j ls st w => if j = 55 then (lgI ls 3 fun v3 => lgI ls 4 fun v4 => st0 st (k55 v3 v4 w)) else none)) (fun _ _ _ _ hx => by cases hx) (fun _ _ _ _ hx => by cases hx) (fun w pc ls hx hd => hr w pc ls (Option.some.inj hx) hd) hC (fun ls => lsb [some (.inr (.inr (16, 0))), some (.inr (.inr (108, i1))), some (.inl a2), none, none, none, none] 0 ls) (keepsP_of rfl) ?_ 113 106 [some (.inr (.inr (16, 0))), some (.inr (.inr (108, i1))), some (.inl a2), some (.inl v3), some (.inl v4), none, none] [] w ?_ h
  · intro j ls st w hfx h
    obtain ⟨e0, e1, e2, -⟩ : _ = _ ∧ _ = _ ∧ _ = _ ∧ True := hfx
    try dsimp only at h
    by_cases hj : j = 55
    · subst hj
      rw [if_pos rfl] at h
      obtain ⟨v3, e3, h_1⟩ := lgI_some h
      obtain ⟨v4, e4, h_2⟩ := lgI_some h_1
      obtain ⟨rfl, h_3⟩ := st0_some h_2
      clear h h_1 h_2
      have h := h_3
      try rw [callW_eq] at h
      exact WW.le (a := [some (.inr (.inr (16, 0))), some (.inr (.inr (108, i1))), some (.inl a2), some (.inl v3), some (.inl v4), none, none]) (by rw [hn]; rfl) (show _ = _ ∧ _ = _ ∧ _ = _ ∧ _ = _ ∧ _ = _ ∧ True from ⟨e0, e1, e2, e3, e4, trivial⟩) (h55 v3 v4 w h)
    rw [if_neg hj] at h
    cases h
  · exact (show _ = _ ∧ _ = _ ∧ _ = _ ∧ True from ⟨rfl, rfl, rfl, trivial⟩)
set_option maxRecDepth 100000 in
set_option maxHeartbeats 4000000 in
theorem sX12_layWays_60_k108 {N : Nat} {X : XT} (G : GX X cX12_layWays RX12) (hn : xnL X = 7) (hC : CRs X tX12_layWays (oF [(mX12_isOf N)]) (oF []) (oF [])) {r : Wd} (hr : RTV X cX12_layWays r) (i1 : Nat) (a2 : Int32) : ∀ (n : Nat) (k106 : Int32 → Int32 → Wd → Option (Wd)) (v3 : Int32) (v4 : Int32) (v5 : Int32) (w : Wd), fX12_layWays_60 N 108 i1 n k106 v3 v4 v5 w = some r → (∀ (v3 : Int32) (v4 : Int32) (w : Wd), k106 v3 v4 w = some r → WW X (pcAt tX12_layWays 106) [some (.inr (.inr (16, 0))), some (.inr (.inr (108, i1))), some (.inl a2), some (.inl v3), some (.inl v4), none, none] [] w) → WW X (pcAt tX12_layWays 60) [some (.inr (.inr (16, 0))), some (.inr (.inr (108, i1))), some (.inl a2), some (.inl v3), some (.inl v4), some (.inl v5), none] [] w := by
  intro n
  induction n with
  | zero => intro k106 v3 v4 v5 w h h106; cases h
  | succ n ih =>
    intro k106 v3 v4 v5 w h h106
    refine run_sound (r := r) (X := X) (cc := cX12_layWays) (own := RX12) (tab := tX12_layWays) G (by rw [hn]; exact kX12_layWays) (oI := (oF [(mX12_isOf N)])) (oL := (oF [])) (oV := (oF [])) (rI := (fun _ _ => none)) (rL := (fun _ _ => none)) (rV := (fun w => some w))
      (K := (fun j ls st w => if j = 60 then (lgI ls 3 fun v3 => lgI ls 4 fun v4 => lgI ls 5 fun v5 => st0 st (callW (fX12_layWays_60 N 108 i1 n k106 v3 v4 v5) w)) else if j = 106 then (lgI ls 3 fun v3 => lgI ls 4 fun v4 => st0 st (k106 v3 v4 w)) else none)) (fun _ _ _ _ hx => by cases hx) (fun _ _ _ _ hx => by cases hx) (fun w pc ls hx hd => hr w pc ls (Option.some.inj hx) hd) hC (fun ls => lsb [some (.inr (.inr (16, 0))), some (.inr (.inr (108, i1))), some (.inl a2), none, none, none, none] 0 ls) (keepsP_of rfl) ?_ 113 60 [some (.inr (.inr (16, 0))), some (.inr (.inr (108, i1))), some (.inl a2), some (.inl v3), some (.inl v4), some (.inl v5), none] [] w ?_ h
    · intro j ls st w hfx h
      obtain ⟨e0, e1, e2, -⟩ : _ = _ ∧ _ = _ ∧ _ = _ ∧ True := hfx
      try dsimp only at h
      by_cases hj : j = 60
      · subst hj
        rw [if_pos rfl] at h
        obtain ⟨v3, e3, h_1⟩ := lgI_some h
        obtain ⟨v4, e4, h_2⟩ := lgI_some h_1
        obtain ⟨v5, e5, h_3⟩ := lgI_some h_2
        obtain ⟨rfl, h_4⟩ := st0_some h_3
        clear h h_1 h_2 h_3
        have h := h_4
        try rw [callW_eq] at h
        exact WW.le (a := [some (.inr (.inr (16, 0))), some (.inr (.inr (108, i1))), some (.inl a2), some (.inl v3), some (.inl v4), some (.inl v5), none]) (by rw [hn]; rfl) (show _ = _ ∧ _ = _ ∧ _ = _ ∧ _ = _ ∧ _ = _ ∧ _ = _ ∧ True from ⟨e0, e1, e2, e3, e4, e5, trivial⟩) (ih k106 v3 v4 v5 w h h106)
      rw [if_neg hj] at h
      by_cases hj : j = 106
      · subst hj
        rw [if_pos rfl] at h
        obtain ⟨v3, e3, h_1⟩ := lgI_some h
        obtain ⟨v4, e4, h_2⟩ := lgI_some h_1
        obtain ⟨rfl, h_3⟩ := st0_some h_2
        clear h h_1 h_2
        have h := h_3
        try rw [callW_eq] at h
        exact WW.le (a := [some (.inr (.inr (16, 0))), some (.inr (.inr (108, i1))), some (.inl a2), some (.inl v3), some (.inl v4), none, none]) (by rw [hn]; rfl) (show _ = _ ∧ _ = _ ∧ _ = _ ∧ _ = _ ∧ _ = _ ∧ True from ⟨e0, e1, e2, e3, e4, trivial⟩) (h106 v3 v4 w h)
      rw [if_neg hj] at h
      cases h
    · exact (show _ = _ ∧ _ = _ ∧ _ = _ ∧ True from ⟨rfl, rfl, rfl, trivial⟩)
set_option maxRecDepth 100000 in
set_option maxHeartbeats 4000000 in
theorem sX12_layWays_55_k108 {N : Nat} {X : XT} (G : GX X cX12_layWays RX12) (hn : xnL X = 7) (hC : CRs X tX12_layWays (oF [(mX12_isOf N)]) (oF []) (oF [])) {r : Wd} (hr : RTV X cX12_layWays r) (i1 : Nat) (a2 : Int32) : ∀ (n : Nat) (k108 : Int32 → Wd → Option (Wd)) (v3 : Int32) (v4 : Int32) (w : Wd), fX12_layWays_55 N 108 i1 n k108 v3 v4 w = some r → (∀ (v3 : Int32) (w : Wd), k108 v3 w = some r → WW X (pcAt tX12_layWays 108) [some (.inr (.inr (16, 0))), some (.inr (.inr (108, i1))), some (.inl a2), some (.inl v3), none, none, none] [] w) → WW X (pcAt tX12_layWays 55) [some (.inr (.inr (16, 0))), some (.inr (.inr (108, i1))), some (.inl a2), some (.inl v3), some (.inl v4), none, none] [] w := by
  intro n
  induction n with
  | zero => intro k108 v3 v4 w h h108; cases h
  | succ n ih =>
    intro k108 v3 v4 w h h108
    refine run_sound (r := r) (X := X) (cc := cX12_layWays) (own := RX12) (tab := tX12_layWays) G (by rw [hn]; exact kX12_layWays) (oI := (oF [(mX12_isOf N)])) (oL := (oF [])) (oV := (oF [])) (rI := (fun _ _ => none)) (rL := (fun _ _ => none)) (rV := (fun w => some w))
      (K := (fun j ls st w => if j = 60 then (lgI ls 3 fun v3 => lgI ls 4 fun v4 => lgI ls 5 fun v5 => st0 st (callW (fX12_layWays_60 N 108 i1 N (fX12_layWays_106 N 108 i1 (fX12_layWays_55 N 108 i1 n k108)) v3 v4 v5) w)) else if j = 108 then (lgI ls 3 fun v3 => st0 st (k108 v3 w)) else none)) (fun _ _ _ _ hx => by cases hx) (fun _ _ _ _ hx => by cases hx) (fun w pc ls hx hd => hr w pc ls (Option.some.inj hx) hd) hC (fun ls => lsb [some (.inr (.inr (16, 0))), some (.inr (.inr (108, i1))), some (.inl a2), none, none, none, none] 0 ls) (keepsP_of rfl) ?_ 113 55 [some (.inr (.inr (16, 0))), some (.inr (.inr (108, i1))), some (.inl a2), some (.inl v3), some (.inl v4), none, none] [] w ?_ h
    · intro j ls st w hfx h
      obtain ⟨e0, e1, e2, -⟩ : _ = _ ∧ _ = _ ∧ _ = _ ∧ True := hfx
      try dsimp only at h
      by_cases hj : j = 60
      · subst hj
        rw [if_pos rfl] at h
        obtain ⟨v3, e3, h_1⟩ := lgI_some h
        obtain ⟨v4, e4, h_2⟩ := lgI_some h_1
        obtain ⟨v5, e5, h_3⟩ := lgI_some h_2
        obtain ⟨rfl, h_4⟩ := st0_some h_3
        clear h h_1 h_2 h_3
        have h := h_4
        try rw [callW_eq] at h
        exact WW.le (a := [some (.inr (.inr (16, 0))), some (.inr (.inr (108, i1))), some (.inl a2), some (.inl v3), some (.inl v4), some (.inl v5), none]) (by rw [hn]; rfl) (show _ = _ ∧ _ = _ ∧ _ = _ ∧ _ = _ ∧ _ = _ ∧ _ = _ ∧ True from ⟨e0, e1, e2, e3, e4, e5, trivial⟩) (sX12_layWays_60_k108 G hn hC hr i1 a2 N (fX12_layWays_106 N 108 i1 (fX12_layWays_55 N 108 i1 n k108)) v3 v4 v5 w h (fun v3 v4 w h => (sX12_layWays_106_k108 G hn hC hr i1 a2 (fX12_layWays_55 N 108 i1 n k108) v3 v4 w h (fun v3 v4 w h => (ih k108 v3 v4 w h h108)))))
      rw [if_neg hj] at h
      by_cases hj : j = 108
      · subst hj
        rw [if_pos rfl] at h
        obtain ⟨v3, e3, h_1⟩ := lgI_some h
        obtain ⟨rfl, h_2⟩ := st0_some h_1
        clear h h_1
        have h := h_2
        try rw [callW_eq] at h
        exact WW.le (a := [some (.inr (.inr (16, 0))), some (.inr (.inr (108, i1))), some (.inl a2), some (.inl v3), none, none, none]) (by rw [hn]; rfl) (show _ = _ ∧ _ = _ ∧ _ = _ ∧ _ = _ ∧ True from ⟨e0, e1, e2, e3, trivial⟩) (h108 v3 w h)
      rw [if_neg hj] at h
      cases h
    · exact (show _ = _ ∧ _ = _ ∧ _ = _ ∧ True from ⟨rfl, rfl, rfl, trivial⟩)
set_option maxRecDepth 100000 in
set_option maxHeartbeats 4000000 in
theorem sX12_layWays_50_k108 {N : Nat} {X : XT} (G : GX X cX12_layWays RX12) (hn : xnL X = 7) (hC : CRs X tX12_layWays (oF [(mX12_isOf N)]) (oF []) (oF [])) {r : Wd} (hr : RTV X cX12_layWays r) (i1 : Nat) (a2 : Int32) : ∀ (n : Nat) (v3 : Int32) (w : Wd), fX12_layWays_50 N 108 i1 n v3 w = some r → WW X (pcAt tX12_layWays 50) [some (.inr (.inr (16, 0))), some (.inr (.inr (108, i1))), some (.inl a2), some (.inl v3), none, none, none] [] w := by
  intro n
  induction n with
  | zero => intro v3 w h; cases h
  | succ n ih =>
    intro v3 w h
    refine run_sound (r := r) (X := X) (cc := cX12_layWays) (own := RX12) (tab := tX12_layWays) G (by rw [hn]; exact kX12_layWays) (oI := (oF [(mX12_isOf N)])) (oL := (oF [])) (oV := (oF [])) (rI := (fun _ _ => none)) (rL := (fun _ _ => none)) (rV := (fun w => some w))
      (K := (fun j ls st w => if j = 55 then (lgI ls 3 fun v3 => lgI ls 4 fun v4 => st0 st (callW (fX12_layWays_55 N 108 i1 N (fX12_layWays_108 N 108 i1 (fX12_layWays_50 N 108 i1 n)) v3 v4) w)) else none)) (fun _ _ _ _ hx => by cases hx) (fun _ _ _ _ hx => by cases hx) (fun w pc ls hx hd => hr w pc ls (Option.some.inj hx) hd) hC (fun ls => lsb [some (.inr (.inr (16, 0))), some (.inr (.inr (108, i1))), some (.inl a2), none, none, none, none] 0 ls) (keepsP_of rfl) ?_ 113 50 [some (.inr (.inr (16, 0))), some (.inr (.inr (108, i1))), some (.inl a2), some (.inl v3), none, none, none] [] w ?_ h
    · intro j ls st w hfx h
      obtain ⟨e0, e1, e2, -⟩ : _ = _ ∧ _ = _ ∧ _ = _ ∧ True := hfx
      try dsimp only at h
      by_cases hj : j = 55
      · subst hj
        rw [if_pos rfl] at h
        obtain ⟨v3, e3, h_1⟩ := lgI_some h
        obtain ⟨v4, e4, h_2⟩ := lgI_some h_1
        obtain ⟨rfl, h_3⟩ := st0_some h_2
        clear h h_1 h_2
        have h := h_3
        try rw [callW_eq] at h
        exact WW.le (a := [some (.inr (.inr (16, 0))), some (.inr (.inr (108, i1))), some (.inl a2), some (.inl v3), some (.inl v4), none, none]) (by rw [hn]; rfl) (show _ = _ ∧ _ = _ ∧ _ = _ ∧ _ = _ ∧ _ = _ ∧ True from ⟨e0, e1, e2, e3, e4, trivial⟩) (sX12_layWays_55_k108 G hn hC hr i1 a2 N (fX12_layWays_108 N 108 i1 (fX12_layWays_50 N 108 i1 n)) v3 v4 w h (fun v3 w h => (sX12_layWays_108_k108 G hn hC hr i1 a2 (fX12_layWays_50 N 108 i1 n) v3 w h (fun v3 w h => (ih v3 w h)))))
      rw [if_neg hj] at h
      cases h
    · exact (show _ = _ ∧ _ = _ ∧ _ = _ ∧ True from ⟨rfl, rfl, rfl, trivial⟩)
set_option maxRecDepth 100000 in
set_option maxHeartbeats 4000000 in
theorem sX12_layWays_48_k108 {N : Nat} {X : XT} (G : GX X cX12_layWays RX12) (hn : xnL X = 7) (hC : CRs X tX12_layWays (oF [(mX12_isOf N)]) (oF []) (oF [])) {r : Wd} (hr : RTV X cX12_layWays r) (i1 : Nat) (a2 : Int32) : ∀ (w : Wd), fX12_layWays_48 N 108 i1 w = some r → WW X (pcAt tX12_layWays 48) [some (.inr (.inr (16, 0))), some (.inr (.inr (108, i1))), some (.inl a2), none, none, none, none] [] w := by
  intro w h
  refine run_sound (r := r) (X := X) (cc := cX12_layWays) (own := RX12) (tab := tX12_layWays) G (by rw [hn]; exact kX12_layWays) (oI := (oF [(mX12_isOf N)])) (oL := (oF [])) (oV := (oF [])) (rI := (fun _ _ => none)) (rL := (fun _ _ => none)) (rV := (fun w => some w))
    (K := (fun j ls st w => if j = 50 then (lgI ls 3 fun v3 => st0 st (callW (fX12_layWays_50 N 108 i1 N v3) w)) else none)) (fun _ _ _ _ hx => by cases hx) (fun _ _ _ _ hx => by cases hx) (fun w pc ls hx hd => hr w pc ls (Option.some.inj hx) hd) hC (fun ls => lsb [some (.inr (.inr (16, 0))), some (.inr (.inr (108, i1))), some (.inl a2), none, none, none, none] 0 ls) (keepsP_of rfl) ?_ 113 48 [some (.inr (.inr (16, 0))), some (.inr (.inr (108, i1))), some (.inl a2), none, none, none, none] [] w ?_ h
  · intro j ls st w hfx h
    obtain ⟨e0, e1, e2, -⟩ : _ = _ ∧ _ = _ ∧ _ = _ ∧ True := hfx
    try dsimp only at h
    by_cases hj : j = 50
    · subst hj
      rw [if_pos rfl] at h
      obtain ⟨v3, e3, h_1⟩ := lgI_some h
      obtain ⟨rfl, h_2⟩ := st0_some h_1
      clear h h_1
      have h := h_2
      try rw [callW_eq] at h
      exact WW.le (a := [some (.inr (.inr (16, 0))), some (.inr (.inr (108, i1))), some (.inl a2), some (.inl v3), none, none, none]) (by rw [hn]; rfl) (show _ = _ ∧ _ = _ ∧ _ = _ ∧ _ = _ ∧ True from ⟨e0, e1, e2, e3, trivial⟩) (sX12_layWays_50_k108 G hn hC hr i1 a2 N v3 w h)
    rw [if_neg hj] at h
    cases h
  · exact (show _ = _ ∧ _ = _ ∧ _ = _ ∧ True from ⟨rfl, rfl, rfl, trivial⟩)
set_option maxRecDepth 100000 in
set_option maxHeartbeats 4000000 in
theorem sX12_layWays_46_k108 {N : Nat} {X : XT} (G : GX X cX12_layWays RX12) (hn : xnL X = 7) (hC : CRs X tX12_layWays (oF [(mX12_isOf N)]) (oF []) (oF [])) {r : Wd} (hr : RTV X cX12_layWays r) (i1 : Nat) (a2 : Int32) : ∀ (k2 : Int32 → Wd → Option (Wd)) (v3 : Int32) (w : Wd), fX12_layWays_46 N 108 i1 a2 k2 v3 w = some r → (∀ (v3 : Int32) (w : Wd), k2 v3 w = some r → WW X (pcAt tX12_layWays 2) [some (.inr (.inr (16, 0))), some (.inr (.inr (108, i1))), some (.inl a2), some (.inl v3), none, none, none] [] w) → WW X (pcAt tX12_layWays 46) [some (.inr (.inr (16, 0))), some (.inr (.inr (108, i1))), some (.inl a2), some (.inl v3), none, none, none] [] w := by
  intro k2 v3 w h h2
  refine run_sound (r := r) (X := X) (cc := cX12_layWays) (own := RX12) (tab := tX12_layWays) G (by rw [hn]; exact kX12_layWays) (oI := (oF [(mX12_isOf N)])) (oL := (oF [])) (oV := (oF [])) (rI := (fun _ _ => none)) (rL := (fun _ _ => none)) (rV := (fun w => some w))
    (K := (fun j ls st w => if j = 2 then (lgI ls 3 fun v3 => st0 st (k2 v3 w)) else none)) (fun _ _ _ _ hx => by cases hx) (fun _ _ _ _ hx => by cases hx) (fun w pc ls hx hd => hr w pc ls (Option.some.inj hx) hd) hC (fun ls => lsb [some (.inr (.inr (16, 0))), some (.inr (.inr (108, i1))), some (.inl a2), none, none, none, none] 0 ls) (keepsP_of rfl) ?_ 113 46 [some (.inr (.inr (16, 0))), some (.inr (.inr (108, i1))), some (.inl a2), some (.inl v3), none, none, none] [] w ?_ h
  · intro j ls st w hfx h
    obtain ⟨e0, e1, e2, -⟩ : _ = _ ∧ _ = _ ∧ _ = _ ∧ True := hfx
    try dsimp only at h
    by_cases hj : j = 2
    · subst hj
      rw [if_pos rfl] at h
      obtain ⟨v3, e3, h_1⟩ := lgI_some h
      obtain ⟨rfl, h_2⟩ := st0_some h_1
      clear h h_1
      have h := h_2
      try rw [callW_eq] at h
      exact WW.le (a := [some (.inr (.inr (16, 0))), some (.inr (.inr (108, i1))), some (.inl a2), some (.inl v3), none, none, none]) (by rw [hn]; rfl) (show _ = _ ∧ _ = _ ∧ _ = _ ∧ _ = _ ∧ True from ⟨e0, e1, e2, e3, trivial⟩) (h2 v3 w h)
    rw [if_neg hj] at h
    cases h
  · exact (show _ = _ ∧ _ = _ ∧ _ = _ ∧ True from ⟨rfl, rfl, rfl, trivial⟩)
set_option maxRecDepth 100000 in
set_option maxHeartbeats 4000000 in
theorem sX12_layWays_7_k108 {N : Nat} {X : XT} (G : GX X cX12_layWays RX12) (hn : xnL X = 7) (hC : CRs X tX12_layWays (oF [(mX12_isOf N)]) (oF []) (oF [])) {r : Wd} (hr : RTV X cX12_layWays r) (i1 : Nat) (a2 : Int32) : ∀ (n : Nat) (k46 : Int32 → Wd → Option (Wd)) (v3 : Int32) (v4 : Int32) (w : Wd), fX12_layWays_7 N 108 i1 a2 n k46 v3 v4 w = some r → (∀ (v3 : Int32) (w : Wd), k46 v3 w = some r → WW X (pcAt tX12_layWays 46) [some (.inr (.inr (16, 0))), some (.inr (.inr (108, i1))), some (.inl a2), some (.inl v3), none, none, none] [] w) → WW X (pcAt tX12_layWays 7) [some (.inr (.inr (16, 0))), some (.inr (.inr (108, i1))), some (.inl a2), some (.inl v3), some (.inl v4), none, none] [] w := by
  intro n
  induction n with
  | zero => intro k46 v3 v4 w h h46; cases h
  | succ n ih =>
    intro k46 v3 v4 w h h46
    refine run_sound (r := r) (X := X) (cc := cX12_layWays) (own := RX12) (tab := tX12_layWays) G (by rw [hn]; exact kX12_layWays) (oI := (oF [(mX12_isOf N)])) (oL := (oF [])) (oV := (oF [])) (rI := (fun _ _ => none)) (rL := (fun _ _ => none)) (rV := (fun w => some w))
      (K := (fun j ls st w => if j = 7 then (lgI ls 3 fun v3 => lgI ls 4 fun v4 => st0 st (callW (fX12_layWays_7 N 108 i1 a2 n k46 v3 v4) w)) else if j = 46 then (lgI ls 3 fun v3 => st0 st (k46 v3 w)) else none)) (fun _ _ _ _ hx => by cases hx) (fun _ _ _ _ hx => by cases hx) (fun w pc ls hx hd => hr w pc ls (Option.some.inj hx) hd) hC (fun ls => lsb [some (.inr (.inr (16, 0))), some (.inr (.inr (108, i1))), some (.inl a2), none, none, none, none] 0 ls) (keepsP_of rfl) ?_ 113 7 [some (.inr (.inr (16, 0))), some (.inr (.inr (108, i1))), some (.inl a2), some (.inl v3), some (.inl v4), none, none] [] w ?_ h
    · intro j ls st w hfx h
      obtain ⟨e0, e1, e2, -⟩ : _ = _ ∧ _ = _ ∧ _ = _ ∧ True := hfx
      try dsimp only at h
      by_cases hj : j = 7
      · subst hj
        rw [if_pos rfl] at h
        obtain ⟨v3, e3, h_1⟩ := lgI_some h
        obtain ⟨v4, e4, h_2⟩ := lgI_some h_1
        obtain ⟨rfl, h_3⟩ := st0_some h_2
        clear h h_1 h_2
        have h := h_3
        try rw [callW_eq] at h
        exact WW.le (a := [some (.inr (.inr (16, 0))), some (.inr (.inr (108, i1))), some (.inl a2), some (.inl v3), some (.inl v4), none, none]) (by rw [hn]; rfl) (show _ = _ ∧ _ = _ ∧ _ = _ ∧ _ = _ ∧ _ = _ ∧ True from ⟨e0, e1, e2, e3, e4, trivial⟩) (ih k46 v3 v4 w h h46)
      rw [if_neg hj] at h
      by_cases hj : j = 46
      · subst hj
        rw [if_pos rfl] at h
        obtain ⟨v3, e3, h_1⟩ := lgI_some h
        obtain ⟨rfl, h_2⟩ := st0_some h_1
        clear h h_1
        have h := h_2
        try rw [callW_eq] at h
        exact WW.le (a := [some (.inr (.inr (16, 0))), some (.inr (.inr (108, i1))), some (.inl a2), some (.inl v3), none, none, none]) (by rw [hn]; rfl) (show _ = _ ∧ _ = _ ∧ _ = _ ∧ _ = _ ∧ True from ⟨e0, e1, e2, e3, trivial⟩) (h46 v3 w h)
      rw [if_neg hj] at h
      cases h
    · exact (show _ = _ ∧ _ = _ ∧ _ = _ ∧ True from ⟨rfl, rfl, rfl, trivial⟩)
set_option maxRecDepth 100000 in
set_option maxHeartbeats 4000000 in
theorem sX12_layWays_2_k108 {N : Nat} {X : XT} (G : GX X cX12_layWays RX12) (hn : xnL X = 7) (hC : CRs X tX12_layWays (oF [(mX12_isOf N)]) (oF []) (oF [])) {r : Wd} (hr : RTV X cX12_layWays r) (i1 : Nat) (a2 : Int32) : ∀ (n : Nat) (k48 : Wd → Option (Wd)) (v3 : Int32) (w : Wd), fX12_layWays_2 N 108 i1 a2 n k48 v3 w = some r → (∀ (w : Wd), k48 w = some r → WW X (pcAt tX12_layWays 48) [some (.inr (.inr (16, 0))), some (.inr (.inr (108, i1))), some (.inl a2), none, none, none, none] [] w) → WW X (pcAt tX12_layWays 2) [some (.inr (.inr (16, 0))), some (.inr (.inr (108, i1))), some (.inl a2), some (.inl v3), none, none, none] [] w := by
  intro n
  induction n with
  | zero => intro k48 v3 w h h48; cases h
  | succ n ih =>
    intro k48 v3 w h h48
    refine run_sound (r := r) (X := X) (cc := cX12_layWays) (own := RX12) (tab := tX12_layWays) G (by rw [hn]; exact kX12_layWays) (oI := (oF [(mX12_isOf N)])) (oL := (oF [])) (oV := (oF [])) (rI := (fun _ _ => none)) (rL := (fun _ _ => none)) (rV := (fun w => some w))
      (K := (fun j ls st w => if j = 7 then (lgI ls 3 fun v3 => lgI ls 4 fun v4 => st0 st (callW (fX12_layWays_7 N 108 i1 a2 N (fX12_layWays_46 N 108 i1 a2 (fX12_layWays_2 N 108 i1 a2 n k48)) v3 v4) w)) else if j = 48 then (st0 st (k48 w)) else none)) (fun _ _ _ _ hx => by cases hx) (fun _ _ _ _ hx => by cases hx) (fun w pc ls hx hd => hr w pc ls (Option.some.inj hx) hd) hC (fun ls => lsb [some (.inr (.inr (16, 0))), some (.inr (.inr (108, i1))), some (.inl a2), none, none, none, none] 0 ls) (keepsP_of rfl) ?_ 113 2 [some (.inr (.inr (16, 0))), some (.inr (.inr (108, i1))), some (.inl a2), some (.inl v3), none, none, none] [] w ?_ h
    · intro j ls st w hfx h
      obtain ⟨e0, e1, e2, -⟩ : _ = _ ∧ _ = _ ∧ _ = _ ∧ True := hfx
      try dsimp only at h
      by_cases hj : j = 7
      · subst hj
        rw [if_pos rfl] at h
        obtain ⟨v3, e3, h_1⟩ := lgI_some h
        obtain ⟨v4, e4, h_2⟩ := lgI_some h_1
        obtain ⟨rfl, h_3⟩ := st0_some h_2
        clear h h_1 h_2
        have h := h_3
        try rw [callW_eq] at h
        exact WW.le (a := [some (.inr (.inr (16, 0))), some (.inr (.inr (108, i1))), some (.inl a2), some (.inl v3), some (.inl v4), none, none]) (by rw [hn]; rfl) (show _ = _ ∧ _ = _ ∧ _ = _ ∧ _ = _ ∧ _ = _ ∧ True from ⟨e0, e1, e2, e3, e4, trivial⟩) (sX12_layWays_7_k108 G hn hC hr i1 a2 N (fX12_layWays_46 N 108 i1 a2 (fX12_layWays_2 N 108 i1 a2 n k48)) v3 v4 w h (fun v3 w h => (sX12_layWays_46_k108 G hn hC hr i1 a2 (fX12_layWays_2 N 108 i1 a2 n k48) v3 w h (fun v3 w h => (ih k48 v3 w h h48)))))
      rw [if_neg hj] at h
      by_cases hj : j = 48
      · subst hj
        rw [if_pos rfl] at h
        obtain ⟨rfl, h_1⟩ := st0_some h
        clear h
        have h := h_1
        try rw [callW_eq] at h
        exact WW.le (a := [some (.inr (.inr (16, 0))), some (.inr (.inr (108, i1))), some (.inl a2), none, none, none, none]) (by rw [hn]; rfl) (show _ = _ ∧ _ = _ ∧ _ = _ ∧ True from ⟨e0, e1, e2, trivial⟩) (h48 w h)
      rw [if_neg hj] at h
      cases h
    · exact (show _ = _ ∧ _ = _ ∧ _ = _ ∧ True from ⟨rfl, rfl, rfl, trivial⟩)
set_option maxRecDepth 100000 in
set_option maxHeartbeats 4000000 in
theorem crX12_layWays {N : Nat} {X : XT} (G : GX X cX12_layWays RX12) (hR : xR X = rmL 2) : CRs X tX12_layWays (oF [(mX12_isOf N)]) (oF []) (oF []) := by
  have hl : tX12_layWays.filter isInv = [(68, .invokestatic 341, 0, 0, 2, 0, 0, [])] := rfl
  intro e he
  rw [hl] at he
  simp only [List.mem_cons, List.not_mem_nil, or_false] at he
  rcases he with rfl
  · exact crI_S (idx := 341) G (by decide +kernel) (MX12_isOf N) (cw_of (ps := [1589, 1590, 164, 1591]) (by decide +kernel) (by decide +kernel)) ⟨by decide +kernel, by decide +kernel, by decide +kernel⟩ (by unfold rmOk; rw [hR]; exact ⟨by decide, by decide⟩)
set_option maxRecDepth 100000 in
set_option maxHeartbeats 4000000 in
theorem MX12_layWays (N : Nat) : SndV yX12_layWays cX12_layWays 7 none 2 3 true (mX12_layWays N) := by
  refine SndV.of tX12_layWays (by decide +kernel) rfl rfl ?_ ?_
  · intro as w x h
    obtain ⟨t1, rfl, h_1⟩ := xS1_some h
    obtain ⟨k1, i1, t2, rfl, hk, h_2⟩ := xA1_some h_1
    obtain ⟨a2, t3, rfl, h_3⟩ := xI1_some h_2
    obtain ⟨rfl, h_4⟩ := xN1_some h_3
    clear h h_1 h_2 h_3
    have h := h_4
    rw [callW_eq] at h
    exact ⟨fun _ => ⟨_, _, _, rfl, rfl, _, rfl, rfl⟩, rfl, Nat.le_of_ble_eq_true rfl⟩
  · intro X G hn hR as w r h hr
    have hC := crX12_layWays (N := N) G hR
    obtain ⟨t1, rfl, h_1⟩ := xS1_some h
    obtain ⟨k1, i1, t2, rfl, hk, h_2⟩ := xA1_some h_1
    obtain ⟨a2, t3, rfl, h_3⟩ := xI1_some h_2
    obtain ⟨rfl, h_4⟩ := xN1_some h_3
    clear h h_1 h_2 h_3
    have h := h_4
    rw [callW_eq] at h
    have hk : k1 = 107 ∨ k1 = 108 := by simpa using hk
    rcases hk with rfl | rfl
    · refine run_sound (r := r) (X := X) (cc := cX12_layWays) (own := RX12) (tab := tX12_layWays) G (by rw [hn]; exact kX12_layWays) (oI := (oF [(mX12_isOf N)])) (oL := (oF [])) (oV := (oF [])) (rI := (fun _ _ => none)) (rL := (fun _ _ => none)) (rV := (fun w => some w))
        (K := (fun j ls st w => if j = 2 then (lgI ls 3 fun v3 => st0 st (callW (fX12_layWays_2 N 107 i1 a2 N (fX12_layWays_48 N 107 i1) v3) w)) else none)) (fun _ _ _ _ hx => by cases hx) (fun _ _ _ _ hx => by cases hx) (fun w pc ls hx hd => hr w pc ls (Option.some.inj hx) hd) hC (fun ls => lsb [some (.inr (.inr (16, 0))), some (.inr (.inr (107, i1))), some (.inl a2), none, none, none, none] 0 ls) (keepsP_of rfl) ?_ 113 0 [some (.inr (.inr (16, 0))), some (.inr (.inr (107, i1))), some (.inl a2), none, none, none, none] [] w ?_ h
      · intro j ls st w hfx h
        obtain ⟨e0, e1, e2, -⟩ : _ = _ ∧ _ = _ ∧ _ = _ ∧ True := hfx
        try dsimp only at h
        by_cases hj : j = 2
        · subst hj
          rw [if_pos rfl] at h
          obtain ⟨v3, e3, h_1⟩ := lgI_some h
          obtain ⟨rfl, h_2⟩ := st0_some h_1
          clear h h_1
          have h := h_2
          try rw [callW_eq] at h
          exact WW.le (a := [some (.inr (.inr (16, 0))), some (.inr (.inr (107, i1))), some (.inl a2), some (.inl v3), none, none, none]) (by rw [hn]; rfl) (show _ = _ ∧ _ = _ ∧ _ = _ ∧ _ = _ ∧ True from ⟨e0, e1, e2, e3, trivial⟩) (sX12_layWays_2_k107 G hn hC hr i1 a2 N (fX12_layWays_48 N 107 i1) v3 w h (fun w h => (sX12_layWays_48_k107 G hn hC hr i1 a2 w h)))
        rw [if_neg hj] at h
        cases h
      · exact (show _ = _ ∧ _ = _ ∧ _ = _ ∧ True from ⟨rfl, rfl, rfl, trivial⟩)
    · refine run_sound (r := r) (X := X) (cc := cX12_layWays) (own := RX12) (tab := tX12_layWays) G (by rw [hn]; exact kX12_layWays) (oI := (oF [(mX12_isOf N)])) (oL := (oF [])) (oV := (oF [])) (rI := (fun _ _ => none)) (rL := (fun _ _ => none)) (rV := (fun w => some w))
        (K := (fun j ls st w => if j = 2 then (lgI ls 3 fun v3 => st0 st (callW (fX12_layWays_2 N 108 i1 a2 N (fX12_layWays_48 N 108 i1) v3) w)) else none)) (fun _ _ _ _ hx => by cases hx) (fun _ _ _ _ hx => by cases hx) (fun w pc ls hx hd => hr w pc ls (Option.some.inj hx) hd) hC (fun ls => lsb [some (.inr (.inr (16, 0))), some (.inr (.inr (108, i1))), some (.inl a2), none, none, none, none] 0 ls) (keepsP_of rfl) ?_ 113 0 [some (.inr (.inr (16, 0))), some (.inr (.inr (108, i1))), some (.inl a2), none, none, none, none] [] w ?_ h
      · intro j ls st w hfx h
        obtain ⟨e0, e1, e2, -⟩ : _ = _ ∧ _ = _ ∧ _ = _ ∧ True := hfx
        try dsimp only at h
        by_cases hj : j = 2
        · subst hj
          rw [if_pos rfl] at h
          obtain ⟨v3, e3, h_1⟩ := lgI_some h
          obtain ⟨rfl, h_2⟩ := st0_some h_1
          clear h h_1
          have h := h_2
          try rw [callW_eq] at h
          exact WW.le (a := [some (.inr (.inr (16, 0))), some (.inr (.inr (108, i1))), some (.inl a2), some (.inl v3), none, none, none]) (by rw [hn]; rfl) (show _ = _ ∧ _ = _ ∧ _ = _ ∧ _ = _ ∧ True from ⟨e0, e1, e2, e3, trivial⟩) (sX12_layWays_2_k108 G hn hC hr i1 a2 N (fX12_layWays_48 N 108 i1) v3 w h (fun w h => (sX12_layWays_48_k108 G hn hC hr i1 a2 w h)))
        rw [if_neg hj] at h
        cases h
      · exact (show _ = _ ∧ _ = _ ∧ _ = _ ∧ True from ⟨rfl, rfl, rfl, trivial⟩)
-- MoorGuidesModel.laySteps()V
def tX12_laySteps : List EN := [
  (0, .aload_n 0, 0, 0, 0, 0, 0, []), (1, .aload_n 0, 0, 0, 0, 0, 0, []), (2, .getfield 118, 0, 12, 72, 0, 0, []), (5, .iconst (-1), 0, 0, 0, (-1), 0, []),
  (6, .invokevirtual 482, 0, 0, 3, 0, 0, [(0, 0), (0, 0)]), (9, .return_, 0, 0, 0, 0, 0, [])]
noncomputable def pX12_laySteps (N : Nat) (w : Wd) : Option (Wd) :=
  (callW (pX12_layWays N 107 0 (-1 : Int32)) w).bind fun w1 =>
  some w1
noncomputable def mX12_laySteps (N : Nat) (as : List AV) (w : Wd) : Option (Wd) := xS1 16 as fun t => xN1 t (callW (pX12_laySteps N) w)
set_option maxRecDepth 100000 in
set_option maxHeartbeats 4000000 in
theorem kX12_laySteps : TK cX12_laySteps RX12 1 tX12_laySteps := ⟨by decide +kernel, wok_of [1672] (by decide +kernel) (by decide +kernel)⟩
set_option maxRecDepth 100000 in
set_option maxHeartbeats 4000000 in
theorem crX12_laySteps {N : Nat} {X : XT} (G : GX X cX12_laySteps RX12) (hR : xR X = rmL 3) : CRs X tX12_laySteps (oF []) (oF []) (oF [(mX12_layWays N)]) := by
  have hl : tX12_laySteps.filter isInv = [(6, .invokevirtual 482, 0, 0, 3, 0, 0, [(0, 0), (0, 0)])] := rfl
  intro e he
  rw [hl] at he
  simp only [List.mem_cons, List.not_mem_nil, or_false] at he
  rcases he with rfl
  · exact crV_V (idx := 482) G (by decide +kernel) (MX12_layWays N) (cw_of (ps := [1596, 1598, 75, 164, 1599]) (by decide +kernel) (by decide +kernel)) ⟨by decide +kernel, by decide +kernel, by decide +kernel⟩ (by unfold rmOk; rw [hR]; exact ⟨by decide, by decide⟩)
set_option maxRecDepth 100000 in
set_option maxHeartbeats 4000000 in
theorem MX12_laySteps (N : Nat) : SndV yX12_laySteps cX12_laySteps 1 none 3 1 true (mX12_laySteps N) := by
  refine SndV.of tX12_laySteps (by decide +kernel) rfl rfl ?_ ?_
  · intro as w x h
    obtain ⟨t1, rfl, h_1⟩ := xS1_some h
    obtain ⟨rfl, h_2⟩ := xN1_some h_1
    clear h h_1
    have h := h_2
    rw [callW_eq] at h
    exact ⟨fun _ => ⟨_, _, _, rfl, rfl, _, rfl, rfl⟩, rfl, Nat.le_of_ble_eq_true rfl⟩
  · intro X G hn hR as w r h hr
    have hC := crX12_laySteps (N := N) G hR
    obtain ⟨t1, rfl, h_1⟩ := xS1_some h
    obtain ⟨rfl, h_2⟩ := xN1_some h_1
    clear h h_1
    have h := h_2
    rw [callW_eq] at h
    refine run_sound (r := r) (X := X) (cc := cX12_laySteps) (own := RX12) (tab := tX12_laySteps) G (by rw [hn]; exact kX12_laySteps) (oI := (oF [])) (oL := (oF [])) (oV := (oF [(mX12_layWays N)])) (rI := (fun _ _ => none)) (rL := (fun _ _ => none)) (rV := (fun w => some w))
      (K := (fun j ls st w => none)) (fun _ _ _ _ hx => by cases hx) (fun _ _ _ _ hx => by cases hx) (fun w pc ls hx hd => hr w pc ls (Option.some.inj hx) hd) hC (fun ls => lsb [some (.inr (.inr (16, 0)))] 0 ls) (keepsP_of rfl) ?_ 8 0 [some (.inr (.inr (16, 0)))] [] w ?_ h
    · intro j ls st w hfx h
      obtain ⟨e0, -⟩ : _ = _ ∧ True := hfx
      try dsimp only at h
      cases h
    · exact (show _ = _ ∧ True from ⟨rfl, trivial⟩)

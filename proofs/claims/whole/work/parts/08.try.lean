-- MoorGuides$Stand.isThere(II)Z
def tX9_isThere : List EN := [
  (0, .aload_n 0, 0, 0, 0, 0, 0, []), (1, .getfield 56, 0, 9, 3, 0, 0, []), (4, .iload_n 1, 0, 0, 0, 0, 0, []), (5, .ishr, 0, 0, 0, 0, 0, []),
  (6, .iconst 1, 0, 0, 0, 1, 0, []), (7, .iand, 0, 0, 0, 0, 0, []), (8, .ifCond .ne 39, 0, 25, 0, 0, 0, []), (11, .aload_n 0, 0, 0, 0, 0, 0, []),
  (12, .getfield 39, 0, 9, 0, 0, 0, []), (15, .getfield 59, 0, 4, 4, 0, 0, []), (18, .getfield 84, 0, 6, 4, 0, 0, []), (21, .iload_n 1, 0, 0, 0, 0, 0, []),
  (22, .iaload, 0, 0, 0, 0, 0, []), (23, .iload_n 2, 0, 0, 0, 0, 0, []), (24, .if_icmp .gt 23, 0, 25, 0, 0, 0, []), (27, .iload_n 2, 0, 0, 0, 0, 0, []),
  (28, .aload_n 0, 0, 0, 0, 0, 0, []), (29, .getfield 39, 0, 9, 0, 0, 0, []), (32, .getfield 59, 0, 4, 4, 0, 0, []), (35, .getfield 87, 0, 6, 5, 0, 0, []),
  (38, .iload_n 1, 0, 0, 0, 0, 0, []), (39, .iaload, 0, 0, 0, 0, 0, []), (40, .if_icmp .ge 7, 0, 25, 0, 0, 0, []), (43, .iconst 1, 0, 0, 0, 1, 0, []),
  (44, .goto 4, 0, 26, 0, 0, 0, []), (47, .iconst 0, 0, 0, 0, 0, 0, []), (48, .ireturn, 0, 0, 0, 0, 0, [])]
def pX9_isThere (N : Nat) (i0 : Nat) (a1 : Int32) (a2 : Int32) (w : Wd) : Option (Int32 × Wd) :=
  if (((gI w 13 i0 3) >>> (a1 &&& (31 : Int32))) &&& (1 : Int32)) = 0 then
    (ldI w 51 (gR w 13 i0 0) a1 6).bind fun x1 =>
    if a2 < x1 then some ((0 : Int32), w) else
    (ldI w 52 (gR w 13 i0 0) a1 6).bind fun x2 =>
    if a2 < x2 then some ((1 : Int32), w) else
    some ((0 : Int32), w)
  else
  some ((0 : Int32), w)
def mX9_isThere (N : Nat) (as : List AV) (w : Wd) : Option (Int32 × Wd) := xR1 13 as fun i0 t => xI1 t fun a1 t => xI1 t fun a2 t => xN1 t (pX9_isThere N i0 a1 a2 w)
theorem kX9_isThere : TK cX9_isThere RX9 3 tX9_isThere := ⟨by decide +kernel, wok_of [525, 514, 277, 210, 514, 277, 213] (by decide +kernel) (by decide +kernel)⟩
theorem crX9_isThere {N : Nat} {X : XT} (G : GX X cX9_isThere RX9) (hR : xR X = rmL 1) : CRs X tX9_isThere (oF []) (oF []) (oF []) := by
  have hl : tX9_isThere.filter isInv = [] := rfl
  intro e he
  rw [hl] at he
  cases he
theorem MX9_isThere (N : Nat) : SndI yX9_isThere cX9_isThere 3 (some .boolean) 1 3 true (mX9_isThere N) := by
  refine SndI.ofZ tX9_isThere (by decide +kernel) rfl rfl ?_ ?_
  · intro as w x h
    obtain ⟨i0, t, rfl, h⟩ := xR1_some h
    obtain ⟨a1, t, rfl, h⟩ := xI1_some h
    obtain ⟨a2, t, rfl, h⟩ := xI1_some h
    obtain ⟨rfl, h⟩ := xN1_some h
    exact ⟨fun _ => ⟨_, _, _, rfl, rfl, _, rfl, rfl⟩, rfl, Nat.le_of_ble_eq_true rfl⟩
  · intro X G hn hR as w r h hr
    have hC := crX9_isThere (N := N) G hR
    obtain ⟨i0, t, rfl, h⟩ := xR1_some h
    obtain ⟨a1, t, rfl, h⟩ := xI1_some h
    obtain ⟨a2, t, rfl, h⟩ := xI1_some h
    obtain ⟨rfl, h⟩ := xN1_some h
    refine run_sound (r := r) (X := X) (cc := cX9_isThere) (own := RX9) (tab := tX9_isThere) G (by rw [hn]; exact kX9_isThere) (oI := (oF [])) (oL := (oF [])) (oV := (oF [])) (rI := retZ) (rL := (fun _ _ => none)) (rV := (fun _ => none))
      (K := (fun j ls st w => none)) hr (fun _ _ _ _ hx => by cases hx) (fun _ _ _ hx => by cases hx) hC (fun ls => lsb [some (.inr (.inr (13, i0))), some (.inl a1), some (.inl a2)] 0 ls) (keepsP_of rfl) ?_ 29 0 [some (.inr (.inr (13, i0))), some (.inl a1), some (.inl a2)] [] w ?_ h
    · intro j ls st w hfx h
      obtain ⟨e0, e1, e2, -⟩ : _ = _ ∧ _ = _ ∧ _ = _ ∧ True := hfx
      try dsimp only at h
      cases h
    · exact (show _ = _ ∧ _ = _ ∧ _ = _ ∧ True from ⟨rfl, rfl, rfl, trivial⟩)
-- MoorGuides$Stand.knownBits(II)I
def tX9_knownBits : List EN := [
  (0, .aload_n 0, 0, 0, 0, 0, 0, []), (1, .iload_n 1, 0, 0, 0, 0, 0, []), (2, .iload_n 2, 0, 0, 0, 0, 0, []), (3, .invokevirtual 90, 0, 0, 3, 0, 0, []),
  (6, .ifCond .ne 5, 0, 7, 0, 0, 0, []), (9, .iconst 0, 0, 0, 0, 0, 0, []), (10, .ireturn, 0, 0, 0, 0, 0, []), (11, .aload_n 0, 0, 0, 0, 0, 0, []),
  (12, .getfield 17, 0, 9, 5, 0, 0, []), (15, .iload_n 1, 0, 0, 0, 0, 0, []), (16, .aaload, 0, 0, 0, 0, 0, []), (17, .astore_n 3, 0, 0, 0, 0, 0, []),
  (18, .iload_n 2, 0, 0, 0, 0, 0, []), (19, .aload_n 0, 0, 0, 0, 0, 0, []), (20, .getfield 39, 0, 9, 0, 0, 0, []), (23, .getfield 59, 0, 4, 4, 0, 0, []),
  (26, .getfield 93, 0, 6, 6, 0, 0, []), (29, .iload_n 1, 0, 0, 0, 0, 0, []), (30, .iaload, 0, 0, 0, 0, 0, []), (31, .isub, 0, 0, 0, 0, 0, []),
  (32, .istore 4, 0, 0, 0, 0, 0, []), (34, .iconst 0, 0, 0, 0, 0, 0, []), (35, .istore 5, 0, 0, 0, 0, 0, []), (37, .iconst 0, 0, 0, 0, 0, 0, []),
  (38, .istore 6, 0, 0, 0, 0, 0, []), (40, .iload 6, 26, 0, 0, 0, 0, []), (42, .aload_n 0, 0, 0, 0, 0, 0, []), (43, .getfield 39, 0, 9, 0, 0, 0, []),
  (46, .getfield 96, 0, 4, 0, 0, 0, []), (49, .if_icmp .ge 54, 0, 57, 0, 0, 0, []), (52, .aload_n 3, 0, 0, 0, 0, 0, []), (53, .iload 6, 0, 0, 0, 0, 0, []),
  (55, .iaload, 0, 0, 0, 0, 0, []), (56, .iconst (-1), 0, 0, 0, (-1), 0, []), (57, .if_icmp .ne 7, 0, 37, 0, 0, 0, []), (60, .iconst 0, 0, 0, 0, 0, 0, []),
  (61, .goto 7, 0, 40, 0, 0, 0, []), (64, .aload_n 3, 0, 0, 0, 0, 0, []), (65, .iload 6, 0, 0, 0, 0, 0, []), (67, .iaload, 0, 0, 0, 0, 0, []),
  (68, .istore 7, 41, 0, 0, 0, 0, []), (70, .iload 7, 0, 0, 0, 0, 0, []), (72, .ifCond .lt 25, 0, 55, 0, 0, 0, []), (75, .iload 7, 0, 0, 0, 0, 0, []),
  (77, .iload_n 2, 0, 0, 0, 0, 0, []), (78, .if_icmp .gt 19, 0, 55, 0, 0, 0, []), (81, .iload 7, 0, 0, 0, 0, 0, []), (83, .iload 4, 0, 0, 0, 0, 0, []),
  (85, .if_icmp .lt 12, 0, 55, 0, 0, 0, []), (88, .iload 5, 0, 0, 0, 0, 0, []), (90, .iconst 1, 0, 0, 0, 1, 0, []), (91, .iload 6, 0, 0, 0, 0, 0, []),
  (93, .ishl, 0, 0, 0, 0, 0, []), (94, .ior, 0, 0, 0, 0, 0, []), (95, .istore 5, 0, 0, 0, 0, 0, []), (97, .iinc 6 1, 0, 0, 0, 1, 0, []),
  (100, .goto (-60), 0, 25, 0, 0, 0, []), (103, .iconst 0, 58, 0, 0, 0, 0, []), (104, .istore 6, 0, 0, 0, 0, 0, []), (106, .iload 6, 60, 0, 0, 0, 0, []),
  (108, .aload_n 0, 0, 0, 0, 0, 0, []), (109, .getfield 68, 0, 9, 7, 0, 0, []), (112, .if_icmp .ge 55, 0, 93, 0, 0, 0, []), (115, .aload_n 0, 0, 0, 0, 0, 0, []),
  (116, .getfield 26, 0, 9, 9, 0, 0, []), (119, .iload 6, 0, 0, 0, 0, 0, []), (121, .iaload, 0, 0, 0, 0, 0, []), (122, .iload_n 2, 0, 0, 0, 0, 0, []),
  (123, .if_icmp .gt 38, 0, 91, 0, 0, 0, []), (126, .aload_n 0, 0, 0, 0, 0, 0, []), (127, .getfield 26, 0, 9, 9, 0, 0, []), (130, .iload 6, 0, 0, 0, 0, 0, []),
  (132, .iaload, 0, 0, 0, 0, 0, []), (133, .aload_n 3, 0, 0, 0, 0, 0, []), (134, .aload_n 0, 0, 0, 0, 0, 0, []), (135, .getfield 23, 0, 9, 8, 0, 0, []),
  (138, .iload 6, 0, 0, 0, 0, 0, []), (140, .iaload, 0, 0, 0, 0, 0, []), (141, .iaload, 0, 0, 0, 0, 0, []), (142, .if_icmp .le 19, 0, 91, 0, 0, 0, []),
  (145, .iload 5, 0, 0, 0, 0, 0, []), (147, .iconst 1, 0, 0, 0, 1, 0, []), (148, .aload_n 0, 0, 0, 0, 0, 0, []), (149, .getfield 23, 0, 9, 8, 0, 0, []),
  (152, .iload 6, 0, 0, 0, 0, 0, []), (154, .iaload, 0, 0, 0, 0, 0, []), (155, .ishl, 0, 0, 0, 0, 0, []), (156, .iconst (-1), 0, 0, 0, (-1), 0, []),
  (157, .ixor, 0, 0, 0, 0, 0, []), (158, .iand, 0, 0, 0, 0, 0, []), (159, .istore 5, 0, 0, 0, 0, 0, []), (161, .iinc 6 1, 0, 0, 0, 1, 0, []),
  (164, .goto (-58), 0, 59, 0, 0, 0, []), (167, .iload 5, 0, 0, 0, 0, 0, []), (169, .ireturn, 0, 0, 0, 0, 0, [])]
def fX9_knownBits_59 (N : Nat) (i0 : Nat) (a2 : Int32) : Nat → Nat → Int32 → Int32 → Wd → Option (Int32 × Wd)
  | 0, _, _, _, _ => none
  | n + 1, q3, v5, v6, w =>
    if v6 < (gI w 13 i0 7) then
      (ldI w 65 i0 v6 12).bind fun x1 =>
      if a2 < x1 then (fX9_knownBits_59 N i0 a2 n) q3 v5 (v6 + (1 : Int32)) w else
      (ldI w 65 i0 v6 12).bind fun x2 =>
      (ldI w 64 i0 v6 12).bind fun x3 =>
      (ldI w 62 q3 x3 8).bind fun x4 =>
      if x4 < x2 then
        (ldI w 64 i0 v6 12).bind fun x5 =>
        (fX9_knownBits_59 N i0 a2 n) q3 (v5 &&& (((1 : Int32) <<< (x5 &&& (31 : Int32))) ^^^ (-1 : Int32))) (v6 + (1 : Int32)) w
      else
      (fX9_knownBits_59 N i0 a2 n) q3 v5 (v6 + (1 : Int32)) w
    else
    some (v5, w)
def fX9_knownBits_57 (N : Nat) (i0 : Nat) (a2 : Int32) (q3 : Nat) (v5 : Int32) (w : Wd) : Option (Int32 × Wd) :=
  (fX9_knownBits_59 N i0 a2 N) q3 v5 (0 : Int32) w
def fX9_knownBits_40 (N : Nat) (i0 : Nat) (a2 : Int32) (k25 : Nat → Int32 → Int32 → Int32 → Wd → Option (Int32 × Wd)) (q3 : Nat) (v4 : Int32) (v5 : Int32) (v6 : Int32) (s0 : Int32) (w : Wd) : Option (Int32 × Wd) :=
  if s0 < 0 then k25 q3 v4 v5 (v6 + (1 : Int32)) w else
  if a2 < s0 then k25 q3 v4 v5 (v6 + (1 : Int32)) w else
  if s0 < v4 then k25 q3 v4 v5 (v6 + (1 : Int32)) w else
  k25 q3 v4 (v5 ||| ((1 : Int32) <<< (v6 &&& (31 : Int32)))) (v6 + (1 : Int32)) w
def fX9_knownBits_25 (N : Nat) (i0 : Nat) (a2 : Int32) : Nat → (Nat → Int32 → Wd → Option (Int32 × Wd)) → Nat → Int32 → Int32 → Int32 → Wd → Option (Int32 × Wd)
  | 0, _, _, _, _, _, _ => none
  | n + 1, k57, q3, v4, v5, v6, w =>
    if v6 < (gI w 8 (gR w 13 i0 0) 0) then
      (ldI w 62 q3 v6 8).bind fun x1 =>
      if x1 = (-1 : Int32) then (fX9_knownBits_40 N i0 a2 (fX9_knownBits_25 N i0 a2 n k57)) q3 v4 v5 v6 (0 : Int32) w else
      (ldI w 62 q3 v6 8).bind fun x2 =>
      (fX9_knownBits_40 N i0 a2 (fX9_knownBits_25 N i0 a2 n k57)) q3 v4 v5 v6 x2 w
    else
    k57 q3 v5 w
def pX9_knownBits (N : Nat) (i0 : Nat) (a1 : Int32) (a2 : Int32) (w : Wd) : Option (Int32 × Wd) :=
  (pX9_isThere N i0 a1 a2 w).bind fun r1 =>
  if r1.1 = 0 then some ((0 : Int32), r1.2) else
  (ldR a1 6 i0).bind fun q2 =>
  (ldI r1.2 53 (gR r1.2 13 i0 0) a1 6).bind fun x3 =>
  (fX9_knownBits_25 N i0 a2 N (fX9_knownBits_57 N i0 a2)) q2 (a2 - x3) (0 : Int32) (0 : Int32) r1.2
def mX9_knownBits (N : Nat) (as : List AV) (w : Wd) : Option (Int32 × Wd) := xR1 13 as fun i0 t => xI1 t fun a1 t => xI1 t fun a2 t => xN1 t (pX9_knownBits N i0 a1 a2 w)
theorem kX9_knownBits : TK cX9_knownBits RX9 8 tX9_knownBits := ⟨by decide +kernel, wok_of [532, 514, 277, 216, 514, 260, 536, 539, 539, 538, 538] (by decide +kernel) (by decide +kernel)⟩
theorem sX9_knownBits_59 {N : Nat} {X : XT} (G : GX X cX9_knownBits RX9) (hn : xnL X = 8) (hC : CRs X tX9_knownBits (oF [(mX9_isThere N)]) (oF []) (oF [])) {r : Int32 × Wd} (hr : RTI X cX9_knownBits r) (i0 : Nat) (a1 : Int32) (a2 : Int32) : ∀ (n : Nat) (q3 : Nat) (v5 : Int32) (v6 : Int32) (w : Wd), fX9_knownBits_59 N i0 a2 n q3 v5 v6 w = some r → WW X (pcAt tX9_knownBits 59) [some (.inr (.inr (13, i0))), some (.inl a1), some (.inl a2), some (.inr (.inr (62, q3))), none, some (.inl v5), some (.inl v6), none] [] w := by
  intro n
  induction n with
  | zero => intro q3 v5 v6 w h; cases h
  | succ n ih =>
    intro q3 v5 v6 w h
    refine run_sound (r := r) (X := X) (cc := cX9_knownBits) (own := RX9) (tab := tX9_knownBits) G (by rw [hn]; exact kX9_knownBits) (oI := (oF [(mX9_isThere N)])) (oL := (oF [])) (oV := (oF [])) (rI := (fun x w => some (x, w))) (rL := (fun _ _ => none)) (rV := (fun _ => none))
      (K := (fun j ls st w => if j = 59 then (lgR ls 3 fun kk q3 => if kk = 62 then lgI ls 5 fun v5 => lgI ls 6 fun v6 => st0 st ((fX9_knownBits_59 N i0 a2 n) q3 v5 v6 w) else none) else none)) (fun x w pc ls hx hd => hr x w pc ls (Option.some.inj hx) hd) (fun _ _ _ _ hx => by cases hx) (fun _ _ _ hx => by cases hx) hC (fun ls => lsb [some (.inr (.inr (13, i0))), some (.inl a1), some (.inl a2), none, none, none, none, none] 0 ls) (keepsP_of rfl) ?_ 97 59 [some (.inr (.inr (13, i0))), some (.inl a1), some (.inl a2), some (.inr (.inr (62, q3))), none, some (.inl v5), some (.inl v6), none] [] w ?_ h
    · intro j ls st w hfx h
      obtain ⟨e0, e1, e2, -⟩ : _ = _ ∧ _ = _ ∧ _ = _ ∧ True := hfx
      try dsimp only at h
      by_cases hj : j = 59
      · subst hj
        rw [if_pos rfl] at h
        obtain ⟨kk, q3, e3, h⟩ := lgR_some h
        obtain ⟨rfl, h⟩ := if_some _ h
        obtain ⟨v5, e5, h⟩ := lgI_some h
        obtain ⟨v6, e6, h⟩ := lgI_some h
        obtain ⟨rfl, h⟩ := st0_some h
        exact WW.le (a := [some (.inr (.inr (13, i0))), some (.inl a1), some (.inl a2), some (.inr (.inr (62, q3))), none, some (.inl v5), some (.inl v6), none]) (by rw [hn]; rfl) (show _ = _ ∧ _ = _ ∧ _ = _ ∧ _ = _ ∧ _ = _ ∧ _ = _ ∧ True from ⟨e0, e1, e2, e3, e5, e6, trivial⟩) (ih q3 v5 v6 w h)
      rw [if_neg hj] at h
      cases h
    · exact (show _ = _ ∧ _ = _ ∧ _ = _ ∧ True from ⟨rfl, rfl, rfl, trivial⟩)
theorem sX9_knownBits_57 {N : Nat} {X : XT} (G : GX X cX9_knownBits RX9) (hn : xnL X = 8) (hC : CRs X tX9_knownBits (oF [(mX9_isThere N)]) (oF []) (oF [])) {r : Int32 × Wd} (hr : RTI X cX9_knownBits r) (i0 : Nat) (a1 : Int32) (a2 : Int32) : ∀ (q3 : Nat) (v5 : Int32) (w : Wd), fX9_knownBits_57 N i0 a2 q3 v5 w = some r → WW X (pcAt tX9_knownBits 57) [some (.inr (.inr (13, i0))), some (.inl a1), some (.inl a2), some (.inr (.inr (62, q3))), none, some (.inl v5), none, none] [] w := by
  intro q3 v5 w h
  refine run_sound (r := r) (X := X) (cc := cX9_knownBits) (own := RX9) (tab := tX9_knownBits) G (by rw [hn]; exact kX9_knownBits) (oI := (oF [(mX9_isThere N)])) (oL := (oF [])) (oV := (oF [])) (rI := (fun x w => some (x, w))) (rL := (fun _ _ => none)) (rV := (fun _ => none))
    (K := (fun j ls st w => if j = 59 then (lgR ls 3 fun kk q3 => if kk = 62 then lgI ls 5 fun v5 => lgI ls 6 fun v6 => st0 st ((fX9_knownBits_59 N i0 a2 N) q3 v5 v6 w) else none) else none)) (fun x w pc ls hx hd => hr x w pc ls (Option.some.inj hx) hd) (fun _ _ _ _ hx => by cases hx) (fun _ _ _ hx => by cases hx) hC (fun ls => lsb [some (.inr (.inr (13, i0))), some (.inl a1), some (.inl a2), none, none, none, none, none] 0 ls) (keepsP_of rfl) ?_ 97 57 [some (.inr (.inr (13, i0))), some (.inl a1), some (.inl a2), some (.inr (.inr (62, q3))), none, some (.inl v5), none, none] [] w ?_ h
  · intro j ls st w hfx h
    obtain ⟨e0, e1, e2, -⟩ : _ = _ ∧ _ = _ ∧ _ = _ ∧ True := hfx
    try dsimp only at h
    by_cases hj : j = 59
    · subst hj
      rw [if_pos rfl] at h
      obtain ⟨kk, q3, e3, h⟩ := lgR_some h
      obtain ⟨rfl, h⟩ := if_some _ h
      obtain ⟨v5, e5, h⟩ := lgI_some h
      obtain ⟨v6, e6, h⟩ := lgI_some h
      obtain ⟨rfl, h⟩ := st0_some h
      exact WW.le (a := [some (.inr (.inr (13, i0))), some (.inl a1), some (.inl a2), some (.inr (.inr (62, q3))), none, some (.inl v5), some (.inl v6), none]) (by rw [hn]; rfl) (show _ = _ ∧ _ = _ ∧ _ = _ ∧ _ = _ ∧ _ = _ ∧ _ = _ ∧ True from ⟨e0, e1, e2, e3, e5, e6, trivial⟩) (sX9_knownBits_59 G hn hC hr i0 a1 a2 N q3 v5 v6 w h)
    rw [if_neg hj] at h
    cases h
  · exact (show _ = _ ∧ _ = _ ∧ _ = _ ∧ True from ⟨rfl, rfl, rfl, trivial⟩)
theorem sX9_knownBits_40 {N : Nat} {X : XT} (G : GX X cX9_knownBits RX9) (hn : xnL X = 8) (hC : CRs X tX9_knownBits (oF [(mX9_isThere N)]) (oF []) (oF [])) {r : Int32 × Wd} (hr : RTI X cX9_knownBits r) (i0 : Nat) (a1 : Int32) (a2 : Int32) : ∀ (k25 : Nat → Int32 → Int32 → Int32 → Wd → Option (Int32 × Wd)) (q3 : Nat) (v4 : Int32) (v5 : Int32) (v6 : Int32) (s0 : Int32) (w : Wd), fX9_knownBits_40 N i0 a2 k25 q3 v4 v5 v6 s0 w = some r → (∀ (q3 : Nat) (v4 : Int32) (v5 : Int32) (v6 : Int32) (w : Wd), k25 q3 v4 v5 v6 w = some r → WW X (pcAt tX9_knownBits 25) [some (.inr (.inr (13, i0))), some (.inl a1), some (.inl a2), some (.inr (.inr (62, q3))), some (.inl v4), some (.inl v5), some (.inl v6), none] [] w) → WW X (pcAt tX9_knownBits 40) [some (.inr (.inr (13, i0))), some (.inl a1), some (.inl a2), some (.inr (.inr (62, q3))), some (.inl v4), some (.inl v5), some (.inl v6), none] [.inl s0] w := by
  intro k25 q3 v4 v5 v6 s0 w h h25
  refine run_sound (r := r) (X := X) (cc := cX9_knownBits) (own := RX9) (tab := tX9_knownBits) G (by rw [hn]; exact kX9_knownBits) (oI := (oF [(mX9_isThere N)])) (oL := (oF [])) (oV := (oF [])) (rI := (fun x w => some (x, w))) (rL := (fun _ _ => none)) (rV := (fun _ => none))
    (K := (fun j ls st w => if j = 25 then (lgR ls 3 fun kk q3 => if kk = 62 then lgI ls 4 fun v4 => lgI ls 5 fun v5 => lgI ls 6 fun v6 => st0 st (k25 q3 v4 v5 v6 w) else none) else none)) (fun x w pc ls hx hd => hr x w pc ls (Option.some.inj hx) hd) (fun _ _ _ _ hx => by cases hx) (fun _ _ _ hx => by cases hx) hC (fun ls => lsb [some (.inr (.inr (13, i0))), some (.inl a1), some (.inl a2), none, none, none, none, none] 0 ls) (keepsP_of rfl) ?_ 97 40 [some (.inr (.inr (13, i0))), some (.inl a1), some (.inl a2), some (.inr (.inr (62, q3))), some (.inl v4), some (.inl v5), some (.inl v6), none] [.inl s0] w ?_ h
  · intro j ls st w hfx h
    obtain ⟨e0, e1, e2, -⟩ : _ = _ ∧ _ = _ ∧ _ = _ ∧ True := hfx
    try dsimp only at h
    by_cases hj : j = 25
    · subst hj
      rw [if_pos rfl] at h
      obtain ⟨kk, q3, e3, h⟩ := lgR_some h
      obtain ⟨rfl, h⟩ := if_some _ h
      obtain ⟨v4, e4, h⟩ := lgI_some h
      obtain ⟨v5, e5, h⟩ := lgI_some h
      obtain ⟨v6, e6, h⟩ := lgI_some h
      obtain ⟨rfl, h⟩ := st0_some h
      exact WW.le (a := [some (.inr (.inr (13, i0))), some (.inl a1), some (.inl a2), some (.inr (.inr (62, q3))), some (.inl v4), some (.inl v5), some (.inl v6), none]) (by rw [hn]; rfl) (show _ = _ ∧ _ = _ ∧ _ = _ ∧ _ = _ ∧ _ = _ ∧ _ = _ ∧ _ = _ ∧ True from ⟨e0, e1, e2, e3, e4, e5, e6, trivial⟩) (h25 q3 v4 v5 v6 w h)
    rw [if_neg hj] at h
    cases h
  · exact (show _ = _ ∧ _ = _ ∧ _ = _ ∧ True from ⟨rfl, rfl, rfl, trivial⟩)
theorem sX9_knownBits_25 {N : Nat} {X : XT} (G : GX X cX9_knownBits RX9) (hn : xnL X = 8) (hC : CRs X tX9_knownBits (oF [(mX9_isThere N)]) (oF []) (oF [])) {r : Int32 × Wd} (hr : RTI X cX9_knownBits r) (i0 : Nat) (a1 : Int32) (a2 : Int32) : ∀ (n : Nat) (k57 : Nat → Int32 → Wd → Option (Int32 × Wd)) (q3 : Nat) (v4 : Int32) (v5 : Int32) (v6 : Int32) (w : Wd), fX9_knownBits_25 N i0 a2 n k57 q3 v4 v5 v6 w = some r → (∀ (q3 : Nat) (v5 : Int32) (w : Wd), k57 q3 v5 w = some r → WW X (pcAt tX9_knownBits 57) [some (.inr (.inr (13, i0))), some (.inl a1), some (.inl a2), some (.inr (.inr (62, q3))), none, some (.inl v5), none, none] [] w) → WW X (pcAt tX9_knownBits 25) [some (.inr (.inr (13, i0))), some (.inl a1), some (.inl a2), some (.inr (.inr (62, q3))), some (.inl v4), some (.inl v5), some (.inl v6), none] [] w := by
  intro n
  induction n with
  | zero => intro k57 q3 v4 v5 v6 w h h57; cases h
  | succ n ih =>
    intro k57 q3 v4 v5 v6 w h h57
    refine run_sound (r := r) (X := X) (cc := cX9_knownBits) (own := RX9) (tab := tX9_knownBits) G (by rw [hn]; exact kX9_knownBits) (oI := (oF [(mX9_isThere N)])) (oL := (oF [])) (oV := (oF [])) (rI := (fun x w => some (x, w))) (rL := (fun _ _ => none)) (rV := (fun _ => none))
      (K := (fun j ls st w => if j = 40 then (lgR ls 3 fun kk q3 => if kk = 62 then lgI ls 4 fun v4 => lgI ls 5 fun v5 => lgI ls 6 fun v6 => po1 st fun s0 st => st0 st ((fX9_knownBits_40 N i0 a2 (fX9_knownBits_25 N i0 a2 n k57)) q3 v4 v5 v6 s0 w) else none) else if j = 57 then (lgR ls 3 fun kk q3 => if kk = 62 then lgI ls 5 fun v5 => st0 st (k57 q3 v5 w) else none) else none)) (fun x w pc ls hx hd => hr x w pc ls (Option.some.inj hx) hd) (fun _ _ _ _ hx => by cases hx) (fun _ _ _ hx => by cases hx) hC (fun ls => lsb [some (.inr (.inr (13, i0))), some (.inl a1), some (.inl a2), none, none, none, none, none] 0 ls) (keepsP_of rfl) ?_ 97 25 [some (.inr (.inr (13, i0))), some (.inl a1), some (.inl a2), some (.inr (.inr (62, q3))), some (.inl v4), some (.inl v5), some (.inl v6), none] [] w ?_ h
    · intro j ls st w hfx h
      obtain ⟨e0, e1, e2, -⟩ : _ = _ ∧ _ = _ ∧ _ = _ ∧ True := hfx
      try dsimp only at h
      by_cases hj : j = 40
      · subst hj
        rw [if_pos rfl] at h
        obtain ⟨kk, q3, e3, h⟩ := lgR_some h
        obtain ⟨rfl, h⟩ := if_some _ h
        obtain ⟨v4, e4, h⟩ := lgI_some h
        obtain ⟨v5, e5, h⟩ := lgI_some h
        obtain ⟨v6, e6, h⟩ := lgI_some h
        obtain ⟨s0, st, rfl, h⟩ := po1_some h
        obtain ⟨rfl, h⟩ := st0_some h
        exact WW.le (a := [some (.inr (.inr (13, i0))), some (.inl a1), some (.inl a2), some (.inr (.inr (62, q3))), some (.inl v4), some (.inl v5), some (.inl v6), none]) (by rw [hn]; rfl) (show _ = _ ∧ _ = _ ∧ _ = _ ∧ _ = _ ∧ _ = _ ∧ _ = _ ∧ _ = _ ∧ True from ⟨e0, e1, e2, e3, e4, e5, e6, trivial⟩) (sX9_knownBits_40 G hn hC hr i0 a1 a2 (fX9_knownBits_25 N i0 a2 n k57) q3 v4 v5 v6 s0 w h (fun q3 v4 v5 v6 w h => (ih k57 q3 v4 v5 v6 w h h57)))
      rw [if_neg hj] at h
      by_cases hj : j = 57
      · subst hj
        rw [if_pos rfl] at h
        obtain ⟨kk, q3, e3, h⟩ := lgR_some h
        obtain ⟨rfl, h⟩ := if_some _ h
        obtain ⟨v5, e5, h⟩ := lgI_some h
        obtain ⟨rfl, h⟩ := st0_some h
        exact WW.le (a := [some (.inr (.inr (13, i0))), some (.inl a1), some (.inl a2), some (.inr (.inr (62, q3))), none, some (.inl v5), none, none]) (by rw [hn]; rfl) (show _ = _ ∧ _ = _ ∧ _ = _ ∧ _ = _ ∧ _ = _ ∧ True from ⟨e0, e1, e2, e3, e5, trivial⟩) (h57 q3 v5 w h)
      rw [if_neg hj] at h
      cases h
    · exact (show _ = _ ∧ _ = _ ∧ _ = _ ∧ True from ⟨rfl, rfl, rfl, trivial⟩)
theorem crX9_knownBits {N : Nat} {X : XT} (G : GX X cX9_knownBits RX9) (hR : xR X = rmL 2) : CRs X tX9_knownBits (oF [(mX9_isThere N)]) (oF []) (oF []) := by
  have hl : tX9_knownBits.filter isInv = [(3, .invokevirtual 90, 0, 0, 3, 0, 0, [])] := rfl
  intro e he
  rw [hl] at he
  simp only [List.mem_cons, List.not_mem_nil, or_false] at he
  rcases he with rfl
  · exact crI_V (idx := 90) G (by decide +kernel) (MX9_isThere N) (cw_of (ps := [1020, 1021, 1022, 156, 1023]) (by decide +kernel) (by decide +kernel)) ⟨by decide +kernel, by decide +kernel, by decide +kernel⟩ (by unfold rmOk; rw [hR]; exact ⟨by decide, by decide⟩)
theorem MX9_knownBits (N : Nat) : SndI yX9_knownBits cX9_knownBits 8 (some .int) 2 3 true (mX9_knownBits N) := by
  refine SndI.of tX9_knownBits (by decide +kernel) rfl rfl ?_ ?_
  · intro as w x h
    obtain ⟨i0, t, rfl, h⟩ := xR1_some h
    obtain ⟨a1, t, rfl, h⟩ := xI1_some h
    obtain ⟨a2, t, rfl, h⟩ := xI1_some h
    obtain ⟨rfl, h⟩ := xN1_some h
    exact ⟨fun _ => ⟨_, _, _, rfl, rfl, _, rfl, rfl⟩, rfl, Nat.le_of_ble_eq_true rfl⟩
  · intro X G hn hR as w r h hr
    have hC := crX9_knownBits (N := N) G hR
    obtain ⟨i0, t, rfl, h⟩ := xR1_some h
    obtain ⟨a1, t, rfl, h⟩ := xI1_some h
    obtain ⟨a2, t, rfl, h⟩ := xI1_some h
    obtain ⟨rfl, h⟩ := xN1_some h
    refine run_sound (r := r) (X := X) (cc := cX9_knownBits) (own := RX9) (tab := tX9_knownBits) G (by rw [hn]; exact kX9_knownBits) (oI := (oF [(mX9_isThere N)])) (oL := (oF [])) (oV := (oF [])) (rI := (fun x w => some (x, w))) (rL := (fun _ _ => none)) (rV := (fun _ => none))
      (K := (fun j ls st w => if j = 25 then (lgR ls 3 fun kk q3 => if kk = 62 then lgI ls 4 fun v4 => lgI ls 5 fun v5 => lgI ls 6 fun v6 => st0 st ((fX9_knownBits_25 N i0 a2 N (fX9_knownBits_57 N i0 a2)) q3 v4 v5 v6 w) else none) else none)) (fun x w pc ls hx hd => hr x w pc ls (Option.some.inj hx) hd) (fun _ _ _ _ hx => by cases hx) (fun _ _ _ hx => by cases hx) hC (fun ls => lsb [some (.inr (.inr (13, i0))), some (.inl a1), some (.inl a2), none, none, none, none, none] 0 ls) (keepsP_of rfl) ?_ 97 0 [some (.inr (.inr (13, i0))), some (.inl a1), some (.inl a2), none, none, none, none, none] [] w ?_ h
    · intro j ls st w hfx h
      obtain ⟨e0, e1, e2, -⟩ : _ = _ ∧ _ = _ ∧ _ = _ ∧ True := hfx
      try dsimp only at h
      by_cases hj : j = 25
      · subst hj
        rw [if_pos rfl] at h
        obtain ⟨kk, q3, e3, h⟩ := lgR_some h
        obtain ⟨rfl, h⟩ := if_some _ h
        obtain ⟨v4, e4, h⟩ := lgI_some h
        obtain ⟨v5, e5, h⟩ := lgI_some h
        obtain ⟨v6, e6, h⟩ := lgI_some h
        obtain ⟨rfl, h⟩ := st0_some h
        exact WW.le (a := [some (.inr (.inr (13, i0))), some (.inl a1), some (.inl a2), some (.inr (.inr (62, q3))), some (.inl v4), some (.inl v5), some (.inl v6), none]) (by rw [hn]; rfl) (show _ = _ ∧ _ = _ ∧ _ = _ ∧ _ = _ ∧ _ = _ ∧ _ = _ ∧ _ = _ ∧ True from ⟨e0, e1, e2, e3, e4, e5, e6, trivial⟩) (sX9_knownBits_25 G hn hC hr i0 a1 a2 N (fX9_knownBits_57 N i0 a2) q3 v4 v5 v6 w h (fun q3 v5 w h => (sX9_knownBits_57 G hn hC hr i0 a1 a2 q3 v5 w h)))
      rw [if_neg hj] at h
      cases h
    · exact (show _ = _ ∧ _ = _ ∧ _ = _ ∧ True from ⟨rfl, rfl, rfl, trivial⟩)
-- MoorGuides$Stand.knownByAny(I)I
def tX9_knownByAny : List EN := [
  (0, .iconst 0, 0, 0, 0, 0, 0, []), (1, .istore_n 2, 0, 0, 0, 0, 0, []), (2, .iconst 0, 0, 0, 0, 0, 0, []), (3, .istore_n 3, 0, 0, 0, 0, 0, []),
  (4, .iload_n 3, 5, 0, 0, 0, 0, []), (5, .aload_n 0, 0, 0, 0, 0, 0, []), (6, .getfield 39, 0, 9, 0, 0, 0, []), (9, .getfield 59, 0, 4, 4, 0, 0, []),
  (12, .getfield 99, 0, 6, 0, 0, 0, []), (15, .if_icmp .ge 18, 0, 19, 0, 0, 0, []), (18, .iload_n 2, 0, 0, 0, 0, 0, []), (19, .aload_n 0, 0, 0, 0, 0, 0, []),
  (20, .iload_n 3, 0, 0, 0, 0, 0, []), (21, .iload_n 1, 0, 0, 0, 0, 0, []), (22, .invokevirtual 102, 0, 0, 3, 0, 0, []), (25, .ior, 0, 0, 0, 0, 0, []),
  (26, .istore_n 2, 0, 0, 0, 0, 0, []), (27, .iinc 3 1, 0, 0, 0, 1, 0, []), (30, .goto (-26), 0, 4, 0, 0, 0, []), (33, .iload_n 2, 0, 0, 0, 0, 0, []),
  (34, .ireturn, 0, 0, 0, 0, 0, [])]
def fX9_knownByAny_4 (N : Nat) (i0 : Nat) (a1 : Int32) : Nat → Int32 → Int32 → Wd → Option (Int32 × Wd)
  | 0, _, _, _ => none
  | n + 1, v2, v3, w =>
    if v3 < (gI w 10 (gR w 13 i0 0) 0) then
      (pX9_knownBits N i0 v3 a1 w).bind fun r1 =>
      (fX9_knownByAny_4 N i0 a1 n) (v2 ||| r1.1) (v3 + (1 : Int32)) r1.2
    else
    some (v2, w)
def pX9_knownByAny (N : Nat) (i0 : Nat) (a1 : Int32) (w : Wd) : Option (Int32 × Wd) :=
  (fX9_knownByAny_4 N i0 a1 N) (0 : Int32) (0 : Int32) w
def mX9_knownByAny (N : Nat) (as : List AV) (w : Wd) : Option (Int32 × Wd) := xR1 13 as fun i0 t => xI1 t fun a1 t => xN1 t (pX9_knownByAny N i0 a1 w)
theorem kX9_knownByAny : TK cX9_knownByAny RX9 4 tX9_knownByAny := ⟨by decide +kernel, wok_of [514, 277, 197] (by decide +kernel) (by decide +kernel)⟩
theorem sX9_knownByAny_4 {N : Nat} {X : XT} (G : GX X cX9_knownByAny RX9) (hn : xnL X = 4) (hC : CRs X tX9_knownByAny (oF [(mX9_knownBits N)]) (oF []) (oF [])) {r : Int32 × Wd} (hr : RTI X cX9_knownByAny r) (i0 : Nat) (a1 : Int32) : ∀ (n : Nat) (v2 : Int32) (v3 : Int32) (w : Wd), fX9_knownByAny_4 N i0 a1 n v2 v3 w = some r → WW X (pcAt tX9_knownByAny 4) [some (.inr (.inr (13, i0))), some (.inl a1), some (.inl v2), some (.inl v3)] [] w := by
  intro n
  induction n with
  | zero => intro v2 v3 w h; cases h
  | succ n ih =>
    intro v2 v3 w h
    refine run_sound (r := r) (X := X) (cc := cX9_knownByAny) (own := RX9) (tab := tX9_knownByAny) G (by rw [hn]; exact kX9_knownByAny) (oI := (oF [(mX9_knownBits N)])) (oL := (oF [])) (oV := (oF [])) (rI := (fun x w => some (x, w))) (rL := (fun _ _ => none)) (rV := (fun _ => none))
      (K := (fun j ls st w => if j = 4 then (lgI ls 2 fun v2 => lgI ls 3 fun v3 => st0 st ((fX9_knownByAny_4 N i0 a1 n) v2 v3 w)) else none)) (fun x w pc ls hx hd => hr x w pc ls (Option.some.inj hx) hd) (fun _ _ _ _ hx => by cases hx) (fun _ _ _ hx => by cases hx) hC (fun ls => lsb [some (.inr (.inr (13, i0))), some (.inl a1), none, none] 0 ls) (keepsP_of rfl) ?_ 23 4 [some (.inr (.inr (13, i0))), some (.inl a1), some (.inl v2), some (.inl v3)] [] w ?_ h
    · intro j ls st w hfx h
      obtain ⟨e0, e1, -⟩ : _ = _ ∧ _ = _ ∧ True := hfx
      try dsimp only at h
      by_cases hj : j = 4
      · subst hj
        rw [if_pos rfl] at h
        obtain ⟨v2, e2, h⟩ := lgI_some h
        obtain ⟨v3, e3, h⟩ := lgI_some h
        obtain ⟨rfl, h⟩ := st0_some h
        exact WW.le (a := [some (.inr (.inr (13, i0))), some (.inl a1), some (.inl v2), some (.inl v3)]) (by rw [hn]; rfl) (show _ = _ ∧ _ = _ ∧ _ = _ ∧ _ = _ ∧ True from ⟨e0, e1, e2, e3, trivial⟩) (ih v2 v3 w h)
      rw [if_neg hj] at h
      cases h
    · exact (show _ = _ ∧ _ = _ ∧ True from ⟨rfl, rfl, trivial⟩)
theorem crX9_knownByAny {N : Nat} {X : XT} (G : GX X cX9_knownByAny RX9) (hR : xR X = rmL 3) : CRs X tX9_knownByAny (oF [(mX9_knownBits N)]) (oF []) (oF []) := by
  have hl : tX9_knownByAny.filter isInv = [(22, .invokevirtual 102, 0, 0, 3, 0, 0, [])] := rfl
  intro e he
  rw [hl] at he
  simp only [List.mem_cons, List.not_mem_nil, or_false] at he
  rcases he with rfl
  · exact crI_V (idx := 102) G (by decide +kernel) (MX9_knownBits N) (cw_of (ps := [1016, 1017, 1018, 156, 1019]) (by decide +kernel) (by decide +kernel)) ⟨by decide +kernel, by decide +kernel, by decide +kernel⟩ (by unfold rmOk; rw [hR]; exact ⟨by decide, by decide⟩)
theorem MX9_knownByAny (N : Nat) : SndI yX9_knownByAny cX9_knownByAny 4 (some .int) 3 2 true (mX9_knownByAny N) := by
  refine SndI.of tX9_knownByAny (by decide +kernel) rfl rfl ?_ ?_
  · intro as w x h
    obtain ⟨i0, t, rfl, h⟩ := xR1_some h
    obtain ⟨a1, t, rfl, h⟩ := xI1_some h
    obtain ⟨rfl, h⟩ := xN1_some h
    exact ⟨fun _ => ⟨_, _, _, rfl, rfl, _, rfl, rfl⟩, rfl, Nat.le_of_ble_eq_true rfl⟩
  · intro X G hn hR as w r h hr
    have hC := crX9_knownByAny (N := N) G hR
    obtain ⟨i0, t, rfl, h⟩ := xR1_some h
    obtain ⟨a1, t, rfl, h⟩ := xI1_some h
    obtain ⟨rfl, h⟩ := xN1_some h
    refine run_sound (r := r) (X := X) (cc := cX9_knownByAny) (own := RX9) (tab := tX9_knownByAny) G (by rw [hn]; exact kX9_knownByAny) (oI := (oF [(mX9_knownBits N)])) (oL := (oF [])) (oV := (oF [])) (rI := (fun x w => some (x, w))) (rL := (fun _ _ => none)) (rV := (fun _ => none))
      (K := (fun j ls st w => if j = 4 then (lgI ls 2 fun v2 => lgI ls 3 fun v3 => st0 st ((fX9_knownByAny_4 N i0 a1 N) v2 v3 w)) else none)) (fun x w pc ls hx hd => hr x w pc ls (Option.some.inj hx) hd) (fun _ _ _ _ hx => by cases hx) (fun _ _ _ hx => by cases hx) hC (fun ls => lsb [some (.inr (.inr (13, i0))), some (.inl a1), none, none] 0 ls) (keepsP_of rfl) ?_ 23 0 [some (.inr (.inr (13, i0))), some (.inl a1), none, none] [] w ?_ h
    · intro j ls st w hfx h
      obtain ⟨e0, e1, -⟩ : _ = _ ∧ _ = _ ∧ True := hfx
      try dsimp only at h
      by_cases hj : j = 4
      · subst hj
        rw [if_pos rfl] at h
        obtain ⟨v2, e2, h⟩ := lgI_some h
        obtain ⟨v3, e3, h⟩ := lgI_some h
        obtain ⟨rfl, h⟩ := st0_some h
        exact WW.le (a := [some (.inr (.inr (13, i0))), some (.inl a1), some (.inl v2), some (.inl v3)]) (by rw [hn]; rfl) (show _ = _ ∧ _ = _ ∧ _ = _ ∧ _ = _ ∧ True from ⟨e0, e1, e2, e3, trivial⟩) (sX9_knownByAny_4 G hn hC hr i0 a1 N v2 v3 w h)
      rw [if_neg hj] at h
      cases h
    · exact (show _ = _ ∧ _ = _ ∧ True from ⟨rfl, rfl, trivial⟩)

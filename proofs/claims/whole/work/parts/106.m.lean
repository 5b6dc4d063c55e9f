-- MoorGuides$Tokens.byteAt(I)I
def tX10_byteAt : List EN := [
  (0, .iload_n 1, 0, 0, 0, 0, 0, []), (1, .ifCond .lt 24, 0, 13, 0, 0, 0, []), (4, .iload_n 1, 0, 0, 0, 0, 0, []), (5, .aload_n 0, 0, 0, 0, 0, 0, []),
  (6, .getfield 47, 0, 10, 7, 0, 0, []), (9, .if_icmp .ge 16, 0, 13, 0, 0, 0, []), (12, .aload_n 0, 0, 0, 0, 0, 0, []), (13, .getfield 25, 0, 10, 6, 0, 0, []),
  (16, .iload_n 1, 0, 0, 0, 0, 0, []), (17, .baload, 0, 0, 0, 0, 0, []), (18, .sipush 255, 0, 0, 0, 255, 0, []), (21, .iand, 0, 0, 0, 0, 0, []),
  (22, .goto 4, 0, 14, 0, 0, 0, []), (25, .iconst 0, 0, 0, 0, 0, 0, []), (26, .ireturn, 0, 0, 0, 0, 0, [])]
noncomputable def pX10_byteAt (N : Nat) (a1 : Int32) (w : Wd) : Option (Int32 × Wd) :=
  if a1 < 0 then some ((0 : Int32), w) else
  if a1 < (gI w 14 0 7) then
    (ldI w 3 (gR w 14 0 6) a1 (ln 3 (gR w 14 0 6))).bind fun x1 =>
    some ((x1 &&& (255 : Int32)), w)
  else
  some ((0 : Int32), w)
noncomputable def mX10_byteAt (N : Nat) (as : List AV) (w : Wd) : Option (Int32 × Wd) := xS1 14 as fun t => xI1 t fun a1 t => xN1 t (callW (pX10_byteAt N a1) w)
set_option maxRecDepth 100000 in
set_option maxHeartbeats 4000000 in
theorem kX10_byteAt : TK cX10_byteAt RX10 2 tX10_byteAt := ⟨by decide +kernel, wok_of [436, 435] (by decide +kernel) (by decide +kernel)⟩
set_option maxRecDepth 100000 in
set_option maxHeartbeats 4000000 in
theorem crX10_byteAt {N : Nat} {X : XT} (G : GX X cX10_byteAt RX10) (hR : xR X = rmL 1) : CRs X tX10_byteAt (oF []) (oF []) (oF []) := by
  have hl : tX10_byteAt.filter isInv = [] := rfl
  intro e he
  rw [hl] at he
  cases he
set_option maxRecDepth 100000 in
set_option maxHeartbeats 4000000 in
theorem MX10_byteAt (N : Nat) : SndI yX10_byteAt cX10_byteAt 2 (some .int) 1 2 true (mX10_byteAt N) := by
  refine SndI.of tX10_byteAt (by decide +kernel) rfl rfl ?_ ?_
  · intro as w x h
    obtain ⟨t1, rfl, h_1⟩ := xS1_some h
    obtain ⟨a1, t2, rfl, h_2⟩ := xI1_some h_1
    obtain ⟨rfl, h_3⟩ := xN1_some h_2
    clear h h_1 h_2
    have h := h_3
    rw [callW_eq] at h
    exact ⟨fun _ => ⟨_, _, _, rfl, rfl, _, rfl, rfl⟩, rfl, Nat.le_of_ble_eq_true rfl⟩
  · intro X G hn hR as w r h hr
    have hC := crX10_byteAt (N := N) G hR
    obtain ⟨t1, rfl, h_1⟩ := xS1_some h
    obtain ⟨a1, t2, rfl, h_2⟩ := xI1_some h_1
    obtain ⟨rfl, h_3⟩ := xN1_some h_2
    clear h h_1 h_2
    have h := h_3
    rw [callW_eq] at h
    refine run_sound (r := r) (X := X) (cc := cX10_byteAt) (own := RX10) (tab := tX10_byteAt) G (by rw [hn]; exact kX10_byteAt) (oI := (oF [])) (oL := (oF [])) (oV := (oF [])) (rI := (fun x w => some (x, w))) (rL := (fun _ _ => none)) (rV := (fun _ => none))
      (K := (fun j ls st w => none)) (fun x w pc ls hx hd => hr x w pc ls (Option.some.inj hx) hd) (fun _ _ _ _ hx => by cases hx) (fun _ _ _ hx => by cases hx) hC (fun ls => lsb [some (.inr (.inr (14, 0))), some (.inl a1)] 0 ls) (keepsP_of rfl) ?_ 17 0 [some (.inr (.inr (14, 0))), some (.inl a1)] [] w ?_ h
    · intro j ls st w hfx h
      obtain ⟨e0, e1, -⟩ : _ = _ ∧ _ = _ ∧ True := hfx
      try dsimp only at h
      cases h
    · exact (show _ = _ ∧ _ = _ ∧ True from ⟨rfl, rfl, trivial⟩)
-- MoorGuides$Tokens.isLetter(I)Z
def tX10_isLetter : List EN := [
  (0, .iload_n 0, 0, 0, 0, 0, 0, []), (1, .bipush 97, 0, 0, 0, 97, 0, []), (3, .if_icmp .lt 13, 0, 8, 0, 0, 0, []), (6, .iload_n 0, 0, 0, 0, 0, 0, []),
  (7, .bipush 122, 0, 0, 0, 122, 0, []), (9, .if_icmp .gt 7, 0, 8, 0, 0, 0, []), (12, .iconst 1, 0, 0, 0, 1, 0, []), (13, .goto 4, 0, 9, 0, 0, 0, []),
  (16, .iconst 0, 0, 0, 0, 0, 0, []), (17, .ireturn, 0, 0, 0, 0, 0, [])]
noncomputable def pX10_isLetter (N : Nat) (a0 : Int32) (w : Wd) : Option (Int32 × Wd) :=
  if a0 < (97 : Int32) then some ((0 : Int32), w) else
  if (122 : Int32) < a0 then some ((0 : Int32), w) else
  some ((1 : Int32), w)
noncomputable def mX10_isLetter (N : Nat) (as : List AV) (w : Wd) : Option (Int32 × Wd) := xI1 as fun a0 t => xN1 t (callW (pX10_isLetter N a0) w)
set_option maxRecDepth 100000 in
set_option maxHeartbeats 4000000 in
theorem kX10_isLetter : TK cX10_isLetter RX10 1 tX10_isLetter := ⟨by decide +kernel, wok_of [] (by decide +kernel) (by decide +kernel)⟩
set_option maxRecDepth 100000 in
set_option maxHeartbeats 4000000 in
theorem crX10_isLetter {N : Nat} {X : XT} (G : GX X cX10_isLetter RX10) (hR : xR X = rmL 1) : CRs X tX10_isLetter (oF []) (oF []) (oF []) := by
  have hl : tX10_isLetter.filter isInv = [] := rfl
  intro e he
  rw [hl] at he
  cases he
set_option maxRecDepth 100000 in
set_option maxHeartbeats 4000000 in
theorem MX10_isLetter (N : Nat) : SndI yX10_isLetter cX10_isLetter 1 (some .boolean) 1 1 false (mX10_isLetter N) := by
  refine SndI.ofZ tX10_isLetter (by decide +kernel) rfl rfl ?_ ?_
  · intro as w x h
    obtain ⟨a0, t1, rfl, h_1⟩ := xI1_some h
    obtain ⟨rfl, h_2⟩ := xN1_some h_1
    clear h h_1
    have h := h_2
    rw [callW_eq] at h
    exact ⟨(fun z => by cases z), rfl, Nat.le_of_ble_eq_true rfl⟩
  · intro X G hn hR as w r h hr
    have hC := crX10_isLetter (N := N) G hR
    obtain ⟨a0, t1, rfl, h_1⟩ := xI1_some h
    obtain ⟨rfl, h_2⟩ := xN1_some h_1
    clear h h_1
    have h := h_2
    rw [callW_eq] at h
    refine run_sound (r := r) (X := X) (cc := cX10_isLetter) (own := RX10) (tab := tX10_isLetter) G (by rw [hn]; exact kX10_isLetter) (oI := (oF [])) (oL := (oF [])) (oV := (oF [])) (rI := retZ) (rL := (fun _ _ => none)) (rV := (fun _ => none))
      (K := (fun j ls st w => none)) hr (fun _ _ _ _ hx => by cases hx) (fun _ _ _ hx => by cases hx) hC (fun ls => lsb [some (.inl a0)] 0 ls) (keepsP_of rfl) ?_ 12 0 [some (.inl a0)] [] w ?_ h
    · intro j ls st w hfx h
      obtain ⟨e0, -⟩ : _ = _ ∧ True := hfx
      try dsimp only at h
      cases h
    · exact (show _ = _ ∧ True from ⟨rfl, trivial⟩)
-- MoorGuides$Tokens.wordNumber(J)I
def tX10_wordNumber : List EN := [
  (0, .iconst 0, 0, 0, 0, 0, 0, []), (1, .istore_n 3, 0, 0, 0, 0, 0, []), (2, .iload_n 3, 3, 0, 0, 0, 0, []), (3, .bipush 24, 0, 0, 0, 24, 0, []),
  (5, .if_icmp .ge 22, 0, 16, 0, 0, 0, []), (8, .aload_n 0, 0, 0, 0, 0, 0, []), (9, .getfield 11, 0, 10, 0, 0, 0, []), (12, .iload_n 3, 0, 0, 0, 0, 0, []),
  (13, .laload, 0, 0, 0, 0, 0, []), (14, .lload_n 1, 0, 0, 0, 0, 0, []), (15, .lcmp, 0, 0, 0, 0, 0, []), (16, .ifCond .ne 5, 0, 14, 0, 0, 0, []),
  (19, .iload_n 3, 0, 0, 0, 0, 0, []), (20, .ireturn, 0, 0, 0, 0, 0, []), (21, .iinc 3 1, 0, 0, 0, 1, 0, []), (24, .goto (-22), 0, 2, 0, 0, 0, []),
  (27, .iconst (-1), 0, 0, 0, (-1), 0, []), (28, .ireturn, 0, 0, 0, 0, 0, [])]
noncomputable def fX10_wordNumber_2 (N : Nat) (a1 : Int64) : Nat → Int32 → Wd → Option (Int32 × Wd)
  | 0, _, _ => none
  | n + 1, v3, w =>
    if v3 < (24 : Int32) then
      (ldL w 67 0 v3 24).bind fun x1 =>
      if (lg_cmp x1 a1) = 0 then some (v3, w) else
      callW (fX10_wordNumber_2 N a1 n (v3 + (1 : Int32))) w
    else
    some ((-1 : Int32), w)
noncomputable def pX10_wordNumber (N : Nat) (a1 : Int64) (w : Wd) : Option (Int32 × Wd) :=
  callW (fX10_wordNumber_2 N a1 N (0 : Int32)) w
noncomputable def mX10_wordNumber (N : Nat) (as : List AV) (w : Wd) : Option (Int32 × Wd) := xS1 14 as fun t => xL1 t fun a1 t => xN1 t (callW (pX10_wordNumber N a1) w)
set_option maxRecDepth 100000 in
set_option maxHeartbeats 4000000 in
theorem kX10_wordNumber : TK cX10_wordNumber RX10 4 tX10_wordNumber := ⟨by decide +kernel, wok_of [429] (by decide +kernel) (by decide +kernel)⟩
set_option maxRecDepth 100000 in
set_option maxHeartbeats 4000000 in
theorem sX10_wordNumber_2 {N : Nat} {X : XT} (G : GX X cX10_wordNumber RX10) (hn : xnL X = 4) (hC : CRs X tX10_wordNumber (oF []) (oF []) (oF [])) {r : Int32 × Wd} (hr : RTI X cX10_wordNumber r) (a1 : Int64) : ∀ (n : Nat) (v3 : Int32) (w : Wd), fX10_wordNumber_2 N a1 n v3 w = some r → WW X (pcAt tX10_wordNumber 2) [some (.inr (.inr (14, 0))), some (.inr (.inl a1)), none, some (.inl v3)] [] w := by
  intro n
  induction n with
  | zero => intro v3 w h; cases h
  | succ n ih =>
    intro v3 w h
    refine run_sound (r := r) (X := X) (cc := cX10_wordNumber) (own := RX10) (tab := tX10_wordNumber) G (by rw [hn]; exact kX10_wordNumber) (oI := (oF [])) (oL := (oF [])) (oV := (oF [])) (rI := (fun x w => some (x, w))) (rL := (fun _ _ => none)) (rV := (fun _ => none))
      (K := (fun j ls st w => if j = 2 then (lgI ls 3 fun v3 => st0 st (callW (fX10_wordNumber_2 N a1 n v3) w)) else none)) (fun x w pc ls hx hd => hr x w pc ls (Option.some.inj hx) hd) (fun _ _ _ _ hx => by cases hx) (fun _ _ _ hx => by cases hx) hC (fun ls => lsb [some (.inr (.inr (14, 0))), some (.inr (.inl a1)), none, none] 0 ls) (keepsP_of rfl) ?_ 20 2 [some (.inr (.inr (14, 0))), some (.inr (.inl a1)), none, some (.inl v3)] [] w ?_ h
    · intro j ls st w hfx h
      obtain ⟨e0, e1, -⟩ : _ = _ ∧ _ = _ ∧ True := hfx
      try dsimp only at h
      by_cases hj : j = 2
      · subst hj
        rw [if_pos rfl] at h
        obtain ⟨v3, e3, h_1⟩ := lgI_some h
        obtain ⟨rfl, h_2⟩ := st0_some h_1
        clear h h_1
        have h := h_2
        try rw [callW_eq] at h
        exact WW.le (a := [some (.inr (.inr (14, 0))), some (.inr (.inl a1)), none, some (.inl v3)]) (by rw [hn]; rfl) (show _ = _ ∧ _ = _ ∧ _ = _ ∧ True from ⟨e0, e1, e3, trivial⟩) (ih v3 w h)
      rw [if_neg hj] at h
      cases h
    · exact (show _ = _ ∧ _ = _ ∧ True from ⟨rfl, rfl, trivial⟩)
set_option maxRecDepth 100000 in
set_option maxHeartbeats 4000000 in
theorem crX10_wordNumber {N : Nat} {X : XT} (G : GX X cX10_wordNumber RX10) (hR : xR X = rmL 1) : CRs X tX10_wordNumber (oF []) (oF []) (oF []) := by
  have hl : tX10_wordNumber.filter isInv = [] := rfl
  intro e he
  rw [hl] at he
  cases he
set_option maxRecDepth 100000 in
set_option maxHeartbeats 4000000 in
theorem MX10_wordNumber (N : Nat) : SndI yX10_wordNumber cX10_wordNumber 4 (some .int) 1 2 true (mX10_wordNumber N) := by
  refine SndI.of tX10_wordNumber (by decide +kernel) rfl rfl ?_ ?_
  · intro as w x h
    obtain ⟨t1, rfl, h_1⟩ := xS1_some h
    obtain ⟨a1, t2, rfl, h_2⟩ := xL1_some h_1
    obtain ⟨rfl, h_3⟩ := xN1_some h_2
    clear h h_1 h_2
    have h := h_3
    rw [callW_eq] at h
    exact ⟨fun _ => ⟨_, _, _, rfl, rfl, _, rfl, rfl⟩, rfl, Nat.le_of_ble_eq_true rfl⟩
  · intro X G hn hR as w r h hr
    have hC := crX10_wordNumber (N := N) G hR
    obtain ⟨t1, rfl, h_1⟩ := xS1_some h
    obtain ⟨a1, t2, rfl, h_2⟩ := xL1_some h_1
    obtain ⟨rfl, h_3⟩ := xN1_some h_2
    clear h h_1 h_2
    have h := h_3
    rw [callW_eq] at h
    refine run_sound (r := r) (X := X) (cc := cX10_wordNumber) (own := RX10) (tab := tX10_wordNumber) G (by rw [hn]; exact kX10_wordNumber) (oI := (oF [])) (oL := (oF [])) (oV := (oF [])) (rI := (fun x w => some (x, w))) (rL := (fun _ _ => none)) (rV := (fun _ => none))
      (K := (fun j ls st w => if j = 2 then (lgI ls 3 fun v3 => st0 st (callW (fX10_wordNumber_2 N a1 N v3) w)) else none)) (fun x w pc ls hx hd => hr x w pc ls (Option.some.inj hx) hd) (fun _ _ _ _ hx => by cases hx) (fun _ _ _ hx => by cases hx) hC (fun ls => lsb [some (.inr (.inr (14, 0))), some (.inr (.inl a1)), none, none] 0 ls) (keepsP_of rfl) ?_ 20 0 [some (.inr (.inr (14, 0))), some (.inr (.inl a1)), none, none] [] w ?_ h
    · intro j ls st w hfx h
      obtain ⟨e0, e1, -⟩ : _ = _ ∧ _ = _ ∧ True := hfx
      try dsimp only at h
      by_cases hj : j = 2
      · subst hj
        rw [if_pos rfl] at h
        obtain ⟨v3, e3, h_1⟩ := lgI_some h
        obtain ⟨rfl, h_2⟩ := st0_some h_1
        clear h h_1
        have h := h_2
        try rw [callW_eq] at h
        exact WW.le (a := [some (.inr (.inr (14, 0))), some (.inr (.inl a1)), none, some (.inl v3)]) (by rw [hn]; rfl) (show _ = _ ∧ _ = _ ∧ _ = _ ∧ True from ⟨e0, e1, e3, trivial⟩) (sX10_wordNumber_2 G hn hC hr a1 N v3 w h)
      rw [if_neg hj] at h
      cases h
    · exact (show _ = _ ∧ _ = _ ∧ True from ⟨rfl, rfl, trivial⟩)
-- MoorGuides$Tokens.add(III)V
def tX10_add : List EN := [
  (0, .aload_n 0, 0, 0, 0, 0, 0, []), (1, .getfield 50, 0, 10, 4, 0, 0, []), (4, .sipush 900, 0, 0, 0, 900, 0, []), (7, .if_icmp .gt 43, 0, 28, 0, 0, 0, []),
  (10, .aload_n 0, 0, 0, 0, 0, 0, []), (11, .getfield 15, 0, 10, 1, 0, 0, []), (14, .aload_n 0, 0, 0, 0, 0, 0, []), (15, .getfield 50, 0, 10, 4, 0, 0, []),
  (18, .iload_n 1, 0, 0, 0, 0, 0, []), (19, .iastore, 0, 0, 0, 0, 0, []), (20, .aload_n 0, 0, 0, 0, 0, 0, []), (21, .getfield 19, 0, 10, 2, 0, 0, []),
  (24, .aload_n 0, 0, 0, 0, 0, 0, []), (25, .getfield 50, 0, 10, 4, 0, 0, []), (28, .iload_n 2, 0, 0, 0, 0, 0, []), (29, .iastore, 0, 0, 0, 0, 0, []),
  (30, .aload_n 0, 0, 0, 0, 0, 0, []), (31, .getfield 22, 0, 10, 3, 0, 0, []), (34, .aload_n 0, 0, 0, 0, 0, 0, []), (35, .getfield 50, 0, 10, 4, 0, 0, []),
  (38, .iload_n 3, 0, 0, 0, 0, 0, []), (39, .iastore, 0, 0, 0, 0, 0, []), (40, .aload_n 0, 0, 0, 0, 0, 0, []), (41, .dup, 0, 0, 0, 0, 0, []),
  (42, .getfield 50, 0, 10, 4, 0, 0, []), (45, .iconst 1, 0, 0, 0, 1, 0, []), (46, .iadd, 0, 0, 0, 0, 0, []), (47, .putfield 50, 0, 10, 4, 0, 0, []),
  (50, .return_, 0, 0, 0, 0, 0, [])]
noncomputable def pX10_add (N : Nat) (a1 : Int32) (a2 : Int32) (a3 : Int32) (w : Wd) : Option (Wd) :=
  if (900 : Int32) < (gI w 14 0 4) then some w else
  (stI w 68 0 (gI w 14 0 4) 901 a1).bind fun w1 =>
  (stI w1 69 0 (gI w1 14 0 4) 901 a2).bind fun w2 =>
  (stI w2 70 0 (gI w2 14 0 4) 901 a3).bind fun w3 =>
  some (setI w3 14 0 4 ((gI w3 14 0 4) + (1 : Int32)))
noncomputable def mX10_add (N : Nat) (as : List AV) (w : Wd) : Option (Wd) := xS1 14 as fun t => xI1 t fun a1 t => xI1 t fun a2 t => xI1 t fun a3 t => xN1 t (callW (pX10_add N a1 a2 a3) w)
set_option maxRecDepth 100000 in
set_option maxHeartbeats 4000000 in
theorem kX10_add : TK cX10_add RX10 4 tX10_add := ⟨by decide +kernel, wok_of [433, 430, 433, 431, 433, 432, 433, 433, 433] (by decide +kernel) (by decide +kernel)⟩
set_option maxRecDepth 100000 in
set_option maxHeartbeats 4000000 in
theorem crX10_add {N : Nat} {X : XT} (G : GX X cX10_add RX10) (hR : xR X = rmL 1) : CRs X tX10_add (oF []) (oF []) (oF []) := by
  have hl : tX10_add.filter isInv = [] := rfl
  intro e he
  rw [hl] at he
  cases he
set_option maxRecDepth 100000 in
set_option maxHeartbeats 4000000 in
theorem MX10_add (N : Nat) : SndV yX10_add cX10_add 4 none 1 4 true (mX10_add N) := by
  refine SndV.of tX10_add (by decide +kernel) rfl rfl ?_ ?_
  · intro as w x h
    obtain ⟨t1, rfl, h_1⟩ := xS1_some h
    obtain ⟨a1, t2, rfl, h_2⟩ := xI1_some h_1
    obtain ⟨a2, t3, rfl, h_3⟩ := xI1_some h_2
    obtain ⟨a3, t4, rfl, h_4⟩ := xI1_some h_3
    obtain ⟨rfl, h_5⟩ := xN1_some h_4
    clear h h_1 h_2 h_3 h_4
    have h := h_5
    rw [callW_eq] at h
    exact ⟨fun _ => ⟨_, _, _, rfl, rfl, _, rfl, rfl⟩, rfl, Nat.le_of_ble_eq_true rfl⟩
  · intro X G hn hR as w r h hr
    have hC := crX10_add (N := N) G hR
    obtain ⟨t1, rfl, h_1⟩ := xS1_some h
    obtain ⟨a1, t2, rfl, h_2⟩ := xI1_some h_1
    obtain ⟨a2, t3, rfl, h_3⟩ := xI1_some h_2
    obtain ⟨a3, t4, rfl, h_4⟩ := xI1_some h_3
    obtain ⟨rfl, h_5⟩ := xN1_some h_4
    clear h h_1 h_2 h_3 h_4
    have h := h_5
    rw [callW_eq] at h
    refine run_sound (r := r) (X := X) (cc := cX10_add) (own := RX10) (tab := tX10_add) G (by rw [hn]; exact kX10_add) (oI := (oF [])) (oL := (oF [])) (oV := (oF [])) (rI := (fun _ _ => none)) (rL := (fun _ _ => none)) (rV := (fun w => some w))
      (K := (fun j ls st w => none)) (fun _ _ _ _ hx => by cases hx) (fun _ _ _ _ hx => by cases hx) (fun w pc ls hx hd => hr w pc ls (Option.some.inj hx) hd) hC (fun ls => lsb [some (.inr (.inr (14, 0))), some (.inl a1), some (.inl a2), some (.inl a3)] 0 ls) (keepsP_of rfl) ?_ 31 0 [some (.inr (.inr (14, 0))), some (.inl a1), some (.inl a2), some (.inl a3)] [] w ?_ h
    · intro j ls st w hfx h
      obtain ⟨e0, e1, e2, e3, -⟩ : _ = _ ∧ _ = _ ∧ _ = _ ∧ _ = _ ∧ True := hfx
      try dsimp only at h
      cases h
    · exact (show _ = _ ∧ _ = _ ∧ _ = _ ∧ _ = _ ∧ True from ⟨rfl, rfl, rfl, rfl, trivial⟩)
-- MoorGuides$Tokens.cutWord(I)I
def tX10_cutWord : List EN := [
  (0, .lconst 0, 0, 0, 0, 0, 0, []), (1, .lstore_n 2, 0, 0, 0, 0, 0, []), (2, .iload_n 1, 0, 0, 0, 0, 0, []), (3, .istore 4, 0, 0, 0, 0, 0, []),
  (5, .iconst 0, 0, 0, 0, 0, 0, []), (6, .istore 5, 0, 0, 0, 0, 0, []), (8, .iload 5, 7, 0, 0, 0, 0, []), (10, .aload_n 0, 0, 0, 0, 0, 0, []),
  (11, .getfield 47, 0, 10, 7, 0, 0, []), (14, .if_icmp .ge 48, 0, 34, 0, 0, 0, []), (17, .aload_n 0, 0, 0, 0, 0, 0, []), (18, .iload 4, 0, 0, 0, 0, 0, []),
  (20, .invokevirtual 76, 0, 0, 2, 0, 0, []), (23, .invokestatic 79, 0, 1, 1, 0, 0, []), (26, .ifCond .eq 36, 0, 34, 0, 0, 0, []), (29, .iload 5, 0, 0, 0, 0, 0, []),
  (31, .bipush 12, 0, 0, 0, 12, 0, []), (33, .if_icmp .ge 20, 0, 31, 0, 0, 0, []), (36, .lload_n 2, 0, 0, 0, 0, 0, []), (37, .iconst 5, 0, 0, 0, 5, 0, []),
  (38, .lshl, 0, 0, 0, 0, 0, []), (39, .aload_n 0, 0, 0, 0, 0, 0, []), (40, .iload 4, 0, 0, 0, 0, 0, []), (42, .invokevirtual 76, 0, 0, 2, 0, 0, []),
  (45, .bipush 97, 0, 0, 0, 97, 0, []), (47, .isub, 0, 0, 0, 0, 0, []), (48, .iconst 1, 0, 0, 0, 1, 0, []), (49, .iadd, 0, 0, 0, 0, 0, []),
  (50, .i2l, 0, 0, 0, 0, 0, []), (51, .lor, 0, 0, 0, 0, 0, []), (52, .lstore_n 2, 0, 0, 0, 0, 0, []), (53, .iinc 4 1, 0, 0, 0, 1, 0, []),
  (56, .iinc 5 1, 0, 0, 0, 1, 0, []), (59, .goto (-51), 0, 6, 0, 0, 0, []), (62, .aload_n 0, 35, 0, 0, 0, 0, []), (63, .lload_n 2, 0, 0, 0, 0, 0, []),
  (64, .invokevirtual 95, 0, 2, 2, 0, 0, []), (67, .istore 5, 0, 0, 0, 0, 0, []), (69, .bipush 6, 0, 0, 0, 6, 0, []), (71, .iload 4, 0, 0, 0, 0, 0, []),
  (73, .iload_n 1, 0, 0, 0, 0, 0, []), (74, .isub, 0, 0, 0, 0, 0, []), (75, .isub, 0, 0, 0, 0, 0, []), (76, .istore 6, 0, 0, 0, 0, 0, []),
  (78, .iload 5, 0, 0, 0, 0, 0, []), (80, .iconst (-1), 0, 0, 0, (-1), 0, []), (81, .if_icmp .eq 14, 0, 53, 0, 0, 0, []), (84, .aload_n 0, 0, 0, 0, 0, 0, []),
  (85, .iload 5, 0, 0, 0, 0, 0, []), (87, .iload_n 1, 0, 0, 0, 0, 0, []), (88, .iconst 0, 0, 0, 0, 0, 0, []), (89, .invokevirtual 57, 0, 0, 4, 0, 0, [(0, 0), (0, 0)]),
  (92, .goto 33, 0, 71, 0, 0, 0, []), (95, .iload 6, 0, 0, 0, 0, 0, []), (97, .ifCond .lt 20, 0, 66, 0, 0, 0, []), (100, .aload_n 0, 0, 0, 0, 0, 0, []),
  (101, .bipush (-4), 0, 0, 0, (-4), 0, []), (103, .iload_n 1, 0, 0, 0, 0, 0, []), (104, .lload_n 2, 0, 0, 0, 0, 0, []), (105, .iconst 5, 0, 0, 0, 5, 0, []),
  (106, .iload 6, 0, 0, 0, 0, 0, []), (108, .imul, 0, 0, 0, 0, 0, []), (109, .lshl, 0, 0, 0, 0, 0, []), (110, .l2i, 0, 0, 0, 0, 0, []),
  (111, .invokevirtual 57, 0, 0, 4, 0, 0, [(0, 0), (0, 0)]), (114, .goto 11, 0, 71, 0, 0, 0, []), (117, .aload_n 0, 0, 0, 0, 0, 0, []), (118, .bipush (-2), 0, 0, 0, (-2), 0, []),
  (120, .iload_n 1, 0, 0, 0, 0, 0, []), (121, .iconst 0, 0, 0, 0, 0, 0, []), (122, .invokevirtual 57, 0, 0, 4, 0, 0, [(0, 0), (0, 0)]), (125, .iload 4, 0, 0, 0, 0, 0, []),
  (127, .ireturn, 0, 0, 0, 0, 0, [])]
noncomputable def fX10_cutWord_34 (N : Nat) (a1 : Int32) (v2 : Int64) (v4 : Int32) (w : Wd) : Option (Int32 × Wd) :=
  (callW (pX10_wordNumber N v2) w).bind fun r1 =>
  if r1.1 = (-1 : Int32) then
    if ((6 : Int32) - (v4 - a1)) < 0 then
      (callW (pX10_add N (-2 : Int32) a1 (0 : Int32)) r1.2).bind fun w2 =>
      some (v4, w2)
    else
    (callW (pX10_add N (-4 : Int32) a1 ((v2 <<< (((5 : Int32) * ((6 : Int32) - (v4 - a1))).toInt64 &&& (63 : Int64))).toInt32)) r1.2).bind fun w3 =>
    some (v4, w3)
  else
  (callW (pX10_add N r1.1 a1 (0 : Int32)) r1.2).bind fun w4 =>
  some (v4, w4)
noncomputable def fX10_cutWord_6 (N : Nat) (a1 : Int32) : Nat → (Int64 → Int32 → Wd → Option (Int32 × Wd)) → Int64 → Int32 → Int32 → Wd → Option (Int32 × Wd)
  | 0, _, _, _, _, _ => none
  | n + 1, k34, v2, v4, v5, w =>
    if v5 < (gI w 14 0 7) then
      (callW (pX10_byteAt N v4) w).bind fun r1 =>
      (callW (pX10_isLetter N r1.1) r1.2).bind fun r2 =>
      if r2.1 = 0 then k34 v2 v4 r2.2 else
      if v5 < (12 : Int32) then
        (callW (pX10_byteAt N v4) r2.2).bind fun r3 =>
        callW (fX10_cutWord_6 N a1 n k34 ((v2 <<< ((5 : Int32).toInt64 &&& (63 : Int64))) ||| ((r3.1 - (97 : Int32)) + (1 : Int32)).toInt64) (v4 + (1 : Int32)) (v5 + (1 : Int32))) r3.2
      else
      callW (fX10_cutWord_6 N a1 n k34 v2 (v4 + (1 : Int32)) (v5 + (1 : Int32))) r2.2
    else
    k34 v2 v4 w
noncomputable def pX10_cutWord (N : Nat) (a1 : Int32) (w : Wd) : Option (Int32 × Wd) :=
  callW (fX10_cutWord_6 N a1 N (fX10_cutWord_34 N a1) (0 : Int64) a1 (0 : Int32)) w
noncomputable def mX10_cutWord (N : Nat) (as : List AV) (w : Wd) : Option (Int32 × Wd) := xS1 14 as fun t => xI1 t fun a1 t => xN1 t (callW (pX10_cutWord N a1) w)
set_option maxRecDepth 100000 in
set_option maxHeartbeats 4000000 in
theorem kX10_cutWord : TK cX10_cutWord RX10 7 tX10_cutWord := ⟨by decide +kernel, wok_of [436] (by decide +kernel) (by decide +kernel)⟩
set_option maxRecDepth 100000 in
set_option maxHeartbeats 4000000 in
theorem sX10_cutWord_34 {N : Nat} {X : XT} (G : GX X cX10_cutWord RX10) (hn : xnL X = 7) (hC : CRs X tX10_cutWord (oF [(mX10_byteAt N), (mX10_isLetter N), (mX10_wordNumber N)]) (oF []) (oF [(mX10_add N)])) {r : Int32 × Wd} (hr : RTI X cX10_cutWord r) (a1 : Int32) : ∀ (v2 : Int64) (v4 : Int32) (w : Wd), fX10_cutWord_34 N a1 v2 v4 w = some r → WW X (pcAt tX10_cutWord 34) [some (.inr (.inr (14, 0))), some (.inl a1), some (.inr (.inl v2)), none, some (.inl v4), none, none] [] w := by
  intro v2 v4 w h
  refine run_sound (r := r) (X := X) (cc := cX10_cutWord) (own := RX10) (tab := tX10_cutWord) G (by rw [hn]; exact kX10_cutWord) (oI := (oF [(mX10_byteAt N), (mX10_isLetter N), (mX10_wordNumber N)])) (oL := (oF [])) (oV := (oF [(mX10_add N)])) (rI := (fun x w => some (x, w))) (rL := (fun _ _ => none)) (rV := (fun _ => none))
    (K := (fun j ls st w => none)) (fun x w pc ls hx hd => hr x w pc ls (Option.some.inj hx) hd) (fun _ _ _ _ hx => by cases hx) (fun _ _ _ hx => by cases hx) hC (fun ls => lsb [some (.inr (.inr (14, 0))), some (.inl a1), none, none, none, none, none] 0 ls) (keepsP_of rfl) ?_ 75 34 [some (.inr (.inr (14, 0))), some (.inl a1), some (.inr (.inl v2)), none, some (.inl v4), none, none] [] w ?_ h
  · intro j ls st w hfx h
    obtain ⟨e0, e1, -⟩ : _ = _ ∧ _ = _ ∧ True := hfx
    try dsimp only at h
    cases h
  · exact (show _ = _ ∧ _ = _ ∧ True from ⟨rfl, rfl, trivial⟩)
set_option maxRecDepth 100000 in
set_option maxHeartbeats 4000000 in
theorem sX10_cutWord_6 {N : Nat} {X : XT} (G : GX X cX10_cutWord RX10) (hn : xnL X = 7) (hC : CRs X tX10_cutWord (oF [(mX10_byteAt N), (mX10_isLetter N), (mX10_wordNumber N)]) (oF []) (oF [(mX10_add N)])) {r : Int32 × Wd} (hr : RTI X cX10_cutWord r) (a1 : Int32) : ∀ (n : Nat) (k34 : Int64 → Int32 → Wd → Option (Int32 × Wd)) (v2 : Int64) (v4 : Int32) (v5 : Int32) (w : Wd), fX10_cutWord_6 N a1 n k34 v2 v4 v5 w = some r → (∀ (v2 : Int64) (v4 : Int32) (w : Wd), k34 v2 v4 w = some r → WW X (pcAt tX10_cutWord 34) [some (.inr (.inr (14, 0))), some (.inl a1), some (.inr (.inl v2)), none, some (.inl v4), none, none] [] w) → WW X (pcAt tX10_cutWord 6) [some (.inr (.inr (14, 0))), some (.inl a1), some (.inr (.inl v2)), none, some (.inl v4), some (.inl v5), none] [] w := by
  intro n
  induction n with
  | zero => intro k34 v2 v4 v5 w h h34; cases h
  | succ n ih =>
    intro k34 v2 v4 v5 w h h34
    refine run_sound (r := r) (X := X) (cc := cX10_cutWord) (own := RX10) (tab := tX10_cutWord) G (by rw [hn]; exact kX10_cutWord) (oI := (oF [(mX10_byteAt N), (mX10_isLetter N), (mX10_wordNumber N)])) (oL := (oF [])) (oV := (oF [(mX10_add N)])) (rI := (fun x w => some (x, w))) (rL := (fun _ _ => none)) (rV := (fun _ => none))
      (K := (fun j ls st w => if j = 6 then (lgL ls 2 fun v2 => lgI ls 4 fun v4 => lgI ls 5 fun v5 => st0 st (callW (fX10_cutWord_6 N a1 n k34 v2 v4 v5) w)) else if j = 34 then (lgL ls 2 fun v2 => lgI ls 4 fun v4 => st0 st (k34 v2 v4 w)) else none)) (fun x w pc ls hx hd => hr x w pc ls (Option.some.inj hx) hd) (fun _ _ _ _ hx => by cases hx) (fun _ _ _ hx => by cases hx) hC (fun ls => lsb [some (.inr (.inr (14, 0))), some (.inl a1), none, none, none, none, none] 0 ls) (keepsP_of rfl) ?_ 75 6 [some (.inr (.inr (14, 0))), some (.inl a1), some (.inr (.inl v2)), none, some (.inl v4), some (.inl v5), none] [] w ?_ h
    · intro j ls st w hfx h
      obtain ⟨e0, e1, -⟩ : _ = _ ∧ _ = _ ∧ True := hfx
      try dsimp only at h
      by_cases hj : j = 6
      · subst hj
        rw [if_pos rfl] at h
        obtain ⟨v2, e2, h_1⟩ := lgL_some h
        obtain ⟨v4, e4, h_2⟩ := lgI_some h_1
        obtain ⟨v5, e5, h_3⟩ := lgI_some h_2
        obtain ⟨rfl, h_4⟩ := st0_some h_3
        clear h h_1 h_2 h_3
        have h := h_4
        try rw [callW_eq] at h
        exact WW.le (a := [some (.inr (.inr (14, 0))), some (.inl a1), some (.inr (.inl v2)), none, some (.inl v4), some (.inl v5), none]) (by rw [hn]; rfl) (show _ = _ ∧ _ = _ ∧ _ = _ ∧ _ = _ ∧ _ = _ ∧ True from ⟨e0, e1, e2, e4, e5, trivial⟩) (ih k34 v2 v4 v5 w h h34)
      rw [if_neg hj] at h
      by_cases hj : j = 34
      · subst hj
        rw [if_pos rfl] at h
        obtain ⟨v2, e2, h_1⟩ := lgL_some h
        obtain ⟨v4, e4, h_2⟩ := lgI_some h_1
        obtain ⟨rfl, h_3⟩ := st0_some h_2
        clear h h_1 h_2
        have h := h_3
        try rw [callW_eq] at h
        exact WW.le (a := [some (.inr (.inr (14, 0))), some (.inl a1), some (.inr (.inl v2)), none, some (.inl v4), none, none]) (by rw [hn]; rfl) (show _ = _ ∧ _ = _ ∧ _ = _ ∧ _ = _ ∧ True from ⟨e0, e1, e2, e4, trivial⟩) (h34 v2 v4 w h)
      rw [if_neg hj] at h
      cases h
    · exact (show _ = _ ∧ _ = _ ∧ True from ⟨rfl, rfl, trivial⟩)
set_option maxRecDepth 100000 in
set_option maxHeartbeats 4000000 in
theorem crX10_cutWord {N : Nat} {X : XT} (G : GX X cX10_cutWord RX10) (hR : xR X = rmL 2) : CRs X tX10_cutWord (oF [(mX10_byteAt N), (mX10_isLetter N), (mX10_wordNumber N)]) (oF []) (oF [(mX10_add N)]) := by
  have hl : tX10_cutWord.filter isInv = [(20, .invokevirtual 76, 0, 0, 2, 0, 0, []), (23, .invokestatic 79, 0, 1, 1, 0, 0, []), (42, .invokevirtual 76, 0, 0, 2, 0, 0, []), (64, .invokevirtual 95, 0, 2, 2, 0, 0, []), (89, .invokevirtual 57, 0, 0, 4, 0, 0, [(0, 0), (0, 0)]), (111, .invokevirtual 57, 0, 0, 4, 0, 0, [(0, 0), (0, 0)]), (122, .invokevirtual 57, 0, 0, 4, 0, 0, [(0, 0), (0, 0)])] := rfl
  intro e he
  rw [hl] at he
  simp only [List.mem_cons, List.not_mem_nil, or_false] at he
  rcases he with rfl | rfl | rfl | rfl | rfl | rfl | rfl
  · exact crI_V (idx := 76) G (by decide +kernel) (MX10_byteAt N) (cw_of (ps := [814, 816, 2, 153, 817]) (by decide +kernel) (by decide +kernel)) ⟨by decide +kernel, by decide +kernel, by decide +kernel⟩ (by unfold rmOk; rw [hR]; exact ⟨by decide, by decide⟩)
  · exact crI_S (idx := 79) G (by decide +kernel) (MX10_isLetter N) (cw_of (ps := [818, 819, 153, 820]) (by decide +kernel) (by decide +kernel)) ⟨by decide +kernel, by decide +kernel, by decide +kernel⟩ (by unfold rmOk; rw [hR]; exact ⟨by decide, by decide⟩)
  · exact crI_V (idx := 76) G (by decide +kernel) (MX10_byteAt N) (cw_of (ps := [814, 816, 2, 153, 817]) (by decide +kernel) (by decide +kernel)) ⟨by decide +kernel, by decide +kernel, by decide +kernel⟩ (by unfold rmOk; rw [hR]; exact ⟨by decide, by decide⟩)
  · exact crI_V (idx := 95) G (by decide +kernel) (MX10_wordNumber N) (cw_of (ps := [825, 827, 4, 153, 828]) (by decide +kernel) (by decide +kernel)) ⟨by decide +kernel, by decide +kernel, by decide +kernel⟩ (by unfold rmOk; rw [hR]; exact ⟨by decide, by decide⟩)
  · exact crV_V (idx := 57) G (by decide +kernel) (MX10_add N) (cw_of (ps := [829, 831, 5, 153, 832]) (by decide +kernel) (by decide +kernel)) ⟨by decide +kernel, by decide +kernel, by decide +kernel⟩ (by unfold rmOk; rw [hR]; exact ⟨by decide, by decide⟩)
  · exact crV_V (idx := 57) G (by decide +kernel) (MX10_add N) (cw_of (ps := [829, 831, 5, 153, 832]) (by decide +kernel) (by decide +kernel)) ⟨by decide +kernel, by decide +kernel, by decide +kernel⟩ (by unfold rmOk; rw [hR]; exact ⟨by decide, by decide⟩)
  · exact crV_V (idx := 57) G (by decide +kernel) (MX10_add N) (cw_of (ps := [829, 831, 5, 153, 832]) (by decide +kernel) (by decide +kernel)) ⟨by decide +kernel, by decide +kernel, by decide +kernel⟩ (by unfold rmOk; rw [hR]; exact ⟨by decide, by decide⟩)
set_option maxRecDepth 100000 in
set_option maxHeartbeats 4000000 in
theorem MX10_cutWord (N : Nat) : SndI yX10_cutWord cX10_cutWord 7 (some .int) 2 2 true (mX10_cutWord N) := by
  refine SndI.of tX10_cutWord (by decide +kernel) rfl rfl ?_ ?_
  · intro as w x h
    obtain ⟨t1, rfl, h_1⟩ := xS1_some h
    obtain ⟨a1, t2, rfl, h_2⟩ := xI1_some h_1
    obtain ⟨rfl, h_3⟩ := xN1_some h_2
    clear h h_1 h_2
    have h := h_3
    rw [callW_eq] at h
    exact ⟨fun _ => ⟨_, _, _, rfl, rfl, _, rfl, rfl⟩, rfl, Nat.le_of_ble_eq_true rfl⟩
  · intro X G hn hR as w r h hr
    have hC := crX10_cutWord (N := N) G hR
    obtain ⟨t1, rfl, h_1⟩ := xS1_some h
    obtain ⟨a1, t2, rfl, h_2⟩ := xI1_some h_1
    obtain ⟨rfl, h_3⟩ := xN1_some h_2
    clear h h_1 h_2
    have h := h_3
    rw [callW_eq] at h
    refine run_sound (r := r) (X := X) (cc := cX10_cutWord) (own := RX10) (tab := tX10_cutWord) G (by rw [hn]; exact kX10_cutWord) (oI := (oF [(mX10_byteAt N), (mX10_isLetter N), (mX10_wordNumber N)])) (oL := (oF [])) (oV := (oF [(mX10_add N)])) (rI := (fun x w => some (x, w))) (rL := (fun _ _ => none)) (rV := (fun _ => none))
      (K := (fun j ls st w => if j = 6 then (lgL ls 2 fun v2 => lgI ls 4 fun v4 => lgI ls 5 fun v5 => st0 st (callW (fX10_cutWord_6 N a1 N (fX10_cutWord_34 N a1) v2 v4 v5) w)) else none)) (fun x w pc ls hx hd => hr x w pc ls (Option.some.inj hx) hd) (fun _ _ _ _ hx => by cases hx) (fun _ _ _ hx => by cases hx) hC (fun ls => lsb [some (.inr (.inr (14, 0))), some (.inl a1), none, none, none, none, none] 0 ls) (keepsP_of rfl) ?_ 75 0 [some (.inr (.inr (14, 0))), some (.inl a1), none, none, none, none, none] [] w ?_ h
    · intro j ls st w hfx h
      obtain ⟨e0, e1, -⟩ : _ = _ ∧ _ = _ ∧ True := hfx
      try dsimp only at h
      by_cases hj : j = 6
      · subst hj
        rw [if_pos rfl] at h
        obtain ⟨v2, e2, h_1⟩ := lgL_some h
        obtain ⟨v4, e4, h_2⟩ := lgI_some h_1
        obtain ⟨v5, e5, h_3⟩ := lgI_some h_2
        obtain ⟨rfl, h_4⟩ := st0_some h_3
        clear h h_1 h_2 h_3
        have h := h_4
        try rw [callW_eq] at h
        exact WW.le (a := [some (.inr (.inr (14, 0))), some (.inl a1), some (.inr (.inl v2)), none, some (.inl v4), some (.inl v5), none]) (by rw [hn]; rfl) (show _ = _ ∧ _ = _ ∧ _ = _ ∧ _ = _ ∧ _ = _ ∧ True from ⟨e0, e1, e2, e4, e5, trivial⟩) (sX10_cutWord_6 G hn hC hr a1 N (fX10_cutWord_34 N a1) v2 v4 v5 w h (fun v2 v4 w h => (sX10_cutWord_34 G hn hC hr a1 v2 v4 w h)))
      rw [if_neg hj] at h
      cases h
    · exact (show _ = _ ∧ _ = _ ∧ True from ⟨rfl, rfl, trivial⟩)
-- MoorGuides$Tokens.isDigit(I)Z
def tX10_isDigit : List EN := [
  (0, .iload_n 0, 0, 0, 0, 0, 0, []), (1, .bipush 48, 0, 0, 0, 48, 0, []), (3, .if_icmp .lt 13, 0, 8, 0, 0, 0, []), (6, .iload_n 0, 0, 0, 0, 0, 0, []),
  (7, .bipush 57, 0, 0, 0, 57, 0, []), (9, .if_icmp .gt 7, 0, 8, 0, 0, 0, []), (12, .iconst 1, 0, 0, 0, 1, 0, []), (13, .goto 4, 0, 9, 0, 0, 0, []),
  (16, .iconst 0, 0, 0, 0, 0, 0, []), (17, .ireturn, 0, 0, 0, 0, 0, [])]
noncomputable def pX10_isDigit (N : Nat) (a0 : Int32) (w : Wd) : Option (Int32 × Wd) :=
  if a0 < (48 : Int32) then some ((0 : Int32), w) else
  if (57 : Int32) < a0 then some ((0 : Int32), w) else
  some ((1 : Int32), w)
noncomputable def mX10_isDigit (N : Nat) (as : List AV) (w : Wd) : Option (Int32 × Wd) := xI1 as fun a0 t => xN1 t (callW (pX10_isDigit N a0) w)
set_option maxRecDepth 100000 in
set_option maxHeartbeats 4000000 in
theorem kX10_isDigit : TK cX10_isDigit RX10 1 tX10_isDigit := ⟨by decide +kernel, wok_of [] (by decide +kernel) (by decide +kernel)⟩
set_option maxRecDepth 100000 in
set_option maxHeartbeats 4000000 in
theorem crX10_isDigit {N : Nat} {X : XT} (G : GX X cX10_isDigit RX10) (hR : xR X = rmL 1) : CRs X tX10_isDigit (oF []) (oF []) (oF []) := by
  have hl : tX10_isDigit.filter isInv = [] := rfl
  intro e he
  rw [hl] at he
  cases he
set_option maxRecDepth 100000 in
set_option maxHeartbeats 4000000 in
theorem MX10_isDigit (N : Nat) : SndI yX10_isDigit cX10_isDigit 1 (some .boolean) 1 1 false (mX10_isDigit N) := by
  refine SndI.ofZ tX10_isDigit (by decide +kernel) rfl rfl ?_ ?_
  · intro as w x h
    obtain ⟨a0, t1, rfl, h_1⟩ := xI1_some h
    obtain ⟨rfl, h_2⟩ := xN1_some h_1
    clear h h_1
    have h := h_2
    rw [callW_eq] at h
    exact ⟨(fun z => by cases z), rfl, Nat.le_of_ble_eq_true rfl⟩
  · intro X G hn hR as w r h hr
    have hC := crX10_isDigit (N := N) G hR
    obtain ⟨a0, t1, rfl, h_1⟩ := xI1_some h
    obtain ⟨rfl, h_2⟩ := xN1_some h_1
    clear h h_1
    have h := h_2
    rw [callW_eq] at h
    refine run_sound (r := r) (X := X) (cc := cX10_isDigit) (own := RX10) (tab := tX10_isDigit) G (by rw [hn]; exact kX10_isDigit) (oI := (oF [])) (oL := (oF [])) (oV := (oF [])) (rI := retZ) (rL := (fun _ _ => none)) (rV := (fun _ => none))
      (K := (fun j ls st w => none)) hr (fun _ _ _ _ hx => by cases hx) (fun _ _ _ hx => by cases hx) hC (fun ls => lsb [some (.inl a0)] 0 ls) (keepsP_of rfl) ?_ 12 0 [some (.inl a0)] [] w ?_ h
    · intro j ls st w hfx h
      obtain ⟨e0, -⟩ : _ = _ ∧ True := hfx
      try dsimp only at h
      cases h
    · exact (show _ = _ ∧ True from ⟨rfl, trivial⟩)
-- MoorGuides$Tokens.cutNumber(I)I
def tX10_cutNumber : List EN := [
  (0, .iconst 0, 0, 0, 0, 0, 0, []), (1, .istore_n 2, 0, 0, 0, 0, 0, []), (2, .iload_n 1, 0, 0, 0, 0, 0, []), (3, .istore_n 3, 0, 0, 0, 0, 0, []),
  (4, .iconst 0, 0, 0, 0, 0, 0, []), (5, .istore 4, 0, 0, 0, 0, 0, []), (7, .iload 4, 7, 0, 0, 0, 0, []), (9, .aload_n 0, 0, 0, 0, 0, 0, []),
  (10, .getfield 47, 0, 10, 7, 0, 0, []), (13, .if_icmp .ge 43, 0, 31, 0, 0, 0, []), (16, .aload_n 0, 0, 0, 0, 0, 0, []), (17, .iload_n 3, 0, 0, 0, 0, 0, []),
  (18, .invokevirtual 76, 0, 0, 2, 0, 0, []), (21, .invokestatic 86, 0, 1, 1, 0, 0, []), (24, .ifCond .eq 32, 0, 31, 0, 0, 0, []), (27, .iload_n 2, 0, 0, 0, 0, 0, []),
  (28, .ldc 99, 0, 0, 0, 1000000, 0, []), (30, .if_icmp .ge 17, 0, 28, 0, 0, 0, []), (33, .iload_n 2, 0, 0, 0, 0, 0, []), (34, .bipush 10, 0, 0, 0, 10, 0, []),
  (36, .imul, 0, 0, 0, 0, 0, []), (37, .aload_n 0, 0, 0, 0, 0, 0, []), (38, .iload_n 3, 0, 0, 0, 0, 0, []), (39, .invokevirtual 76, 0, 0, 2, 0, 0, []),
  (42, .iadd, 0, 0, 0, 0, 0, []), (43, .bipush 48, 0, 0, 0, 48, 0, []), (45, .isub, 0, 0, 0, 0, 0, []), (46, .istore_n 2, 0, 0, 0, 0, 0, []),
  (47, .iinc 3 1, 0, 0, 0, 1, 0, []), (50, .iinc 4 1, 0, 0, 0, 1, 0, []), (53, .goto (-46), 0, 6, 0, 0, 0, []), (56, .aload_n 0, 32, 0, 0, 0, 0, []),
  (57, .bipush (-3), 0, 0, 0, (-3), 0, []), (59, .iload_n 1, 0, 0, 0, 0, 0, []), (60, .iload_n 2, 0, 0, 0, 0, 0, []), (61, .invokevirtual 57, 0, 0, 4, 0, 0, [(0, 0), (0, 0)]),
  (64, .iload_n 3, 0, 0, 0, 0, 0, []), (65, .ireturn, 0, 0, 0, 0, 0, [])]
noncomputable def fX10_cutNumber_31 (N : Nat) (a1 : Int32) (v2 : Int32) (v3 : Int32) (w : Wd) : Option (Int32 × Wd) :=
  (callW (pX10_add N (-3 : Int32) a1 v2) w).bind fun w1 =>
  some (v3, w1)
noncomputable def fX10_cutNumber_6 (N : Nat) (a1 : Int32) : Nat → (Int32 → Int32 → Wd → Option (Int32 × Wd)) → Int32 → Int32 → Int32 → Wd → Option (Int32 × Wd)
  | 0, _, _, _, _, _ => none
  | n + 1, k31, v2, v3, v4, w =>
    if v4 < (gI w 14 0 7) then
      (callW (pX10_byteAt N v3) w).bind fun r1 =>
      (callW (pX10_isDigit N r1.1) r1.2).bind fun r2 =>
      if r2.1 = 0 then k31 v2 v3 r2.2 else
      if v2 < (1000000 : Int32) then
        (callW (pX10_byteAt N v3) r2.2).bind fun r3 =>
        callW (fX10_cutNumber_6 N a1 n k31 (((v2 * (10 : Int32)) + r3.1) - (48 : Int32)) (v3 + (1 : Int32)) (v4 + (1 : Int32))) r3.2
      else
      callW (fX10_cutNumber_6 N a1 n k31 v2 (v3 + (1 : Int32)) (v4 + (1 : Int32))) r2.2
    else
    k31 v2 v3 w
noncomputable def pX10_cutNumber (N : Nat) (a1 : Int32) (w : Wd) : Option (Int32 × Wd) :=
  callW (fX10_cutNumber_6 N a1 N (fX10_cutNumber_31 N a1) (0 : Int32) a1 (0 : Int32)) w
noncomputable def mX10_cutNumber (N : Nat) (as : List AV) (w : Wd) : Option (Int32 × Wd) := xS1 14 as fun t => xI1 t fun a1 t => xN1 t (callW (pX10_cutNumber N a1) w)
set_option maxRecDepth 100000 in
set_option maxHeartbeats 4000000 in
theorem kX10_cutNumber : TK cX10_cutNumber RX10 5 tX10_cutNumber := ⟨by decide +kernel, wok_of [436, 840] (by decide +kernel) (by decide +kernel)⟩
set_option maxRecDepth 100000 in
set_option maxHeartbeats 4000000 in
theorem sX10_cutNumber_31 {N : Nat} {X : XT} (G : GX X cX10_cutNumber RX10) (hn : xnL X = 5) (hC : CRs X tX10_cutNumber (oF [(mX10_byteAt N), (mX10_isDigit N)]) (oF []) (oF [(mX10_add N)])) {r : Int32 × Wd} (hr : RTI X cX10_cutNumber r) (a1 : Int32) : ∀ (v2 : Int32) (v3 : Int32) (w : Wd), fX10_cutNumber_31 N a1 v2 v3 w = some r → WW X (pcAt tX10_cutNumber 31) [some (.inr (.inr (14, 0))), some (.inl a1), some (.inl v2), some (.inl v3), none] [] w := by
  intro v2 v3 w h
  refine run_sound (r := r) (X := X) (cc := cX10_cutNumber) (own := RX10) (tab := tX10_cutNumber) G (by rw [hn]; exact kX10_cutNumber) (oI := (oF [(mX10_byteAt N), (mX10_isDigit N)])) (oL := (oF [])) (oV := (oF [(mX10_add N)])) (rI := (fun x w => some (x, w))) (rL := (fun _ _ => none)) (rV := (fun _ => none))
    (K := (fun j ls st w => none)) (fun x w pc ls hx hd => hr x w pc ls (Option.some.inj hx) hd) (fun _ _ _ _ hx => by cases hx) (fun _ _ _ hx => by cases hx) hC (fun ls => lsb [some (.inr (.inr (14, 0))), some (.inl a1), none, none, none] 0 ls) (keepsP_of rfl) ?_ 40 31 [some (.inr (.inr (14, 0))), some (.inl a1), some (.inl v2), some (.inl v3), none] [] w ?_ h
  · intro j ls st w hfx h
    obtain ⟨e0, e1, -⟩ : _ = _ ∧ _ = _ ∧ True := hfx
    try dsimp only at h
    cases h
  · exact (show _ = _ ∧ _ = _ ∧ True from ⟨rfl, rfl, trivial⟩)
set_option maxRecDepth 100000 in
set_option maxHeartbeats 4000000 in
theorem sX10_cutNumber_6 {N : Nat} {X : XT} (G : GX X cX10_cutNumber RX10) (hn : xnL X = 5) (hC : CRs X tX10_cutNumber (oF [(mX10_byteAt N), (mX10_isDigit N)]) (oF []) (oF [(mX10_add N)])) {r : Int32 × Wd} (hr : RTI X cX10_cutNumber r) (a1 : Int32) : ∀ (n : Nat) (k31 : Int32 → Int32 → Wd → Option (Int32 × Wd)) (v2 : Int32) (v3 : Int32) (v4 : Int32) (w : Wd), fX10_cutNumber_6 N a1 n k31 v2 v3 v4 w = some r → (∀ (v2 : Int32) (v3 : Int32) (w : Wd), k31 v2 v3 w = some r → WW X (pcAt tX10_cutNumber 31) [some (.inr (.inr (14, 0))), some (.inl a1), some (.inl v2), some (.inl v3), none] [] w) → WW X (pcAt tX10_cutNumber 6) [some (.inr (.inr (14, 0))), some (.inl a1), some (.inl v2), some (.inl v3), some (.inl v4)] [] w := by
  intro n
  induction n with
  | zero => intro k31 v2 v3 v4 w h h31; cases h
  | succ n ih =>
    intro k31 v2 v3 v4 w h h31
    refine run_sound (r := r) (X := X) (cc := cX10_cutNumber) (own := RX10) (tab := tX10_cutNumber) G (by rw [hn]; exact kX10_cutNumber) (oI := (oF [(mX10_byteAt N), (mX10_isDigit N)])) (oL := (oF [])) (oV := (oF [(mX10_add N)])) (rI := (fun x w => some (x, w))) (rL := (fun _ _ => none)) (rV := (fun _ => none))
      (K := (fun j ls st w => if j = 6 then (lgI ls 2 fun v2 => lgI ls 3 fun v3 => lgI ls 4 fun v4 => st0 st (callW (fX10_cutNumber_6 N a1 n k31 v2 v3 v4) w)) else if j = 31 then (lgI ls 2 fun v2 => lgI ls 3 fun v3 => st0 st (k31 v2 v3 w)) else none)) (fun x w pc ls hx hd => hr x w pc ls (Option.some.inj hx) hd) (fun _ _ _ _ hx => by cases hx) (fun _ _ _ hx => by cases hx) hC (fun ls => lsb [some (.inr (.inr (14, 0))), some (.inl a1), none, none, none] 0 ls) (keepsP_of rfl) ?_ 40 6 [some (.inr (.inr (14, 0))), some (.inl a1), some (.inl v2), some (.inl v3), some (.inl v4)] [] w ?_ h
    · intro j ls st w hfx h
      obtain ⟨e0, e1, -⟩ : _ = _ ∧ _ = _ ∧ True := hfx
      try dsimp only at h
      by_cases hj : j = 6
      · subst hj
        rw [if_pos rfl] at h
        obtain ⟨v2, e2, h_1⟩ := lgI_some h
        obtain ⟨v3, e3, h_2⟩ := lgI_some h_1
        obtain ⟨v4, e4, h_3⟩ := lgI_some h_2
        obtain ⟨rfl, h_4⟩ := st0_some h_3
        clear h h_1 h_2 h_3
        have h := h_4
        try rw [callW_eq] at h
        exact WW.le (a := [some (.inr (.inr (14, 0))), some (.inl a1), some (.inl v2), some (.inl v3), some (.inl v4)]) (by rw [hn]; rfl) (show _ = _ ∧ _ = _ ∧ _ = _ ∧ _ = _ ∧ _ = _ ∧ True from ⟨e0, e1, e2, e3, e4, trivial⟩) (ih k31 v2 v3 v4 w h h31)
      rw [if_neg hj] at h
      by_cases hj : j = 31
      · subst hj
        rw [if_pos rfl] at h
        obtain ⟨v2, e2, h_1⟩ := lgI_some h
        obtain ⟨v3, e3, h_2⟩ := lgI_some h_1
        obtain ⟨rfl, h_3⟩ := st0_some h_2
        clear h h_1 h_2
        have h := h_3
        try rw [callW_eq] at h
        exact WW.le (a := [some (.inr (.inr (14, 0))), some (.inl a1), some (.inl v2), some (.inl v3), none]) (by rw [hn]; rfl) (show _ = _ ∧ _ = _ ∧ _ = _ ∧ _ = _ ∧ True from ⟨e0, e1, e2, e3, trivial⟩) (h31 v2 v3 w h)
      rw [if_neg hj] at h
      cases h
    · exact (show _ = _ ∧ _ = _ ∧ True from ⟨rfl, rfl, trivial⟩)
set_option maxRecDepth 100000 in
set_option maxHeartbeats 4000000 in
theorem crX10_cutNumber {N : Nat} {X : XT} (G : GX X cX10_cutNumber RX10) (hR : xR X = rmL 2) : CRs X tX10_cutNumber (oF [(mX10_byteAt N), (mX10_isDigit N)]) (oF []) (oF [(mX10_add N)]) := by
  have hl : tX10_cutNumber.filter isInv = [(18, .invokevirtual 76, 0, 0, 2, 0, 0, []), (21, .invokestatic 86, 0, 1, 1, 0, 0, []), (39, .invokevirtual 76, 0, 0, 2, 0, 0, []), (61, .invokevirtual 57, 0, 0, 4, 0, 0, [(0, 0), (0, 0)])] := rfl
  intro e he
  rw [hl] at he
  simp only [List.mem_cons, List.not_mem_nil, or_false] at he
  rcases he with rfl | rfl | rfl | rfl
  · exact crI_V (idx := 76) G (by decide +kernel) (MX10_byteAt N) (cw_of (ps := [814, 816, 2, 153, 817]) (by decide +kernel) (by decide +kernel)) ⟨by decide +kernel, by decide +kernel, by decide +kernel⟩ (by unfold rmOk; rw [hR]; exact ⟨by decide, by decide⟩)
  · exact crI_S (idx := 86) G (by decide +kernel) (MX10_isDigit N) (cw_of (ps := [833, 834, 153, 835]) (by decide +kernel) (by decide +kernel)) ⟨by decide +kernel, by decide +kernel, by decide +kernel⟩ (by unfold rmOk; rw [hR]; exact ⟨by decide, by decide⟩)
  · exact crI_V (idx := 76) G (by decide +kernel) (MX10_byteAt N) (cw_of (ps := [814, 816, 2, 153, 817]) (by decide +kernel) (by decide +kernel)) ⟨by decide +kernel, by decide +kernel, by decide +kernel⟩ (by unfold rmOk; rw [hR]; exact ⟨by decide, by decide⟩)
  · exact crV_V (idx := 57) G (by decide +kernel) (MX10_add N) (cw_of (ps := [829, 831, 5, 153, 832]) (by decide +kernel) (by decide +kernel)) ⟨by decide +kernel, by decide +kernel, by decide +kernel⟩ (by unfold rmOk; rw [hR]; exact ⟨by decide, by decide⟩)
set_option maxRecDepth 100000 in
set_option maxHeartbeats 4000000 in
theorem MX10_cutNumber (N : Nat) : SndI yX10_cutNumber cX10_cutNumber 5 (some .int) 2 2 true (mX10_cutNumber N) := by
  refine SndI.of tX10_cutNumber (by decide +kernel) rfl rfl ?_ ?_
  · intro as w x h
    obtain ⟨t1, rfl, h_1⟩ := xS1_some h
    obtain ⟨a1, t2, rfl, h_2⟩ := xI1_some h_1
    obtain ⟨rfl, h_3⟩ := xN1_some h_2
    clear h h_1 h_2
    have h := h_3
    rw [callW_eq] at h
    exact ⟨fun _ => ⟨_, _, _, rfl, rfl, _, rfl, rfl⟩, rfl, Nat.le_of_ble_eq_true rfl⟩
  · intro X G hn hR as w r h hr
    have hC := crX10_cutNumber (N := N) G hR
    obtain ⟨t1, rfl, h_1⟩ := xS1_some h
    obtain ⟨a1, t2, rfl, h_2⟩ := xI1_some h_1
    obtain ⟨rfl, h_3⟩ := xN1_some h_2
    clear h h_1 h_2
    have h := h_3
    rw [callW_eq] at h
    refine run_sound (r := r) (X := X) (cc := cX10_cutNumber) (own := RX10) (tab := tX10_cutNumber) G (by rw [hn]; exact kX10_cutNumber) (oI := (oF [(mX10_byteAt N), (mX10_isDigit N)])) (oL := (oF [])) (oV := (oF [(mX10_add N)])) (rI := (fun x w => some (x, w))) (rL := (fun _ _ => none)) (rV := (fun _ => none))
      (K := (fun j ls st w => if j = 6 then (lgI ls 2 fun v2 => lgI ls 3 fun v3 => lgI ls 4 fun v4 => st0 st (callW (fX10_cutNumber_6 N a1 N (fX10_cutNumber_31 N a1) v2 v3 v4) w)) else none)) (fun x w pc ls hx hd => hr x w pc ls (Option.some.inj hx) hd) (fun _ _ _ _ hx => by cases hx) (fun _ _ _ hx => by cases hx) hC (fun ls => lsb [some (.inr (.inr (14, 0))), some (.inl a1), none, none, none] 0 ls) (keepsP_of rfl) ?_ 40 0 [some (.inr (.inr (14, 0))), some (.inl a1), none, none, none] [] w ?_ h
    · intro j ls st w hfx h
      obtain ⟨e0, e1, -⟩ : _ = _ ∧ _ = _ ∧ True := hfx
      try dsimp only at h
      by_cases hj : j = 6
      · subst hj
        rw [if_pos rfl] at h
        obtain ⟨v2, e2, h_1⟩ := lgI_some h
        obtain ⟨v3, e3, h_2⟩ := lgI_some h_1
        obtain ⟨v4, e4, h_3⟩ := lgI_some h_2
        obtain ⟨rfl, h_4⟩ := st0_some h_3
        clear h h_1 h_2 h_3
        have h := h_4
        try rw [callW_eq] at h
        exact WW.le (a := [some (.inr (.inr (14, 0))), some (.inl a1), some (.inl v2), some (.inl v3), some (.inl v4)]) (by rw [hn]; rfl) (show _ = _ ∧ _ = _ ∧ _ = _ ∧ _ = _ ∧ _ = _ ∧ True from ⟨e0, e1, e2, e3, e4, trivial⟩) (sX10_cutNumber_6 G hn hC hr a1 N (fX10_cutNumber_31 N a1) v2 v3 v4 w h (fun v2 v3 w h => (sX10_cutNumber_31 G hn hC hr a1 v2 v3 w h)))
      rw [if_neg hj] at h
      cases h
    · exact (show _ = _ ∧ _ = _ ∧ True from ⟨rfl, rfl, trivial⟩)
-- MoorGuides$Tokens.cutSign(I)I
def tX10_cutSign : List EN := [
  (0, .aload_n 0, 0, 0, 0, 0, 0, []), (1, .iload_n 1, 0, 0, 0, 0, 0, []), (2, .invokevirtual 76, 0, 0, 2, 0, 0, []), (5, .istore_n 2, 0, 0, 0, 0, 0, []),
  (6, .aload_n 0, 0, 0, 0, 0, 0, []), (7, .iload_n 1, 0, 0, 0, 0, 0, []), (8, .iconst 1, 0, 0, 0, 1, 0, []), (9, .iadd, 0, 0, 0, 0, 0, []),
  (10, .invokevirtual 76, 0, 0, 2, 0, 0, []), (13, .istore_n 3, 0, 0, 0, 0, 0, []), (14, .iload_n 2, 0, 0, 0, 0, 0, []), (15, .bipush 60, 0, 0, 0, 60, 0, []),
  (17, .if_icmp .ne 21, 0, 25, 0, 0, 0, []), (20, .iload_n 3, 0, 0, 0, 0, 0, []), (21, .bipush 61, 0, 0, 0, 61, 0, []), (23, .if_icmp .ne 15, 0, 25, 0, 0, 0, []),
  (26, .aload_n 0, 0, 0, 0, 0, 0, []), (27, .bipush 40, 0, 0, 0, 40, 0, []), (29, .iload_n 1, 0, 0, 0, 0, 0, []), (30, .iconst 0, 0, 0, 0, 0, 0, []),
  (31, .invokevirtual 57, 0, 0, 4, 0, 0, [(0, 0), (0, 0)]), (34, .iload_n 1, 0, 0, 0, 0, 0, []), (35, .iconst 2, 0, 0, 0, 2, 0, []), (36, .iadd, 0, 0, 0, 0, 0, []),
  (37, .ireturn, 0, 0, 0, 0, 0, []), (38, .iload_n 2, 26, 0, 0, 0, 0, []), (39, .bipush 60, 0, 0, 0, 60, 0, []), (41, .if_icmp .ne 21, 0, 40, 0, 0, 0, []),
  (44, .iload_n 3, 0, 0, 0, 0, 0, []), (45, .bipush 62, 0, 0, 0, 62, 0, []), (47, .if_icmp .ne 15, 0, 40, 0, 0, 0, []), (50, .aload_n 0, 0, 0, 0, 0, 0, []),
  (51, .bipush 42, 0, 0, 0, 42, 0, []), (53, .iload_n 1, 0, 0, 0, 0, 0, []), (54, .iconst 0, 0, 0, 0, 0, 0, []), (55, .invokevirtual 57, 0, 0, 4, 0, 0, [(0, 0), (0, 0)]),
  (58, .iload_n 1, 0, 0, 0, 0, 0, []), (59, .iconst 2, 0, 0, 0, 2, 0, []), (60, .iadd, 0, 0, 0, 0, 0, []), (61, .ireturn, 0, 0, 0, 0, 0, []),
  (62, .iload_n 2, 41, 0, 0, 0, 0, []), (63, .bipush 62, 0, 0, 0, 62, 0, []), (65, .if_icmp .ne 21, 0, 55, 0, 0, 0, []), (68, .iload_n 3, 0, 0, 0, 0, 0, []),
  (69, .bipush 61, 0, 0, 0, 61, 0, []), (71, .if_icmp .ne 15, 0, 55, 0, 0, 0, []), (74, .aload_n 0, 0, 0, 0, 0, 0, []), (75, .bipush 43, 0, 0, 0, 43, 0, []),
  (77, .iload_n 1, 0, 0, 0, 0, 0, []), (78, .iconst 0, 0, 0, 0, 0, 0, []), (79, .invokevirtual 57, 0, 0, 4, 0, 0, [(0, 0), (0, 0)]), (82, .iload_n 1, 0, 0, 0, 0, 0, []),
  (83, .iconst 2, 0, 0, 0, 2, 0, []), (84, .iadd, 0, 0, 0, 0, 0, []), (85, .ireturn, 0, 0, 0, 0, 0, []), (86, .bipush (-2), 0, 0, 0, (-2), 0, []),
  (88, .istore 4, 0, 0, 0, 0, 0, []), (90, .iconst 0, 0, 0, 0, 0, 0, []), (91, .istore 5, 0, 0, 0, 0, 0, []), (93, .iload 5, 60, 0, 0, 0, 0, []),
  (95, .ldc 100, 0, 1, 0, 0, 0, []), (97, .invokevirtual 31, 0, 1, 1, 0, 0, []), (100, .if_icmp .ge 27, 0, 74, 0, 0, 0, []), (103, .ldc 100, 0, 1, 0, 0, 0, []),
  (105, .iload 5, 0, 0, 0, 0, 0, []), (107, .invokevirtual 37, 0, 2, 2, 0, 0, []), (110, .iload_n 2, 0, 0, 0, 0, 0, []), (111, .if_icmp .ne 10, 0, 72, 0, 0, 0, []),
  (114, .bipush 32, 0, 0, 0, 32, 0, []), (116, .iload 5, 0, 0, 0, 0, 0, []), (118, .iadd, 0, 0, 0, 0, 0, []), (119, .istore 4, 0, 0, 0, 0, 0, []),
  (121, .iinc 5 1, 0, 0, 0, 1, 0, []), (124, .goto (-31), 0, 59, 0, 0, 0, []), (127, .aload_n 0, 75, 0, 0, 0, 0, []), (128, .iload 4, 0, 0, 0, 0, 0, []),
  (130, .iload_n 1, 0, 0, 0, 0, 0, []), (131, .iconst 0, 0, 0, 0, 0, 0, []), (132, .invokevirtual 57, 0, 0, 4, 0, 0, [(0, 0), (0, 0)]), (135, .iload_n 1, 0, 0, 0, 0, 0, []),
  (136, .iconst 1, 0, 0, 0, 1, 0, []), (137, .iadd, 0, 0, 0, 0, 0, []), (138, .ireturn, 0, 0, 0, 0, 0, [])]
noncomputable def fX10_cutSign_74 (N : Nat) (a1 : Int32) (v4 : Int32) (w : Wd) : Option (Int32 × Wd) :=
  (callW (pX10_add N v4 a1 (0 : Int32)) w).bind fun w1 =>
  some ((a1 + (1 : Int32)), w1)
noncomputable def fX10_cutSign_59 (N : Nat) (a1 : Int32) : Nat → (Int32 → Wd → Option (Int32 × Wd)) → Int32 → Int32 → Int32 → Wd → Option (Int32 × Wd)
  | 0, _, _, _, _, _ => none
  | n + 1, k74, v2, v4, v5, w =>
    (callW (pJ0_length N 0) w).bind fun r1 =>
    if v5 < r1.1 then
      (callW (pJ0_charAt N 0 v5) r1.2).bind fun r2 =>
      if r2.1 = v2 then callW (fX10_cutSign_59 N a1 n k74 v2 ((32 : Int32) + v5) (v5 + (1 : Int32))) r2.2 else
      callW (fX10_cutSign_59 N a1 n k74 v2 v4 (v5 + (1 : Int32))) r2.2
    else
    k74 v4 r1.2
noncomputable def fX10_cutSign_40 (N : Nat) (a1 : Int32) (v2 : Int32) (v3 : Int32) (w : Wd) : Option (Int32 × Wd) :=
  if v2 = (62 : Int32) then
    if v3 = (61 : Int32) then
      (callW (pX10_add N (43 : Int32) a1 (0 : Int32)) w).bind fun w1 =>
      some ((a1 + (2 : Int32)), w1)
    else
    callW (fX10_cutSign_59 N a1 N (fX10_cutSign_74 N a1) v2 (-2 : Int32) (0 : Int32)) w
  else
  callW (fX10_cutSign_59 N a1 N (fX10_cutSign_74 N a1) v2 (-2 : Int32) (0 : Int32)) w
noncomputable def fX10_cutSign_25 (N : Nat) (a1 : Int32) (v2 : Int32) (v3 : Int32) (w : Wd) : Option (Int32 × Wd) :=
  if v2 = (60 : Int32) then
    if v3 = (62 : Int32) then
      (callW (pX10_add N (42 : Int32) a1 (0 : Int32)) w).bind fun w1 =>
      some ((a1 + (2 : Int32)), w1)
    else
    callW (fX10_cutSign_40 N a1 v2 v3) w
  else
  callW (fX10_cutSign_40 N a1 v2 v3) w
noncomputable def pX10_cutSign (N : Nat) (a1 : Int32) (w : Wd) : Option (Int32 × Wd) :=
  (callW (pX10_byteAt N a1) w).bind fun r1 =>
  (callW (pX10_byteAt N (a1 + (1 : Int32))) r1.2).bind fun r2 =>
  if r1.1 = (60 : Int32) then
    if r2.1 = (61 : Int32) then
      (callW (pX10_add N (40 : Int32) a1 (0 : Int32)) r2.2).bind fun w3 =>
      some ((a1 + (2 : Int32)), w3)
    else
    callW (fX10_cutSign_25 N a1 r1.1 r2.1) r2.2
  else
  callW (fX10_cutSign_25 N a1 r1.1 r2.1) r2.2
noncomputable def mX10_cutSign (N : Nat) (as : List AV) (w : Wd) : Option (Int32 × Wd) := xS1 14 as fun t => xI1 t fun a1 t => xN1 t (callW (pX10_cutSign N a1) w)
set_option maxRecDepth 100000 in
set_option maxHeartbeats 4000000 in
theorem kX10_cutSign : TK cX10_cutSign RX10 6 tX10_cutSign := ⟨by decide +kernel, wok_of [] (by decide +kernel) (by decide +kernel)⟩
set_option maxRecDepth 100000 in
set_option maxHeartbeats 4000000 in
theorem sX10_cutSign_74 {N : Nat} {X : XT} (G : GX X cX10_cutSign RX10) (hn : xnL X = 6) (hC : CRs X tX10_cutSign (oF [(mX10_byteAt N), (mJ0_length_8abf5 N), (mJ0_charAt_5068e N)]) (oF []) (oF [(mX10_add N)])) {r : Int32 × Wd} (hr : RTI X cX10_cutSign r) (a1 : Int32) : ∀ (v4 : Int32) (w : Wd), fX10_cutSign_74 N a1 v4 w = some r → WW X (pcAt tX10_cutSign 74) [some (.inr (.inr (14, 0))), some (.inl a1), none, none, some (.inl v4), none] [] w := by
  intro v4 w h
  refine run_sound (r := r) (X := X) (cc := cX10_cutSign) (own := RX10) (tab := tX10_cutSign) G (by rw [hn]; exact kX10_cutSign) (oI := (oF [(mX10_byteAt N), (mJ0_length_8abf5 N), (mJ0_charAt_5068e N)])) (oL := (oF [])) (oV := (oF [(mX10_add N)])) (rI := (fun x w => some (x, w))) (rL := (fun _ _ => none)) (rV := (fun _ => none))
    (K := (fun j ls st w => none)) (fun x w pc ls hx hd => hr x w pc ls (Option.some.inj hx) hd) (fun _ _ _ _ hx => by cases hx) (fun _ _ _ hx => by cases hx) hC (fun ls => lsb [some (.inr (.inr (14, 0))), some (.inl a1), none, none, none, none] 0 ls) (keepsP_of rfl) ?_ 85 74 [some (.inr (.inr (14, 0))), some (.inl a1), none, none, some (.inl v4), none] [] w ?_ h
  · intro j ls st w hfx h
    obtain ⟨e0, e1, -⟩ : _ = _ ∧ _ = _ ∧ True := hfx
    try dsimp only at h
    cases h
  · exact (show _ = _ ∧ _ = _ ∧ True from ⟨rfl, rfl, trivial⟩)
set_option maxRecDepth 100000 in
set_option maxHeartbeats 4000000 in
theorem sX10_cutSign_59 {N : Nat} {X : XT} (G : GX X cX10_cutSign RX10) (hn : xnL X = 6) (hC : CRs X tX10_cutSign (oF [(mX10_byteAt N), (mJ0_length_8abf5 N), (mJ0_charAt_5068e N)]) (oF []) (oF [(mX10_add N)])) {r : Int32 × Wd} (hr : RTI X cX10_cutSign r) (a1 : Int32) : ∀ (n : Nat) (k74 : Int32 → Wd → Option (Int32 × Wd)) (v2 : Int32) (v4 : Int32) (v5 : Int32) (w : Wd), fX10_cutSign_59 N a1 n k74 v2 v4 v5 w = some r → (∀ (v4 : Int32) (w : Wd), k74 v4 w = some r → WW X (pcAt tX10_cutSign 74) [some (.inr (.inr (14, 0))), some (.inl a1), none, none, some (.inl v4), none] [] w) → WW X (pcAt tX10_cutSign 59) [some (.inr (.inr (14, 0))), some (.inl a1), some (.inl v2), none, some (.inl v4), some (.inl v5)] [] w := by
  intro n
  induction n with
  | zero => intro k74 v2 v4 v5 w h h74; cases h
  | succ n ih =>
    intro k74 v2 v4 v5 w h h74
    refine run_sound (r := r) (X := X) (cc := cX10_cutSign) (own := RX10) (tab := tX10_cutSign) G (by rw [hn]; exact kX10_cutSign) (oI := (oF [(mX10_byteAt N), (mJ0_length_8abf5 N), (mJ0_charAt_5068e N)])) (oL := (oF [])) (oV := (oF [(mX10_add N)])) (rI := (fun x w => some (x, w))) (rL := (fun _ _ => none)) (rV := (fun _ => none))
      (K := (fun j ls st w => if j = 59 then (lgI ls 2 fun v2 => lgI ls 4 fun v4 => lgI ls 5 fun v5 => st0 st (callW (fX10_cutSign_59 N a1 n k74 v2 v4 v5) w)) else if j = 74 then (lgI ls 4 fun v4 => st0 st (k74 v4 w)) else none)) (fun x w pc ls hx hd => hr x w pc ls (Option.some.inj hx) hd) (fun _ _ _ _ hx => by cases hx) (fun _ _ _ hx => by cases hx) hC (fun ls => lsb [some (.inr (.inr (14, 0))), some (.inl a1), none, none, none, none] 0 ls) (keepsP_of rfl) ?_ 85 59 [some (.inr (.inr (14, 0))), some (.inl a1), some (.inl v2), none, some (.inl v4), some (.inl v5)] [] w ?_ h
    · intro j ls st w hfx h
      obtain ⟨e0, e1, -⟩ : _ = _ ∧ _ = _ ∧ True := hfx
      try dsimp only at h
      by_cases hj : j = 59
      · subst hj
        rw [if_pos rfl] at h
        obtain ⟨v2, e2, h_1⟩ := lgI_some h
        obtain ⟨v4, e4, h_2⟩ := lgI_some h_1
        obtain ⟨v5, e5, h_3⟩ := lgI_some h_2
        obtain ⟨rfl, h_4⟩ := st0_some h_3
        clear h h_1 h_2 h_3
        have h := h_4
        try rw [callW_eq] at h
        exact WW.le (a := [some (.inr (.inr (14, 0))), some (.inl a1), some (.inl v2), none, some (.inl v4), some (.inl v5)]) (by rw [hn]; rfl) (show _ = _ ∧ _ = _ ∧ _ = _ ∧ _ = _ ∧ _ = _ ∧ True from ⟨e0, e1, e2, e4, e5, trivial⟩) (ih k74 v2 v4 v5 w h h74)
      rw [if_neg hj] at h
      by_cases hj : j = 74
      · subst hj
        rw [if_pos rfl] at h
        obtain ⟨v4, e4, h_1⟩ := lgI_some h
        obtain ⟨rfl, h_2⟩ := st0_some h_1
        clear h h_1
        have h := h_2
        try rw [callW_eq] at h
        exact WW.le (a := [some (.inr (.inr (14, 0))), some (.inl a1), none, none, some (.inl v4), none]) (by rw [hn]; rfl) (show _ = _ ∧ _ = _ ∧ _ = _ ∧ True from ⟨e0, e1, e4, trivial⟩) (h74 v4 w h)
      rw [if_neg hj] at h
      cases h
    · exact (show _ = _ ∧ _ = _ ∧ True from ⟨rfl, rfl, trivial⟩)
set_option maxRecDepth 100000 in
set_option maxHeartbeats 4000000 in
theorem sX10_cutSign_40 {N : Nat} {X : XT} (G : GX X cX10_cutSign RX10) (hn : xnL X = 6) (hC : CRs X tX10_cutSign (oF [(mX10_byteAt N), (mJ0_length_8abf5 N), (mJ0_charAt_5068e N)]) (oF []) (oF [(mX10_add N)])) {r : Int32 × Wd} (hr : RTI X cX10_cutSign r) (a1 : Int32) : ∀ (v2 : Int32) (v3 : Int32) (w : Wd), fX10_cutSign_40 N a1 v2 v3 w = some r → WW X (pcAt tX10_cutSign 40) [some (.inr (.inr (14, 0))), some (.inl a1), some (.inl v2), some (.inl v3), none, none] [] w := by
  intro v2 v3 w h
  refine run_sound (r := r) (X := X) (cc := cX10_cutSign) (own := RX10) (tab := tX10_cutSign) G (by rw [hn]; exact kX10_cutSign) (oI := (oF [(mX10_byteAt N), (mJ0_length_8abf5 N), (mJ0_charAt_5068e N)])) (oL := (oF [])) (oV := (oF [(mX10_add N)])) (rI := (fun x w => some (x, w))) (rL := (fun _ _ => none)) (rV := (fun _ => none))
    (K := (fun j ls st w => if j = 59 then (lgI ls 2 fun v2 => lgI ls 4 fun v4 => lgI ls 5 fun v5 => st0 st (callW (fX10_cutSign_59 N a1 N (fX10_cutSign_74 N a1) v2 v4 v5) w)) else none)) (fun x w pc ls hx hd => hr x w pc ls (Option.some.inj hx) hd) (fun _ _ _ _ hx => by cases hx) (fun _ _ _ hx => by cases hx) hC (fun ls => lsb [some (.inr (.inr (14, 0))), some (.inl a1), none, none, none, none] 0 ls) (keepsP_of rfl) ?_ 85 40 [some (.inr (.inr (14, 0))), some (.inl a1), some (.inl v2), some (.inl v3), none, none] [] w ?_ h
  · intro j ls st w hfx h
    obtain ⟨e0, e1, -⟩ : _ = _ ∧ _ = _ ∧ True := hfx
    try dsimp only at h
    by_cases hj : j = 59
    · subst hj
      rw [if_pos rfl] at h
      obtain ⟨v2, e2, h_1⟩ := lgI_some h
      obtain ⟨v4, e4, h_2⟩ := lgI_some h_1
      obtain ⟨v5, e5, h_3⟩ := lgI_some h_2
      obtain ⟨rfl, h_4⟩ := st0_some h_3
      clear h h_1 h_2 h_3
      have h := h_4
      try rw [callW_eq] at h
      exact WW.le (a := [some (.inr (.inr (14, 0))), some (.inl a1), some (.inl v2), none, some (.inl v4), some (.inl v5)]) (by rw [hn]; rfl) (show _ = _ ∧ _ = _ ∧ _ = _ ∧ _ = _ ∧ _ = _ ∧ True from ⟨e0, e1, e2, e4, e5, trivial⟩) (sX10_cutSign_59 G hn hC hr a1 N (fX10_cutSign_74 N a1) v2 v4 v5 w h (fun v4 w h => (sX10_cutSign_74 G hn hC hr a1 v4 w h)))
    rw [if_neg hj] at h
    cases h
  · exact (show _ = _ ∧ _ = _ ∧ True from ⟨rfl, rfl, trivial⟩)
set_option maxRecDepth 100000 in
set_option maxHeartbeats 4000000 in
theorem sX10_cutSign_25 {N : Nat} {X : XT} (G : GX X cX10_cutSign RX10) (hn : xnL X = 6) (hC : CRs X tX10_cutSign (oF [(mX10_byteAt N), (mJ0_length_8abf5 N), (mJ0_charAt_5068e N)]) (oF []) (oF [(mX10_add N)])) {r : Int32 × Wd} (hr : RTI X cX10_cutSign r) (a1 : Int32) : ∀ (v2 : Int32) (v3 : Int32) (w : Wd), fX10_cutSign_25 N a1 v2 v3 w = some r → WW X (pcAt tX10_cutSign 25) [some (.inr (.inr (14, 0))), some (.inl a1), some (.inl v2), some (.inl v3), none, none] [] w := by
  intro v2 v3 w h
  refine run_sound (r := r) (X := X) (cc := cX10_cutSign) (own := RX10) (tab := tX10_cutSign) G (by rw [hn]; exact kX10_cutSign) (oI := (oF [(mX10_byteAt N), (mJ0_length_8abf5 N), (mJ0_charAt_5068e N)])) (oL := (oF [])) (oV := (oF [(mX10_add N)])) (rI := (fun x w => some (x, w))) (rL := (fun _ _ => none)) (rV := (fun _ => none))
    (K := (fun j ls st w => if j = 40 then (lgI ls 2 fun v2 => lgI ls 3 fun v3 => st0 st (callW (fX10_cutSign_40 N a1 v2 v3) w)) else none)) (fun x w pc ls hx hd => hr x w pc ls (Option.some.inj hx) hd) (fun _ _ _ _ hx => by cases hx) (fun _ _ _ hx => by cases hx) hC (fun ls => lsb [some (.inr (.inr (14, 0))), some (.inl a1), none, none, none, none] 0 ls) (keepsP_of rfl) ?_ 85 25 [some (.inr (.inr (14, 0))), some (.inl a1), some (.inl v2), some (.inl v3), none, none] [] w ?_ h
  · intro j ls st w hfx h
    obtain ⟨e0, e1, -⟩ : _ = _ ∧ _ = _ ∧ True := hfx
    try dsimp only at h
    by_cases hj : j = 40
    · subst hj
      rw [if_pos rfl] at h
      obtain ⟨v2, e2, h_1⟩ := lgI_some h
      obtain ⟨v3, e3, h_2⟩ := lgI_some h_1
      obtain ⟨rfl, h_3⟩ := st0_some h_2
      clear h h_1 h_2
      have h := h_3
      try rw [callW_eq] at h
      exact WW.le (a := [some (.inr (.inr (14, 0))), some (.inl a1), some (.inl v2), some (.inl v3), none, none]) (by rw [hn]; rfl) (show _ = _ ∧ _ = _ ∧ _ = _ ∧ _ = _ ∧ True from ⟨e0, e1, e2, e3, trivial⟩) (sX10_cutSign_40 G hn hC hr a1 v2 v3 w h)
    rw [if_neg hj] at h
    cases h
  · exact (show _ = _ ∧ _ = _ ∧ True from ⟨rfl, rfl, trivial⟩)
set_option maxRecDepth 100000 in
set_option maxHeartbeats 4000000 in
theorem crX10_cutSign {N : Nat} {X : XT} (G : GX X cX10_cutSign RX10) (hR : xR X = rmL 6) : CRs X tX10_cutSign (oF [(mX10_byteAt N), (mJ0_length_8abf5 N), (mJ0_charAt_5068e N)]) (oF []) (oF [(mX10_add N)]) := by
  have hl : tX10_cutSign.filter isInv = [(2, .invokevirtual 76, 0, 0, 2, 0, 0, []), (10, .invokevirtual 76, 0, 0, 2, 0, 0, []), (31, .invokevirtual 57, 0, 0, 4, 0, 0, [(0, 0), (0, 0)]), (55, .invokevirtual 57, 0, 0, 4, 0, 0, [(0, 0), (0, 0)]), (79, .invokevirtual 57, 0, 0, 4, 0, 0, [(0, 0), (0, 0)]), (97, .invokevirtual 31, 0, 1, 1, 0, 0, []), (107, .invokevirtual 37, 0, 2, 2, 0, 0, []), (132, .invokevirtual 57, 0, 0, 4, 0, 0, [(0, 0), (0, 0)])] := rfl
  intro e he
  rw [hl] at he
  simp only [List.mem_cons, List.not_mem_nil, or_false] at he
  rcases he with rfl | rfl | rfl | rfl | rfl | rfl | rfl | rfl
  · exact crI_V (idx := 76) G (by decide +kernel) (MX10_byteAt N) (cw_of (ps := [814, 816, 2, 153, 817]) (by decide +kernel) (by decide +kernel)) ⟨by decide +kernel, by decide +kernel, by decide +kernel⟩ (by unfold rmOk; rw [hR]; exact ⟨by decide, by decide⟩)
  · exact crI_V (idx := 76) G (by decide +kernel) (MX10_byteAt N) (cw_of (ps := [814, 816, 2, 153, 817]) (by decide +kernel) (by decide +kernel)) ⟨by decide +kernel, by decide +kernel, by decide +kernel⟩ (by unfold rmOk; rw [hR]; exact ⟨by decide, by decide⟩)
  · exact crV_V (idx := 57) G (by decide +kernel) (MX10_add N) (cw_of (ps := [829, 831, 5, 153, 832]) (by decide +kernel) (by decide +kernel)) ⟨by decide +kernel, by decide +kernel, by decide +kernel⟩ (by unfold rmOk; rw [hR]; exact ⟨by decide, by decide⟩)
  · exact crV_V (idx := 57) G (by decide +kernel) (MX10_add N) (cw_of (ps := [829, 831, 5, 153, 832]) (by decide +kernel) (by decide +kernel)) ⟨by decide +kernel, by decide +kernel, by decide +kernel⟩ (by unfold rmOk; rw [hR]; exact ⟨by decide, by decide⟩)
  · exact crV_V (idx := 57) G (by decide +kernel) (MX10_add N) (cw_of (ps := [829, 831, 5, 153, 832]) (by decide +kernel) (by decide +kernel)) ⟨by decide +kernel, by decide +kernel, by decide +kernel⟩ (by unfold rmOk; rw [hR]; exact ⟨by decide, by decide⟩)
  · exact crJ0_length_8abf5 (idx := 31) G (by decide +kernel) (cw_of (ps := [381, 382, 383, 154, 384]) (by decide +kernel) (by decide +kernel)) (by rw [hR]; exact ⟨by decide, by decide⟩)
  · exact crJ0_charAt_5068e (idx := 37) G (by decide +kernel) (cw_of (ps := [391, 392, 393, 154, 394]) (by decide +kernel) (by decide +kernel)) (by rw [hR]; exact ⟨by decide, by decide⟩)
  · exact crV_V (idx := 57) G (by decide +kernel) (MX10_add N) (cw_of (ps := [829, 831, 5, 153, 832]) (by decide +kernel) (by decide +kernel)) ⟨by decide +kernel, by decide +kernel, by decide +kernel⟩ (by unfold rmOk; rw [hR]; exact ⟨by decide, by decide⟩)
set_option maxRecDepth 100000 in
set_option maxHeartbeats 4000000 in
theorem MX10_cutSign (N : Nat) : SndI yX10_cutSign cX10_cutSign 6 (some .int) 6 2 true (mX10_cutSign N) := by
  refine SndI.of tX10_cutSign (by decide +kernel) rfl rfl ?_ ?_
  · intro as w x h
    obtain ⟨t1, rfl, h_1⟩ := xS1_some h
    obtain ⟨a1, t2, rfl, h_2⟩ := xI1_some h_1
    obtain ⟨rfl, h_3⟩ := xN1_some h_2
    clear h h_1 h_2
    have h := h_3
    rw [callW_eq] at h
    exact ⟨fun _ => ⟨_, _, _, rfl, rfl, _, rfl, rfl⟩, rfl, Nat.le_of_ble_eq_true rfl⟩
  · intro X G hn hR as w r h hr
    have hC := crX10_cutSign (N := N) G hR
    obtain ⟨t1, rfl, h_1⟩ := xS1_some h
    obtain ⟨a1, t2, rfl, h_2⟩ := xI1_some h_1
    obtain ⟨rfl, h_3⟩ := xN1_some h_2
    clear h h_1 h_2
    have h := h_3
    rw [callW_eq] at h
    refine run_sound (r := r) (X := X) (cc := cX10_cutSign) (own := RX10) (tab := tX10_cutSign) G (by rw [hn]; exact kX10_cutSign) (oI := (oF [(mX10_byteAt N), (mJ0_length_8abf5 N), (mJ0_charAt_5068e N)])) (oL := (oF [])) (oV := (oF [(mX10_add N)])) (rI := (fun x w => some (x, w))) (rL := (fun _ _ => none)) (rV := (fun _ => none))
      (K := (fun j ls st w => if j = 25 then (lgI ls 2 fun v2 => lgI ls 3 fun v3 => st0 st (callW (fX10_cutSign_25 N a1 v2 v3) w)) else none)) (fun x w pc ls hx hd => hr x w pc ls (Option.some.inj hx) hd) (fun _ _ _ _ hx => by cases hx) (fun _ _ _ hx => by cases hx) hC (fun ls => lsb [some (.inr (.inr (14, 0))), some (.inl a1), none, none, none, none] 0 ls) (keepsP_of rfl) ?_ 85 0 [some (.inr (.inr (14, 0))), some (.inl a1), none, none, none, none] [] w ?_ h
    · intro j ls st w hfx h
      obtain ⟨e0, e1, -⟩ : _ = _ ∧ _ = _ ∧ True := hfx
      try dsimp only at h
      by_cases hj : j = 25
      · subst hj
        rw [if_pos rfl] at h
        obtain ⟨v2, e2, h_1⟩ := lgI_some h
        obtain ⟨v3, e3, h_2⟩ := lgI_some h_1
        obtain ⟨rfl, h_3⟩ := st0_some h_2
        clear h h_1 h_2
        have h := h_3
        try rw [callW_eq] at h
        exact WW.le (a := [some (.inr (.inr (14, 0))), some (.inl a1), some (.inl v2), some (.inl v3), none, none]) (by rw [hn]; rfl) (show _ = _ ∧ _ = _ ∧ _ = _ ∧ _ = _ ∧ True from ⟨e0, e1, e2, e3, trivial⟩) (sX10_cutSign_25 G hn hC hr a1 v2 v3 w h)
      rw [if_neg hj] at h
      cases h
    · exact (show _ = _ ∧ _ = _ ∧ True from ⟨rfl, rfl, trivial⟩)
-- MoorGuides$Tokens.cut(I)I
def tX10_cut : List EN := [
  (0, .aload_n 0, 0, 0, 0, 0, 0, []), (1, .iload_n 1, 0, 0, 0, 0, 0, []), (2, .invokevirtual 76, 0, 0, 2, 0, 0, []), (5, .istore_n 2, 0, 0, 0, 0, 0, []),
  (6, .iload_n 2, 0, 0, 0, 0, 0, []), (7, .bipush 32, 0, 0, 0, 32, 0, []), (9, .if_icmp .eq 9, 0, 10, 0, 0, 0, []), (12, .iload_n 2, 0, 0, 0, 0, 0, []),
  (13, .bipush 10, 0, 0, 0, 10, 0, []), (15, .if_icmp .ne 7, 0, 14, 0, 0, 0, []), (18, .iload_n 1, 0, 0, 0, 0, 0, []), (19, .iconst 1, 0, 0, 0, 1, 0, []),
  (20, .iadd, 0, 0, 0, 0, 0, []), (21, .ireturn, 0, 0, 0, 0, 0, []), (22, .iload_n 2, 0, 0, 0, 0, 0, []), (23, .invokestatic 79, 0, 1, 1, 0, 0, []),
  (26, .ifCond .eq 9, 0, 21, 0, 0, 0, []), (29, .aload_n 0, 0, 0, 0, 0, 0, []), (30, .iload_n 1, 0, 0, 0, 0, 0, []), (31, .invokevirtual 83, 0, 2, 2, 0, 0, []),
  (34, .ireturn, 0, 0, 0, 0, 0, []), (35, .iload_n 2, 0, 0, 0, 0, 0, []), (36, .invokestatic 86, 0, 3, 1, 0, 0, []), (39, .ifCond .eq 11, 0, 28, 0, 0, 0, []),
  (42, .aload_n 0, 0, 0, 0, 0, 0, []), (43, .iload_n 1, 0, 0, 0, 0, 0, []), (44, .invokevirtual 89, 0, 4, 2, 0, 0, []), (47, .goto 8, 0, 31, 0, 0, 0, []),
  (50, .aload_n 0, 0, 0, 0, 0, 0, []), (51, .iload_n 1, 0, 0, 0, 0, 0, []), (52, .invokevirtual 92, 0, 5, 2, 0, 0, []), (55, .ireturn, 0, 0, 0, 0, 0, [])]
noncomputable def pX10_cut (N : Nat) (a1 : Int32) (w : Wd) : Option (Int32 × Wd) :=
  (callW (pX10_byteAt N a1) w).bind fun r1 =>
  if r1.1 = (32 : Int32) then some ((a1 + (1 : Int32)), r1.2) else
  if r1.1 = (10 : Int32) then some ((a1 + (1 : Int32)), r1.2) else
  (callW (pX10_isLetter N r1.1) r1.2).bind fun r2 =>
  if r2.1 = 0 then
    (callW (pX10_isDigit N r1.1) r2.2).bind fun r3 =>
    if r3.1 = 0 then
      (callW (pX10_cutSign N a1) r3.2).bind fun r4 =>
      some (r4.1, r4.2)
    else
    (callW (pX10_cutNumber N a1) r3.2).bind fun r5 =>
    some (r5.1, r5.2)
  else
  (callW (pX10_cutWord N a1) r2.2).bind fun r6 =>
  some (r6.1, r6.2)
noncomputable def mX10_cut (N : Nat) (as : List AV) (w : Wd) : Option (Int32 × Wd) := xS1 14 as fun t => xI1 t fun a1 t => xN1 t (callW (pX10_cut N a1) w)
set_option maxRecDepth 100000 in
set_option maxHeartbeats 4000000 in
theorem kX10_cut : TK cX10_cut RX10 3 tX10_cut := ⟨by decide +kernel, wok_of [] (by decide +kernel) (by decide +kernel)⟩
set_option maxRecDepth 100000 in
set_option maxHeartbeats 4000000 in
theorem crX10_cut {N : Nat} {X : XT} (G : GX X cX10_cut RX10) (hR : xR X = rmL 7) : CRs X tX10_cut (oF [(mX10_byteAt N), (mX10_isLetter N), (mX10_cutWord N), (mX10_isDigit N), (mX10_cutNumber N), (mX10_cutSign N)]) (oF []) (oF []) := by
  have hl : tX10_cut.filter isInv = [(2, .invokevirtual 76, 0, 0, 2, 0, 0, []), (23, .invokestatic 79, 0, 1, 1, 0, 0, []), (31, .invokevirtual 83, 0, 2, 2, 0, 0, []), (36, .invokestatic 86, 0, 3, 1, 0, 0, []), (44, .invokevirtual 89, 0, 4, 2, 0, 0, []), (52, .invokevirtual 92, 0, 5, 2, 0, 0, [])] := rfl
  intro e he
  rw [hl] at he
  simp only [List.mem_cons, List.not_mem_nil, or_false] at he
  rcases he with rfl | rfl | rfl | rfl | rfl | rfl
  · exact crI_V (idx := 76) G (by decide +kernel) (MX10_byteAt N) (cw_of (ps := [814, 816, 2, 153, 817]) (by decide +kernel) (by decide +kernel)) ⟨by decide +kernel, by decide +kernel, by decide +kernel⟩ (by unfold rmOk; rw [hR]; exact ⟨by decide, by decide⟩)
  · exact crI_S (idx := 79) G (by decide +kernel) (MX10_isLetter N) (cw_of (ps := [818, 819, 153, 820]) (by decide +kernel) (by decide +kernel)) ⟨by decide +kernel, by decide +kernel, by decide +kernel⟩ (by unfold rmOk; rw [hR]; exact ⟨by decide, by decide⟩)
  · exact crI_V (idx := 83) G (by decide +kernel) (MX10_cutWord N) (cw_of (ps := [821, 823, 3, 153, 824]) (by decide +kernel) (by decide +kernel)) ⟨by decide +kernel, by decide +kernel, by decide +kernel⟩ (by unfold rmOk; rw [hR]; exact ⟨by decide, by decide⟩)
  · exact crI_S (idx := 86) G (by decide +kernel) (MX10_isDigit N) (cw_of (ps := [833, 834, 153, 835]) (by decide +kernel) (by decide +kernel)) ⟨by decide +kernel, by decide +kernel, by decide +kernel⟩ (by unfold rmOk; rw [hR]; exact ⟨by decide, by decide⟩)
  · exact crI_V (idx := 89) G (by decide +kernel) (MX10_cutNumber N) (cw_of (ps := [836, 838, 6, 153, 839]) (by decide +kernel) (by decide +kernel)) ⟨by decide +kernel, by decide +kernel, by decide +kernel⟩ (by unfold rmOk; rw [hR]; exact ⟨by decide, by decide⟩)
  · exact crI_V (idx := 92) G (by decide +kernel) (MX10_cutSign N) (cw_of (ps := [841, 843, 7, 153, 844]) (by decide +kernel) (by decide +kernel)) ⟨by decide +kernel, by decide +kernel, by decide +kernel⟩ (by unfold rmOk; rw [hR]; exact ⟨by decide, by decide⟩)
set_option maxRecDepth 100000 in
set_option maxHeartbeats 4000000 in
theorem MX10_cut (N : Nat) : SndI yX10_cut cX10_cut 3 (some .int) 7 2 true (mX10_cut N) := by
  refine SndI.of tX10_cut (by decide +kernel) rfl rfl ?_ ?_
  · intro as w x h
    obtain ⟨t1, rfl, h_1⟩ := xS1_some h
    obtain ⟨a1, t2, rfl, h_2⟩ := xI1_some h_1
    obtain ⟨rfl, h_3⟩ := xN1_some h_2
    clear h h_1 h_2
    have h := h_3
    rw [callW_eq] at h
    exact ⟨fun _ => ⟨_, _, _, rfl, rfl, _, rfl, rfl⟩, rfl, Nat.le_of_ble_eq_true rfl⟩
  · intro X G hn hR as w r h hr
    have hC := crX10_cut (N := N) G hR
    obtain ⟨t1, rfl, h_1⟩ := xS1_some h
    obtain ⟨a1, t2, rfl, h_2⟩ := xI1_some h_1
    obtain ⟨rfl, h_3⟩ := xN1_some h_2
    clear h h_1 h_2
    have h := h_3
    rw [callW_eq] at h
    refine run_sound (r := r) (X := X) (cc := cX10_cut) (own := RX10) (tab := tX10_cut) G (by rw [hn]; exact kX10_cut) (oI := (oF [(mX10_byteAt N), (mX10_isLetter N), (mX10_cutWord N), (mX10_isDigit N), (mX10_cutNumber N), (mX10_cutSign N)])) (oL := (oF [])) (oV := (oF [])) (rI := (fun x w => some (x, w))) (rL := (fun _ _ => none)) (rV := (fun _ => none))
      (K := (fun j ls st w => none)) (fun x w pc ls hx hd => hr x w pc ls (Option.some.inj hx) hd) (fun _ _ _ _ hx => by cases hx) (fun _ _ _ hx => by cases hx) hC (fun ls => lsb [some (.inr (.inr (14, 0))), some (.inl a1), none] 0 ls) (keepsP_of rfl) ?_ 34 0 [some (.inr (.inr (14, 0))), some (.inl a1), none] [] w ?_ h
    · intro j ls st w hfx h
      obtain ⟨e0, e1, -⟩ : _ = _ ∧ _ = _ ∧ True := hfx
      try dsimp only at h
      cases h
    · exact (show _ = _ ∧ _ = _ ∧ True from ⟨rfl, rfl, trivial⟩)
-- MoorGuides$Tokens.begin([BI)V
def tX10_begin : List EN := [
  (0, .aload_n 0, 0, 0, 0, 0, 0, []), (1, .aload_n 1, 0, 0, 0, 0, 0, []), (2, .putfield 25, 0, 10, 6, 0, 0, []), (5, .aload_n 0, 0, 0, 0, 0, 0, []),
  (6, .iload_n 2, 0, 0, 0, 0, 0, []), (7, .aload_n 1, 0, 0, 0, 0, 0, []), (8, .arraylength, 0, 0, 0, 0, 0, []), (9, .invokestatic 41, 0, 0, 2, 0, 0, []),
  (12, .sipush 900, 0, 0, 0, 900, 0, []), (15, .invokestatic 41, 0, 0, 2, 0, 0, []), (18, .putfield 47, 0, 10, 7, 0, 0, []), (21, .aload_n 0, 0, 0, 0, 0, 0, []),
  (22, .iconst 0, 0, 0, 0, 0, 0, []), (23, .putfield 50, 0, 10, 4, 0, 0, []), (26, .iconst 0, 0, 0, 0, 0, 0, []), (27, .istore_n 3, 0, 0, 0, 0, 0, []),
  (28, .iconst 0, 0, 0, 0, 0, 0, []), (29, .istore 4, 0, 0, 0, 0, 0, []), (31, .iload 4, 19, 0, 0, 0, 0, []), (33, .aload_n 0, 0, 0, 0, 0, 0, []),
  (34, .getfield 47, 0, 10, 7, 0, 0, []), (37, .if_icmp .ge 23, 0, 32, 0, 0, 0, []), (40, .iload_n 3, 0, 0, 0, 0, 0, []), (41, .aload_n 0, 0, 0, 0, 0, 0, []),
  (42, .getfield 47, 0, 10, 7, 0, 0, []), (45, .if_icmp .ge 15, 0, 32, 0, 0, 0, []), (48, .aload_n 0, 0, 0, 0, 0, 0, []), (49, .iload_n 3, 0, 0, 0, 0, 0, []),
  (50, .invokevirtual 53, 0, 1, 2, 0, 0, []), (53, .istore_n 3, 0, 0, 0, 0, 0, []), (54, .iinc 4 1, 0, 0, 0, 1, 0, []), (57, .goto (-26), 0, 18, 0, 0, 0, []),
  (60, .aload_n 0, 33, 0, 0, 0, 0, []), (61, .iconst (-1), 0, 0, 0, (-1), 0, []), (62, .aload_n 0, 0, 0, 0, 0, 0, []), (63, .getfield 47, 0, 10, 7, 0, 0, []),
  (66, .iconst 0, 0, 0, 0, 0, 0, []), (67, .invokevirtual 57, 0, 0, 4, 0, 0, [(0, 0), (0, 0)]), (70, .aload_n 0, 0, 0, 0, 0, 0, []), (71, .iconst 0, 0, 0, 0, 0, 0, []),
  (72, .putfield 61, 0, 10, 5, 0, 0, []), (75, .aload_n 0, 0, 0, 0, 0, 0, []), (76, .invokevirtual 64, 0, 1, 1, 0, 0, [(0, 0), (0, 0)]), (79, .return_, 0, 0, 0, 0, 0, [])]
noncomputable def fX10_begin_32 (N : Nat) (w : Wd) : Option (Wd) :=
  (callW (pX10_add N (-1 : Int32) (gI w 14 0 7) (0 : Int32)) w).bind fun w1 =>
  (callW (pX10_advance N) (setI w1 14 0 5 (0 : Int32))).bind fun w2 =>
  some w2
noncomputable def fX10_begin_18 (N : Nat) : Nat → (Wd → Option (Wd)) → Int32 → Int32 → Wd → Option (Wd)
  | 0, _, _, _, _ => none
  | n + 1, k32, v3, v4, w =>
    if v4 < (gI w 14 0 7) then
      if v3 < (gI w 14 0 7) then
        (callW (pX10_cut N v3) w).bind fun r1 =>
        callW (fX10_begin_18 N n k32 r1.1 (v4 + (1 : Int32))) r1.2
      else
      k32 w
    else
    k32 w
noncomputable def pX10_begin (N : Nat) (i1 : Nat) (a2 : Int32) (w : Wd) : Option (Wd) :=
  (callW (pJ9_min_7cf53 N a2 (Int32.ofNat (ln 3 i1))) (setR w 14 0 6 i1)).bind fun r1 =>
  (callW (pJ9_min_7cf53 N r1.1 (900 : Int32)) r1.2).bind fun r2 =>
  callW (fX10_begin_18 N N (fX10_begin_32 N) (0 : Int32) (0 : Int32)) (setI (setI r2.2 14 0 7 r2.1) 14 0 4 (0 : Int32))
noncomputable def mX10_begin (N : Nat) (as : List AV) (w : Wd) : Option (Wd) := xS1 14 as fun t => xR1 3 t fun i1 t => xI1 t fun a2 t => xN1 t (callW (pX10_begin N i1 a2) w)
set_option maxRecDepth 100000 in
set_option maxHeartbeats 4000000 in
theorem kX10_begin : TK cX10_begin RX10 5 tX10_begin := ⟨by decide +kernel, wok_of [435, 436, 433, 436, 436, 436, 434] (by decide +kernel) (by decide +kernel)⟩
set_option maxRecDepth 100000 in
set_option maxHeartbeats 4000000 in
theorem sX10_begin_32 {N : Nat} {X : XT} (G : GX X cX10_begin RX10) (hn : xnL X = 5) (hC : CRs X tX10_begin (oF [(mJ9_min_7cf53 N), (mX10_cut N)]) (oF []) (oF [(mX10_add N), (mX10_advance N)])) {r : Wd} (hr : RTV X cX10_begin r) (i1 : Nat) (a2 : Int32) : ∀ (w : Wd), fX10_begin_32 N w = some r → WW X (pcAt tX10_begin 32) [some (.inr (.inr (14, 0))), some (.inr (.inr (3, i1))), some (.inl a2), none, none] [] w := by
  intro w h
  refine run_sound (r := r) (X := X) (cc := cX10_begin) (own := RX10) (tab := tX10_begin) G (by rw [hn]; exact kX10_begin) (oI := (oF [(mJ9_min_7cf53 N), (mX10_cut N)])) (oL := (oF [])) (oV := (oF [(mX10_add N), (mX10_advance N)])) (rI := (fun _ _ => none)) (rL := (fun _ _ => none)) (rV := (fun w => some w))
    (K := (fun j ls st w => none)) (fun _ _ _ _ hx => by cases hx) (fun _ _ _ _ hx => by cases hx) (fun w pc ls hx hd => hr w pc ls (Option.some.inj hx) hd) hC (fun ls => lsb [some (.inr (.inr (14, 0))), some (.inr (.inr (3, i1))), some (.inl a2), none, none] 0 ls) (keepsP_of rfl) ?_ 46 32 [some (.inr (.inr (14, 0))), some (.inr (.inr (3, i1))), some (.inl a2), none, none] [] w ?_ h
  · intro j ls st w hfx h
    obtain ⟨e0, e1, e2, -⟩ : _ = _ ∧ _ = _ ∧ _ = _ ∧ True := hfx
    try dsimp only at h
    cases h
  · exact (show _ = _ ∧ _ = _ ∧ _ = _ ∧ True from ⟨rfl, rfl, rfl, trivial⟩)
set_option maxRecDepth 100000 in
set_option maxHeartbeats 4000000 in
theorem sX10_begin_18 {N : Nat} {X : XT} (G : GX X cX10_begin RX10) (hn : xnL X = 5) (hC : CRs X tX10_begin (oF [(mJ9_min_7cf53 N), (mX10_cut N)]) (oF []) (oF [(mX10_add N), (mX10_advance N)])) {r : Wd} (hr : RTV X cX10_begin r) (i1 : Nat) (a2 : Int32) : ∀ (n : Nat) (k32 : Wd → Option (Wd)) (v3 : Int32) (v4 : Int32) (w : Wd), fX10_begin_18 N n k32 v3 v4 w = some r → (∀ (w : Wd), k32 w = some r → WW X (pcAt tX10_begin 32) [some (.inr (.inr (14, 0))), some (.inr (.inr (3, i1))), some (.inl a2), none, none] [] w) → WW X (pcAt tX10_begin 18) [some (.inr (.inr (14, 0))), some (.inr (.inr (3, i1))), some (.inl a2), some (.inl v3), some (.inl v4)] [] w := by
  intro n
  induction n with
  | zero => intro k32 v3 v4 w h h32; cases h
  | succ n ih =>
    intro k32 v3 v4 w h h32
    refine run_sound (r := r) (X := X) (cc := cX10_begin) (own := RX10) (tab := tX10_begin) G (by rw [hn]; exact kX10_begin) (oI := (oF [(mJ9_min_7cf53 N), (mX10_cut N)])) (oL := (oF [])) (oV := (oF [(mX10_add N), (mX10_advance N)])) (rI := (fun _ _ => none)) (rL := (fun _ _ => none)) (rV := (fun w => some w))
      (K := (fun j ls st w => if j = 18 then (lgI ls 3 fun v3 => lgI ls 4 fun v4 => st0 st (callW (fX10_begin_18 N n k32 v3 v4) w)) else if j = 32 then (st0 st (k32 w)) else none)) (fun _ _ _ _ hx => by cases hx) (fun _ _ _ _ hx => by cases hx) (fun w pc ls hx hd => hr w pc ls (Option.some.inj hx) hd) hC (fun ls => lsb [some (.inr (.inr (14, 0))), some (.inr (.inr (3, i1))), some (.inl a2), none, none] 0 ls) (keepsP_of rfl) ?_ 46 18 [some (.inr (.inr (14, 0))), some (.inr (.inr (3, i1))), some (.inl a2), some (.inl v3), some (.inl v4)] [] w ?_ h
    · intro j ls st w hfx h
      obtain ⟨e0, e1, e2, -⟩ : _ = _ ∧ _ = _ ∧ _ = _ ∧ True := hfx
      try dsimp only at h
      by_cases hj : j = 18
      · subst hj
        rw [if_pos rfl] at h
        obtain ⟨v3, e3, h_1⟩ := lgI_some h
        obtain ⟨v4, e4, h_2⟩ := lgI_some h_1
        obtain ⟨rfl, h_3⟩ := st0_some h_2
        clear h h_1 h_2
        have h := h_3
        try rw [callW_eq] at h
        exact WW.le (a := [some (.inr (.inr (14, 0))), some (.inr (.inr (3, i1))), some (.inl a2), some (.inl v3), some (.inl v4)]) (by rw [hn]; rfl) (show _ = _ ∧ _ = _ ∧ _ = _ ∧ _ = _ ∧ _ = _ ∧ True from ⟨e0, e1, e2, e3, e4, trivial⟩) (ih k32 v3 v4 w h h32)
      rw [if_neg hj] at h
      by_cases hj : j = 32
      · subst hj
        rw [if_pos rfl] at h
        obtain ⟨rfl, h_1⟩ := st0_some h
        clear h
        have h := h_1
        try rw [callW_eq] at h
        exact WW.le (a := [some (.inr (.inr (14, 0))), some (.inr (.inr (3, i1))), some (.inl a2), none, none]) (by rw [hn]; rfl) (show _ = _ ∧ _ = _ ∧ _ = _ ∧ True from ⟨e0, e1, e2, trivial⟩) (h32 w h)
      rw [if_neg hj] at h
      cases h
    · exact (show _ = _ ∧ _ = _ ∧ _ = _ ∧ True from ⟨rfl, rfl, rfl, trivial⟩)
set_option maxRecDepth 100000 in
set_option maxHeartbeats 4000000 in
theorem crX10_begin {N : Nat} {X : XT} (G : GX X cX10_begin RX10) (hR : xR X = rmL 8) : CRs X tX10_begin (oF [(mJ9_min_7cf53 N), (mX10_cut N)]) (oF []) (oF [(mX10_add N), (mX10_advance N)]) := by
  have hl : tX10_begin.filter isInv = [(9, .invokestatic 41, 0, 0, 2, 0, 0, []), (15, .invokestatic 41, 0, 0, 2, 0, 0, []), (50, .invokevirtual 53, 0, 1, 2, 0, 0, []), (67, .invokevirtual 57, 0, 0, 4, 0, 0, [(0, 0), (0, 0)]), (76, .invokevirtual 64, 0, 1, 1, 0, 0, [(0, 0), (0, 0)])] := rfl
  intro e he
  rw [hl] at he
  simp only [List.mem_cons, List.not_mem_nil, or_false] at he
  rcases he with rfl | rfl | rfl | rfl | rfl
  · exact crI_S (idx := 41) G (by decide +kernel) (MJ9_min_7cf53 N) (cw_of (ps := [807, 808, 165, 809]) (by decide +kernel) (by decide +kernel)) ⟨by decide +kernel, by decide +kernel, by decide +kernel⟩ (by unfold rmOk; rw [hR]; exact ⟨by decide, by decide⟩)
  · exact crI_S (idx := 41) G (by decide +kernel) (MJ9_min_7cf53 N) (cw_of (ps := [807, 808, 165, 809]) (by decide +kernel) (by decide +kernel)) ⟨by decide +kernel, by decide +kernel, by decide +kernel⟩ (by unfold rmOk; rw [hR]; exact ⟨by decide, by decide⟩)
  · exact crI_V (idx := 53) G (by decide +kernel) (MX10_cut N) (cw_of (ps := [810, 812, 1, 153, 813]) (by decide +kernel) (by decide +kernel)) ⟨by decide +kernel, by decide +kernel, by decide +kernel⟩ (by unfold rmOk; rw [hR]; exact ⟨by decide, by decide⟩)
  · exact crV_V (idx := 57) G (by decide +kernel) (MX10_add N) (cw_of (ps := [829, 831, 5, 153, 832]) (by decide +kernel) (by decide +kernel)) ⟨by decide +kernel, by decide +kernel, by decide +kernel⟩ (by unfold rmOk; rw [hR]; exact ⟨by decide, by decide⟩)
  · exact crV_V (idx := 64) G (by decide +kernel) (MX10_advance N) (cw_of (ps := [846, 847, 848, 153, 849]) (by decide +kernel) (by decide +kernel)) ⟨by decide +kernel, by decide +kernel, by decide +kernel⟩ (by unfold rmOk; rw [hR]; exact ⟨by decide, by decide⟩)
set_option maxRecDepth 100000 in
set_option maxHeartbeats 4000000 in
theorem MX10_begin (N : Nat) : SndV yX10_begin cX10_begin 5 none 8 3 true (mX10_begin N) := by
  refine SndV.of tX10_begin (by decide +kernel) rfl rfl ?_ ?_
  · intro as w x h
    obtain ⟨t1, rfl, h_1⟩ := xS1_some h
    obtain ⟨i1, t2, rfl, h_2⟩ := xR1_some h_1
    obtain ⟨a2, t3, rfl, h_3⟩ := xI1_some h_2
    obtain ⟨rfl, h_4⟩ := xN1_some h_3
    clear h h_1 h_2 h_3
    have h := h_4
    rw [callW_eq] at h
    exact ⟨fun _ => ⟨_, _, _, rfl, rfl, _, rfl, rfl⟩, rfl, Nat.le_of_ble_eq_true rfl⟩
  · intro X G hn hR as w r h hr
    have hC := crX10_begin (N := N) G hR
    obtain ⟨t1, rfl, h_1⟩ := xS1_some h
    obtain ⟨i1, t2, rfl, h_2⟩ := xR1_some h_1
    obtain ⟨a2, t3, rfl, h_3⟩ := xI1_some h_2
    obtain ⟨rfl, h_4⟩ := xN1_some h_3
    clear h h_1 h_2 h_3
    have h := h_4
    rw [callW_eq] at h
    refine run_sound (r := r) (X := X) (cc := cX10_begin) (own := RX10) (tab := tX10_begin) G (by rw [hn]; exact kX10_begin) (oI := (oF [(mJ9_min_7cf53 N), (mX10_cut N)])) (oL := (oF [])) (oV := (oF [(mX10_add N), (mX10_advance N)])) (rI := (fun _ _ => none)) (rL := (fun _ _ => none)) (rV := (fun w => some w))
      (K := (fun j ls st w => if j = 18 then (lgI ls 3 fun v3 => lgI ls 4 fun v4 => st0 st (callW (fX10_begin_18 N N (fX10_begin_32 N) v3 v4) w)) else none)) (fun _ _ _ _ hx => by cases hx) (fun _ _ _ _ hx => by cases hx) (fun w pc ls hx hd => hr w pc ls (Option.some.inj hx) hd) hC (fun ls => lsb [some (.inr (.inr (14, 0))), some (.inr (.inr (3, i1))), some (.inl a2), none, none] 0 ls) (keepsP_of rfl) ?_ 46 0 [some (.inr (.inr (14, 0))), some (.inr (.inr (3, i1))), some (.inl a2), none, none] [] w ?_ h
    · intro j ls st w hfx h
      obtain ⟨e0, e1, e2, -⟩ : _ = _ ∧ _ = _ ∧ _ = _ ∧ True := hfx
      try dsimp only at h
      by_cases hj : j = 18
      · subst hj
        rw [if_pos rfl] at h
        obtain ⟨v3, e3, h_1⟩ := lgI_some h
        obtain ⟨v4, e4, h_2⟩ := lgI_some h_1
        obtain ⟨rfl, h_3⟩ := st0_some h_2
        clear h h_1 h_2
        have h := h_3
        try rw [callW_eq] at h
        exact WW.le (a := [some (.inr (.inr (14, 0))), some (.inr (.inr (3, i1))), some (.inl a2), some (.inl v3), some (.inl v4)]) (by rw [hn]; rfl) (show _ = _ ∧ _ = _ ∧ _ = _ ∧ _ = _ ∧ _ = _ ∧ True from ⟨e0, e1, e2, e3, e4, trivial⟩) (sX10_begin_18 G hn hC hr i1 a2 N (fX10_begin_32 N) v3 v4 w h (fun w h => (sX10_begin_32 G hn hC hr i1 a2 w h)))
      rw [if_neg hj] at h
      cases h
    · exact (show _ = _ ∧ _ = _ ∧ _ = _ ∧ True from ⟨rfl, rfl, rfl, trivial⟩)
-- MoorGuides$Reader.readText([BILMoorGuides$Moor;)Z
def tX7_readText : List EN := [
  (0, .aload_n 0, 0, 0, 0, 0, 0, []), (1, .aload_n 3, 0, 0, 0, 0, 0, []), (2, .putfield 26, 0, 7, 1, 0, 0, []), (5, .aload_n 0, 0, 0, 0, 0, 0, []),
  (6, .iconst 0, 0, 0, 0, 0, 0, []), (7, .putfield 30, 0, 7, 7, 0, 0, []), (10, .aload_n 0, 0, 0, 0, 0, 0, []), (11, .iconst 0, 0, 0, 0, 0, 0, []),
  (12, .putfield 33, 0, 7, 8, 0, 0, []), (15, .aload_n 0, 0, 0, 0, 0, 0, []), (16, .iconst (-1), 0, 0, 0, (-1), 0, []), (17, .putfield 22, 0, 7, 9, 0, 0, []),
  (20, .aload_n 0, 0, 0, 0, 0, 0, []), (21, .iconst 0, 0, 0, 0, 0, 0, []), (22, .putfield 36, 0, 7, 2, 0, 0, [(0, 0)]), (25, .aload_n 0, 0, 0, 0, 0, 0, []),
  (26, .iconst 0, 0, 0, 0, 0, 0, []), (27, .putfield 40, 0, 7, 3, 0, 0, [(0, 0)]), (30, .aload_n 0, 0, 0, 0, 0, 0, []), (31, .getfield 12, 0, 7, 0, 0, 0, []),
  (34, .aload_n 1, 0, 0, 0, 0, 0, []), (35, .iload_n 2, 0, 0, 0, 0, 0, []), (36, .invokevirtual 43, 0, 0, 3, 0, 0, [(0, 0), (0, 0)]), (39, .iconst 0, 0, 0, 0, 0, 0, []),
  (40, .istore 4, 0, 0, 0, 0, 0, []), (42, .iload 4, 26, 0, 0, 0, 0, []), (44, .iload_n 2, 0, 0, 0, 0, 0, []), (45, .if_icmp .gt 48, 0, 50, 0, 0, 0, []),
  (48, .aload_n 0, 0, 0, 0, 0, 0, []), (49, .getfield 12, 0, 7, 0, 0, 0, []), (52, .getfield 47, 0, 10, 8, 0, 0, []), (55, .iconst (-1), 0, 0, 0, (-1), 0, []),
  (56, .if_icmp .eq 37, 0, 50, 0, 0, 0, []), (59, .aload_n 0, 0, 0, 0, 0, 0, []), (60, .invokevirtual 50, 0, 0, 1, 0, 0, []), (63, .ifCond .eq 12, 0, 40, 0, 0, 0, []),
  (66, .aload_n 0, 0, 0, 0, 0, 0, []), (67, .bipush 32, 0, 0, 0, 32, 0, []), (69, .invokevirtual 54, 0, 1, 2, 0, 0, []), (72, .ifCond .ne 5, 0, 42, 0, 0, 0, []),
  (75, .iconst 0, 0, 0, 0, 0, 0, []), (76, .ireturn, 0, 0, 0, 0, 0, []), (77, .aload_n 0, 0, 0, 0, 0, 0, []), (78, .dup, 0, 0, 0, 0, 0, []),
  (79, .getfield 30, 0, 7, 7, 0, 0, []), (82, .iconst 1, 0, 0, 0, 1, 0, []), (83, .iadd, 0, 0, 0, 0, 0, []), (84, .putfield 30, 0, 7, 7, 0, 0, []),
  (87, .iinc 4 1, 0, 0, 0, 1, 0, []), (90, .goto (-48), 0, 25, 0, 0, 0, []), (93, .iconst 1, 0, 0, 0, 1, 0, []), (94, .ireturn, 0, 0, 0, 0, 0, [])]
noncomputable def fX7_readText_25 (N : Nat) (a2 : Int32) : Nat → Int32 → Wd → Option (Int32 × Wd)
  | 0, _, _ => none
  | n + 1, v4, w =>
    if a2 < v4 then some ((1 : Int32), w) else
    if (gI w 14 0 8) = (-1 : Int32) then some ((1 : Int32), w) else
    (callW (pX7_readLine N) w).bind fun r1 =>
    if r1.1 = 0 then some ((0 : Int32), r1.2) else
    (callW (pX7_pass N (32 : Int32)) r1.2).bind fun r2 =>
    if r2.1 = 0 then some ((0 : Int32), r2.2) else
    callW (fX7_readText_25 N a2 n (v4 + (1 : Int32))) (setI r2.2 11 0 7 ((gI r2.2 11 0 7) + (1 : Int32)))
noncomputable def pX7_readText (N : Nat) (i1 : Nat) (a2 : Int32) (i3 : Nat) (w : Wd) : Option (Int32 × Wd) :=
  (callW (pX10_begin N i1 a2) (setI (setI (setI (setI (setI (setR w 11 0 1 i3) 11 0 7 (0 : Int32)) 11 0 8 (0 : Int32)) 11 0 9 (-1 : Int32)) 11 0 2 (0 : Int32)) 11 0 3 (0 : Int32))).bind fun w1 =>
  callW (fX7_readText_25 N a2 N (0 : Int32)) w1
noncomputable def mX7_readText (N : Nat) (as : List AV) (w : Wd) : Option (Int32 × Wd) := xS1 11 as fun t => xR1 3 t fun i1 t => xI1 t fun a2 t => xR1 8 t fun i3 t => xN1 t (callW (pX7_readText N i1 a2 i3) w)
set_option maxRecDepth 100000 in
set_option maxHeartbeats 4000000 in
theorem kX7_readText : TK cX7_readText RX7 5 tX7_readText := ⟨by decide +kernel, wok_of [467, 473, 475, 477, 468, 469, 466, 466, 437, 473, 473] (by decide +kernel) (by decide +kernel)⟩
set_option maxRecDepth 100000 in
set_option maxHeartbeats 4000000 in
theorem sX7_readText_25 {N : Nat} {X : XT} (G : GX X cX7_readText RX7) (hn : xnL X = 5) (hC : CRs X tX7_readText (oF [(mX7_readLine N), (mX7_pass N)]) (oF []) (oF [(mX10_begin N)])) {r : Int32 × Wd} (hr : RTZ X cX7_readText r) (i1 : Nat) (a2 : Int32) (i3 : Nat) : ∀ (n : Nat) (v4 : Int32) (w : Wd), fX7_readText_25 N a2 n v4 w = some r → WW X (pcAt tX7_readText 25) [some (.inr (.inr (11, 0))), some (.inr (.inr (3, i1))), some (.inl a2), some (.inr (.inr (8, i3))), some (.inl v4)] [] w := by
  intro n
  induction n with
  | zero => intro v4 w h; cases h
  | succ n ih =>
    intro v4 w h
    refine run_sound (r := r) (X := X) (cc := cX7_readText) (own := RX7) (tab := tX7_readText) G (by rw [hn]; exact kX7_readText) (oI := (oF [(mX7_readLine N), (mX7_pass N)])) (oL := (oF [])) (oV := (oF [(mX10_begin N)])) (rI := retZ) (rL := (fun _ _ => none)) (rV := (fun _ => none))
      (K := (fun j ls st w => if j = 25 then (lgI ls 4 fun v4 => st0 st (callW (fX7_readText_25 N a2 n v4) w)) else none)) hr (fun _ _ _ _ hx => by cases hx) (fun _ _ _ hx => by cases hx) hC (fun ls => lsb [some (.inr (.inr (11, 0))), some (.inr (.inr (3, i1))), some (.inl a2), some (.inr (.inr (8, i3))), none] 0 ls) (keepsP_of rfl) ?_ 54 25 [some (.inr (.inr (11, 0))), some (.inr (.inr (3, i1))), some (.inl a2), some (.inr (.inr (8, i3))), some (.inl v4)] [] w ?_ h
    · intro j ls st w hfx h
      obtain ⟨e0, e1, e2, e3, -⟩ : _ = _ ∧ _ = _ ∧ _ = _ ∧ _ = _ ∧ True := hfx
      try dsimp only at h
      by_cases hj : j = 25
      · subst hj
        rw [if_pos rfl] at h
        obtain ⟨v4, e4, h_1⟩ := lgI_some h
        obtain ⟨rfl, h_2⟩ := st0_some h_1
        clear h h_1
        have h := h_2
        try rw [callW_eq] at h
        exact WW.le (a := [some (.inr (.inr (11, 0))), some (.inr (.inr (3, i1))), some (.inl a2), some (.inr (.inr (8, i3))), some (.inl v4)]) (by rw [hn]; rfl) (show _ = _ ∧ _ = _ ∧ _ = _ ∧ _ = _ ∧ _ = _ ∧ True from ⟨e0, e1, e2, e3, e4, trivial⟩) (ih v4 w h)
      rw [if_neg hj] at h
      cases h
    · exact (show _ = _ ∧ _ = _ ∧ _ = _ ∧ _ = _ ∧ True from ⟨rfl, rfl, rfl, rfl, trivial⟩)
set_option maxRecDepth 100000 in
set_option maxHeartbeats 4000000 in
theorem crX7_readText {N : Nat} {X : XT} (G : GX X cX7_readText RX7) (hR : xR X = rmL 9) : CRs X tX7_readText (oF [(mX7_readLine N), (mX7_pass N)]) (oF []) (oF [(mX10_begin N)]) := by
  have hl : tX7_readText.filter isInv = [(36, .invokevirtual 43, 0, 0, 3, 0, 0, [(0, 0), (0, 0)]), (60, .invokevirtual 50, 0, 0, 1, 0, 0, []), (69, .invokevirtual 54, 0, 1, 2, 0, 0, [])] := rfl
  intro e he
  rw [hl] at he
  simp only [List.mem_cons, List.not_mem_nil, or_false] at he
  rcases he with rfl | rfl | rfl
  · exact crV_V (idx := 43) G (by decide +kernel) (MX10_begin N) (cw_of (ps := [803, 804, 805, 153, 806]) (by decide +kernel) (by decide +kernel)) ⟨by decide +kernel, by decide +kernel, by decide +kernel⟩ (by unfold rmOk; rw [hR]; exact ⟨by decide, by decide⟩)
  · exact crI_V (idx := 50) G (by decide +kernel) (MX7_readLine N) (cw_of (ps := [850, 852, 8, 152, 853]) (by decide +kernel) (by decide +kernel)) ⟨by decide +kernel, by decide +kernel, by decide +kernel⟩ (by unfold rmOk; rw [hR]; exact ⟨by decide, by decide⟩)
  · exact crI_V (idx := 54) G (by decide +kernel) (MX7_pass N) (cw_of (ps := [931, 933, 24, 152, 934]) (by decide +kernel) (by decide +kernel)) ⟨by decide +kernel, by decide +kernel, by decide +kernel⟩ (by unfold rmOk; rw [hR]; exact ⟨by decide, by decide⟩)
set_option maxRecDepth 100000 in
set_option maxHeartbeats 4000000 in
theorem MX7_readText (N : Nat) : SndI yX7_readText cX7_readText 5 (some .boolean) 9 4 true (mX7_readText N) := by
  refine SndI.ofZ tX7_readText (by decide +kernel) rfl rfl ?_ ?_
  · intro as w x h
    obtain ⟨t1, rfl, h_1⟩ := xS1_some h
    obtain ⟨i1, t2, rfl, h_2⟩ := xR1_some h_1
    obtain ⟨a2, t3, rfl, h_3⟩ := xI1_some h_2
    obtain ⟨i3, t4, rfl, h_4⟩ := xR1_some h_3
    obtain ⟨rfl, h_5⟩ := xN1_some h_4
    clear h h_1 h_2 h_3 h_4
    have h := h_5
    rw [callW_eq] at h
    exact ⟨fun _ => ⟨_, _, _, rfl, rfl, _, rfl, rfl⟩, rfl, Nat.le_of_ble_eq_true rfl⟩
  · intro X G hn hR as w r h hr
    have hC := crX7_readText (N := N) G hR
    obtain ⟨t1, rfl, h_1⟩ := xS1_some h
    obtain ⟨i1, t2, rfl, h_2⟩ := xR1_some h_1
    obtain ⟨a2, t3, rfl, h_3⟩ := xI1_some h_2
    obtain ⟨i3, t4, rfl, h_4⟩ := xR1_some h_3
    obtain ⟨rfl, h_5⟩ := xN1_some h_4
    clear h h_1 h_2 h_3 h_4
    have h := h_5
    rw [callW_eq] at h
    refine run_sound (r := r) (X := X) (cc := cX7_readText) (own := RX7) (tab := tX7_readText) G (by rw [hn]; exact kX7_readText) (oI := (oF [(mX7_readLine N), (mX7_pass N)])) (oL := (oF [])) (oV := (oF [(mX10_begin N)])) (rI := retZ) (rL := (fun _ _ => none)) (rV := (fun _ => none))
      (K := (fun j ls st w => if j = 25 then (lgI ls 4 fun v4 => st0 st (callW (fX7_readText_25 N a2 N v4) w)) else none)) hr (fun _ _ _ _ hx => by cases hx) (fun _ _ _ hx => by cases hx) hC (fun ls => lsb [some (.inr (.inr (11, 0))), some (.inr (.inr (3, i1))), some (.inl a2), some (.inr (.inr (8, i3))), none] 0 ls) (keepsP_of rfl) ?_ 54 0 [some (.inr (.inr (11, 0))), some (.inr (.inr (3, i1))), some (.inl a2), some (.inr (.inr (8, i3))), none] [] w ?_ h
    · intro j ls st w hfx h
      obtain ⟨e0, e1, e2, e3, -⟩ : _ = _ ∧ _ = _ ∧ _ = _ ∧ _ = _ ∧ True := hfx
      try dsimp only at h
      by_cases hj : j = 25
      · subst hj
        rw [if_pos rfl] at h
        obtain ⟨v4, e4, h_1⟩ := lgI_some h
        obtain ⟨rfl, h_2⟩ := st0_some h_1
        clear h h_1
        have h := h_2
        try rw [callW_eq] at h
        exact WW.le (a := [some (.inr (.inr (11, 0))), some (.inr (.inr (3, i1))), some (.inl a2), some (.inr (.inr (8, i3))), some (.inl v4)]) (by rw [hn]; rfl) (show _ = _ ∧ _ = _ ∧ _ = _ ∧ _ = _ ∧ _ = _ ∧ True from ⟨e0, e1, e2, e3, e4, trivial⟩) (sX7_readText_25 G hn hC hr i1 a2 i3 N v4 w h)
      rw [if_neg hj] at h
      cases h
    · exact (show _ = _ ∧ _ = _ ∧ _ = _ ∧ _ = _ ∧ True from ⟨rfl, rfl, rfl, rfl, trivial⟩)
-- MoorGuides$Sharing.sum()I
def tX8_sum : List EN := [
  (0, .aload_n 0, 0, 0, 0, 0, 0, []), (1, .getfield 13, 0, 8, 1, 0, 0, []), (4, .iconst 0, 0, 0, 0, 0, 0, []), (5, .aaload, 0, 0, 0, 0, 0, []),
  (6, .bipush 63, 0, 0, 0, 63, 0, []), (8, .iaload, 0, 0, 0, 0, 0, []), (9, .ireturn, 0, 0, 0, 0, 0, [])]
noncomputable def pX8_sum (N : Nat) (w : Wd) : Option (Int32 × Wd) :=
  (ldR (0 : Int32) 9 0).bind fun q1 =>
  (ldI w 56 q1 (63 : Int32) 64).bind fun x2 =>
  some (x2, w)
noncomputable def mX8_sum (N : Nat) (as : List AV) (w : Wd) : Option (Int32 × Wd) := xS1 12 as fun t => xN1 t (callW (pX8_sum N) w)
set_option maxRecDepth 100000 in
set_option maxHeartbeats 4000000 in
theorem kX8_sum : TK cX8_sum RX8 1 tX8_sum := ⟨by decide +kernel, wok_of [613] (by decide +kernel) (by decide +kernel)⟩
set_option maxRecDepth 100000 in
set_option maxHeartbeats 4000000 in
theorem crX8_sum {N : Nat} {X : XT} (G : GX X cX8_sum RX8) (hR : xR X = rmL 1) : CRs X tX8_sum (oF []) (oF []) (oF []) := by
  have hl : tX8_sum.filter isInv = [] := rfl
  intro e he
  rw [hl] at he
  cases he
set_option maxRecDepth 100000 in
set_option maxHeartbeats 4000000 in
theorem MX8_sum (N : Nat) : SndI yX8_sum cX8_sum 1 (some .int) 1 1 true (mX8_sum N) := by
  refine SndI.of tX8_sum (by decide +kernel) rfl rfl ?_ ?_
  · intro as w x h
    obtain ⟨t1, rfl, h_1⟩ := xS1_some h
    obtain ⟨rfl, h_2⟩ := xN1_some h_1
    clear h h_1
    have h := h_2
    rw [callW_eq] at h
    exact ⟨fun _ => ⟨_, _, _, rfl, rfl, _, rfl, rfl⟩, rfl, Nat.le_of_ble_eq_true rfl⟩
  · intro X G hn hR as w r h hr
    have hC := crX8_sum (N := N) G hR
    obtain ⟨t1, rfl, h_1⟩ := xS1_some h
    obtain ⟨rfl, h_2⟩ := xN1_some h_1
    clear h h_1
    have h := h_2
    rw [callW_eq] at h
    refine run_sound (r := r) (X := X) (cc := cX8_sum) (own := RX8) (tab := tX8_sum) G (by rw [hn]; exact kX8_sum) (oI := (oF [])) (oL := (oF [])) (oV := (oF [])) (rI := (fun x w => some (x, w))) (rL := (fun _ _ => none)) (rV := (fun _ => none))
      (K := (fun j ls st w => none)) (fun x w pc ls hx hd => hr x w pc ls (Option.some.inj hx) hd) (fun _ _ _ _ hx => by cases hx) (fun _ _ _ hx => by cases hx) hC (fun ls => lsb [some (.inr (.inr (12, 0)))] 0 ls) (keepsP_of rfl) ?_ 9 0 [some (.inr (.inr (12, 0)))] [] w ?_ h
    · intro j ls st w hfx h
      obtain ⟨e0, -⟩ : _ = _ ∧ True := hfx
      try dsimp only at h
      cases h
    · exact (show _ = _ ∧ True from ⟨rfl, trivial⟩)
-- MoorGuides$Sharing.mostFrom(III)I
def tX8_mostFrom : List EN := [
  (0, .aload_n 0, 0, 0, 0, 0, 0, []), (1, .getfield 13, 0, 8, 1, 0, 0, []), (4, .iload_n 1, 0, 0, 0, 0, 0, []), (5, .iconst 1, 0, 0, 0, 1, 0, []),
  (6, .iadd, 0, 0, 0, 0, 0, []), (7, .aaload, 0, 0, 0, 0, 0, []), (8, .iload_n 2, 0, 0, 0, 0, 0, []), (9, .iaload, 0, 0, 0, 0, 0, []),
  (10, .istore 4, 0, 0, 0, 0, 0, []), (12, .aload_n 0, 0, 0, 0, 0, 0, []), (13, .getfield 16, 0, 8, 2, 0, 0, []), (16, .iload_n 1, 0, 0, 0, 0, 0, []),
  (17, .iaload, 0, 0, 0, 0, 0, []), (18, .iload_n 2, 0, 0, 0, 0, 0, []), (19, .iand, 0, 0, 0, 0, 0, []), (20, .istore 5, 0, 0, 0, 0, 0, []),
  (22, .iconst 0, 0, 0, 0, 0, 0, []), (23, .istore 6, 0, 0, 0, 0, 0, []), (25, .iload 6, 19, 0, 0, 0, 0, []), (27, .bipush 6, 0, 0, 0, 6, 0, []),
  (29, .if_icmp .ge 50, 0, 50, 0, 0, 0, []), (32, .iload 5, 0, 0, 0, 0, 0, []), (34, .ifCond .eq 45, 0, 50, 0, 0, 0, []), (37, .iload 5, 0, 0, 0, 0, 0, []),
  (39, .iload 6, 0, 0, 0, 0, 0, []), (41, .ishr, 0, 0, 0, 0, 0, []), (42, .iconst 1, 0, 0, 0, 1, 0, []), (43, .iand, 0, 0, 0, 0, 0, []),
  (44, .ifCond .eq 29, 0, 48, 0, 0, 0, []), (47, .iload 4, 0, 0, 0, 0, 0, []), (49, .iload_n 3, 0, 0, 0, 0, 0, []), (50, .aload_n 0, 0, 0, 0, 0, 0, []),
  (51, .getfield 13, 0, 8, 1, 0, 0, []), (54, .iload_n 1, 0, 0, 0, 0, 0, []), (55, .iconst 1, 0, 0, 0, 1, 0, []), (56, .iadd, 0, 0, 0, 0, 0, []),
  (57, .aaload, 0, 0, 0, 0, 0, []), (58, .iload_n 2, 0, 0, 0, 0, 0, []), (59, .iconst 1, 0, 0, 0, 1, 0, []), (60, .iload 6, 0, 0, 0, 0, 0, []),
  (62, .ishl, 0, 0, 0, 0, 0, []), (63, .iconst (-1), 0, 0, 0, (-1), 0, []), (64, .ixor, 0, 0, 0, 0, 0, []), (65, .iand, 0, 0, 0, 0, 0, []),
  (66, .iaload, 0, 0, 0, 0, 0, []), (67, .iadd, 0, 0, 0, 0, 0, []), (68, .invokestatic 77, 0, 0, 2, 0, 0, []), (71, .istore 4, 0, 0, 0, 0, 0, []),
  (73, .iinc 6 1, 0, 0, 0, 1, 0, []), (76, .goto (-51), 0, 18, 0, 0, 0, []), (79, .iload 4, 0, 0, 0, 0, 0, []), (81, .ireturn, 0, 0, 0, 0, 0, [])]
noncomputable def fX8_mostFrom_18 (N : Nat) (a1 : Int32) (a2 : Int32) (a3 : Int32) : Nat → Int32 → Int32 → Int32 → Wd → Option (Int32 × Wd)
  | 0, _, _, _, _ => none
  | n + 1, v4, v5, v6, w =>
    if v6 < (6 : Int32) then
      if v5 = 0 then some (v4, w) else
      if ((v5 >>> (v6 &&& (31 : Int32))) &&& (1 : Int32)) = 0 then callW (fX8_mostFrom_18 N a1 a2 a3 n v4 v5 (v6 + (1 : Int32))) w else
      (ldR (a1 + (1 : Int32)) 9 0).bind fun q1 =>
      (ldI w 56 q1 (a2 &&& (((1 : Int32) <<< (v6 &&& (31 : Int32))) ^^^ (-1 : Int32))) 64).bind fun x2 =>
      (callW (pJ9_max_7cf53 N v4 (a3 + x2)) w).bind fun r3 =>
      callW (fX8_mostFrom_18 N a1 a2 a3 n r3.1 v5 (v6 + (1 : Int32))) r3.2
    else
    some (v4, w)
noncomputable def pX8_mostFrom (N : Nat) (a1 : Int32) (a2 : Int32) (a3 : Int32) (w : Wd) : Option (Int32 × Wd) :=
  (ldR (a1 + (1 : Int32)) 9 0).bind fun q1 =>
  (ldI w 56 q1 a2 64).bind fun x2 =>
  (ldI w 57 0 a1 8).bind fun x3 =>
  callW (fX8_mostFrom_18 N a1 a2 a3 N x2 (x3 &&& a2) (0 : Int32)) w
noncomputable def mX8_mostFrom (N : Nat) (as : List AV) (w : Wd) : Option (Int32 × Wd) := xS1 12 as fun t => xI1 t fun a1 t => xI1 t fun a2 t => xI1 t fun a3 t => xN1 t (callW (pX8_mostFrom N a1 a2 a3) w)
set_option maxRecDepth 100000 in
set_option maxHeartbeats 4000000 in
theorem kX8_mostFrom : TK cX8_mostFrom RX8 7 tX8_mostFrom := ⟨by decide +kernel, wok_of [613, 614, 613] (by decide +kernel) (by decide +kernel)⟩
set_option maxRecDepth 100000 in
set_option maxHeartbeats 4000000 in
theorem sX8_mostFrom_18 {N : Nat} {X : XT} (G : GX X cX8_mostFrom RX8) (hn : xnL X = 7) (hC : CRs X tX8_mostFrom (oF [(mJ9_max_7cf53 N)]) (oF []) (oF [])) {r : Int32 × Wd} (hr : RTI X cX8_mostFrom r) (a1 : Int32) (a2 : Int32) (a3 : Int32) : ∀ (n : Nat) (v4 : Int32) (v5 : Int32) (v6 : Int32) (w : Wd), fX8_mostFrom_18 N a1 a2 a3 n v4 v5 v6 w = some r → WW X (pcAt tX8_mostFrom 18) [some (.inr (.inr (12, 0))), some (.inl a1), some (.inl a2), some (.inl a3), some (.inl v4), some (.inl v5), some (.inl v6)] [] w := by
  intro n
  induction n with
  | zero => intro v4 v5 v6 w h; cases h
  | succ n ih =>
    intro v4 v5 v6 w h
    refine run_sound (r := r) (X := X) (cc := cX8_mostFrom) (own := RX8) (tab := tX8_mostFrom) G (by rw [hn]; exact kX8_mostFrom) (oI := (oF [(mJ9_max_7cf53 N)])) (oL := (oF [])) (oV := (oF [])) (rI := (fun x w => some (x, w))) (rL := (fun _ _ => none)) (rV := (fun _ => none))
      (K := (fun j ls st w => if j = 18 then (lgI ls 4 fun v4 => lgI ls 5 fun v5 => lgI ls 6 fun v6 => st0 st (callW (fX8_mostFrom_18 N a1 a2 a3 n v4 v5 v6) w)) else none)) (fun x w pc ls hx hd => hr x w pc ls (Option.some.inj hx) hd) (fun _ _ _ _ hx => by cases hx) (fun _ _ _ hx => by cases hx) hC (fun ls => lsb [some (.inr (.inr (12, 0))), some (.inl a1), some (.inl a2), some (.inl a3), none, none, none] 0 ls) (keepsP_of rfl) ?_ 54 18 [some (.inr (.inr (12, 0))), some (.inl a1), some (.inl a2), some (.inl a3), some (.inl v4), some (.inl v5), some (.inl v6)] [] w ?_ h
    · intro j ls st w hfx h
      obtain ⟨e0, e1, e2, e3, -⟩ : _ = _ ∧ _ = _ ∧ _ = _ ∧ _ = _ ∧ True := hfx
      try dsimp only at h
      by_cases hj : j = 18
      · subst hj
        rw [if_pos rfl] at h
        obtain ⟨v4, e4, h_1⟩ := lgI_some h
        obtain ⟨v5, e5, h_2⟩ := lgI_some h_1
        obtain ⟨v6, e6, h_3⟩ := lgI_some h_2
        obtain ⟨rfl, h_4⟩ := st0_some h_3
        clear h h_1 h_2 h_3
        have h := h_4
        try rw [callW_eq] at h
        exact WW.le (a := [some (.inr (.inr (12, 0))), some (.inl a1), some (.inl a2), some (.inl a3), some (.inl v4), some (.inl v5), some (.inl v6)]) (by rw [hn]; rfl) (show _ = _ ∧ _ = _ ∧ _ = _ ∧ _ = _ ∧ _ = _ ∧ _ = _ ∧ _ = _ ∧ True from ⟨e0, e1, e2, e3, e4, e5, e6, trivial⟩) (ih v4 v5 v6 w h)
      rw [if_neg hj] at h
      cases h
    · exact (show _ = _ ∧ _ = _ ∧ _ = _ ∧ _ = _ ∧ True from ⟨rfl, rfl, rfl, rfl, trivial⟩)
set_option maxRecDepth 100000 in
set_option maxHeartbeats 4000000 in
theorem crX8_mostFrom {N : Nat} {X : XT} (G : GX X cX8_mostFrom RX8) (hR : xR X = rmL 2) : CRs X tX8_mostFrom (oF [(mJ9_max_7cf53 N)]) (oF []) (oF []) := by
  have hl : tX8_mostFrom.filter isInv = [(68, .invokestatic 77, 0, 0, 2, 0, 0, [])] := rfl
  intro e he
  rw [hl] at he
  simp only [List.mem_cons, List.not_mem_nil, or_false] at he
  rcases he with rfl
  · exact crI_S (idx := 77) G (by decide +kernel) (MJ9_max_7cf53 N) (cw_of (ps := [1246, 985, 165, 986]) (by decide +kernel) (by decide +kernel)) ⟨by decide +kernel, by decide +kernel, by decide +kernel⟩ (by unfold rmOk; rw [hR]; exact ⟨by decide, by decide⟩)
set_option maxRecDepth 100000 in
set_option maxHeartbeats 4000000 in
theorem MX8_mostFrom (N : Nat) : SndI yX8_mostFrom cX8_mostFrom 7 (some .int) 2 4 true (mX8_mostFrom N) := by
  refine SndI.of tX8_mostFrom (by decide +kernel) rfl rfl ?_ ?_
  · intro as w x h
    obtain ⟨t1, rfl, h_1⟩ := xS1_some h
    obtain ⟨a1, t2, rfl, h_2⟩ := xI1_some h_1
    obtain ⟨a2, t3, rfl, h_3⟩ := xI1_some h_2
    obtain ⟨a3, t4, rfl, h_4⟩ := xI1_some h_3
    obtain ⟨rfl, h_5⟩ := xN1_some h_4
    clear h h_1 h_2 h_3 h_4
    have h := h_5
    rw [callW_eq] at h
    exact ⟨fun _ => ⟨_, _, _, rfl, rfl, _, rfl, rfl⟩, rfl, Nat.le_of_ble_eq_true rfl⟩
  · intro X G hn hR as w r h hr
    have hC := crX8_mostFrom (N := N) G hR
    obtain ⟨t1, rfl, h_1⟩ := xS1_some h
    obtain ⟨a1, t2, rfl, h_2⟩ := xI1_some h_1
    obtain ⟨a2, t3, rfl, h_3⟩ := xI1_some h_2
    obtain ⟨a3, t4, rfl, h_4⟩ := xI1_some h_3
    obtain ⟨rfl, h_5⟩ := xN1_some h_4
    clear h h_1 h_2 h_3 h_4
    have h := h_5
    rw [callW_eq] at h
    refine run_sound (r := r) (X := X) (cc := cX8_mostFrom) (own := RX8) (tab := tX8_mostFrom) G (by rw [hn]; exact kX8_mostFrom) (oI := (oF [(mJ9_max_7cf53 N)])) (oL := (oF [])) (oV := (oF [])) (rI := (fun x w => some (x, w))) (rL := (fun _ _ => none)) (rV := (fun _ => none))
      (K := (fun j ls st w => if j = 18 then (lgI ls 4 fun v4 => lgI ls 5 fun v5 => lgI ls 6 fun v6 => st0 st (callW (fX8_mostFrom_18 N a1 a2 a3 N v4 v5 v6) w)) else none)) (fun x w pc ls hx hd => hr x w pc ls (Option.some.inj hx) hd) (fun _ _ _ _ hx => by cases hx) (fun _ _ _ hx => by cases hx) hC (fun ls => lsb [some (.inr (.inr (12, 0))), some (.inl a1), some (.inl a2), some (.inl a3), none, none, none] 0 ls) (keepsP_of rfl) ?_ 54 0 [some (.inr (.inr (12, 0))), some (.inl a1), some (.inl a2), some (.inl a3), none, none, none] [] w ?_ h
    · intro j ls st w hfx h
      obtain ⟨e0, e1, e2, e3, -⟩ : _ = _ ∧ _ = _ ∧ _ = _ ∧ _ = _ ∧ True := hfx
      try dsimp only at h
      by_cases hj : j = 18
      · subst hj
        rw [if_pos rfl] at h
        obtain ⟨v4, e4, h_1⟩ := lgI_some h
        obtain ⟨v5, e5, h_2⟩ := lgI_some h_1
        obtain ⟨v6, e6, h_3⟩ := lgI_some h_2
        obtain ⟨rfl, h_4⟩ := st0_some h_3
        clear h h_1 h_2 h_3
        have h := h_4
        try rw [callW_eq] at h
        exact WW.le (a := [some (.inr (.inr (12, 0))), some (.inl a1), some (.inl a2), some (.inl a3), some (.inl v4), some (.inl v5), some (.inl v6)]) (by rw [hn]; rfl) (show _ = _ ∧ _ = _ ∧ _ = _ ∧ _ = _ ∧ _ = _ ∧ _ = _ ∧ _ = _ ∧ True from ⟨e0, e1, e2, e3, e4, e5, e6, trivial⟩) (sX8_mostFrom_18 G hn hC hr a1 a2 a3 N v4 v5 v6 w h)
      rw [if_neg hj] at h
      cases h
    · exact (show _ = _ ∧ _ = _ ∧ _ = _ ∧ _ = _ ∧ True from ⟨rfl, rfl, rfl, rfl, trivial⟩)
-- MoorGuides$Sharing.nameLeaders(II)V
def tX8_nameLeaders : List EN := [
  (0, .aload_n 0, 0, 0, 0, 0, 0, []), (1, .getfield 26, 0, 8, 0, 0, 0, []), (4, .getfield 34, 0, 9, 0, 0, 0, []), (7, .astore_n 3, 0, 0, 0, 0, 0, []),
  (8, .iconst 0, 0, 0, 0, 0, 0, []), (9, .istore 4, 0, 0, 0, 0, 0, []), (11, .iload 4, 7, 0, 0, 0, 0, []), (13, .aload_n 3, 0, 0, 0, 0, 0, []),
  (14, .getfield 40, 0, 4, 5, 0, 0, []), (17, .if_icmp .ge 17, 0, 17, 0, 0, 0, []), (20, .aload_n 0, 0, 0, 0, 0, 0, []), (21, .getfield 16, 0, 8, 2, 0, 0, []),
  (24, .iload 4, 0, 0, 0, 0, 0, []), (26, .iconst 0, 0, 0, 0, 0, 0, []), (27, .iastore, 0, 0, 0, 0, 0, []), (28, .iinc 4 1, 0, 0, 0, 1, 0, []),
  (31, .goto (-20), 0, 6, 0, 0, 0, []), (34, .iconst 0, 18, 0, 0, 0, 0, []), (35, .istore 4, 0, 0, 0, 0, 0, []), (37, .iload 4, 20, 0, 0, 0, 0, []),
  (39, .aload_n 3, 0, 0, 0, 0, 0, []), (40, .getfield 57, 0, 4, 4, 0, 0, []), (43, .getfield 61, 0, 6, 0, 0, 0, []), (46, .if_icmp .ge 90, 0, 68, 0, 0, 0, []),
  (49, .iload 4, 0, 0, 0, 0, 0, []), (51, .iload_n 2, 0, 0, 0, 0, 0, []), (52, .if_icmp .ne 7, 0, 29, 0, 0, 0, []), (55, .iconst 0, 0, 0, 0, 0, 0, []),
  (56, .goto 13, 0, 34, 0, 0, 0, []), (59, .aload_n 0, 0, 0, 0, 0, 0, []), (60, .getfield 26, 0, 8, 0, 0, 0, []), (63, .iload 4, 0, 0, 0, 0, 0, []),
  (65, .iload_n 1, 0, 0, 0, 0, 0, []), (66, .invokevirtual 66, 0, 0, 3, 0, 0, []), (69, .istore 5, 0, 0, 0, 0, 0, []), (71, .iconst 0, 0, 0, 0, 0, 0, []),
  (72, .istore 6, 0, 0, 0, 0, 0, []), (74, .iload 6, 38, 0, 0, 0, 0, []), (76, .aload_n 3, 0, 0, 0, 0, 0, []), (77, .getfield 40, 0, 4, 5, 0, 0, []),
  (80, .if_icmp .ge 50, 0, 66, 0, 0, 0, []), (83, .iload 5, 0, 0, 0, 0, 0, []), (85, .ifCond .eq 45, 0, 66, 0, 0, 0, []), (88, .aload_n 3, 0, 0, 0, 0, 0, []),
  (89, .getfield 70, 0, 4, 8, 0, 0, []), (92, .iload 6, 0, 0, 0, 0, 0, []), (94, .iaload, 0, 0, 0, 0, 0, []), (95, .iload_n 1, 0, 0, 0, 0, 0, []),
  (96, .if_icmp .ne 28, 0, 64, 0, 0, 0, []), (99, .aload_n 3, 0, 0, 0, 0, 0, []), (100, .iload 6, 0, 0, 0, 0, 0, []), (102, .iload 5, 0, 0, 0, 0, 0, []),
  (104, .invokevirtual 73, 0, 1, 3, 0, 0, []), (107, .ifCond .eq 17, 0, 64, 0, 0, 0, []), (110, .aload_n 0, 0, 0, 0, 0, 0, []), (111, .getfield 16, 0, 8, 2, 0, 0, []),
  (114, .iload 6, 0, 0, 0, 0, 0, []), (116, .dup2, 0, 0, 0, 0, 0, []), (117, .iaload, 0, 0, 0, 0, 0, []), (118, .iconst 1, 0, 0, 0, 1, 0, []),
  (119, .iload 4, 0, 0, 0, 0, 0, []), (121, .ishl, 0, 0, 0, 0, 0, []), (122, .ior, 0, 0, 0, 0, 0, []), (123, .iastore, 0, 0, 0, 0, 0, []),
  (124, .iinc 6 1, 0, 0, 0, 1, 0, []), (127, .goto (-53), 0, 37, 0, 0, 0, []), (130, .iinc 4 1, 67, 0, 0, 1, 0, []), (133, .goto (-96), 0, 19, 0, 0, 0, []),
  (136, .return_, 0, 0, 0, 0, 0, [])]
noncomputable def fX8_nameLeaders_66 (N : Nat) (a1 : Int32) (a2 : Int32) (k19 : Nat → Int32 → Wd → Option (Wd)) (q3 : Nat) (v4 : Int32) (w : Wd) : Option (Wd) :=
  k19 q3 (v4 + (1 : Int32)) w
noncomputable def fX8_nameLeaders_37 (N : Nat) (a1 : Int32) (a2 : Int32) : Nat → (Nat → Int32 → Wd → Option (Wd)) → Nat → Int32 → Int32 → Int32 → Wd → Option (Wd)
  | 0, _, _, _, _, _, _ => none
  | n + 1, k66, q3, v4, v5, v6, w =>
    if v6 < (gI w 8 q3 5) then
      if v5 = 0 then k66 q3 v4 w else
      (ldI w 35 q3 v6 8).bind fun x1 =>
      if x1 = a1 then
        (callW (pX4_isLed N q3 v6 v5) w).bind fun r2 =>
        if r2.1 = 0 then callW (fX8_nameLeaders_37 N a1 a2 n k66 q3 v4 v5 (v6 + (1 : Int32))) r2.2 else
        (ldI r2.2 57 0 v6 8).bind fun x3 =>
        (stI r2.2 57 0 v6 8 (x3 ||| ((1 : Int32) <<< (v4 &&& (31 : Int32))))).bind fun w4 =>
        callW (fX8_nameLeaders_37 N a1 a2 n k66 q3 v4 v5 (v6 + (1 : Int32))) w4
      else
      callW (fX8_nameLeaders_37 N a1 a2 n k66 q3 v4 v5 (v6 + (1 : Int32))) w
    else
    k66 q3 v4 w
noncomputable def fX8_nameLeaders_19 (N : Nat) (a1 : Int32) (a2 : Int32) : Nat → Nat → Int32 → Wd → Option (Wd)
  | 0, _, _, _ => none
  | n + 1, q3, v4, w =>
    if v4 < (gI w 10 q3 0) then
      if v4 = a2 then
        callW (fX8_nameLeaders_37 N a1 a2 N (fX8_nameLeaders_66 N a1 a2 (fX8_nameLeaders_19 N a1 a2 n)) q3 v4 (0 : Int32) (0 : Int32)) w
      else
      (callW (pX9_knownBits N 0 v4 a1) w).bind fun r1 =>
      callW (fX8_nameLeaders_37 N a1 a2 N (fX8_nameLeaders_66 N a1 a2 (fX8_nameLeaders_19 N a1 a2 n)) q3 v4 r1.1 (0 : Int32)) r1.2
    else
    some w
noncomputable def fX8_nameLeaders_17 (N : Nat) (a1 : Int32) (a2 : Int32) (q3 : Nat) (w : Wd) : Option (Wd) :=
  callW (fX8_nameLeaders_19 N a1 a2 N q3 (0 : Int32)) w
noncomputable def fX8_nameLeaders_6 (N : Nat) (a1 : Int32) (a2 : Int32) : Nat → (Nat → Wd → Option (Wd)) → Nat → Int32 → Wd → Option (Wd)
  | 0, _, _, _, _ => none
  | n + 1, k17, q3, v4, w =>
    if v4 < (gI w 8 q3 5) then
      (stI w 57 0 v4 8 (0 : Int32)).bind fun w1 =>
      callW (fX8_nameLeaders_6 N a1 a2 n k17 q3 (v4 + (1 : Int32))) w1
    else
    k17 q3 w
noncomputable def pX8_nameLeaders (N : Nat) (a1 : Int32) (a2 : Int32) (w : Wd) : Option (Wd) :=
  callW (fX8_nameLeaders_6 N a1 a2 N (fX8_nameLeaders_17 N a1 a2) (gR w 13 0 0) (0 : Int32)) w
noncomputable def mX8_nameLeaders (N : Nat) (as : List AV) (w : Wd) : Option (Wd) := xS1 12 as fun t => xI1 t fun a1 t => xI1 t fun a2 t => xN1 t (callW (pX8_nameLeaders N a1 a2) w)
set_option maxRecDepth 100000 in
set_option maxHeartbeats 4000000 in
theorem kX8_nameLeaders : TK cX8_nameLeaders RX8 7 tX8_nameLeaders := ⟨by decide +kernel, wok_of [612, 519, 284, 614, 280, 196, 612, 284, 296, 614] (by decide +kernel) (by decide +kernel)⟩
set_option maxRecDepth 100000 in
set_option maxHeartbeats 4000000 in
theorem sX8_nameLeaders_66 {N : Nat} {X : XT} (G : GX X cX8_nameLeaders RX8) (hn : xnL X = 7) (hC : CRs X tX8_nameLeaders (oF [(mX9_knownBits N), (mX4_isLed N)]) (oF []) (oF [])) {r : Wd} (hr : RTV X cX8_nameLeaders r) (a1 : Int32) (a2 : Int32) : ∀ (k19 : Nat → Int32 → Wd → Option (Wd)) (q3 : Nat) (v4 : Int32) (w : Wd), fX8_nameLeaders_66 N a1 a2 k19 q3 v4 w = some r → (∀ (q3 : Nat) (v4 : Int32) (w : Wd), k19 q3 v4 w = some r → WW X (pcAt tX8_nameLeaders 19) [some (.inr (.inr (12, 0))), some (.inl a1), some (.inl a2), some (.inr (.inr (8, q3))), some (.inl v4), none, none] [] w) → WW X (pcAt tX8_nameLeaders 66) [some (.inr (.inr (12, 0))), some (.inl a1), some (.inl a2), some (.inr (.inr (8, q3))), some (.inl v4), none, none] [] w := by
  intro k19 q3 v4 w h h19
  refine run_sound (r := r) (X := X) (cc := cX8_nameLeaders) (own := RX8) (tab := tX8_nameLeaders) G (by rw [hn]; exact kX8_nameLeaders) (oI := (oF [(mX9_knownBits N), (mX4_isLed N)])) (oL := (oF [])) (oV := (oF [])) (rI := (fun _ _ => none)) (rL := (fun _ _ => none)) (rV := (fun w => some w))
    (K := (fun j ls st w => if j = 19 then (lgR ls 3 fun kk q3 => if kk = 8 then lgI ls 4 fun v4 => st0 st (k19 q3 v4 w) else none) else none)) (fun _ _ _ _ hx => by cases hx) (fun _ _ _ _ hx => by cases hx) (fun w pc ls hx hd => hr w pc ls (Option.some.inj hx) hd) hC (fun ls => lsb [some (.inr (.inr (12, 0))), some (.inl a1), some (.inl a2), none, none, none, none] 0 ls) (keepsP_of rfl) ?_ 71 66 [some (.inr (.inr (12, 0))), some (.inl a1), some (.inl a2), some (.inr (.inr (8, q3))), some (.inl v4), none, none] [] w ?_ h
  · intro j ls st w hfx h
    obtain ⟨e0, e1, e2, -⟩ : _ = _ ∧ _ = _ ∧ _ = _ ∧ True := hfx
    try dsimp only at h
    by_cases hj : j = 19
    · subst hj
      rw [if_pos rfl] at h
      obtain ⟨kk3, q3, e3, h_1⟩ := lgR_some h
      obtain ⟨rfl, h_2⟩ := if_some _ h_1
      obtain ⟨v4, e4, h_3⟩ := lgI_some h_2
      obtain ⟨rfl, h_4⟩ := st0_some h_3
      clear h h_1 h_2 h_3
      have h := h_4
      try rw [callW_eq] at h
      exact WW.le (a := [some (.inr (.inr (12, 0))), some (.inl a1), some (.inl a2), some (.inr (.inr (8, q3))), some (.inl v4), none, none]) (by rw [hn]; rfl) (show _ = _ ∧ _ = _ ∧ _ = _ ∧ _ = _ ∧ _ = _ ∧ True from ⟨e0, e1, e2, e3, e4, trivial⟩) (h19 q3 v4 w h)
    rw [if_neg hj] at h
    cases h
  · exact (show _ = _ ∧ _ = _ ∧ _ = _ ∧ True from ⟨rfl, rfl, rfl, trivial⟩)
set_option maxRecDepth 100000 in
set_option maxHeartbeats 4000000 in
theorem sX8_nameLeaders_37 {N : Nat} {X : XT} (G : GX X cX8_nameLeaders RX8) (hn : xnL X = 7) (hC : CRs X tX8_nameLeaders (oF [(mX9_knownBits N), (mX4_isLed N)]) (oF []) (oF [])) {r : Wd} (hr : RTV X cX8_nameLeaders r) (a1 : Int32) (a2 : Int32) : ∀ (n : Nat) (k66 : Nat → Int32 → Wd → Option (Wd)) (q3 : Nat) (v4 : Int32) (v5 : Int32) (v6 : Int32) (w : Wd), fX8_nameLeaders_37 N a1 a2 n k66 q3 v4 v5 v6 w = some r → (∀ (q3 : Nat) (v4 : Int32) (w : Wd), k66 q3 v4 w = some r → WW X (pcAt tX8_nameLeaders 66) [some (.inr (.inr (12, 0))), some (.inl a1), some (.inl a2), some (.inr (.inr (8, q3))), some (.inl v4), none, none] [] w) → WW X (pcAt tX8_nameLeaders 37) [some (.inr (.inr (12, 0))), some (.inl a1), some (.inl a2), some (.inr (.inr (8, q3))), some (.inl v4), some (.inl v5), some (.inl v6)] [] w := by
  intro n
  induction n with
  | zero => intro k66 q3 v4 v5 v6 w h h66; cases h
  | succ n ih =>
    intro k66 q3 v4 v5 v6 w h h66
    refine run_sound (r := r) (X := X) (cc := cX8_nameLeaders) (own := RX8) (tab := tX8_nameLeaders) G (by rw [hn]; exact kX8_nameLeaders) (oI := (oF [(mX9_knownBits N), (mX4_isLed N)])) (oL := (oF [])) (oV := (oF [])) (rI := (fun _ _ => none)) (rL := (fun _ _ => none)) (rV := (fun w => some w))
      (K := (fun j ls st w => if j = 37 then (lgR ls 3 fun kk q3 => if kk = 8 then lgI ls 4 fun v4 => lgI ls 5 fun v5 => lgI ls 6 fun v6 => st0 st (callW (fX8_nameLeaders_37 N a1 a2 n k66 q3 v4 v5 v6) w) else none) else if j = 66 then (lgR ls 3 fun kk q3 => if kk = 8 then lgI ls 4 fun v4 => st0 st (k66 q3 v4 w) else none) else none)) (fun _ _ _ _ hx => by cases hx) (fun _ _ _ _ hx => by cases hx) (fun w pc ls hx hd => hr w pc ls (Option.some.inj hx) hd) hC (fun ls => lsb [some (.inr (.inr (12, 0))), some (.inl a1), some (.inl a2), none, none, none, none] 0 ls) (keepsP_of rfl) ?_ 71 37 [some (.inr (.inr (12, 0))), some (.inl a1), some (.inl a2), some (.inr (.inr (8, q3))), some (.inl v4), some (.inl v5), some (.inl v6)] [] w ?_ h
    · intro j ls st w hfx h
      obtain ⟨e0, e1, e2, -⟩ : _ = _ ∧ _ = _ ∧ _ = _ ∧ True := hfx
      try dsimp only at h
      by_cases hj : j = 37
      · subst hj
        rw [if_pos rfl] at h
        obtain ⟨kk3, q3, e3, h_1⟩ := lgR_some h
        obtain ⟨rfl, h_2⟩ := if_some _ h_1
        obtain ⟨v4, e4, h_3⟩ := lgI_some h_2
        obtain ⟨v5, e5, h_4⟩ := lgI_some h_3
        obtain ⟨v6, e6, h_5⟩ := lgI_some h_4
        obtain ⟨rfl, h_6⟩ := st0_some h_5
        clear h h_1 h_2 h_3 h_4 h_5
        have h := h_6
        try rw [callW_eq] at h
        exact WW.le (a := [some (.inr (.inr (12, 0))), some (.inl a1), some (.inl a2), some (.inr (.inr (8, q3))), some (.inl v4), some (.inl v5), some (.inl v6)]) (by rw [hn]; rfl) (show _ = _ ∧ _ = _ ∧ _ = _ ∧ _ = _ ∧ _ = _ ∧ _ = _ ∧ _ = _ ∧ True from ⟨e0, e1, e2, e3, e4, e5, e6, trivial⟩) (ih k66 q3 v4 v5 v6 w h h66)
      rw [if_neg hj] at h
      by_cases hj : j = 66
      · subst hj
        rw [if_pos rfl] at h
        obtain ⟨kk3, q3, e3, h_1⟩ := lgR_some h
        obtain ⟨rfl, h_2⟩ := if_some _ h_1
        obtain ⟨v4, e4, h_3⟩ := lgI_some h_2
        obtain ⟨rfl, h_4⟩ := st0_some h_3
        clear h h_1 h_2 h_3
        have h := h_4
        try rw [callW_eq] at h
        exact WW.le (a := [some (.inr (.inr (12, 0))), some (.inl a1), some (.inl a2), some (.inr (.inr (8, q3))), some (.inl v4), none, none]) (by rw [hn]; rfl) (show _ = _ ∧ _ = _ ∧ _ = _ ∧ _ = _ ∧ _ = _ ∧ True from ⟨e0, e1, e2, e3, e4, trivial⟩) (h66 q3 v4 w h)
      rw [if_neg hj] at h
      cases h
    · exact (show _ = _ ∧ _ = _ ∧ _ = _ ∧ True from ⟨rfl, rfl, rfl, trivial⟩)
set_option maxRecDepth 100000 in
set_option maxHeartbeats 4000000 in
theorem sX8_nameLeaders_19 {N : Nat} {X : XT} (G : GX X cX8_nameLeaders RX8) (hn : xnL X = 7) (hC : CRs X tX8_nameLeaders (oF [(mX9_knownBits N), (mX4_isLed N)]) (oF []) (oF [])) {r : Wd} (hr : RTV X cX8_nameLeaders r) (a1 : Int32) (a2 : Int32) : ∀ (n : Nat) (q3 : Nat) (v4 : Int32) (w : Wd), fX8_nameLeaders_19 N a1 a2 n q3 v4 w = some r → WW X (pcAt tX8_nameLeaders 19) [some (.inr (.inr (12, 0))), some (.inl a1), some (.inl a2), some (.inr (.inr (8, q3))), some (.inl v4), none, none] [] w := by
  intro n
  induction n with
  | zero => intro q3 v4 w h; cases h
  | succ n ih =>
    intro q3 v4 w h
    refine run_sound (r := r) (X := X) (cc := cX8_nameLeaders) (own := RX8) (tab := tX8_nameLeaders) G (by rw [hn]; exact kX8_nameLeaders) (oI := (oF [(mX9_knownBits N), (mX4_isLed N)])) (oL := (oF [])) (oV := (oF [])) (rI := (fun _ _ => none)) (rL := (fun _ _ => none)) (rV := (fun w => some w))
      (K := (fun j ls st w => if j = 37 then (lgR ls 3 fun kk q3 => if kk = 8 then lgI ls 4 fun v4 => lgI ls 5 fun v5 => lgI ls 6 fun v6 => st0 st (callW (fX8_nameLeaders_37 N a1 a2 N (fX8_nameLeaders_66 N a1 a2 (fX8_nameLeaders_19 N a1 a2 n)) q3 v4 v5 v6) w) else none) else none)) (fun _ _ _ _ hx => by cases hx) (fun _ _ _ _ hx => by cases hx) (fun w pc ls hx hd => hr w pc ls (Option.some.inj hx) hd) hC (fun ls => lsb [some (.inr (.inr (12, 0))), some (.inl a1), some (.inl a2), none, none, none, none] 0 ls) (keepsP_of rfl) ?_ 71 19 [some (.inr (.inr (12, 0))), some (.inl a1), some (.inl a2), some (.inr (.inr (8, q3))), some (.inl v4), none, none] [] w ?_ h
    · intro j ls st w hfx h
      obtain ⟨e0, e1, e2, -⟩ : _ = _ ∧ _ = _ ∧ _ = _ ∧ True := hfx
      try dsimp only at h
      by_cases hj : j = 37
      · subst hj
        rw [if_pos rfl] at h
        obtain ⟨kk3, q3, e3, h_1⟩ := lgR_some h
        obtain ⟨rfl, h_2⟩ := if_some _ h_1
        obtain ⟨v4, e4, h_3⟩ := lgI_some h_2
        obtain ⟨v5, e5, h_4⟩ := lgI_some h_3
        obtain ⟨v6, e6, h_5⟩ := lgI_some h_4
        obtain ⟨rfl, h_6⟩ := st0_some h_5
        clear h h_1 h_2 h_3 h_4 h_5
        have h := h_6
        try rw [callW_eq] at h
        exact WW.le (a := [some (.inr (.inr (12, 0))), some (.inl a1), some (.inl a2), some (.inr (.inr (8, q3))), some (.inl v4), some (.inl v5), some (.inl v6)]) (by rw [hn]; rfl) (show _ = _ ∧ _ = _ ∧ _ = _ ∧ _ = _ ∧ _ = _ ∧ _ = _ ∧ _ = _ ∧ True from ⟨e0, e1, e2, e3, e4, e5, e6, trivial⟩) (sX8_nameLeaders_37 G hn hC hr a1 a2 N (fX8_nameLeaders_66 N a1 a2 (fX8_nameLeaders_19 N a1 a2 n)) q3 v4 v5 v6 w h (fun q3 v4 w h => (sX8_nameLeaders_66 G hn hC hr a1 a2 (fX8_nameLeaders_19 N a1 a2 n) q3 v4 w h (fun q3 v4 w h => (ih q3 v4 w h)))))
      rw [if_neg hj] at h
      cases h
    · exact (show _ = _ ∧ _ = _ ∧ _ = _ ∧ True from ⟨rfl, rfl, rfl, trivial⟩)
set_option maxRecDepth 100000 in
set_option maxHeartbeats 4000000 in
theorem sX8_nameLeaders_17 {N : Nat} {X : XT} (G : GX X cX8_nameLeaders RX8) (hn : xnL X = 7) (hC : CRs X tX8_nameLeaders (oF [(mX9_knownBits N), (mX4_isLed N)]) (oF []) (oF [])) {r : Wd} (hr : RTV X cX8_nameLeaders r) (a1 : Int32) (a2 : Int32) : ∀ (q3 : Nat) (w : Wd), fX8_nameLeaders_17 N a1 a2 q3 w = some r → WW X (pcAt tX8_nameLeaders 17) [some (.inr (.inr (12, 0))), some (.inl a1), some (.inl a2), some (.inr (.inr (8, q3))), none, none, none] [] w := by
  intro q3 w h
  refine run_sound (r := r) (X := X) (cc := cX8_nameLeaders) (own := RX8) (tab := tX8_nameLeaders) G (by rw [hn]; exact kX8_nameLeaders) (oI := (oF [(mX9_knownBits N), (mX4_isLed N)])) (oL := (oF [])) (oV := (oF [])) (rI := (fun _ _ => none)) (rL := (fun _ _ => none)) (rV := (fun w => some w))
    (K := (fun j ls st w => if j = 19 then (lgR ls 3 fun kk q3 => if kk = 8 then lgI ls 4 fun v4 => st0 st (callW (fX8_nameLeaders_19 N a1 a2 N q3 v4) w) else none) else none)) (fun _ _ _ _ hx => by cases hx) (fun _ _ _ _ hx => by cases hx) (fun w pc ls hx hd => hr w pc ls (Option.some.inj hx) hd) hC (fun ls => lsb [some (.inr (.inr (12, 0))), some (.inl a1), some (.inl a2), none, none, none, none] 0 ls) (keepsP_of rfl) ?_ 71 17 [some (.inr (.inr (12, 0))), some (.inl a1), some (.inl a2), some (.inr (.inr (8, q3))), none, none, none] [] w ?_ h
  · intro j ls st w hfx h
    obtain ⟨e0, e1, e2, -⟩ : _ = _ ∧ _ = _ ∧ _ = _ ∧ True := hfx
    try dsimp only at h
    by_cases hj : j = 19
    · subst hj
      rw [if_pos rfl] at h
      obtain ⟨kk3, q3, e3, h_1⟩ := lgR_some h
      obtain ⟨rfl, h_2⟩ := if_some _ h_1
      obtain ⟨v4, e4, h_3⟩ := lgI_some h_2
      obtain ⟨rfl, h_4⟩ := st0_some h_3
      clear h h_1 h_2 h_3
      have h := h_4
      try rw [callW_eq] at h
      exact WW.le (a := [some (.inr (.inr (12, 0))), some (.inl a1), some (.inl a2), some (.inr (.inr (8, q3))), some (.inl v4), none, none]) (by rw [hn]; rfl) (show _ = _ ∧ _ = _ ∧ _ = _ ∧ _ = _ ∧ _ = _ ∧ True from ⟨e0, e1, e2, e3, e4, trivial⟩) (sX8_nameLeaders_19 G hn hC hr a1 a2 N q3 v4 w h)
    rw [if_neg hj] at h
    cases h
  · exact (show _ = _ ∧ _ = _ ∧ _ = _ ∧ True from ⟨rfl, rfl, rfl, trivial⟩)
set_option maxRecDepth 100000 in
set_option maxHeartbeats 4000000 in
theorem sX8_nameLeaders_6 {N : Nat} {X : XT} (G : GX X cX8_nameLeaders RX8) (hn : xnL X = 7) (hC : CRs X tX8_nameLeaders (oF [(mX9_knownBits N), (mX4_isLed N)]) (oF []) (oF [])) {r : Wd} (hr : RTV X cX8_nameLeaders r) (a1 : Int32) (a2 : Int32) : ∀ (n : Nat) (k17 : Nat → Wd → Option (Wd)) (q3 : Nat) (v4 : Int32) (w : Wd), fX8_nameLeaders_6 N a1 a2 n k17 q3 v4 w = some r → (∀ (q3 : Nat) (w : Wd), k17 q3 w = some r → WW X (pcAt tX8_nameLeaders 17) [some (.inr (.inr (12, 0))), some (.inl a1), some (.inl a2), some (.inr (.inr (8, q3))), none, none, none] [] w) → WW X (pcAt tX8_nameLeaders 6) [some (.inr (.inr (12, 0))), some (.inl a1), some (.inl a2), some (.inr (.inr (8, q3))), some (.inl v4), none, none] [] w := by
  intro n
  induction n with
  | zero => intro k17 q3 v4 w h h17; cases h
  | succ n ih =>
    intro k17 q3 v4 w h h17
    refine run_sound (r := r) (X := X) (cc := cX8_nameLeaders) (own := RX8) (tab := tX8_nameLeaders) G (by rw [hn]; exact kX8_nameLeaders) (oI := (oF [(mX9_knownBits N), (mX4_isLed N)])) (oL := (oF [])) (oV := (oF [])) (rI := (fun _ _ => none)) (rL := (fun _ _ => none)) (rV := (fun w => some w))
      (K := (fun j ls st w => if j = 6 then (lgR ls 3 fun kk q3 => if kk = 8 then lgI ls 4 fun v4 => st0 st (callW (fX8_nameLeaders_6 N a1 a2 n k17 q3 v4) w) else none) else if j = 17 then (lgR ls 3 fun kk q3 => if kk = 8 then st0 st (k17 q3 w) else none) else none)) (fun _ _ _ _ hx => by cases hx) (fun _ _ _ _ hx => by cases hx) (fun w pc ls hx hd => hr w pc ls (Option.some.inj hx) hd) hC (fun ls => lsb [some (.inr (.inr (12, 0))), some (.inl a1), some (.inl a2), none, none, none, none] 0 ls) (keepsP_of rfl) ?_ 71 6 [some (.inr (.inr (12, 0))), some (.inl a1), some (.inl a2), some (.inr (.inr (8, q3))), some (.inl v4), none, none] [] w ?_ h
    · intro j ls st w hfx h
      obtain ⟨e0, e1, e2, -⟩ : _ = _ ∧ _ = _ ∧ _ = _ ∧ True := hfx
      try dsimp only at h
      by_cases hj : j = 6
      · subst hj
        rw [if_pos rfl] at h
        obtain ⟨kk3, q3, e3, h_1⟩ := lgR_some h
        obtain ⟨rfl, h_2⟩ := if_some _ h_1
        obtain ⟨v4, e4, h_3⟩ := lgI_some h_2
        obtain ⟨rfl, h_4⟩ := st0_some h_3
        clear h h_1 h_2 h_3
        have h := h_4
        try rw [callW_eq] at h
        exact WW.le (a := [some (.inr (.inr (12, 0))), some (.inl a1), some (.inl a2), some (.inr (.inr (8, q3))), some (.inl v4), none, none]) (by rw [hn]; rfl) (show _ = _ ∧ _ = _ ∧ _ = _ ∧ _ = _ ∧ _ = _ ∧ True from ⟨e0, e1, e2, e3, e4, trivial⟩) (ih k17 q3 v4 w h h17)
      rw [if_neg hj] at h
      by_cases hj : j = 17
      · subst hj
        rw [if_pos rfl] at h
        obtain ⟨kk3, q3, e3, h_1⟩ := lgR_some h
        obtain ⟨rfl, h_2⟩ := if_some _ h_1
        obtain ⟨rfl, h_3⟩ := st0_some h_2
        clear h h_1 h_2
        have h := h_3
        try rw [callW_eq] at h
        exact WW.le (a := [some (.inr (.inr (12, 0))), some (.inl a1), some (.inl a2), some (.inr (.inr (8, q3))), none, none, none]) (by rw [hn]; rfl) (show _ = _ ∧ _ = _ ∧ _ = _ ∧ _ = _ ∧ True from ⟨e0, e1, e2, e3, trivial⟩) (h17 q3 w h)
      rw [if_neg hj] at h
      cases h
    · exact (show _ = _ ∧ _ = _ ∧ _ = _ ∧ True from ⟨rfl, rfl, rfl, trivial⟩)
set_option maxRecDepth 100000 in
set_option maxHeartbeats 4000000 in
theorem crX8_nameLeaders {N : Nat} {X : XT} (G : GX X cX8_nameLeaders RX8) (hR : xR X = rmL 3) : CRs X tX8_nameLeaders (oF [(mX9_knownBits N), (mX4_isLed N)]) (oF []) (oF []) := by
  have hl : tX8_nameLeaders.filter isInv = [(66, .invokevirtual 66, 0, 0, 3, 0, 0, []), (104, .invokevirtual 73, 0, 1, 3, 0, 0, [])] := rfl
  intro e he
  rw [hl] at he
  simp only [List.mem_cons, List.not_mem_nil, or_false] at he
  rcases he with rfl | rfl
  · exact crI_V (idx := 66) G (by decide +kernel) (MX9_knownBits N) (cw_of (ps := [1237, 1022, 1023, 158, 1024]) (by decide +kernel) (by decide +kernel)) ⟨by decide +kernel, by decide +kernel, by decide +kernel⟩ (by unfold rmOk; rw [hR]; exact ⟨by decide, by decide⟩)
  · exact crI_V (idx := 73) G (by decide +kernel) (MX4_isLed N) (cw_of (ps := [1238, 1239, 1240, 149, 1241]) (by decide +kernel) (by decide +kernel)) ⟨by decide +kernel, by decide +kernel, by decide +kernel⟩ (by unfold rmOk; rw [hR]; exact ⟨by decide, by decide⟩)
set_option maxRecDepth 100000 in
set_option maxHeartbeats 4000000 in
theorem MX8_nameLeaders (N : Nat) : SndV yX8_nameLeaders cX8_nameLeaders 7 none 3 3 true (mX8_nameLeaders N) := by
  refine SndV.of tX8_nameLeaders (by decide +kernel) rfl rfl ?_ ?_
  · intro as w x h
    obtain ⟨t1, rfl, h_1⟩ := xS1_some h
    obtain ⟨a1, t2, rfl, h_2⟩ := xI1_some h_1
    obtain ⟨a2, t3, rfl, h_3⟩ := xI1_some h_2
    obtain ⟨rfl, h_4⟩ := xN1_some h_3
    clear h h_1 h_2 h_3
    have h := h_4
    rw [callW_eq] at h
    exact ⟨fun _ => ⟨_, _, _, rfl, rfl, _, rfl, rfl⟩, rfl, Nat.le_of_ble_eq_true rfl⟩
  · intro X G hn hR as w r h hr
    have hC := crX8_nameLeaders (N := N) G hR
    obtain ⟨t1, rfl, h_1⟩ := xS1_some h
    obtain ⟨a1, t2, rfl, h_2⟩ := xI1_some h_1
    obtain ⟨a2, t3, rfl, h_3⟩ := xI1_some h_2
    obtain ⟨rfl, h_4⟩ := xN1_some h_3
    clear h h_1 h_2 h_3
    have h := h_4
    rw [callW_eq] at h
    refine run_sound (r := r) (X := X) (cc := cX8_nameLeaders) (own := RX8) (tab := tX8_nameLeaders) G (by rw [hn]; exact kX8_nameLeaders) (oI := (oF [(mX9_knownBits N), (mX4_isLed N)])) (oL := (oF [])) (oV := (oF [])) (rI := (fun _ _ => none)) (rL := (fun _ _ => none)) (rV := (fun w => some w))
      (K := (fun j ls st w => if j = 6 then (lgR ls 3 fun kk q3 => if kk = 8 then lgI ls 4 fun v4 => st0 st (callW (fX8_nameLeaders_6 N a1 a2 N (fX8_nameLeaders_17 N a1 a2) q3 v4) w) else none) else none)) (fun _ _ _ _ hx => by cases hx) (fun _ _ _ _ hx => by cases hx) (fun w pc ls hx hd => hr w pc ls (Option.some.inj hx) hd) hC (fun ls => lsb [some (.inr (.inr (12, 0))), some (.inl a1), some (.inl a2), none, none, none, none] 0 ls) (keepsP_of rfl) ?_ 71 0 [some (.inr (.inr (12, 0))), some (.inl a1), some (.inl a2), none, none, none, none] [] w ?_ h
    · intro j ls st w hfx h
      obtain ⟨e0, e1, e2, -⟩ : _ = _ ∧ _ = _ ∧ _ = _ ∧ True := hfx
      try dsimp only at h
      by_cases hj : j = 6
      · subst hj
        rw [if_pos rfl] at h
        obtain ⟨kk3, q3, e3, h_1⟩ := lgR_some h
        obtain ⟨rfl, h_2⟩ := if_some _ h_1
        obtain ⟨v4, e4, h_3⟩ := lgI_some h_2
        obtain ⟨rfl, h_4⟩ := st0_some h_3
        clear h h_1 h_2 h_3
        have h := h_4
        try rw [callW_eq] at h
        exact WW.le (a := [some (.inr (.inr (12, 0))), some (.inl a1), some (.inl a2), some (.inr (.inr (8, q3))), some (.inl v4), none, none]) (by rw [hn]; rfl) (show _ = _ ∧ _ = _ ∧ _ = _ ∧ _ = _ ∧ _ = _ ∧ True from ⟨e0, e1, e2, e3, e4, trivial⟩) (sX8_nameLeaders_6 G hn hC hr a1 a2 N (fX8_nameLeaders_17 N a1 a2) q3 v4 w h (fun q3 w h => (sX8_nameLeaders_17 G hn hC hr a1 a2 q3 w h)))
      rw [if_neg hj] at h
      cases h
    · exact (show _ = _ ∧ _ = _ ∧ _ = _ ∧ True from ⟨rfl, rfl, rfl, trivial⟩)
-- MoorGuides$Sharing.nameGuides(LMoorGuides$Moor;)V
def tX8_nameGuides : List EN := [
  (0, .bipush 63, 0, 0, 0, 63, 0, []), (2, .istore_n 2, 0, 0, 0, 0, 0, []), (3, .iconst 0, 0, 0, 0, 0, 0, []), (4, .istore_n 3, 0, 0, 0, 0, 0, []),
  (5, .iload_n 3, 5, 0, 0, 0, 0, []), (6, .aload_n 1, 0, 0, 0, 0, 0, []), (7, .getfield 40, 0, 4, 5, 0, 0, []), (10, .if_icmp .ge 116, 0, 81, 0, 0, 0, []),
  (13, .aload_n 0, 0, 0, 0, 0, 0, []), (14, .getfield 23, 0, 8, 4, 0, 0, []), (17, .iload_n 3, 0, 0, 0, 0, 0, []), (18, .bipush (-2), 0, 0, 0, (-2), 0, []),
  (20, .iastore, 0, 0, 0, 0, 0, []), (21, .aload_n 0, 0, 0, 0, 0, 0, []), (22, .getfield 16, 0, 8, 2, 0, 0, []), (25, .iload_n 3, 0, 0, 0, 0, 0, []),
  (26, .iaload, 0, 0, 0, 0, 0, []), (27, .iload_n 2, 0, 0, 0, 0, 0, []), (28, .iand, 0, 0, 0, 0, 0, []), (29, .istore 4, 0, 0, 0, 0, 0, []),
  (31, .iconst 5, 0, 0, 0, 5, 0, []), (32, .istore 5, 0, 0, 0, 0, 0, []), (34, .iload 5, 23, 0, 0, 0, 0, []), (36, .ifCond .lt 62, 0, 63, 0, 0, 0, []),
  (39, .iload 4, 0, 0, 0, 0, 0, []), (41, .iload 5, 0, 0, 0, 0, 0, []), (43, .ishr, 0, 0, 0, 0, 0, []), (44, .iconst 1, 0, 0, 0, 1, 0, []),
  (45, .iand, 0, 0, 0, 0, 0, []), (46, .ifCond .eq 46, 0, 61, 0, 0, 0, []), (49, .aload_n 0, 0, 0, 0, 0, 0, []), (50, .getfield 13, 0, 8, 1, 0, 0, []),
  (53, .iload_n 3, 0, 0, 0, 0, 0, []), (54, .aaload, 0, 0, 0, 0, 0, []), (55, .iload_n 2, 0, 0, 0, 0, 0, []), (56, .iaload, 0, 0, 0, 0, 0, []),
  (57, .aload_n 1, 0, 0, 0, 0, 0, []), (58, .getfield 46, 0, 4, 9, 0, 0, []), (61, .iload_n 3, 0, 0, 0, 0, 0, []), (62, .iaload, 0, 0, 0, 0, 0, []),
  (63, .aload_n 0, 0, 0, 0, 0, 0, []), (64, .getfield 13, 0, 8, 1, 0, 0, []), (67, .iload_n 3, 0, 0, 0, 0, 0, []), (68, .iconst 1, 0, 0, 0, 1, 0, []),
  (69, .iadd, 0, 0, 0, 0, 0, []), (70, .aaload, 0, 0, 0, 0, 0, []), (71, .iload_n 2, 0, 0, 0, 0, 0, []), (72, .iconst 1, 0, 0, 0, 1, 0, []),
  (73, .iload 5, 0, 0, 0, 0, 0, []), (75, .ishl, 0, 0, 0, 0, 0, []), (76, .iconst (-1), 0, 0, 0, (-1), 0, []), (77, .ixor, 0, 0, 0, 0, 0, []),
  (78, .iand, 0, 0, 0, 0, 0, []), (79, .iaload, 0, 0, 0, 0, 0, []), (80, .iadd, 0, 0, 0, 0, 0, []), (81, .if_icmp .ne 11, 0, 61, 0, 0, 0, []),
  (84, .aload_n 0, 0, 0, 0, 0, 0, []), (85, .getfield 23, 0, 8, 4, 0, 0, []), (88, .iload_n 3, 0, 0, 0, 0, 0, []), (89, .iload 5, 0, 0, 0, 0, 0, []),
  (91, .iastore, 0, 0, 0, 0, 0, []), (92, .iinc 5 (-1), 0, 0, 0, (-1), 0, []), (95, .goto (-61), 0, 22, 0, 0, 0, []), (98, .aload_n 0, 64, 0, 0, 0, 0, []),
  (99, .getfield 23, 0, 8, 4, 0, 0, []), (102, .iload_n 3, 0, 0, 0, 0, 0, []), (103, .iaload, 0, 0, 0, 0, 0, []), (104, .ifCond .lt 16, 0, 79, 0, 0, 0, []),
  (107, .iload_n 2, 0, 0, 0, 0, 0, []), (108, .iconst 1, 0, 0, 0, 1, 0, []), (109, .aload_n 0, 0, 0, 0, 0, 0, []), (110, .getfield 23, 0, 8, 4, 0, 0, []),
  (113, .iload_n 3, 0, 0, 0, 0, 0, []), (114, .iaload, 0, 0, 0, 0, 0, []), (115, .ishl, 0, 0, 0, 0, 0, []), (116, .iconst (-1), 0, 0, 0, (-1), 0, []),
  (117, .ixor, 0, 0, 0, 0, 0, []), (118, .iand, 0, 0, 0, 0, 0, []), (119, .istore_n 2, 0, 0, 0, 0, 0, []), (120, .iinc 3 1, 0, 0, 0, 1, 0, []),
  (123, .goto (-118), 0, 4, 0, 0, 0, []), (126, .return_, 0, 0, 0, 0, 0, [])]
noncomputable def fX8_nameGuides_63 (N : Nat) (i1 : Nat) (k4 : Int32 → Int32 → Wd → Option (Wd)) (v2 : Int32) (v3 : Int32) (w : Wd) : Option (Wd) :=
  (ldI w 59 0 v3 8).bind fun x1 =>
  if x1 < 0 then k4 v2 (v3 + (1 : Int32)) w else
  (ldI w 59 0 v3 8).bind fun x2 =>
  k4 (v2 &&& (((1 : Int32) <<< (x2 &&& (31 : Int32))) ^^^ (-1 : Int32))) (v3 + (1 : Int32)) w
noncomputable def fX8_nameGuides_22 (N : Nat) (i1 : Nat) : Nat → (Int32 → Int32 → Wd → Option (Wd)) → Int32 → Int32 → Int32 → Int32 → Wd → Option (Wd)
  | 0, _, _, _, _, _, _ => none
  | n + 1, k63, v2, v3, v4, v5, w =>
    if v5 < 0 then k63 v2 v3 w else
    if ((v4 >>> (v5 &&& (31 : Int32))) &&& (1 : Int32)) = 0 then callW (fX8_nameGuides_22 N i1 n k63 v2 v3 v4 (v5 + (-1 : Int32))) w else
    (ldR v3 9 0).bind fun q1 =>
    (ldI w 56 q1 v2 64).bind fun x2 =>
    (ldI w 36 i1 v3 8).bind fun x3 =>
    (ldR (v3 + (1 : Int32)) 9 0).bind fun q4 =>
    (ldI w 56 q4 (v2 &&& (((1 : Int32) <<< (v5 &&& (31 : Int32))) ^^^ (-1 : Int32))) 64).bind fun x5 =>
    if x2 = (x3 + x5) then
      (stI w 59 0 v3 8 v5).bind fun w6 =>
      callW (fX8_nameGuides_22 N i1 n k63 v2 v3 v4 (v5 + (-1 : Int32))) w6
    else
    callW (fX8_nameGuides_22 N i1 n k63 v2 v3 v4 (v5 + (-1 : Int32))) w
noncomputable def fX8_nameGuides_4 (N : Nat) (i1 : Nat) : Nat → Int32 → Int32 → Wd → Option (Wd)
  | 0, _, _, _ => none
  | n + 1, v2, v3, w =>
    if v3 < (gI w 8 i1 5) then
      (stI w 59 0 v3 8 (-2 : Int32)).bind fun w1 =>
      (ldI w1 57 0 v3 8).bind fun x2 =>
      callW (fX8_nameGuides_22 N i1 N (fX8_nameGuides_63 N i1 (fX8_nameGuides_4 N i1 n)) v2 v3 (x2 &&& v2) (5 : Int32)) w1
    else
    some w
noncomputable def pX8_nameGuides (N : Nat) (i1 : Nat) (w : Wd) : Option (Wd) :=
  callW (fX8_nameGuides_4 N i1 N (63 : Int32) (0 : Int32)) w
noncomputable def mX8_nameGuides (N : Nat) (as : List AV) (w : Wd) : Option (Wd) := xS1 12 as fun t => xR1 8 t fun i1 t => xN1 t (callW (pX8_nameGuides N i1) w)
set_option maxRecDepth 100000 in
set_option maxHeartbeats 4000000 in
theorem kX8_nameGuides : TK cX8_nameGuides RX8 6 tX8_nameGuides := ⟨by decide +kernel, wok_of [284, 616, 614, 613, 299, 613, 616, 616, 616] (by decide +kernel) (by decide +kernel)⟩
set_option maxRecDepth 100000 in
set_option maxHeartbeats 4000000 in
theorem sX8_nameGuides_63 {N : Nat} {X : XT} (G : GX X cX8_nameGuides RX8) (hn : xnL X = 6) (hC : CRs X tX8_nameGuides (oF []) (oF []) (oF [])) {r : Wd} (hr : RTV X cX8_nameGuides r) (i1 : Nat) : ∀ (k4 : Int32 → Int32 → Wd → Option (Wd)) (v2 : Int32) (v3 : Int32) (w : Wd), fX8_nameGuides_63 N i1 k4 v2 v3 w = some r → (∀ (v2 : Int32) (v3 : Int32) (w : Wd), k4 v2 v3 w = some r → WW X (pcAt tX8_nameGuides 4) [some (.inr (.inr (12, 0))), some (.inr (.inr (8, i1))), some (.inl v2), some (.inl v3), none, none] [] w) → WW X (pcAt tX8_nameGuides 63) [some (.inr (.inr (12, 0))), some (.inr (.inr (8, i1))), some (.inl v2), some (.inl v3), none, none] [] w := by
  intro k4 v2 v3 w h h4
  refine run_sound (r := r) (X := X) (cc := cX8_nameGuides) (own := RX8) (tab := tX8_nameGuides) G (by rw [hn]; exact kX8_nameGuides) (oI := (oF [])) (oL := (oF [])) (oV := (oF [])) (rI := (fun _ _ => none)) (rL := (fun _ _ => none)) (rV := (fun w => some w))
    (K := (fun j ls st w => if j = 4 then (lgI ls 2 fun v2 => lgI ls 3 fun v3 => st0 st (k4 v2 v3 w)) else none)) (fun _ _ _ _ hx => by cases hx) (fun _ _ _ _ hx => by cases hx) (fun w pc ls hx hd => hr w pc ls (Option.some.inj hx) hd) hC (fun ls => lsb [some (.inr (.inr (12, 0))), some (.inr (.inr (8, i1))), none, none, none, none] 0 ls) (keepsP_of rfl) ?_ 84 63 [some (.inr (.inr (12, 0))), some (.inr (.inr (8, i1))), some (.inl v2), some (.inl v3), none, none] [] w ?_ h
  · intro j ls st w hfx h
    obtain ⟨e0, e1, -⟩ : _ = _ ∧ _ = _ ∧ True := hfx
    try dsimp only at h
    by_cases hj : j = 4
    · subst hj
      rw [if_pos rfl] at h
      obtain ⟨v2, e2, h_1⟩ := lgI_some h
      obtain ⟨v3, e3, h_2⟩ := lgI_some h_1
      obtain ⟨rfl, h_3⟩ := st0_some h_2
      clear h h_1 h_2
      have h := h_3
      try rw [callW_eq] at h
      exact WW.le (a := [some (.inr (.inr (12, 0))), some (.inr (.inr (8, i1))), some (.inl v2), some (.inl v3), none, none]) (by rw [hn]; rfl) (show _ = _ ∧ _ = _ ∧ _ = _ ∧ _ = _ ∧ True from ⟨e0, e1, e2, e3, trivial⟩) (h4 v2 v3 w h)
    rw [if_neg hj] at h
    cases h
  · exact (show _ = _ ∧ _ = _ ∧ True from ⟨rfl, rfl, trivial⟩)
set_option maxRecDepth 100000 in
set_option maxHeartbeats 4000000 in
theorem sX8_nameGuides_22 {N : Nat} {X : XT} (G : GX X cX8_nameGuides RX8) (hn : xnL X = 6) (hC : CRs X tX8_nameGuides (oF []) (oF []) (oF [])) {r : Wd} (hr : RTV X cX8_nameGuides r) (i1 : Nat) : ∀ (n : Nat) (k63 : Int32 → Int32 → Wd → Option (Wd)) (v2 : Int32) (v3 : Int32) (v4 : Int32) (v5 : Int32) (w : Wd), fX8_nameGuides_22 N i1 n k63 v2 v3 v4 v5 w = some r → (∀ (v2 : Int32) (v3 : Int32) (w : Wd), k63 v2 v3 w = some r → WW X (pcAt tX8_nameGuides 63) [some (.inr (.inr (12, 0))), some (.inr (.inr (8, i1))), some (.inl v2), some (.inl v3), none, none] [] w) → WW X (pcAt tX8_nameGuides 22) [some (.inr (.inr (12, 0))), some (.inr (.inr (8, i1))), some (.inl v2), some (.inl v3), some (.inl v4), some (.inl v5)] [] w := by
  intro n
  induction n with
  | zero => intro k63 v2 v3 v4 v5 w h h63; cases h
  | succ n ih =>
    intro k63 v2 v3 v4 v5 w h h63
    refine run_sound (r := r) (X := X) (cc := cX8_nameGuides) (own := RX8) (tab := tX8_nameGuides) G (by rw [hn]; exact kX8_nameGuides) (oI := (oF [])) (oL := (oF [])) (oV := (oF [])) (rI := (fun _ _ => none)) (rL := (fun _ _ => none)) (rV := (fun w => some w))
      (K := (fun j ls st w => if j = 22 then (lgI ls 2 fun v2 => lgI ls 3 fun v3 => lgI ls 4 fun v4 => lgI ls 5 fun v5 => st0 st (callW (fX8_nameGuides_22 N i1 n k63 v2 v3 v4 v5) w)) else if j = 63 then (lgI ls 2 fun v2 => lgI ls 3 fun v3 => st0 st (k63 v2 v3 w)) else none)) (fun _ _ _ _ hx => by cases hx) (fun _ _ _ _ hx => by cases hx) (fun w pc ls hx hd => hr w pc ls (Option.some.inj hx) hd) hC (fun ls => lsb [some (.inr (.inr (12, 0))), some (.inr (.inr (8, i1))), none, none, none, none] 0 ls) (keepsP_of rfl) ?_ 84 22 [some (.inr (.inr (12, 0))), some (.inr (.inr (8, i1))), some (.inl v2), some (.inl v3), some (.inl v4), some (.inl v5)] [] w ?_ h
    · intro j ls st w hfx h
      obtain ⟨e0, e1, -⟩ : _ = _ ∧ _ = _ ∧ True := hfx
      try dsimp only at h
      by_cases hj : j = 22
      · subst hj
        rw [if_pos rfl] at h
        obtain ⟨v2, e2, h_1⟩ := lgI_some h
        obtain ⟨v3, e3, h_2⟩ := lgI_some h_1
        obtain ⟨v4, e4, h_3⟩ := lgI_some h_2
        obtain ⟨v5, e5, h_4⟩ := lgI_some h_3
        obtain ⟨rfl, h_5⟩ := st0_some h_4
        clear h h_1 h_2 h_3 h_4
        have h := h_5
        try rw [callW_eq] at h
        exact WW.le (a := [some (.inr (.inr (12, 0))), some (.inr (.inr (8, i1))), some (.inl v2), some (.inl v3), some (.inl v4), some (.inl v5)]) (by rw [hn]; rfl) (show _ = _ ∧ _ = _ ∧ _ = _ ∧ _ = _ ∧ _ = _ ∧ _ = _ ∧ True from ⟨e0, e1, e2, e3, e4, e5, trivial⟩) (ih k63 v2 v3 v4 v5 w h h63)
      rw [if_neg hj] at h
      by_cases hj : j = 63
      · subst hj
        rw [if_pos rfl] at h
        obtain ⟨v2, e2, h_1⟩ := lgI_some h
        obtain ⟨v3, e3, h_2⟩ := lgI_some h_1
        obtain ⟨rfl, h_3⟩ := st0_some h_2
        clear h h_1 h_2
        have h := h_3
        try rw [callW_eq] at h
        exact WW.le (a := [some (.inr (.inr (12, 0))), some (.inr (.inr (8, i1))), some (.inl v2), some (.inl v3), none, none]) (by rw [hn]; rfl) (show _ = _ ∧ _ = _ ∧ _ = _ ∧ _ = _ ∧ True from ⟨e0, e1, e2, e3, trivial⟩) (h63 v2 v3 w h)
      rw [if_neg hj] at h
      cases h
    · exact (show _ = _ ∧ _ = _ ∧ True from ⟨rfl, rfl, trivial⟩)
set_option maxRecDepth 100000 in
set_option maxHeartbeats 4000000 in
theorem sX8_nameGuides_4 {N : Nat} {X : XT} (G : GX X cX8_nameGuides RX8) (hn : xnL X = 6) (hC : CRs X tX8_nameGuides (oF []) (oF []) (oF [])) {r : Wd} (hr : RTV X cX8_nameGuides r) (i1 : Nat) : ∀ (n : Nat) (v2 : Int32) (v3 : Int32) (w : Wd), fX8_nameGuides_4 N i1 n v2 v3 w = some r → WW X (pcAt tX8_nameGuides 4) [some (.inr (.inr (12, 0))), some (.inr (.inr (8, i1))), some (.inl v2), some (.inl v3), none, none] [] w := by
  intro n
  induction n with
  | zero => intro v2 v3 w h; cases h
  | succ n ih =>
    intro v2 v3 w h
    refine run_sound (r := r) (X := X) (cc := cX8_nameGuides) (own := RX8) (tab := tX8_nameGuides) G (by rw [hn]; exact kX8_nameGuides) (oI := (oF [])) (oL := (oF [])) (oV := (oF [])) (rI := (fun _ _ => none)) (rL := (fun _ _ => none)) (rV := (fun w => some w))
      (K := (fun j ls st w => if j = 22 then (lgI ls 2 fun v2 => lgI ls 3 fun v3 => lgI ls 4 fun v4 => lgI ls 5 fun v5 => st0 st (callW (fX8_nameGuides_22 N i1 N (fX8_nameGuides_63 N i1 (fX8_nameGuides_4 N i1 n)) v2 v3 v4 v5) w)) else none)) (fun _ _ _ _ hx => by cases hx) (fun _ _ _ _ hx => by cases hx) (fun w pc ls hx hd => hr w pc ls (Option.some.inj hx) hd) hC (fun ls => lsb [some (.inr (.inr (12, 0))), some (.inr (.inr (8, i1))), none, none, none, none] 0 ls) (keepsP_of rfl) ?_ 84 4 [some (.inr (.inr (12, 0))), some (.inr (.inr (8, i1))), some (.inl v2), some (.inl v3), none, none] [] w ?_ h
    · intro j ls st w hfx h
      obtain ⟨e0, e1, -⟩ : _ = _ ∧ _ = _ ∧ True := hfx
      try dsimp only at h
      by_cases hj : j = 22
      · subst hj
        rw [if_pos rfl] at h
        obtain ⟨v2, e2, h_1⟩ := lgI_some h
        obtain ⟨v3, e3, h_2⟩ := lgI_some h_1
        obtain ⟨v4, e4, h_3⟩ := lgI_some h_2
        obtain ⟨v5, e5, h_4⟩ := lgI_some h_3
        obtain ⟨rfl, h_5⟩ := st0_some h_4
        clear h h_1 h_2 h_3 h_4
        have h := h_5
        try rw [callW_eq] at h
        exact WW.le (a := [some (.inr (.inr (12, 0))), some (.inr (.inr (8, i1))), some (.inl v2), some (.inl v3), some (.inl v4), some (.inl v5)]) (by rw [hn]; rfl) (show _ = _ ∧ _ = _ ∧ _ = _ ∧ _ = _ ∧ _ = _ ∧ _ = _ ∧ True from ⟨e0, e1, e2, e3, e4, e5, trivial⟩) (sX8_nameGuides_22 G hn hC hr i1 N (fX8_nameGuides_63 N i1 (fX8_nameGuides_4 N i1 n)) v2 v3 v4 v5 w h (fun v2 v3 w h => (sX8_nameGuides_63 G hn hC hr i1 (fX8_nameGuides_4 N i1 n) v2 v3 w h (fun v2 v3 w h => (ih v2 v3 w h)))))
      rw [if_neg hj] at h
      cases h
    · exact (show _ = _ ∧ _ = _ ∧ True from ⟨rfl, rfl, trivial⟩)
set_option maxRecDepth 100000 in
set_option maxHeartbeats 4000000 in
theorem crX8_nameGuides {N : Nat} {X : XT} (G : GX X cX8_nameGuides RX8) (hR : xR X = rmL 1) : CRs X tX8_nameGuides (oF []) (oF []) (oF []) := by
  have hl : tX8_nameGuides.filter isInv = [] := rfl
  intro e he
  rw [hl] at he
  cases he
set_option maxRecDepth 100000 in
set_option maxHeartbeats 4000000 in
theorem MX8_nameGuides (N : Nat) : SndV yX8_nameGuides cX8_nameGuides 6 none 1 2 true (mX8_nameGuides N) := by
  refine SndV.of tX8_nameGuides (by decide +kernel) rfl rfl ?_ ?_
  · intro as w x h
    obtain ⟨t1, rfl, h_1⟩ := xS1_some h
    obtain ⟨i1, t2, rfl, h_2⟩ := xR1_some h_1
    obtain ⟨rfl, h_3⟩ := xN1_some h_2
    clear h h_1 h_2
    have h := h_3
    rw [callW_eq] at h
    exact ⟨fun _ => ⟨_, _, _, rfl, rfl, _, rfl, rfl⟩, rfl, Nat.le_of_ble_eq_true rfl⟩
  · intro X G hn hR as w r h hr
    have hC := crX8_nameGuides (N := N) G hR
    obtain ⟨t1, rfl, h_1⟩ := xS1_some h
    obtain ⟨i1, t2, rfl, h_2⟩ := xR1_some h_1
    obtain ⟨rfl, h_3⟩ := xN1_some h_2
    clear h h_1 h_2
    have h := h_3
    rw [callW_eq] at h
    refine run_sound (r := r) (X := X) (cc := cX8_nameGuides) (own := RX8) (tab := tX8_nameGuides) G (by rw [hn]; exact kX8_nameGuides) (oI := (oF [])) (oL := (oF [])) (oV := (oF [])) (rI := (fun _ _ => none)) (rL := (fun _ _ => none)) (rV := (fun w => some w))
      (K := (fun j ls st w => if j = 4 then (lgI ls 2 fun v2 => lgI ls 3 fun v3 => st0 st (callW (fX8_nameGuides_4 N i1 N v2 v3) w)) else none)) (fun _ _ _ _ hx => by cases hx) (fun _ _ _ _ hx => by cases hx) (fun w pc ls hx hd => hr w pc ls (Option.some.inj hx) hd) hC (fun ls => lsb [some (.inr (.inr (12, 0))), some (.inr (.inr (8, i1))), none, none, none, none] 0 ls) (keepsP_of rfl) ?_ 84 0 [some (.inr (.inr (12, 0))), some (.inr (.inr (8, i1))), none, none, none, none] [] w ?_ h
    · intro j ls st w hfx h
      obtain ⟨e0, e1, -⟩ : _ = _ ∧ _ = _ ∧ True := hfx
      try dsimp only at h
      by_cases hj : j = 4
      · subst hj
        rw [if_pos rfl] at h
        obtain ⟨v2, e2, h_1⟩ := lgI_some h
        obtain ⟨v3, e3, h_2⟩ := lgI_some h_1
        obtain ⟨rfl, h_3⟩ := st0_some h_2
        clear h h_1 h_2
        have h := h_3
        try rw [callW_eq] at h
        exact WW.le (a := [some (.inr (.inr (12, 0))), some (.inr (.inr (8, i1))), some (.inl v2), some (.inl v3), none, none]) (by rw [hn]; rfl) (show _ = _ ∧ _ = _ ∧ _ = _ ∧ _ = _ ∧ True from ⟨e0, e1, e2, e3, trivial⟩) (sX8_nameGuides_4 G hn hC hr i1 N v2 v3 w h)
      rw [if_neg hj] at h
      cases h
    · exact (show _ = _ ∧ _ = _ ∧ True from ⟨rfl, rfl, trivial⟩)
-- MoorGuides$Sharing.find(II)V
def tX8_find : List EN := [
  (0, .aload_n 0, 0, 0, 0, 0, 0, []), (1, .iload_n 1, 0, 0, 0, 0, 0, []), (2, .iload_n 2, 0, 0, 0, 0, 0, []), (3, .invokevirtual 30, 0, 0, 3, 0, 0, [(0, 0), (0, 0)]),
  (6, .aload_n 0, 0, 0, 0, 0, 0, []), (7, .getfield 26, 0, 8, 0, 0, 0, []), (10, .getfield 34, 0, 9, 0, 0, 0, []), (13, .getfield 40, 0, 4, 5, 0, 0, []),
  (16, .istore_n 3, 0, 0, 0, 0, 0, []), (17, .iconst 0, 0, 0, 0, 0, 0, []), (18, .istore 4, 0, 0, 0, 0, 0, []), (20, .iload 4, 12, 0, 0, 0, 0, []),
  (22, .bipush 63, 0, 0, 0, 63, 0, []), (24, .if_icmp .gt 19, 0, 23, 0, 0, 0, []), (27, .aload_n 0, 0, 0, 0, 0, 0, []), (28, .getfield 13, 0, 8, 1, 0, 0, []),
  (31, .iload_n 3, 0, 0, 0, 0, 0, []), (32, .aaload, 0, 0, 0, 0, 0, []), (33, .iload 4, 0, 0, 0, 0, 0, []), (35, .iconst 0, 0, 0, 0, 0, 0, []),
  (36, .iastore, 0, 0, 0, 0, 0, []), (37, .iinc 4 1, 0, 0, 0, 1, 0, []), (40, .goto (-20), 0, 11, 0, 0, 0, []), (43, .iload_n 3, 24, 0, 0, 0, 0, []),
  (44, .iconst 1, 0, 0, 0, 1, 0, []), (45, .isub, 0, 0, 0, 0, 0, []), (46, .istore 4, 0, 0, 0, 0, 0, []), (48, .iload 4, 28, 0, 0, 0, 0, []),
  (50, .ifCond .lt 56, 0, 54, 0, 0, 0, []), (53, .iconst 0, 0, 0, 0, 0, 0, []), (54, .istore 5, 0, 0, 0, 0, 0, []), (56, .iload 5, 32, 0, 0, 0, 0, []),
  (58, .bipush 63, 0, 0, 0, 63, 0, []), (60, .if_icmp .gt 40, 0, 52, 0, 0, 0, []), (63, .aload_n 0, 0, 0, 0, 0, 0, []), (64, .getfield 13, 0, 8, 1, 0, 0, []),
  (67, .iload 4, 0, 0, 0, 0, 0, []), (69, .aaload, 0, 0, 0, 0, 0, []), (70, .iload 5, 0, 0, 0, 0, 0, []), (72, .aload_n 0, 0, 0, 0, 0, 0, []),
  (73, .iload 4, 0, 0, 0, 0, 0, []), (75, .iload 5, 0, 0, 0, 0, 0, []), (77, .aload_n 0, 0, 0, 0, 0, 0, []), (78, .getfield 26, 0, 8, 0, 0, 0, []),
  (81, .getfield 34, 0, 9, 0, 0, 0, []), (84, .getfield 46, 0, 4, 9, 0, 0, []), (87, .iload 4, 0, 0, 0, 0, 0, []), (89, .iaload, 0, 0, 0, 0, 0, []),
  (90, .invokevirtual 49, 0, 0, 4, 0, 0, []), (93, .iastore, 0, 0, 0, 0, 0, []), (94, .iinc 5 1, 0, 0, 0, 1, 0, []), (97, .goto (-41), 0, 31, 0, 0, 0, []),
  (100, .iinc 4 (-1), 53, 0, 0, (-1), 0, []), (103, .goto (-55), 0, 27, 0, 0, 0, []), (106, .aload_n 0, 55, 0, 0, 0, 0, []), (107, .aload_n 0, 0, 0, 0, 0, 0, []),
  (108, .getfield 26, 0, 8, 0, 0, 0, []), (111, .getfield 34, 0, 9, 0, 0, 0, []), (114, .invokevirtual 53, 0, 1, 2, 0, 0, [(0, 0), (0, 0)]), (117, .return_, 0, 0, 0, 0, 0, [])]
noncomputable def fX8_find_54 (N : Nat) (w : Wd) : Option (Wd) :=
  (callW (pX8_nameGuides N (gR w 13 0 0)) w).bind fun w1 =>
  some w1
noncomputable def fX8_find_52 (N : Nat) (k27 : Int32 → Wd → Option (Wd)) (v4 : Int32) (w : Wd) : Option (Wd) :=
  k27 (v4 + (-1 : Int32)) w
noncomputable def fX8_find_31 (N : Nat) : Nat → (Int32 → Wd → Option (Wd)) → Int32 → Int32 → Wd → Option (Wd)
  | 0, _, _, _, _ => none
  | n + 1, k52, v4, v5, w =>
    if (63 : Int32) < v5 then k52 v4 w else
    (ldR v4 9 0).bind fun q1 =>
    (ldI w 36 (gR w 13 0 0) v4 8).bind fun x2 =>
    (callW (pX8_mostFrom N v4 v5 x2) w).bind fun r3 =>
    (stI r3.2 56 q1 v5 64 r3.1).bind fun w4 =>
    callW (fX8_find_31 N n k52 v4 (v5 + (1 : Int32))) w4
noncomputable def fX8_find_27 (N : Nat) : Nat → (Wd → Option (Wd)) → Int32 → Wd → Option (Wd)
  | 0, _, _, _ => none
  | n + 1, k54, v4, w =>
    if v4 < 0 then k54 w else
    callW (fX8_find_31 N N (fX8_find_52 N (fX8_find_27 N n k54)) v4 (0 : Int32)) w
noncomputable def fX8_find_23 (N : Nat) (v3 : Int32) (w : Wd) : Option (Wd) :=
  callW (fX8_find_27 N N (fX8_find_54 N) (v3 - (1 : Int32))) w
noncomputable def fX8_find_11 (N : Nat) : Nat → (Int32 → Wd → Option (Wd)) → Int32 → Int32 → Wd → Option (Wd)
  | 0, _, _, _, _ => none
  | n + 1, k23, v3, v4, w =>
    if (63 : Int32) < v4 then k23 v3 w else
    (ldR v3 9 0).bind fun q1 =>
    (stI w 56 q1 v4 64 (0 : Int32)).bind fun w2 =>
    callW (fX8_find_11 N n k23 v3 (v4 + (1 : Int32))) w2
noncomputable def pX8_find (N : Nat) (a1 : Int32) (a2 : Int32) (w : Wd) : Option (Wd) :=
  (callW (pX8_nameLeaders N a1 a2) w).bind fun w1 =>
  callW (fX8_find_11 N N (fX8_find_23 N) (gI w1 8 (gR w1 13 0 0) 5) (0 : Int32)) w1
noncomputable def mX8_find (N : Nat) (as : List AV) (w : Wd) : Option (Wd) := xS1 12 as fun t => xI1 t fun a1 t => xI1 t fun a2 t => xN1 t (callW (pX8_find N a1 a2) w)
set_option maxRecDepth 100000 in
set_option maxHeartbeats 4000000 in
theorem kX8_find : TK cX8_find RX8 6 tX8_find := ⟨by decide +kernel, wok_of [612, 519, 284, 613, 613, 612, 519, 299, 612, 519] (by decide +kernel) (by decide +kernel)⟩
set_option maxRecDepth 100000 in
set_option maxHeartbeats 4000000 in
theorem sX8_find_54 {N : Nat} {X : XT} (G : GX X cX8_find RX8) (hn : xnL X = 6) (hC : CRs X tX8_find (oF [(mX8_mostFrom N)]) (oF []) (oF [(mX8_nameLeaders N), (mX8_nameGuides N)])) {r : Wd} (hr : RTV X cX8_find r) (a1 : Int32) (a2 : Int32) : ∀ (w : Wd), fX8_find_54 N w = some r → WW X (pcAt tX8_find 54) [some (.inr (.inr (12, 0))), some (.inl a1), some (.inl a2), none, none, none] [] w := by
  intro w h
  refine run_sound (r := r) (X := X) (cc := cX8_find) (own := RX8) (tab := tX8_find) G (by rw [hn]; exact kX8_find) (oI := (oF [(mX8_mostFrom N)])) (oL := (oF [])) (oV := (oF [(mX8_nameLeaders N), (mX8_nameGuides N)])) (rI := (fun _ _ => none)) (rL := (fun _ _ => none)) (rV := (fun w => some w))
    (K := (fun j ls st w => none)) (fun _ _ _ _ hx => by cases hx) (fun _ _ _ _ hx => by cases hx) (fun w pc ls hx hd => hr w pc ls (Option.some.inj hx) hd) hC (fun ls => lsb [some (.inr (.inr (12, 0))), some (.inl a1), some (.inl a2), none, none, none] 0 ls) (keepsP_of rfl) ?_ 62 54 [some (.inr (.inr (12, 0))), some (.inl a1), some (.inl a2), none, none, none] [] w ?_ h
  · intro j ls st w hfx h
    obtain ⟨e0, e1, e2, -⟩ : _ = _ ∧ _ = _ ∧ _ = _ ∧ True := hfx
    try dsimp only at h
    cases h
  · exact (show _ = _ ∧ _ = _ ∧ _ = _ ∧ True from ⟨rfl, rfl, rfl, trivial⟩)
set_option maxRecDepth 100000 in
set_option maxHeartbeats 4000000 in
theorem sX8_find_52 {N : Nat} {X : XT} (G : GX X cX8_find RX8) (hn : xnL X = 6) (hC : CRs X tX8_find (oF [(mX8_mostFrom N)]) (oF []) (oF [(mX8_nameLeaders N), (mX8_nameGuides N)])) {r : Wd} (hr : RTV X cX8_find r) (a1 : Int32) (a2 : Int32) : ∀ (k27 : Int32 → Wd → Option (Wd)) (v4 : Int32) (w : Wd), fX8_find_52 N k27 v4 w = some r → (∀ (v4 : Int32) (w : Wd), k27 v4 w = some r → WW X (pcAt tX8_find 27) [some (.inr (.inr (12, 0))), some (.inl a1), some (.inl a2), none, some (.inl v4), none] [] w) → WW X (pcAt tX8_find 52) [some (.inr (.inr (12, 0))), some (.inl a1), some (.inl a2), none, some (.inl v4), none] [] w := by
  intro k27 v4 w h h27
  refine run_sound (r := r) (X := X) (cc := cX8_find) (own := RX8) (tab := tX8_find) G (by rw [hn]; exact kX8_find) (oI := (oF [(mX8_mostFrom N)])) (oL := (oF [])) (oV := (oF [(mX8_nameLeaders N), (mX8_nameGuides N)])) (rI := (fun _ _ => none)) (rL := (fun _ _ => none)) (rV := (fun w => some w))
    (K := (fun j ls st w => if j = 27 then (lgI ls 4 fun v4 => st0 st (k27 v4 w)) else none)) (fun _ _ _ _ hx => by cases hx) (fun _ _ _ _ hx => by cases hx) (fun w pc ls hx hd => hr w pc ls (Option.some.inj hx) hd) hC (fun ls => lsb [some (.inr (.inr (12, 0))), some (.inl a1), some (.inl a2), none, none, none] 0 ls) (keepsP_of rfl) ?_ 62 52 [some (.inr (.inr (12, 0))), some (.inl a1), some (.inl a2), none, some (.inl v4), none] [] w ?_ h
  · intro j ls st w hfx h
    obtain ⟨e0, e1, e2, -⟩ : _ = _ ∧ _ = _ ∧ _ = _ ∧ True := hfx
    try dsimp only at h
    by_cases hj : j = 27
    · subst hj
      rw [if_pos rfl] at h
      obtain ⟨v4, e4, h_1⟩ := lgI_some h
      obtain ⟨rfl, h_2⟩ := st0_some h_1
      clear h h_1
      have h := h_2
      try rw [callW_eq] at h
      exact WW.le (a := [some (.inr (.inr (12, 0))), some (.inl a1), some (.inl a2), none, some (.inl v4), none]) (by rw [hn]; rfl) (show _ = _ ∧ _ = _ ∧ _ = _ ∧ _ = _ ∧ True from ⟨e0, e1, e2, e4, trivial⟩) (h27 v4 w h)
    rw [if_neg hj] at h
    cases h
  · exact (show _ = _ ∧ _ = _ ∧ _ = _ ∧ True from ⟨rfl, rfl, rfl, trivial⟩)
set_option maxRecDepth 100000 in
set_option maxHeartbeats 4000000 in
theorem sX8_find_31 {N : Nat} {X : XT} (G : GX X cX8_find RX8) (hn : xnL X = 6) (hC : CRs X tX8_find (oF [(mX8_mostFrom N)]) (oF []) (oF [(mX8_nameLeaders N), (mX8_nameGuides N)])) {r : Wd} (hr : RTV X cX8_find r) (a1 : Int32) (a2 : Int32) : ∀ (n : Nat) (k52 : Int32 → Wd → Option (Wd)) (v4 : Int32) (v5 : Int32) (w : Wd), fX8_find_31 N n k52 v4 v5 w = some r → (∀ (v4 : Int32) (w : Wd), k52 v4 w = some r → WW X (pcAt tX8_find 52) [some (.inr (.inr (12, 0))), some (.inl a1), some (.inl a2), none, some (.inl v4), none] [] w) → WW X (pcAt tX8_find 31) [some (.inr (.inr (12, 0))), some (.inl a1), some (.inl a2), none, some (.inl v4), some (.inl v5)] [] w := by
  intro n
  induction n with
  | zero => intro k52 v4 v5 w h h52; cases h
  | succ n ih =>
    intro k52 v4 v5 w h h52
    refine run_sound (r := r) (X := X) (cc := cX8_find) (own := RX8) (tab := tX8_find) G (by rw [hn]; exact kX8_find) (oI := (oF [(mX8_mostFrom N)])) (oL := (oF [])) (oV := (oF [(mX8_nameLeaders N), (mX8_nameGuides N)])) (rI := (fun _ _ => none)) (rL := (fun _ _ => none)) (rV := (fun w => some w))
      (K := (fun j ls st w => if j = 31 then (lgI ls 4 fun v4 => lgI ls 5 fun v5 => st0 st (callW (fX8_find_31 N n k52 v4 v5) w)) else if j = 52 then (lgI ls 4 fun v4 => st0 st (k52 v4 w)) else none)) (fun _ _ _ _ hx => by cases hx) (fun _ _ _ _ hx => by cases hx) (fun w pc ls hx hd => hr w pc ls (Option.some.inj hx) hd) hC (fun ls => lsb [some (.inr (.inr (12, 0))), some (.inl a1), some (.inl a2), none, none, none] 0 ls) (keepsP_of rfl) ?_ 62 31 [some (.inr (.inr (12, 0))), some (.inl a1), some (.inl a2), none, some (.inl v4), some (.inl v5)] [] w ?_ h
    · intro j ls st w hfx h
      obtain ⟨e0, e1, e2, -⟩ : _ = _ ∧ _ = _ ∧ _ = _ ∧ True := hfx
      try dsimp only at h
      by_cases hj : j = 31
      · subst hj
        rw [if_pos rfl] at h
        obtain ⟨v4, e4, h_1⟩ := lgI_some h
        obtain ⟨v5, e5, h_2⟩ := lgI_some h_1
        obtain ⟨rfl, h_3⟩ := st0_some h_2
        clear h h_1 h_2
        have h := h_3
        try rw [callW_eq] at h
        exact WW.le (a := [some (.inr (.inr (12, 0))), some (.inl a1), some (.inl a2), none, some (.inl v4), some (.inl v5)]) (by rw [hn]; rfl) (show _ = _ ∧ _ = _ ∧ _ = _ ∧ _ = _ ∧ _ = _ ∧ True from ⟨e0, e1, e2, e4, e5, trivial⟩) (ih k52 v4 v5 w h h52)
      rw [if_neg hj] at h
      by_cases hj : j = 52
      · subst hj
        rw [if_pos rfl] at h
        obtain ⟨v4, e4, h_1⟩ := lgI_some h
        obtain ⟨rfl, h_2⟩ := st0_some h_1
        clear h h_1
        have h := h_2
        try rw [callW_eq] at h
        exact WW.le (a := [some (.inr (.inr (12, 0))), some (.inl a1), some (.inl a2), none, some (.inl v4), none]) (by rw [hn]; rfl) (show _ = _ ∧ _ = _ ∧ _ = _ ∧ _ = _ ∧ True from ⟨e0, e1, e2, e4, trivial⟩) (h52 v4 w h)
      rw [if_neg hj] at h
      cases h
    · exact (show _ = _ ∧ _ = _ ∧ _ = _ ∧ True from ⟨rfl, rfl, rfl, trivial⟩)
set_option maxRecDepth 100000 in
set_option maxHeartbeats 4000000 in
theorem sX8_find_27 {N : Nat} {X : XT} (G : GX X cX8_find RX8) (hn : xnL X = 6) (hC : CRs X tX8_find (oF [(mX8_mostFrom N)]) (oF []) (oF [(mX8_nameLeaders N), (mX8_nameGuides N)])) {r : Wd} (hr : RTV X cX8_find r) (a1 : Int32) (a2 : Int32) : ∀ (n : Nat) (k54 : Wd → Option (Wd)) (v4 : Int32) (w : Wd), fX8_find_27 N n k54 v4 w = some r → (∀ (w : Wd), k54 w = some r → WW X (pcAt tX8_find 54) [some (.inr (.inr (12, 0))), some (.inl a1), some (.inl a2), none, none, none] [] w) → WW X (pcAt tX8_find 27) [some (.inr (.inr (12, 0))), some (.inl a1), some (.inl a2), none, some (.inl v4), none] [] w := by
  intro n
  induction n with
  | zero => intro k54 v4 w h h54; cases h
  | succ n ih =>
    intro k54 v4 w h h54
    refine run_sound (r := r) (X := X) (cc := cX8_find) (own := RX8) (tab := tX8_find) G (by rw [hn]; exact kX8_find) (oI := (oF [(mX8_mostFrom N)])) (oL := (oF [])) (oV := (oF [(mX8_nameLeaders N), (mX8_nameGuides N)])) (rI := (fun _ _ => none)) (rL := (fun _ _ => none)) (rV := (fun w => some w))
      (K := (fun j ls st w => if j = 31 then (lgI ls 4 fun v4 => lgI ls 5 fun v5 => st0 st (callW (fX8_find_31 N N (fX8_find_52 N (fX8_find_27 N n k54)) v4 v5) w)) else if j = 54 then (st0 st (k54 w)) else none)) (fun _ _ _ _ hx => by cases hx) (fun _ _ _ _ hx => by cases hx) (fun w pc ls hx hd => hr w pc ls (Option.some.inj hx) hd) hC (fun ls => lsb [some (.inr (.inr (12, 0))), some (.inl a1), some (.inl a2), none, none, none] 0 ls) (keepsP_of rfl) ?_ 62 27 [some (.inr (.inr (12, 0))), some (.inl a1), some (.inl a2), none, some (.inl v4), none] [] w ?_ h
    · intro j ls st w hfx h
      obtain ⟨e0, e1, e2, -⟩ : _ = _ ∧ _ = _ ∧ _ = _ ∧ True := hfx
      try dsimp only at h
      by_cases hj : j = 31
      · subst hj
        rw [if_pos rfl] at h
        obtain ⟨v4, e4, h_1⟩ := lgI_some h
        obtain ⟨v5, e5, h_2⟩ := lgI_some h_1
        obtain ⟨rfl, h_3⟩ := st0_some h_2
        clear h h_1 h_2
        have h := h_3
        try rw [callW_eq] at h
        exact WW.le (a := [some (.inr (.inr (12, 0))), some (.inl a1), some (.inl a2), none, some (.inl v4), some (.inl v5)]) (by rw [hn]; rfl) (show _ = _ ∧ _ = _ ∧ _ = _ ∧ _ = _ ∧ _ = _ ∧ True from ⟨e0, e1, e2, e4, e5, trivial⟩) (sX8_find_31 G hn hC hr a1 a2 N (fX8_find_52 N (fX8_find_27 N n k54)) v4 v5 w h (fun v4 w h => (sX8_find_52 G hn hC hr a1 a2 (fX8_find_27 N n k54) v4 w h (fun v4 w h => (ih k54 v4 w h h54)))))
      rw [if_neg hj] at h
      by_cases hj : j = 54
      · subst hj
        rw [if_pos rfl] at h
        obtain ⟨rfl, h_1⟩ := st0_some h
        clear h
        have h := h_1
        try rw [callW_eq] at h
        exact WW.le (a := [some (.inr (.inr (12, 0))), some (.inl a1), some (.inl a2), none, none, none]) (by rw [hn]; rfl) (show _ = _ ∧ _ = _ ∧ _ = _ ∧ True from ⟨e0, e1, e2, trivial⟩) (h54 w h)
      rw [if_neg hj] at h
      cases h
    · exact (show _ = _ ∧ _ = _ ∧ _ = _ ∧ True from ⟨rfl, rfl, rfl, trivial⟩)
set_option maxRecDepth 100000 in
set_option maxHeartbeats 4000000 in
theorem sX8_find_23 {N : Nat} {X : XT} (G : GX X cX8_find RX8) (hn : xnL X = 6) (hC : CRs X tX8_find (oF [(mX8_mostFrom N)]) (oF []) (oF [(mX8_nameLeaders N), (mX8_nameGuides N)])) {r : Wd} (hr : RTV X cX8_find r) (a1 : Int32) (a2 : Int32) : ∀ (v3 : Int32) (w : Wd), fX8_find_23 N v3 w = some r → WW X (pcAt tX8_find 23) [some (.inr (.inr (12, 0))), some (.inl a1), some (.inl a2), some (.inl v3), none, none] [] w := by
  intro v3 w h
  refine run_sound (r := r) (X := X) (cc := cX8_find) (own := RX8) (tab := tX8_find) G (by rw [hn]; exact kX8_find) (oI := (oF [(mX8_mostFrom N)])) (oL := (oF [])) (oV := (oF [(mX8_nameLeaders N), (mX8_nameGuides N)])) (rI := (fun _ _ => none)) (rL := (fun _ _ => none)) (rV := (fun w => some w))
    (K := (fun j ls st w => if j = 27 then (lgI ls 4 fun v4 => st0 st (callW (fX8_find_27 N N (fX8_find_54 N) v4) w)) else none)) (fun _ _ _ _ hx => by cases hx) (fun _ _ _ _ hx => by cases hx) (fun w pc ls hx hd => hr w pc ls (Option.some.inj hx) hd) hC (fun ls => lsb [some (.inr (.inr (12, 0))), some (.inl a1), some (.inl a2), none, none, none] 0 ls) (keepsP_of rfl) ?_ 62 23 [some (.inr (.inr (12, 0))), some (.inl a1), some (.inl a2), some (.inl v3), none, none] [] w ?_ h
  · intro j ls st w hfx h
    obtain ⟨e0, e1, e2, -⟩ : _ = _ ∧ _ = _ ∧ _ = _ ∧ True := hfx
    try dsimp only at h
    by_cases hj : j = 27
    · subst hj
      rw [if_pos rfl] at h
      obtain ⟨v4, e4, h_1⟩ := lgI_some h
      obtain ⟨rfl, h_2⟩ := st0_some h_1
      clear h h_1
      have h := h_2
      try rw [callW_eq] at h
      exact WW.le (a := [some (.inr (.inr (12, 0))), some (.inl a1), some (.inl a2), none, some (.inl v4), none]) (by rw [hn]; rfl) (show _ = _ ∧ _ = _ ∧ _ = _ ∧ _ = _ ∧ True from ⟨e0, e1, e2, e4, trivial⟩) (sX8_find_27 G hn hC hr a1 a2 N (fX8_find_54 N) v4 w h (fun w h => (sX8_find_54 G hn hC hr a1 a2 w h)))
    rw [if_neg hj] at h
    cases h
  · exact (show _ = _ ∧ _ = _ ∧ _ = _ ∧ True from ⟨rfl, rfl, rfl, trivial⟩)
set_option maxRecDepth 100000 in
set_option maxHeartbeats 4000000 in
theorem sX8_find_11 {N : Nat} {X : XT} (G : GX X cX8_find RX8) (hn : xnL X = 6) (hC : CRs X tX8_find (oF [(mX8_mostFrom N)]) (oF []) (oF [(mX8_nameLeaders N), (mX8_nameGuides N)])) {r : Wd} (hr : RTV X cX8_find r) (a1 : Int32) (a2 : Int32) : ∀ (n : Nat) (k23 : Int32 → Wd → Option (Wd)) (v3 : Int32) (v4 : Int32) (w : Wd), fX8_find_11 N n k23 v3 v4 w = some r → (∀ (v3 : Int32) (w : Wd), k23 v3 w = some r → WW X (pcAt tX8_find 23) [some (.inr (.inr (12, 0))), some (.inl a1), some (.inl a2), some (.inl v3), none, none] [] w) → WW X (pcAt tX8_find 11) [some (.inr (.inr (12, 0))), some (.inl a1), some (.inl a2), some (.inl v3), some (.inl v4), none] [] w := by
  intro n
  induction n with
  | zero => intro k23 v3 v4 w h h23; cases h
  | succ n ih =>
    intro k23 v3 v4 w h h23
    refine run_sound (r := r) (X := X) (cc := cX8_find) (own := RX8) (tab := tX8_find) G (by rw [hn]; exact kX8_find) (oI := (oF [(mX8_mostFrom N)])) (oL := (oF [])) (oV := (oF [(mX8_nameLeaders N), (mX8_nameGuides N)])) (rI := (fun _ _ => none)) (rL := (fun _ _ => none)) (rV := (fun w => some w))
      (K := (fun j ls st w => if j = 11 then (lgI ls 3 fun v3 => lgI ls 4 fun v4 => st0 st (callW (fX8_find_11 N n k23 v3 v4) w)) else if j = 23 then (lgI ls 3 fun v3 => st0 st (k23 v3 w)) else none)) (fun _ _ _ _ hx => by cases hx) (fun _ _ _ _ hx => by cases hx) (fun w pc ls hx hd => hr w pc ls (Option.some.inj hx) hd) hC (fun ls => lsb [some (.inr (.inr (12, 0))), some (.inl a1), some (.inl a2), none, none, none] 0 ls) (keepsP_of rfl) ?_ 62 11 [some (.inr (.inr (12, 0))), some (.inl a1), some (.inl a2), some (.inl v3), some (.inl v4), none] [] w ?_ h
    · intro j ls st w hfx h
      obtain ⟨e0, e1, e2, -⟩ : _ = _ ∧ _ = _ ∧ _ = _ ∧ True := hfx
      try dsimp only at h
      by_cases hj : j = 11
      · subst hj
        rw [if_pos rfl] at h
        obtain ⟨v3, e3, h_1⟩ := lgI_some h
        obtain ⟨v4, e4, h_2⟩ := lgI_some h_1
        obtain ⟨rfl, h_3⟩ := st0_some h_2
        clear h h_1 h_2
        have h := h_3
        try rw [callW_eq] at h
        exact WW.le (a := [some (.inr (.inr (12, 0))), some (.inl a1), some (.inl a2), some (.inl v3), some (.inl v4), none]) (by rw [hn]; rfl) (show _ = _ ∧ _ = _ ∧ _ = _ ∧ _ = _ ∧ _ = _ ∧ True from ⟨e0, e1, e2, e3, e4, trivial⟩) (ih k23 v3 v4 w h h23)
      rw [if_neg hj] at h
      by_cases hj : j = 23
      · subst hj
        rw [if_pos rfl] at h
        obtain ⟨v3, e3, h_1⟩ := lgI_some h
        obtain ⟨rfl, h_2⟩ := st0_some h_1
        clear h h_1
        have h := h_2
        try rw [callW_eq] at h
        exact WW.le (a := [some (.inr (.inr (12, 0))), some (.inl a1), some (.inl a2), some (.inl v3), none, none]) (by rw [hn]; rfl) (show _ = _ ∧ _ = _ ∧ _ = _ ∧ _ = _ ∧ True from ⟨e0, e1, e2, e3, trivial⟩) (h23 v3 w h)
      rw [if_neg hj] at h
      cases h
    · exact (show _ = _ ∧ _ = _ ∧ _ = _ ∧ True from ⟨rfl, rfl, rfl, trivial⟩)
set_option maxRecDepth 100000 in
set_option maxHeartbeats 4000000 in
theorem crX8_find {N : Nat} {X : XT} (G : GX X cX8_find RX8) (hR : xR X = rmL 4) : CRs X tX8_find (oF [(mX8_mostFrom N)]) (oF []) (oF [(mX8_nameLeaders N), (mX8_nameGuides N)]) := by
  have hl : tX8_find.filter isInv = [(3, .invokevirtual 30, 0, 0, 3, 0, 0, [(0, 0), (0, 0)]), (90, .invokevirtual 49, 0, 0, 4, 0, 0, []), (114, .invokevirtual 53, 0, 1, 2, 0, 0, [(0, 0), (0, 0)])] := rfl
  intro e he
  rw [hl] at he
  simp only [List.mem_cons, List.not_mem_nil, or_false] at he
  rcases he with rfl | rfl | rfl
  · exact crV_V (idx := 30) G (by decide +kernel) (MX8_nameLeaders N) (cw_of (ps := [1233, 1235, 52, 160, 1236]) (by decide +kernel) (by decide +kernel)) ⟨by decide +kernel, by decide +kernel, by decide +kernel⟩ (by unfold rmOk; rw [hR]; exact ⟨by decide, by decide⟩)
  · exact crI_V (idx := 49) G (by decide +kernel) (MX8_mostFrom N) (cw_of (ps := [1242, 1244, 53, 160, 1245]) (by decide +kernel) (by decide +kernel)) ⟨by decide +kernel, by decide +kernel, by decide +kernel⟩ (by unfold rmOk; rw [hR]; exact ⟨by decide, by decide⟩)
  · exact crV_V (idx := 53) G (by decide +kernel) (MX8_nameGuides N) (cw_of (ps := [1247, 1249, 54, 160, 1250]) (by decide +kernel) (by decide +kernel)) ⟨by decide +kernel, by decide +kernel, by decide +kernel⟩ (by unfold rmOk; rw [hR]; exact ⟨by decide, by decide⟩)
set_option maxRecDepth 100000 in
set_option maxHeartbeats 4000000 in
theorem MX8_find (N : Nat) : SndV yX8_find cX8_find 6 none 4 3 true (mX8_find N) := by
  refine SndV.of tX8_find (by decide +kernel) rfl rfl ?_ ?_
  · intro as w x h
    obtain ⟨t1, rfl, h_1⟩ := xS1_some h
    obtain ⟨a1, t2, rfl, h_2⟩ := xI1_some h_1
    obtain ⟨a2, t3, rfl, h_3⟩ := xI1_some h_2
    obtain ⟨rfl, h_4⟩ := xN1_some h_3
    clear h h_1 h_2 h_3
    have h := h_4
    rw [callW_eq] at h
    exact ⟨fun _ => ⟨_, _, _, rfl, rfl, _, rfl, rfl⟩, rfl, Nat.le_of_ble_eq_true rfl⟩
  · intro X G hn hR as w r h hr
    have hC := crX8_find (N := N) G hR
    obtain ⟨t1, rfl, h_1⟩ := xS1_some h
    obtain ⟨a1, t2, rfl, h_2⟩ := xI1_some h_1
    obtain ⟨a2, t3, rfl, h_3⟩ := xI1_some h_2
    obtain ⟨rfl, h_4⟩ := xN1_some h_3
    clear h h_1 h_2 h_3
    have h := h_4
    rw [callW_eq] at h
    refine run_sound (r := r) (X := X) (cc := cX8_find) (own := RX8) (tab := tX8_find) G (by rw [hn]; exact kX8_find) (oI := (oF [(mX8_mostFrom N)])) (oL := (oF [])) (oV := (oF [(mX8_nameLeaders N), (mX8_nameGuides N)])) (rI := (fun _ _ => none)) (rL := (fun _ _ => none)) (rV := (fun w => some w))
      (K := (fun j ls st w => if j = 11 then (lgI ls 3 fun v3 => lgI ls 4 fun v4 => st0 st (callW (fX8_find_11 N N (fX8_find_23 N) v3 v4) w)) else none)) (fun _ _ _ _ hx => by cases hx) (fun _ _ _ _ hx => by cases hx) (fun w pc ls hx hd => hr w pc ls (Option.some.inj hx) hd) hC (fun ls => lsb [some (.inr (.inr (12, 0))), some (.inl a1), some (.inl a2), none, none, none] 0 ls) (keepsP_of rfl) ?_ 62 0 [some (.inr (.inr (12, 0))), some (.inl a1), some (.inl a2), none, none, none] [] w ?_ h
    · intro j ls st w hfx h
      obtain ⟨e0, e1, e2, -⟩ : _ = _ ∧ _ = _ ∧ _ = _ ∧ True := hfx
      try dsimp only at h
      by_cases hj : j = 11
      · subst hj
        rw [if_pos rfl] at h
        obtain ⟨v3, e3, h_1⟩ := lgI_some h
        obtain ⟨v4, e4, h_2⟩ := lgI_some h_1
        obtain ⟨rfl, h_3⟩ := st0_some h_2
        clear h h_1 h_2
        have h := h_3
        try rw [callW_eq] at h
        exact WW.le (a := [some (.inr (.inr (12, 0))), some (.inl a1), some (.inl a2), some (.inl v3), some (.inl v4), none]) (by rw [hn]; rfl) (show _ = _ ∧ _ = _ ∧ _ = _ ∧ _ = _ ∧ _ = _ ∧ True from ⟨e0, e1, e2, e3, e4, trivial⟩) (sX8_find_11 G hn hC hr a1 a2 N (fX8_find_23 N) v3 v4 w h (fun v3 w h => (sX8_find_23 G hn hC hr a1 a2 v3 w h)))
      rw [if_neg hj] at h
      cases h
    · exact (show _ = _ ∧ _ = _ ∧ _ = _ ∧ True from ⟨rfl, rfl, rfl, trivial⟩)

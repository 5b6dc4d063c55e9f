-- MoorGuides$Claims.clear()V
def tX0_clear : List EN := [
  (0, .aload_n 0, 0, 0, 0, 0, 0, []), (1, .iconst 0, 0, 0, 0, 0, 0, []), (2, .putfield 24, 0, 0, 0, 0, 0, []), (5, .return_, 0, 0, 0, 0, 0, [])]
noncomputable def pX0_clear (N : Nat) (w : Wd) : Option (Wd) :=
  some (setI w 4 0 0 (0 : Int32))
noncomputable def mX0_clear (N : Nat) (as : List AV) (w : Wd) : Option (Wd) := xS1 4 as fun t => xN1 t (callW (pX0_clear N) w)
set_option maxRecDepth 100000 in
set_option maxHeartbeats 4000000 in
theorem kX0_clear : TK cX0_clear RX0 1 tX0_clear := ⟨by decide +kernel, wok_of [712] (by decide +kernel) (by decide +kernel)⟩
set_option maxRecDepth 100000 in
set_option maxHeartbeats 4000000 in
theorem crX0_clear {N : Nat} {X : XT} (G : GX X cX0_clear RX0) (hR : xR X = rmL 1) : CRs X tX0_clear (oF []) (oF []) (oF []) := by
  have hl : tX0_clear.filter isInv = [] := rfl
  intro e he
  rw [hl] at he
  cases he
set_option maxRecDepth 100000 in
set_option maxHeartbeats 4000000 in
theorem MX0_clear (N : Nat) : SndV yX0_clear cX0_clear 1 none 1 1 true (mX0_clear N) := by
  refine SndV.of tX0_clear (by decide +kernel) rfl rfl ?_ ?_
  · intro as w x h
    obtain ⟨t1, rfl, h_1⟩ := xS1_some h
    obtain ⟨rfl, h_2⟩ := xN1_some h_1
    clear h h_1
    have h := h_2
    rw [callW_eq] at h
    exact ⟨fun _ => ⟨_, _, _, rfl, rfl, _, rfl, rfl⟩, rfl, Nat.le_of_ble_eq_true rfl⟩
  · intro X G hn hR as w r h hr
    have hC := crX0_clear (N := N) G hR
    obtain ⟨t1, rfl, h_1⟩ := xS1_some h
    obtain ⟨rfl, h_2⟩ := xN1_some h_1
    clear h h_1
    have h := h_2
    rw [callW_eq] at h
    refine run_sound (r := r) (X := X) (cc := cX0_clear) (own := RX0) (tab := tX0_clear) G (by rw [hn]; exact kX0_clear) (oI := (oF [])) (oL := (oF [])) (oV := (oF [])) (rI := (fun _ _ => none)) (rL := (fun _ _ => none)) (rV := (fun w => some w))
      (K := (fun j ls st w => none)) (fun _ _ _ _ hx => by cases hx) (fun _ _ _ _ hx => by cases hx) (fun w pc ls hx hd => hr w pc ls (Option.some.inj hx) hd) hC (fun ls => lsb [some (.inr (.inr (4, 0)))] 0 ls) (keepsP_of rfl) ?_ 6 0 [some (.inr (.inr (4, 0)))] [] w ?_ h
    · intro j ls st w hfx h
      obtain ⟨e0, -⟩ : _ = _ ∧ True := hfx
      try dsimp only at h
      cases h
    · exact (show _ = _ ∧ True from ⟨rfl, trivial⟩)
-- MoorGuides$Moor.allParts()I
def tX4_allParts : List EN := [
  (0, .iconst 1, 0, 0, 0, 1, 0, []), (1, .aload_n 0, 0, 0, 0, 0, 0, []), (2, .getfield 59, 0, 4, 0, 0, 0, []), (5, .ishl, 0, 0, 0, 0, 0, []),
  (6, .iconst 1, 0, 0, 0, 1, 0, []), (7, .isub, 0, 0, 0, 0, 0, []), (8, .ireturn, 0, 0, 0, 0, 0, [])]
noncomputable def pX4_allParts (N : Nat) (i0 : Nat) (w : Wd) : Option (Int32 × Wd) :=
  some ((((1 : Int32) <<< ((gI w 8 i0 0) &&& (31 : Int32))) - (1 : Int32)), w)
noncomputable def mX4_allParts (N : Nat) (as : List AV) (w : Wd) : Option (Int32 × Wd) := xR1 8 as fun i0 t => xN1 t (callW (pX4_allParts N i0) w)
set_option maxRecDepth 100000 in
set_option maxHeartbeats 4000000 in
theorem kX4_allParts : TK cX4_allParts RX4 1 tX4_allParts := ⟨by decide +kernel, wok_of [257] (by decide +kernel) (by decide +kernel)⟩
set_option maxRecDepth 100000 in
set_option maxHeartbeats 4000000 in
theorem crX4_allParts {N : Nat} {X : XT} (G : GX X cX4_allParts RX4) (hR : xR X = rmL 1) : CRs X tX4_allParts (oF []) (oF []) (oF []) := by
  have hl : tX4_allParts.filter isInv = [] := rfl
  intro e he
  rw [hl] at he
  cases he
set_option maxRecDepth 100000 in
set_option maxHeartbeats 4000000 in
theorem MX4_allParts (N : Nat) : SndI yX4_allParts cX4_allParts 1 (some .int) 1 1 true (mX4_allParts N) := by
  refine SndI.of tX4_allParts (by decide +kernel) rfl rfl ?_ ?_
  · intro as w x h
    obtain ⟨i0, t1, rfl, h_1⟩ := xR1_some h
    obtain ⟨rfl, h_2⟩ := xN1_some h_1
    clear h h_1
    have h := h_2
    rw [callW_eq] at h
    exact ⟨fun _ => ⟨_, _, _, rfl, rfl, _, rfl, rfl⟩, rfl, Nat.le_of_ble_eq_true rfl⟩
  · intro X G hn hR as w r h hr
    have hC := crX4_allParts (N := N) G hR
    obtain ⟨i0, t1, rfl, h_1⟩ := xR1_some h
    obtain ⟨rfl, h_2⟩ := xN1_some h_1
    clear h h_1
    have h := h_2
    rw [callW_eq] at h
    refine run_sound (r := r) (X := X) (cc := cX4_allParts) (own := RX4) (tab := tX4_allParts) G (by rw [hn]; exact kX4_allParts) (oI := (oF [])) (oL := (oF [])) (oV := (oF [])) (rI := (fun x w => some (x, w))) (rL := (fun _ _ => none)) (rV := (fun _ => none))
      (K := (fun j ls st w => none)) (fun x w pc ls hx hd => hr x w pc ls (Option.some.inj hx) hd) (fun _ _ _ _ hx => by cases hx) (fun _ _ _ hx => by cases hx) hC (fun ls => lsb [some (.inr (.inr (8, i0)))] 0 ls) (keepsP_of rfl) ?_ 9 0 [some (.inr (.inr (8, i0)))] [] w ?_ h
    · intro j ls st w hfx h
      obtain ⟨e0, -⟩ : _ = _ ∧ True := hfx
      try dsimp only at h
      cases h
    · exact (show _ = _ ∧ True from ⟨rfl, trivial⟩)
-- MoorGuides$Moor.distance(III)I
def tX4_distance : List EN := [
  (0, .iconst 1, 0, 0, 0, 1, 0, []), (1, .iload_n 1, 0, 0, 0, 0, 0, []), (2, .ishl, 0, 0, 0, 0, 0, []), (3, .iload_n 3, 0, 0, 0, 0, 0, []),
  (4, .iand, 0, 0, 0, 0, 0, []), (5, .istore 4, 0, 0, 0, 0, 0, []), (7, .iconst 0, 0, 0, 0, 0, 0, []), (8, .istore 5, 0, 0, 0, 0, 0, []),
  (10, .iload 5, 9, 0, 0, 0, 0, []), (12, .bipush 8, 0, 0, 0, 8, 0, []), (14, .if_icmp .ge 71, 0, 48, 0, 0, 0, []), (17, .iload 4, 0, 0, 0, 0, 0, []),
  (19, .iload_n 2, 0, 0, 0, 0, 0, []), (20, .ishr, 0, 0, 0, 0, 0, []), (21, .iconst 1, 0, 0, 0, 1, 0, []), (22, .iand, 0, 0, 0, 0, 0, []),
  (23, .ifCond .eq 6, 0, 19, 0, 0, 0, []), (26, .iload 5, 0, 0, 0, 0, 0, []), (28, .ireturn, 0, 0, 0, 0, 0, []), (29, .iload 4, 0, 0, 0, 0, 0, []),
  (31, .istore 6, 0, 0, 0, 0, 0, []), (33, .iconst 0, 0, 0, 0, 0, 0, []), (34, .istore 7, 0, 0, 0, 0, 0, []), (36, .iload 7, 24, 0, 0, 0, 0, []),
  (38, .aload_n 0, 0, 0, 0, 0, 0, []), (39, .getfield 59, 0, 4, 0, 0, 0, []), (42, .if_icmp .ge 31, 0, 42, 0, 0, 0, []), (45, .iload 4, 0, 0, 0, 0, 0, []),
  (47, .iload 7, 0, 0, 0, 0, 0, []), (49, .ishr, 0, 0, 0, 0, 0, []), (50, .iconst 1, 0, 0, 0, 1, 0, []), (51, .iand, 0, 0, 0, 0, 0, []),
  (52, .ifCond .eq 15, 0, 40, 0, 0, 0, []), (55, .iload 6, 0, 0, 0, 0, 0, []), (57, .aload_n 0, 0, 0, 0, 0, 0, []), (58, .getfield 18, 0, 4, 3, 0, 0, []),
  (61, .iload 7, 0, 0, 0, 0, 0, []), (63, .iaload, 0, 0, 0, 0, 0, []), (64, .ior, 0, 0, 0, 0, 0, []), (65, .istore 6, 0, 0, 0, 0, 0, []),
  (67, .iinc 7 1, 0, 0, 0, 1, 0, []), (70, .goto (-34), 0, 23, 0, 0, 0, []), (73, .iload 6, 43, 0, 0, 0, 0, []), (75, .iload_n 3, 0, 0, 0, 0, 0, []),
  (76, .iand, 0, 0, 0, 0, 0, []), (77, .istore 4, 0, 0, 0, 0, 0, []), (79, .iinc 5 1, 0, 0, 0, 1, 0, []), (82, .goto (-72), 0, 8, 0, 0, 0, []),
  (85, .bipush (-2), 0, 0, 0, (-2), 0, []), (87, .ireturn, 0, 0, 0, 0, 0, [])]
noncomputable def fX4_distance_42 (N : Nat) (i0 : Nat) (a2 : Int32) (a3 : Int32) (k8 : Int32 → Int32 → Wd → Option (Int32 × Wd)) (v5 : Int32) (v6 : Int32) (w : Wd) : Option (Int32 × Wd) :=
  k8 (v6 &&& a3) (v5 + (1 : Int32)) w
noncomputable def fX4_distance_23 (N : Nat) (i0 : Nat) (a2 : Int32) (a3 : Int32) : Nat → (Int32 → Int32 → Wd → Option (Int32 × Wd)) → Int32 → Int32 → Int32 → Int32 → Wd → Option (Int32 × Wd)
  | 0, _, _, _, _, _, _ => none
  | n + 1, k42, v4, v5, v6, v7, w =>
    if v7 < (gI w 8 i0 0) then
      if ((v4 >>> (v7 &&& (31 : Int32))) &&& (1 : Int32)) = 0 then callW (fX4_distance_23 N i0 a2 a3 n k42 v4 v5 v6 (v7 + (1 : Int32))) w else
      (ldI w 32 i0 v7 8).bind fun x1 =>
      callW (fX4_distance_23 N i0 a2 a3 n k42 v4 v5 (v6 ||| x1) (v7 + (1 : Int32))) w
    else
    k42 v5 v6 w
noncomputable def fX4_distance_8 (N : Nat) (i0 : Nat) (a2 : Int32) (a3 : Int32) : Nat → Int32 → Int32 → Wd → Option (Int32 × Wd)
  | 0, _, _, _ => none
  | n + 1, v4, v5, w =>
    if v5 < (8 : Int32) then
      if ((v4 >>> (a2 &&& (31 : Int32))) &&& (1 : Int32)) = 0 then
        callW (fX4_distance_23 N i0 a2 a3 N (fX4_distance_42 N i0 a2 a3 (fX4_distance_8 N i0 a2 a3 n)) v4 v5 v4 (0 : Int32)) w
      else
      some (v5, w)
    else
    some ((-2 : Int32), w)
noncomputable def pX4_distance (N : Nat) (i0 : Nat) (a1 : Int32) (a2 : Int32) (a3 : Int32) (w : Wd) : Option (Int32 × Wd) :=
  callW (fX4_distance_8 N i0 a2 a3 N (((1 : Int32) <<< (a1 &&& (31 : Int32))) &&& a3) (0 : Int32)) w
noncomputable def mX4_distance (N : Nat) (as : List AV) (w : Wd) : Option (Int32 × Wd) := xR1 8 as fun i0 t => xI1 t fun a1 t => xI1 t fun a2 t => xI1 t fun a3 t => xN1 t (callW (pX4_distance N i0 a1 a2 a3) w)
set_option maxRecDepth 100000 in
set_option maxHeartbeats 4000000 in
theorem kX4_distance : TK cX4_distance RX4 8 tX4_distance := ⟨by decide +kernel, wok_of [257, 270] (by decide +kernel) (by decide +kernel)⟩
set_option maxRecDepth 100000 in
set_option maxHeartbeats 4000000 in
theorem sX4_distance_42 {N : Nat} {X : XT} (G : GX X cX4_distance RX4) (hn : xnL X = 8) (hC : CRs X tX4_distance (oF []) (oF []) (oF [])) {r : Int32 × Wd} (hr : RTI X cX4_distance r) (i0 : Nat) (a1 : Int32) (a2 : Int32) (a3 : Int32) : ∀ (k8 : Int32 → Int32 → Wd → Option (Int32 × Wd)) (v5 : Int32) (v6 : Int32) (w : Wd), fX4_distance_42 N i0 a2 a3 k8 v5 v6 w = some r → (∀ (v4 : Int32) (v5 : Int32) (w : Wd), k8 v4 v5 w = some r → WW X (pcAt tX4_distance 8) [some (.inr (.inr (8, i0))), some (.inl a1), some (.inl a2), some (.inl a3), some (.inl v4), some (.inl v5), none, none] [] w) → WW X (pcAt tX4_distance 42) [some (.inr (.inr (8, i0))), some (.inl a1), some (.inl a2), some (.inl a3), none, some (.inl v5), some (.inl v6), none] [] w := by
  intro k8 v5 v6 w h h8
  refine run_sound (r := r) (X := X) (cc := cX4_distance) (own := RX4) (tab := tX4_distance) G (by rw [hn]; exact kX4_distance) (oI := (oF [])) (oL := (oF [])) (oV := (oF [])) (rI := (fun x w => some (x, w))) (rL := (fun _ _ => none)) (rV := (fun _ => none))
    (K := (fun j ls st w => if j = 8 then (lgI ls 4 fun v4 => lgI ls 5 fun v5 => st0 st (k8 v4 v5 w)) else none)) (fun x w pc ls hx hd => hr x w pc ls (Option.some.inj hx) hd) (fun _ _ _ _ hx => by cases hx) (fun _ _ _ hx => by cases hx) hC (fun ls => lsb [some (.inr (.inr (8, i0))), some (.inl a1), some (.inl a2), some (.inl a3), none, none, none, none] 0 ls) (keepsP_of rfl) ?_ 52 42 [some (.inr (.inr (8, i0))), some (.inl a1), some (.inl a2), some (.inl a3), none, some (.inl v5), some (.inl v6), none] [] w ?_ h
  · intro j ls st w hfx h
    obtain ⟨e0, e1, e2, e3, -⟩ : _ = _ ∧ _ = _ ∧ _ = _ ∧ _ = _ ∧ True := hfx
    try dsimp only at h
    by_cases hj : j = 8
    · subst hj
      rw [if_pos rfl] at h
      obtain ⟨v4, e4, h_1⟩ := lgI_some h
      obtain ⟨v5, e5, h_2⟩ := lgI_some h_1
      obtain ⟨rfl, h_3⟩ := st0_some h_2
      clear h h_1 h_2
      have h := h_3
      try rw [callW_eq] at h
      exact WW.le (a := [some (.inr (.inr (8, i0))), some (.inl a1), some (.inl a2), some (.inl a3), some (.inl v4), some (.inl v5), none, none]) (by rw [hn]; rfl) (show _ = _ ∧ _ = _ ∧ _ = _ ∧ _ = _ ∧ _ = _ ∧ _ = _ ∧ True from ⟨e0, e1, e2, e3, e4, e5, trivial⟩) (h8 v4 v5 w h)
    rw [if_neg hj] at h
    cases h
  · exact (show _ = _ ∧ _ = _ ∧ _ = _ ∧ _ = _ ∧ True from ⟨rfl, rfl, rfl, rfl, trivial⟩)
set_option maxRecDepth 100000 in
set_option maxHeartbeats 4000000 in
theorem sX4_distance_23 {N : Nat} {X : XT} (G : GX X cX4_distance RX4) (hn : xnL X = 8) (hC : CRs X tX4_distance (oF []) (oF []) (oF [])) {r : Int32 × Wd} (hr : RTI X cX4_distance r) (i0 : Nat) (a1 : Int32) (a2 : Int32) (a3 : Int32) : ∀ (n : Nat) (k42 : Int32 → Int32 → Wd → Option (Int32 × Wd)) (v4 : Int32) (v5 : Int32) (v6 : Int32) (v7 : Int32) (w : Wd), fX4_distance_23 N i0 a2 a3 n k42 v4 v5 v6 v7 w = some r → (∀ (v5 : Int32) (v6 : Int32) (w : Wd), k42 v5 v6 w = some r → WW X (pcAt tX4_distance 42) [some (.inr (.inr (8, i0))), some (.inl a1), some (.inl a2), some (.inl a3), none, some (.inl v5), some (.inl v6), none] [] w) → WW X (pcAt tX4_distance 23) [some (.inr (.inr (8, i0))), some (.inl a1), some (.inl a2), some (.inl a3), some (.inl v4), some (.inl v5), some (.inl v6), some (.inl v7)] [] w := by
  intro n
  induction n with
  | zero => intro k42 v4 v5 v6 v7 w h h42; cases h
  | succ n ih =>
    intro k42 v4 v5 v6 v7 w h h42
    refine run_sound (r := r) (X := X) (cc := cX4_distance) (own := RX4) (tab := tX4_distance) G (by rw [hn]; exact kX4_distance) (oI := (oF [])) (oL := (oF [])) (oV := (oF [])) (rI := (fun x w => some (x, w))) (rL := (fun _ _ => none)) (rV := (fun _ => none))
      (K := (fun j ls st w => if j = 23 then (lgI ls 4 fun v4 => lgI ls 5 fun v5 => lgI ls 6 fun v6 => lgI ls 7 fun v7 => st0 st (callW (fX4_distance_23 N i0 a2 a3 n k42 v4 v5 v6 v7) w)) else if j = 42 then (lgI ls 5 fun v5 => lgI ls 6 fun v6 => st0 st (k42 v5 v6 w)) else none)) (fun x w pc ls hx hd => hr x w pc ls (Option.some.inj hx) hd) (fun _ _ _ _ hx => by cases hx) (fun _ _ _ hx => by cases hx) hC (fun ls => lsb [some (.inr (.inr (8, i0))), some (.inl a1), some (.inl a2), some (.inl a3), none, none, none, none] 0 ls) (keepsP_of rfl) ?_ 52 23 [some (.inr (.inr (8, i0))), some (.inl a1), some (.inl a2), some (.inl a3), some (.inl v4), some (.inl v5), some (.inl v6), some (.inl v7)] [] w ?_ h
    · intro j ls st w hfx h
      obtain ⟨e0, e1, e2, e3, -⟩ : _ = _ ∧ _ = _ ∧ _ = _ ∧ _ = _ ∧ True := hfx
      try dsimp only at h
      by_cases hj : j = 23
      · subst hj
        rw [if_pos rfl] at h
        obtain ⟨v4, e4, h_1⟩ := lgI_some h
        obtain ⟨v5, e5, h_2⟩ := lgI_some h_1
        obtain ⟨v6, e6, h_3⟩ := lgI_some h_2
        obtain ⟨v7, e7, h_4⟩ := lgI_some h_3
        obtain ⟨rfl, h_5⟩ := st0_some h_4
        clear h h_1 h_2 h_3 h_4
        have h := h_5
        try rw [callW_eq] at h
        exact WW.le (a := [some (.inr (.inr (8, i0))), some (.inl a1), some (.inl a2), some (.inl a3), some (.inl v4), some (.inl v5), some (.inl v6), some (.inl v7)]) (by rw [hn]; rfl) (show _ = _ ∧ _ = _ ∧ _ = _ ∧ _ = _ ∧ _ = _ ∧ _ = _ ∧ _ = _ ∧ _ = _ ∧ True from ⟨e0, e1, e2, e3, e4, e5, e6, e7, trivial⟩) (ih k42 v4 v5 v6 v7 w h h42)
      rw [if_neg hj] at h
      by_cases hj : j = 42
      · subst hj
        rw [if_pos rfl] at h
        obtain ⟨v5, e5, h_1⟩ := lgI_some h
        obtain ⟨v6, e6, h_2⟩ := lgI_some h_1
        obtain ⟨rfl, h_3⟩ := st0_some h_2
        clear h h_1 h_2
        have h := h_3
        try rw [callW_eq] at h
        exact WW.le (a := [some (.inr (.inr (8, i0))), some (.inl a1), some (.inl a2), some (.inl a3), none, some (.inl v5), some (.inl v6), none]) (by rw [hn]; rfl) (show _ = _ ∧ _ = _ ∧ _ = _ ∧ _ = _ ∧ _ = _ ∧ _ = _ ∧ True from ⟨e0, e1, e2, e3, e5, e6, trivial⟩) (h42 v5 v6 w h)
      rw [if_neg hj] at h
      cases h
    · exact (show _ = _ ∧ _ = _ ∧ _ = _ ∧ _ = _ ∧ True from ⟨rfl, rfl, rfl, rfl, trivial⟩)
set_option maxRecDepth 100000 in
set_option maxHeartbeats 4000000 in
theorem sX4_distance_8 {N : Nat} {X : XT} (G : GX X cX4_distance RX4) (hn : xnL X = 8) (hC : CRs X tX4_distance (oF []) (oF []) (oF [])) {r : Int32 × Wd} (hr : RTI X cX4_distance r) (i0 : Nat) (a1 : Int32) (a2 : Int32) (a3 : Int32) : ∀ (n : Nat) (v4 : Int32) (v5 : Int32) (w : Wd), fX4_distance_8 N i0 a2 a3 n v4 v5 w = some r → WW X (pcAt tX4_distance 8) [some (.inr (.inr (8, i0))), some (.inl a1), some (.inl a2), some (.inl a3), some (.inl v4), some (.inl v5), none, none] [] w := by
  intro n
  induction n with
  | zero => intro v4 v5 w h; cases h
  | succ n ih =>
    intro v4 v5 w h
    refine run_sound (r := r) (X := X) (cc := cX4_distance) (own := RX4) (tab := tX4_distance) G (by rw [hn]; exact kX4_distance) (oI := (oF [])) (oL := (oF [])) (oV := (oF [])) (rI := (fun x w => some (x, w))) (rL := (fun _ _ => none)) (rV := (fun _ => none))
      (K := (fun j ls st w => if j = 23 then (lgI ls 4 fun v4 => lgI ls 5 fun v5 => lgI ls 6 fun v6 => lgI ls 7 fun v7 => st0 st (callW (fX4_distance_23 N i0 a2 a3 N (fX4_distance_42 N i0 a2 a3 (fX4_distance_8 N i0 a2 a3 n)) v4 v5 v6 v7) w)) else none)) (fun x w pc ls hx hd => hr x w pc ls (Option.some.inj hx) hd) (fun _ _ _ _ hx => by cases hx) (fun _ _ _ hx => by cases hx) hC (fun ls => lsb [some (.inr (.inr (8, i0))), some (.inl a1), some (.inl a2), some (.inl a3), none, none, none, none] 0 ls) (keepsP_of rfl) ?_ 52 8 [some (.inr (.inr (8, i0))), some (.inl a1), some (.inl a2), some (.inl a3), some (.inl v4), some (.inl v5), none, none] [] w ?_ h
    · intro j ls st w hfx h
      obtain ⟨e0, e1, e2, e3, -⟩ : _ = _ ∧ _ = _ ∧ _ = _ ∧ _ = _ ∧ True := hfx
      try dsimp only at h
      by_cases hj : j = 23
      · subst hj
        rw [if_pos rfl] at h
        obtain ⟨v4, e4, h_1⟩ := lgI_some h
        obtain ⟨v5, e5, h_2⟩ := lgI_some h_1
        obtain ⟨v6, e6, h_3⟩ := lgI_some h_2
        obtain ⟨v7, e7, h_4⟩ := lgI_some h_3
        obtain ⟨rfl, h_5⟩ := st0_some h_4
        clear h h_1 h_2 h_3 h_4
        have h := h_5
        try rw [callW_eq] at h
        exact WW.le (a := [some (.inr (.inr (8, i0))), some (.inl a1), some (.inl a2), some (.inl a3), some (.inl v4), some (.inl v5), some (.inl v6), some (.inl v7)]) (by rw [hn]; rfl) (show _ = _ ∧ _ = _ ∧ _ = _ ∧ _ = _ ∧ _ = _ ∧ _ = _ ∧ _ = _ ∧ _ = _ ∧ True from ⟨e0, e1, e2, e3, e4, e5, e6, e7, trivial⟩) (sX4_distance_23 G hn hC hr i0 a1 a2 a3 N (fX4_distance_42 N i0 a2 a3 (fX4_distance_8 N i0 a2 a3 n)) v4 v5 v6 v7 w h (fun v5 v6 w h => (sX4_distance_42 G hn hC hr i0 a1 a2 a3 (fX4_distance_8 N i0 a2 a3 n) v5 v6 w h (fun v4 v5 w h => (ih v4 v5 w h)))))
      rw [if_neg hj] at h
      cases h
    · exact (show _ = _ ∧ _ = _ ∧ _ = _ ∧ _ = _ ∧ True from ⟨rfl, rfl, rfl, rfl, trivial⟩)
set_option maxRecDepth 100000 in
set_option maxHeartbeats 4000000 in
theorem crX4_distance {N : Nat} {X : XT} (G : GX X cX4_distance RX4) (hR : xR X = rmL 1) : CRs X tX4_distance (oF []) (oF []) (oF []) := by
  have hl : tX4_distance.filter isInv = [] := rfl
  intro e he
  rw [hl] at he
  cases he
set_option maxRecDepth 100000 in
set_option maxHeartbeats 4000000 in
theorem MX4_distance (N : Nat) : SndI yX4_distance cX4_distance 8 (some .int) 1 4 true (mX4_distance N) := by
  refine SndI.of tX4_distance (by decide +kernel) rfl rfl ?_ ?_
  · intro as w x h
    obtain ⟨i0, t1, rfl, h_1⟩ := xR1_some h
    obtain ⟨a1, t2, rfl, h_2⟩ := xI1_some h_1
    obtain ⟨a2, t3, rfl, h_3⟩ := xI1_some h_2
    obtain ⟨a3, t4, rfl, h_4⟩ := xI1_some h_3
    obtain ⟨rfl, h_5⟩ := xN1_some h_4
    clear h h_1 h_2 h_3 h_4
    have h := h_5
    rw [callW_eq] at h
    exact ⟨fun _ => ⟨_, _, _, rfl, rfl, _, rfl, rfl⟩, rfl, Nat.le_of_ble_eq_true rfl⟩
  · intro X G hn hR as w r h hr
    have hC := crX4_distance (N := N) G hR
    obtain ⟨i0, t1, rfl, h_1⟩ := xR1_some h
    obtain ⟨a1, t2, rfl, h_2⟩ := xI1_some h_1
    obtain ⟨a2, t3, rfl, h_3⟩ := xI1_some h_2
    obtain ⟨a3, t4, rfl, h_4⟩ := xI1_some h_3
    obtain ⟨rfl, h_5⟩ := xN1_some h_4
    clear h h_1 h_2 h_3 h_4
    have h := h_5
    rw [callW_eq] at h
    refine run_sound (r := r) (X := X) (cc := cX4_distance) (own := RX4) (tab := tX4_distance) G (by rw [hn]; exact kX4_distance) (oI := (oF [])) (oL := (oF [])) (oV := (oF [])) (rI := (fun x w => some (x, w))) (rL := (fun _ _ => none)) (rV := (fun _ => none))
      (K := (fun j ls st w => if j = 8 then (lgI ls 4 fun v4 => lgI ls 5 fun v5 => st0 st (callW (fX4_distance_8 N i0 a2 a3 N v4 v5) w)) else none)) (fun x w pc ls hx hd => hr x w pc ls (Option.some.inj hx) hd) (fun _ _ _ _ hx => by cases hx) (fun _ _ _ hx => by cases hx) hC (fun ls => lsb [some (.inr (.inr (8, i0))), some (.inl a1), some (.inl a2), some (.inl a3), none, none, none, none] 0 ls) (keepsP_of rfl) ?_ 52 0 [some (.inr (.inr (8, i0))), some (.inl a1), some (.inl a2), some (.inl a3), none, none, none, none] [] w ?_ h
    · intro j ls st w hfx h
      obtain ⟨e0, e1, e2, e3, -⟩ : _ = _ ∧ _ = _ ∧ _ = _ ∧ _ = _ ∧ True := hfx
      try dsimp only at h
      by_cases hj : j = 8
      · subst hj
        rw [if_pos rfl] at h
        obtain ⟨v4, e4, h_1⟩ := lgI_some h
        obtain ⟨v5, e5, h_2⟩ := lgI_some h_1
        obtain ⟨rfl, h_3⟩ := st0_some h_2
        clear h h_1 h_2
        have h := h_3
        try rw [callW_eq] at h
        exact WW.le (a := [some (.inr (.inr (8, i0))), some (.inl a1), some (.inl a2), some (.inl a3), some (.inl v4), some (.inl v5), none, none]) (by rw [hn]; rfl) (show _ = _ ∧ _ = _ ∧ _ = _ ∧ _ = _ ∧ _ = _ ∧ _ = _ ∧ True from ⟨e0, e1, e2, e3, e4, e5, trivial⟩) (sX4_distance_8 G hn hC hr i0 a1 a2 a3 N v4 v5 w h)
      rw [if_neg hj] at h
      cases h
    · exact (show _ = _ ∧ _ = _ ∧ _ = _ ∧ _ = _ ∧ True from ⟨rfl, rfl, rfl, rfl, trivial⟩)
-- MoorGuides$Moor.isNear(II)Z
def tX4_isNear : List EN := [
  (0, .aload_n 0, 0, 0, 0, 0, 0, []), (1, .iload_n 1, 0, 0, 0, 0, 0, []), (2, .iload_n 2, 0, 0, 0, 0, 0, []), (3, .aload_n 0, 0, 0, 0, 0, 0, []),
  (4, .invokevirtual 93, 0, 0, 1, 0, 0, []), (7, .invokevirtual 97, 0, 1, 4, 0, 0, []), (10, .istore_n 3, 0, 0, 0, 0, 0, []), (11, .iload_n 3, 0, 0, 0, 0, 0, []),
  (12, .ifCond .lt 15, 0, 15, 0, 0, 0, []), (15, .iload_n 3, 0, 0, 0, 0, 0, []), (16, .aload_n 0, 0, 0, 0, 0, 0, []), (17, .getfield 75, 0, 4, 15, 0, 0, []),
  (20, .if_icmp .gt 7, 0, 15, 0, 0, 0, []), (23, .iconst 1, 0, 0, 0, 1, 0, []), (24, .goto 4, 0, 16, 0, 0, 0, []), (27, .iconst 0, 0, 0, 0, 0, 0, []),
  (28, .ireturn, 0, 0, 0, 0, 0, [])]
noncomputable def pX4_isNear (N : Nat) (i0 : Nat) (a1 : Int32) (a2 : Int32) (w : Wd) : Option (Int32 × Wd) :=
  (callW (pX4_allParts N i0) w).bind fun r1 =>
  (callW (pX4_distance N i0 a1 a2 r1.1) r1.2).bind fun r2 =>
  if r2.1 < 0 then some ((0 : Int32), r2.2) else
  if (gI r2.2 8 i0 15) < r2.1 then some ((0 : Int32), r2.2) else
  some ((1 : Int32), r2.2)
noncomputable def mX4_isNear (N : Nat) (as : List AV) (w : Wd) : Option (Int32 × Wd) := xR1 8 as fun i0 t => xI1 t fun a1 t => xI1 t fun a2 t => xN1 t (callW (pX4_isNear N i0 a1 a2) w)
set_option maxRecDepth 100000 in
set_option maxHeartbeats 4000000 in
theorem kX4_isNear : TK cX4_isNear RX4 4 tX4_isNear := ⟨by decide +kernel, wok_of [312] (by decide +kernel) (by decide +kernel)⟩
set_option maxRecDepth 100000 in
set_option maxHeartbeats 4000000 in
theorem crX4_isNear {N : Nat} {X : XT} (G : GX X cX4_isNear RX4) (hR : xR X = rmL 2) : CRs X tX4_isNear (oF [(mX4_allParts N), (mX4_distance N)]) (oF []) (oF []) := by
  have hl : tX4_isNear.filter isInv = [(4, .invokevirtual 93, 0, 0, 1, 0, 0, []), (7, .invokevirtual 97, 0, 1, 4, 0, 0, [])] := rfl
  intro e he
  rw [hl] at he
  simp only [List.mem_cons, List.not_mem_nil, or_false] at he
  rcases he with rfl | rfl
  · exact crI_V (idx := 93) G (by decide +kernel) (MX4_allParts N) (cw_of (ps := [1152, 1046, 1047, 149, 1048]) (by decide +kernel) (by decide +kernel)) ⟨by decide +kernel, by decide +kernel, by decide +kernel⟩ (by unfold rmOk; rw [hR]; exact ⟨by decide, by decide⟩)
  · exact crI_V (idx := 97) G (by decide +kernel) (MX4_distance N) (cw_of (ps := [1153, 1050, 1051, 149, 1052]) (by decide +kernel) (by decide +kernel)) ⟨by decide +kernel, by decide +kernel, by decide +kernel⟩ (by unfold rmOk; rw [hR]; exact ⟨by decide, by decide⟩)
set_option maxRecDepth 100000 in
set_option maxHeartbeats 4000000 in
theorem MX4_isNear (N : Nat) : SndI yX4_isNear cX4_isNear 4 (some .boolean) 2 3 true (mX4_isNear N) := by
  refine SndI.ofZ tX4_isNear (by decide +kernel) rfl rfl ?_ ?_
  · intro as w x h
    obtain ⟨i0, t1, rfl, h_1⟩ := xR1_some h
    obtain ⟨a1, t2, rfl, h_2⟩ := xI1_some h_1
    obtain ⟨a2, t3, rfl, h_3⟩ := xI1_some h_2
    obtain ⟨rfl, h_4⟩ := xN1_some h_3
    clear h h_1 h_2 h_3
    have h := h_4
    rw [callW_eq] at h
    exact ⟨fun _ => ⟨_, _, _, rfl, rfl, _, rfl, rfl⟩, rfl, Nat.le_of_ble_eq_true rfl⟩
  · intro X G hn hR as w r h hr
    have hC := crX4_isNear (N := N) G hR
    obtain ⟨i0, t1, rfl, h_1⟩ := xR1_some h
    obtain ⟨a1, t2, rfl, h_2⟩ := xI1_some h_1
    obtain ⟨a2, t3, rfl, h_3⟩ := xI1_some h_2
    obtain ⟨rfl, h_4⟩ := xN1_some h_3
    clear h h_1 h_2 h_3
    have h := h_4
    rw [callW_eq] at h
    refine run_sound (r := r) (X := X) (cc := cX4_isNear) (own := RX4) (tab := tX4_isNear) G (by rw [hn]; exact kX4_isNear) (oI := (oF [(mX4_allParts N), (mX4_distance N)])) (oL := (oF [])) (oV := (oF [])) (rI := retZ) (rL := (fun _ _ => none)) (rV := (fun _ => none))
      (K := (fun j ls st w => none)) hr (fun _ _ _ _ hx => by cases hx) (fun _ _ _ hx => by cases hx) hC (fun ls => lsb [some (.inr (.inr (8, i0))), some (.inl a1), some (.inl a2), none] 0 ls) (keepsP_of rfl) ?_ 19 0 [some (.inr (.inr (8, i0))), some (.inl a1), some (.inl a2), none] [] w ?_ h
    · intro j ls st w hfx h
      obtain ⟨e0, e1, e2, -⟩ : _ = _ ∧ _ = _ ∧ _ = _ ∧ True := hfx
      try dsimp only at h
      cases h
    · exact (show _ = _ ∧ _ = _ ∧ _ = _ ∧ True from ⟨rfl, rfl, rfl, trivial⟩)
-- MoorGuides$Claims.clash(LMoorGuides$Moor;II)Z
def tX0_clash : List EN := [
  (0, .aload_n 0, 0, 0, 0, 0, 0, []), (1, .getfield 9, 0, 0, 1, 0, 0, []), (4, .iload_n 2, 0, 0, 0, 0, 0, []), (5, .iaload, 0, 0, 0, 0, 0, []),
  (6, .aload_n 0, 0, 0, 0, 0, 0, []), (7, .getfield 9, 0, 0, 1, 0, 0, []), (10, .iload_n 3, 0, 0, 0, 0, 0, []), (11, .iaload, 0, 0, 0, 0, 0, []),
  (12, .if_icmp .ne 24, 0, 22, 0, 0, 0, []), (15, .aload_n 0, 0, 0, 0, 0, 0, []), (16, .getfield 18, 0, 0, 3, 0, 0, []), (19, .iload_n 2, 0, 0, 0, 0, 0, []),
  (20, .iaload, 0, 0, 0, 0, 0, []), (21, .aload_n 0, 0, 0, 0, 0, 0, []), (22, .getfield 18, 0, 0, 3, 0, 0, []), (25, .iload_n 3, 0, 0, 0, 0, 0, []),
  (26, .iaload, 0, 0, 0, 0, 0, []), (27, .if_icmp .eq 7, 0, 20, 0, 0, 0, []), (30, .iconst 1, 0, 0, 0, 1, 0, []), (31, .goto 4, 0, 21, 0, 0, 0, []),
  (34, .iconst 0, 0, 0, 0, 0, 0, []), (35, .ireturn, 0, 0, 0, 0, 0, []), (36, .aload_n 1, 0, 0, 0, 0, 0, []), (37, .aload_n 0, 0, 0, 0, 0, 0, []),
  (38, .getfield 18, 0, 0, 3, 0, 0, []), (41, .iload_n 2, 0, 0, 0, 0, 0, []), (42, .iaload, 0, 0, 0, 0, 0, []), (43, .aload_n 0, 0, 0, 0, 0, 0, []),
  (44, .getfield 18, 0, 0, 3, 0, 0, []), (47, .iload_n 3, 0, 0, 0, 0, 0, []), (48, .iaload, 0, 0, 0, 0, 0, []), (49, .invokevirtual 32, 0, 0, 3, 0, 0, []),
  (52, .ireturn, 0, 0, 0, 0, 0, [])]
noncomputable def pX0_clash (N : Nat) (i1 : Nat) (a2 : Int32) (a3 : Int32) (w : Wd) : Option (Int32 × Wd) :=
  (ldI w 17 0 a2 12).bind fun x1 =>
  (ldI w 17 0 a3 12).bind fun x2 =>
  if x1 = x2 then
    (ldI w 19 0 a2 12).bind fun x3 =>
    (ldI w 19 0 a3 12).bind fun x4 =>
    if x3 = x4 then some ((0 : Int32), w) else
    some ((1 : Int32), w)
  else
  (ldI w 19 0 a2 12).bind fun x5 =>
  (ldI w 19 0 a3 12).bind fun x6 =>
  (callW (pX4_isNear N i1 x5 x6) w).bind fun r7 =>
  retZ r7.1 r7.2
noncomputable def mX0_clash (N : Nat) (as : List AV) (w : Wd) : Option (Int32 × Wd) := xS1 4 as fun t => xR1 8 t fun i1 t => xI1 t fun a2 t => xI1 t fun a3 t => xN1 t (callW (pX0_clash N i1 a2 a3) w)
set_option maxRecDepth 100000 in
set_option maxHeartbeats 4000000 in
theorem kX0_clash : TK cX0_clash RX0 4 tX0_clash := ⟨by decide +kernel, wok_of [714, 714, 716, 716, 716, 716] (by decide +kernel) (by decide +kernel)⟩
set_option maxRecDepth 100000 in
set_option maxHeartbeats 4000000 in
theorem crX0_clash {N : Nat} {X : XT} (G : GX X cX0_clash RX0) (hR : xR X = rmL 3) : CRs X tX0_clash (oF [(mX4_isNear N)]) (oF []) (oF []) := by
  have hl : tX0_clash.filter isInv = [(49, .invokevirtual 32, 0, 0, 3, 0, 0, [])] := rfl
  intro e he
  rw [hl] at he
  simp only [List.mem_cons, List.not_mem_nil, or_false] at he
  rcases he with rfl
  · exact crI_V (idx := 32) G (by decide +kernel) (MX4_isNear N) (cw_of (ps := [1433, 1149, 1150, 149, 1151]) (by decide +kernel) (by decide +kernel)) ⟨by decide +kernel, by decide +kernel, by decide +kernel⟩ (by unfold rmOk; rw [hR]; exact ⟨by decide, by decide⟩)
set_option maxRecDepth 100000 in
set_option maxHeartbeats 4000000 in
theorem MX0_clash (N : Nat) : SndI yX0_clash cX0_clash 4 (some .boolean) 3 4 true (mX0_clash N) := by
  refine SndI.ofZ tX0_clash (by decide +kernel) rfl rfl ?_ ?_
  · intro as w x h
    obtain ⟨t1, rfl, h_1⟩ := xS1_some h
    obtain ⟨i1, t2, rfl, h_2⟩ := xR1_some h_1
    obtain ⟨a2, t3, rfl, h_3⟩ := xI1_some h_2
    obtain ⟨a3, t4, rfl, h_4⟩ := xI1_some h_3
    obtain ⟨rfl, h_5⟩ := xN1_some h_4
    clear h h_1 h_2 h_3 h_4
    have h := h_5
    rw [callW_eq] at h
    exact ⟨fun _ => ⟨_, _, _, rfl, rfl, _, rfl, rfl⟩, rfl, Nat.le_of_ble_eq_true rfl⟩
  · intro X G hn hR as w r h hr
    have hC := crX0_clash (N := N) G hR
    obtain ⟨t1, rfl, h_1⟩ := xS1_some h
    obtain ⟨i1, t2, rfl, h_2⟩ := xR1_some h_1
    obtain ⟨a2, t3, rfl, h_3⟩ := xI1_some h_2
    obtain ⟨a3, t4, rfl, h_4⟩ := xI1_some h_3
    obtain ⟨rfl, h_5⟩ := xN1_some h_4
    clear h h_1 h_2 h_3 h_4
    have h := h_5
    rw [callW_eq] at h
    refine run_sound (r := r) (X := X) (cc := cX0_clash) (own := RX0) (tab := tX0_clash) G (by rw [hn]; exact kX0_clash) (oI := (oF [(mX4_isNear N)])) (oL := (oF [])) (oV := (oF [])) (rI := retZ) (rL := (fun _ _ => none)) (rV := (fun _ => none))
      (K := (fun j ls st w => none)) hr (fun _ _ _ _ hx => by cases hx) (fun _ _ _ hx => by cases hx) hC (fun ls => lsb [some (.inr (.inr (4, 0))), some (.inr (.inr (8, i1))), some (.inl a2), some (.inl a3)] 0 ls) (keepsP_of rfl) ?_ 35 0 [some (.inr (.inr (4, 0))), some (.inr (.inr (8, i1))), some (.inl a2), some (.inl a3)] [] w ?_ h
    · intro j ls st w hfx h
      obtain ⟨e0, e1, e2, e3, -⟩ : _ = _ ∧ _ = _ ∧ _ = _ ∧ _ = _ ∧ True := hfx
      try dsimp only at h
      cases h
    · exact (show _ = _ ∧ _ = _ ∧ _ = _ ∧ _ = _ ∧ True from ⟨rfl, rfl, rfl, rfl, trivial⟩)
-- MoorGuides$Claims.add(LMoorGuides$Moor;III)I
def tX0_add : List EN := [
  (0, .aload_n 0, 0, 0, 0, 0, 0, []), (1, .getfield 24, 0, 0, 0, 0, 0, []), (4, .bipush 12, 0, 0, 0, 12, 0, []), (6, .if_icmp .lt 5, 0, 6, 0, 0, 0, []),
  (9, .iconst (-1), 0, 0, 0, (-1), 0, []), (10, .ireturn, 0, 0, 0, 0, 0, []), (11, .aload_n 0, 0, 0, 0, 0, 0, []), (12, .getfield 24, 0, 0, 0, 0, 0, []),
  (15, .istore 5, 0, 0, 0, 0, 0, []), (17, .aload_n 0, 0, 0, 0, 0, 0, []), (18, .getfield 9, 0, 0, 1, 0, 0, []), (21, .iload 5, 0, 0, 0, 0, 0, []),
  (23, .iload_n 2, 0, 0, 0, 0, 0, []), (24, .iastore, 0, 0, 0, 0, 0, []), (25, .aload_n 0, 0, 0, 0, 0, 0, []), (26, .getfield 15, 0, 0, 2, 0, 0, []),
  (29, .iload 5, 0, 0, 0, 0, 0, []), (31, .iload_n 3, 0, 0, 0, 0, 0, []), (32, .iastore, 0, 0, 0, 0, 0, []), (33, .aload_n 0, 0, 0, 0, 0, 0, []),
  (34, .getfield 18, 0, 0, 3, 0, 0, []), (37, .iload 5, 0, 0, 0, 0, 0, []), (39, .iload 4, 0, 0, 0, 0, 0, []), (41, .iastore, 0, 0, 0, 0, 0, []),
  (42, .aload_n 0, 0, 0, 0, 0, 0, []), (43, .getfield 21, 0, 0, 4, 0, 0, []), (46, .iload 5, 0, 0, 0, 0, 0, []), (48, .iconst 0, 0, 0, 0, 0, 0, []),
  (49, .iastore, 0, 0, 0, 0, 0, []), (50, .iconst 0, 0, 0, 0, 0, 0, []), (51, .istore 6, 0, 0, 0, 0, 0, []), (53, .iload 6, 32, 0, 0, 0, 0, []),
  (55, .iload 5, 0, 0, 0, 0, 0, []), (57, .if_icmp .ge 60, 0, 68, 0, 0, 0, []), (60, .aload_n 0, 0, 0, 0, 0, 0, []), (61, .getfield 15, 0, 0, 2, 0, 0, []),
  (64, .iload 6, 0, 0, 0, 0, 0, []), (66, .iaload, 0, 0, 0, 0, 0, []), (67, .iload_n 3, 0, 0, 0, 0, 0, []), (68, .if_icmp .ne 43, 0, 66, 0, 0, 0, []),
  (71, .aload_n 0, 0, 0, 0, 0, 0, []), (72, .aload_n 1, 0, 0, 0, 0, 0, []), (73, .iload 5, 0, 0, 0, 0, 0, []), (75, .iload 6, 0, 0, 0, 0, 0, []),
  (77, .invokevirtual 28, 0, 0, 4, 0, 0, []), (80, .ifCond .eq 31, 0, 66, 0, 0, 0, []), (83, .aload_n 0, 0, 0, 0, 0, 0, []), (84, .getfield 21, 0, 0, 4, 0, 0, []),
  (87, .iload 5, 0, 0, 0, 0, 0, []), (89, .dup2, 0, 0, 0, 0, 0, []), (90, .iaload, 0, 0, 0, 0, 0, []), (91, .iconst 1, 0, 0, 0, 1, 0, []),
  (92, .iload 6, 0, 0, 0, 0, 0, []), (94, .ishl, 0, 0, 0, 0, 0, []), (95, .ior, 0, 0, 0, 0, 0, []), (96, .iastore, 0, 0, 0, 0, 0, []),
  (97, .aload_n 0, 0, 0, 0, 0, 0, []), (98, .getfield 21, 0, 0, 4, 0, 0, []), (101, .iload 6, 0, 0, 0, 0, 0, []), (103, .dup2, 0, 0, 0, 0, 0, []),
  (104, .iaload, 0, 0, 0, 0, 0, []), (105, .iconst 1, 0, 0, 0, 1, 0, []), (106, .iload 5, 0, 0, 0, 0, 0, []), (108, .ishl, 0, 0, 0, 0, 0, []),
  (109, .ior, 0, 0, 0, 0, 0, []), (110, .iastore, 0, 0, 0, 0, 0, []), (111, .iinc 6 1, 0, 0, 0, 1, 0, []), (114, .goto (-61), 0, 31, 0, 0, 0, []),
  (117, .aload_n 0, 69, 0, 0, 0, 0, []), (118, .dup, 0, 0, 0, 0, 0, []), (119, .getfield 24, 0, 0, 0, 0, 0, []), (122, .iconst 1, 0, 0, 0, 1, 0, []),
  (123, .iadd, 0, 0, 0, 0, 0, []), (124, .putfield 24, 0, 0, 0, 0, 0, []), (127, .iload 5, 0, 0, 0, 0, 0, []), (129, .ireturn, 0, 0, 0, 0, 0, [])]
noncomputable def fX0_add_68 (N : Nat) (v5 : Int32) (w : Wd) : Option (Int32 × Wd) :=
  some (v5, (setI w 4 0 0 ((gI w 4 0 0) + (1 : Int32))))
noncomputable def fX0_add_31 (N : Nat) (i1 : Nat) (a3 : Int32) : Nat → (Int32 → Wd → Option (Int32 × Wd)) → Int32 → Int32 → Wd → Option (Int32 × Wd)
  | 0, _, _, _, _ => none
  | n + 1, k68, v5, v6, w =>
    if v6 < v5 then
      (ldI w 18 0 v6 12).bind fun x1 =>
      if x1 = a3 then
        (callW (pX0_clash N i1 v5 v6) w).bind fun r2 =>
        if r2.1 = 0 then callW (fX0_add_31 N i1 a3 n k68 v5 (v6 + (1 : Int32))) r2.2 else
        (ldI r2.2 20 0 v5 12).bind fun x3 =>
        (stI r2.2 20 0 v5 12 (x3 ||| ((1 : Int32) <<< (v6 &&& (31 : Int32))))).bind fun w4 =>
        (ldI w4 20 0 v6 12).bind fun x5 =>
        (stI w4 20 0 v6 12 (x5 ||| ((1 : Int32) <<< (v5 &&& (31 : Int32))))).bind fun w6 =>
        callW (fX0_add_31 N i1 a3 n k68 v5 (v6 + (1 : Int32))) w6
      else
      callW (fX0_add_31 N i1 a3 n k68 v5 (v6 + (1 : Int32))) w
    else
    k68 v5 w
noncomputable def pX0_add (N : Nat) (i1 : Nat) (a2 : Int32) (a3 : Int32) (a4 : Int32) (w : Wd) : Option (Int32 × Wd) :=
  if (gI w 4 0 0) < (12 : Int32) then
    (stI w 17 0 (gI w 4 0 0) 12 a2).bind fun w1 =>
    (stI w1 18 0 (gI w 4 0 0) 12 a3).bind fun w2 =>
    (stI w2 19 0 (gI w 4 0 0) 12 a4).bind fun w3 =>
    (stI w3 20 0 (gI w 4 0 0) 12 (0 : Int32)).bind fun w4 =>
    callW (fX0_add_31 N i1 a3 N (fX0_add_68 N) (gI w 4 0 0) (0 : Int32)) w4
  else
  some ((-1 : Int32), w)
noncomputable def mX0_add (N : Nat) (as : List AV) (w : Wd) : Option (Int32 × Wd) := xS1 4 as fun t => xR1 8 t fun i1 t => xI1 t fun a2 t => xI1 t fun a3 t => xI1 t fun a4 t => xN1 t (callW (pX0_add N i1 a2 a3 a4) w)
set_option maxRecDepth 100000 in
set_option maxHeartbeats 4000000 in
theorem kX0_add : TK cX0_add RX0 7 tX0_add := ⟨by decide +kernel, wok_of [712, 712, 714, 715, 716, 717, 715, 717, 717, 712, 712] (by decide +kernel) (by decide +kernel)⟩
set_option maxRecDepth 100000 in
set_option maxHeartbeats 4000000 in
theorem sX0_add_68 {N : Nat} {X : XT} (G : GX X cX0_add RX0) (hn : xnL X = 7) (hC : CRs X tX0_add (oF [(mX0_clash N)]) (oF []) (oF [])) {r : Int32 × Wd} (hr : RTI X cX0_add r) (i1 : Nat) (a2 : Int32) (a3 : Int32) (a4 : Int32) : ∀ (v5 : Int32) (w : Wd), fX0_add_68 N v5 w = some r → WW X (pcAt tX0_add 68) [some (.inr (.inr (4, 0))), some (.inr (.inr (8, i1))), some (.inl a2), some (.inl a3), some (.inl a4), some (.inl v5), none] [] w := by
  intro v5 w h
  refine run_sound (r := r) (X := X) (cc := cX0_add) (own := RX0) (tab := tX0_add) G (by rw [hn]; exact kX0_add) (oI := (oF [(mX0_clash N)])) (oL := (oF [])) (oV := (oF [])) (rI := (fun x w => some (x, w))) (rL := (fun _ _ => none)) (rV := (fun _ => none))
    (K := (fun j ls st w => none)) (fun x w pc ls hx hd => hr x w pc ls (Option.some.inj hx) hd) (fun _ _ _ _ hx => by cases hx) (fun _ _ _ hx => by cases hx) hC (fun ls => lsb [some (.inr (.inr (4, 0))), some (.inr (.inr (8, i1))), some (.inl a2), some (.inl a3), some (.inl a4), none, none] 0 ls) (keepsP_of rfl) ?_ 78 68 [some (.inr (.inr (4, 0))), some (.inr (.inr (8, i1))), some (.inl a2), some (.inl a3), some (.inl a4), some (.inl v5), none] [] w ?_ h
  · intro j ls st w hfx h
    obtain ⟨e0, e1, e2, e3, e4, -⟩ : _ = _ ∧ _ = _ ∧ _ = _ ∧ _ = _ ∧ _ = _ ∧ True := hfx
    try dsimp only at h
    cases h
  · exact (show _ = _ ∧ _ = _ ∧ _ = _ ∧ _ = _ ∧ _ = _ ∧ True from ⟨rfl, rfl, rfl, rfl, rfl, trivial⟩)
set_option maxRecDepth 100000 in
set_option maxHeartbeats 4000000 in
theorem sX0_add_31 {N : Nat} {X : XT} (G : GX X cX0_add RX0) (hn : xnL X = 7) (hC : CRs X tX0_add (oF [(mX0_clash N)]) (oF []) (oF [])) {r : Int32 × Wd} (hr : RTI X cX0_add r) (i1 : Nat) (a2 : Int32) (a3 : Int32) (a4 : Int32) : ∀ (n : Nat) (k68 : Int32 → Wd → Option (Int32 × Wd)) (v5 : Int32) (v6 : Int32) (w : Wd), fX0_add_31 N i1 a3 n k68 v5 v6 w = some r → (∀ (v5 : Int32) (w : Wd), k68 v5 w = some r → WW X (pcAt tX0_add 68) [some (.inr (.inr (4, 0))), some (.inr (.inr (8, i1))), some (.inl a2), some (.inl a3), some (.inl a4), some (.inl v5), none] [] w) → WW X (pcAt tX0_add 31) [some (.inr (.inr (4, 0))), some (.inr (.inr (8, i1))), some (.inl a2), some (.inl a3), some (.inl a4), some (.inl v5), some (.inl v6)] [] w := by
  intro n
  induction n with
  | zero => intro k68 v5 v6 w h h68; cases h
  | succ n ih =>
    intro k68 v5 v6 w h h68
    refine run_sound (r := r) (X := X) (cc := cX0_add) (own := RX0) (tab := tX0_add) G (by rw [hn]; exact kX0_add) (oI := (oF [(mX0_clash N)])) (oL := (oF [])) (oV := (oF [])) (rI := (fun x w => some (x, w))) (rL := (fun _ _ => none)) (rV := (fun _ => none))
      (K := (fun j ls st w => if j = 31 then (lgI ls 5 fun v5 => lgI ls 6 fun v6 => st0 st (callW (fX0_add_31 N i1 a3 n k68 v5 v6) w)) else if j = 68 then (lgI ls 5 fun v5 => st0 st (k68 v5 w)) else none)) (fun x w pc ls hx hd => hr x w pc ls (Option.some.inj hx) hd) (fun _ _ _ _ hx => by cases hx) (fun _ _ _ hx => by cases hx) hC (fun ls => lsb [some (.inr (.inr (4, 0))), some (.inr (.inr (8, i1))), some (.inl a2), some (.inl a3), some (.inl a4), none, none] 0 ls) (keepsP_of rfl) ?_ 78 31 [some (.inr (.inr (4, 0))), some (.inr (.inr (8, i1))), some (.inl a2), some (.inl a3), some (.inl a4), some (.inl v5), some (.inl v6)] [] w ?_ h
    · intro j ls st w hfx h
      obtain ⟨e0, e1, e2, e3, e4, -⟩ : _ = _ ∧ _ = _ ∧ _ = _ ∧ _ = _ ∧ _ = _ ∧ True := hfx
      try dsimp only at h
      by_cases hj : j = 31
      · subst hj
        rw [if_pos rfl] at h
        obtain ⟨v5, e5, h_1⟩ := lgI_some h
        obtain ⟨v6, e6, h_2⟩ := lgI_some h_1
        obtain ⟨rfl, h_3⟩ := st0_some h_2
        clear h h_1 h_2
        have h := h_3
        try rw [callW_eq] at h
        exact WW.le (a := [some (.inr (.inr (4, 0))), some (.inr (.inr (8, i1))), some (.inl a2), some (.inl a3), some (.inl a4), some (.inl v5), some (.inl v6)]) (by rw [hn]; rfl) (show _ = _ ∧ _ = _ ∧ _ = _ ∧ _ = _ ∧ _ = _ ∧ _ = _ ∧ _ = _ ∧ True from ⟨e0, e1, e2, e3, e4, e5, e6, trivial⟩) (ih k68 v5 v6 w h h68)
      rw [if_neg hj] at h
      by_cases hj : j = 68
      · subst hj
        rw [if_pos rfl] at h
        obtain ⟨v5, e5, h_1⟩ := lgI_some h
        obtain ⟨rfl, h_2⟩ := st0_some h_1
        clear h h_1
        have h := h_2
        try rw [callW_eq] at h
        exact WW.le (a := [some (.inr (.inr (4, 0))), some (.inr (.inr (8, i1))), some (.inl a2), some (.inl a3), some (.inl a4), some (.inl v5), none]) (by rw [hn]; rfl) (show _ = _ ∧ _ = _ ∧ _ = _ ∧ _ = _ ∧ _ = _ ∧ _ = _ ∧ True from ⟨e0, e1, e2, e3, e4, e5, trivial⟩) (h68 v5 w h)
      rw [if_neg hj] at h
      cases h
    · exact (show _ = _ ∧ _ = _ ∧ _ = _ ∧ _ = _ ∧ _ = _ ∧ True from ⟨rfl, rfl, rfl, rfl, rfl, trivial⟩)
set_option maxRecDepth 100000 in
set_option maxHeartbeats 4000000 in
theorem crX0_add {N : Nat} {X : XT} (G : GX X cX0_add RX0) (hR : xR X = rmL 4) : CRs X tX0_add (oF [(mX0_clash N)]) (oF []) (oF []) := by
  have hl : tX0_add.filter isInv = [(77, .invokevirtual 28, 0, 0, 4, 0, 0, [])] := rfl
  intro e he
  rw [hl] at he
  simp only [List.mem_cons, List.not_mem_nil, or_false] at he
  rcases he with rfl
  · exact crI_V (idx := 28) G (by decide +kernel) (MX0_clash N) (cw_of (ps := [1429, 1431, 68, 163, 1432]) (by decide +kernel) (by decide +kernel)) ⟨by decide +kernel, by decide +kernel, by decide +kernel⟩ (by unfold rmOk; rw [hR]; exact ⟨by decide, by decide⟩)
set_option maxRecDepth 100000 in
set_option maxHeartbeats 4000000 in
theorem MX0_add (N : Nat) : SndI yX0_add cX0_add 7 (some .int) 4 5 true (mX0_add N) := by
  refine SndI.of tX0_add (by decide +kernel) rfl rfl ?_ ?_
  · intro as w x h
    obtain ⟨t1, rfl, h_1⟩ := xS1_some h
    obtain ⟨i1, t2, rfl, h_2⟩ := xR1_some h_1
    obtain ⟨a2, t3, rfl, h_3⟩ := xI1_some h_2
    obtain ⟨a3, t4, rfl, h_4⟩ := xI1_some h_3
    obtain ⟨a4, t5, rfl, h_5⟩ := xI1_some h_4
    obtain ⟨rfl, h_6⟩ := xN1_some h_5
    clear h h_1 h_2 h_3 h_4 h_5
    have h := h_6
    rw [callW_eq] at h
    exact ⟨fun _ => ⟨_, _, _, rfl, rfl, _, rfl, rfl⟩, rfl, Nat.le_of_ble_eq_true rfl⟩
  · intro X G hn hR as w r h hr
    have hC := crX0_add (N := N) G hR
    obtain ⟨t1, rfl, h_1⟩ := xS1_some h
    obtain ⟨i1, t2, rfl, h_2⟩ := xR1_some h_1
    obtain ⟨a2, t3, rfl, h_3⟩ := xI1_some h_2
    obtain ⟨a3, t4, rfl, h_4⟩ := xI1_some h_3
    obtain ⟨a4, t5, rfl, h_5⟩ := xI1_some h_4
    obtain ⟨rfl, h_6⟩ := xN1_some h_5
    clear h h_1 h_2 h_3 h_4 h_5
    have h := h_6
    rw [callW_eq] at h
    refine run_sound (r := r) (X := X) (cc := cX0_add) (own := RX0) (tab := tX0_add) G (by rw [hn]; exact kX0_add) (oI := (oF [(mX0_clash N)])) (oL := (oF [])) (oV := (oF [])) (rI := (fun x w => some (x, w))) (rL := (fun _ _ => none)) (rV := (fun _ => none))
      (K := (fun j ls st w => if j = 31 then (lgI ls 5 fun v5 => lgI ls 6 fun v6 => st0 st (callW (fX0_add_31 N i1 a3 N (fX0_add_68 N) v5 v6) w)) else none)) (fun x w pc ls hx hd => hr x w pc ls (Option.some.inj hx) hd) (fun _ _ _ _ hx => by cases hx) (fun _ _ _ hx => by cases hx) hC (fun ls => lsb [some (.inr (.inr (4, 0))), some (.inr (.inr (8, i1))), some (.inl a2), some (.inl a3), some (.inl a4), none, none] 0 ls) (keepsP_of rfl) ?_ 78 0 [some (.inr (.inr (4, 0))), some (.inr (.inr (8, i1))), some (.inl a2), some (.inl a3), some (.inl a4), none, none] [] w ?_ h
    · intro j ls st w hfx h
      obtain ⟨e0, e1, e2, e3, e4, -⟩ : _ = _ ∧ _ = _ ∧ _ = _ ∧ _ = _ ∧ _ = _ ∧ True := hfx
      try dsimp only at h
      by_cases hj : j = 31
      · subst hj
        rw [if_pos rfl] at h
        obtain ⟨v5, e5, h_1⟩ := lgI_some h
        obtain ⟨v6, e6, h_2⟩ := lgI_some h_1
        obtain ⟨rfl, h_3⟩ := st0_some h_2
        clear h h_1 h_2
        have h := h_3
        try rw [callW_eq] at h
        exact WW.le (a := [some (.inr (.inr (4, 0))), some (.inr (.inr (8, i1))), some (.inl a2), some (.inl a3), some (.inl a4), some (.inl v5), some (.inl v6)]) (by rw [hn]; rfl) (show _ = _ ∧ _ = _ ∧ _ = _ ∧ _ = _ ∧ _ = _ ∧ _ = _ ∧ _ = _ ∧ True from ⟨e0, e1, e2, e3, e4, e5, e6, trivial⟩) (sX0_add_31 G hn hC hr i1 a2 a3 a4 N (fX0_add_68 N) v5 v6 w h (fun v5 w h => (sX0_add_68 G hn hC hr i1 a2 a3 a4 v5 w h)))
      rw [if_neg hj] at h
      cases h
    · exact (show _ = _ ∧ _ = _ ∧ _ = _ ∧ _ = _ ∧ _ = _ ∧ True from ⟨rfl, rfl, rfl, rfl, rfl, trivial⟩)
-- java/lang/Integer.bitCount(I)I
def tJ6_bitCount_0f7a4 : List EN := [
  (0, .iload_n 0, 0, 0, 0, 0, 0, []), (1, .iload_n 0, 0, 0, 0, 0, 0, []), (2, .iconst 1, 0, 0, 0, 1, 0, []), (3, .iushr, 0, 0, 0, 0, 0, []),
  (4, .ldc_w 265, 0, 0, 0, 1431655765, 0, []), (7, .iand, 0, 0, 0, 0, 0, []), (8, .isub, 0, 0, 0, 0, 0, []), (9, .istore_n 0, 0, 0, 0, 0, 0, []),
  (10, .iload_n 0, 0, 0, 0, 0, 0, []), (11, .ldc_w 266, 0, 0, 0, 858993459, 0, []), (14, .iand, 0, 0, 0, 0, 0, []), (15, .iload_n 0, 0, 0, 0, 0, 0, []),
  (16, .iconst 2, 0, 0, 0, 2, 0, []), (17, .iushr, 0, 0, 0, 0, 0, []), (18, .ldc_w 266, 0, 0, 0, 858993459, 0, []), (21, .iand, 0, 0, 0, 0, 0, []),
  (22, .iadd, 0, 0, 0, 0, 0, []), (23, .istore_n 0, 0, 0, 0, 0, 0, []), (24, .iload_n 0, 0, 0, 0, 0, 0, []), (25, .iload_n 0, 0, 0, 0, 0, 0, []),
  (26, .iconst 4, 0, 0, 0, 4, 0, []), (27, .iushr, 0, 0, 0, 0, 0, []), (28, .iadd, 0, 0, 0, 0, 0, []), (29, .ldc_w 267, 0, 0, 0, 252645135, 0, []),
  (32, .iand, 0, 0, 0, 0, 0, []), (33, .istore_n 0, 0, 0, 0, 0, 0, []), (34, .iload_n 0, 0, 0, 0, 0, 0, []), (35, .iload_n 0, 0, 0, 0, 0, 0, []),
  (36, .bipush 8, 0, 0, 0, 8, 0, []), (38, .iushr, 0, 0, 0, 0, 0, []), (39, .iadd, 0, 0, 0, 0, 0, []), (40, .istore_n 0, 0, 0, 0, 0, 0, []),
  (41, .iload_n 0, 0, 0, 0, 0, 0, []), (42, .iload_n 0, 0, 0, 0, 0, 0, []), (43, .bipush 16, 0, 0, 0, 16, 0, []), (45, .iushr, 0, 0, 0, 0, 0, []),
  (46, .iadd, 0, 0, 0, 0, 0, []), (47, .istore_n 0, 0, 0, 0, 0, 0, []), (48, .iload_n 0, 0, 0, 0, 0, 0, []), (49, .bipush 63, 0, 0, 0, 63, 0, []),
  (51, .iand, 0, 0, 0, 0, 0, []), (52, .ireturn, 0, 0, 0, 0, 0, [])]
noncomputable def pJ6_bitCount_0f7a4 (N : Nat) (a0 : Int32) (w : Wd) : Option (Int32 × Wd) :=
  some (((((((((a0 - ((a0.toUInt32 >>> ((1 : Int32).toUInt32 &&& Int32.toUInt32 31)).toInt32 &&& (1431655765 : Int32))) &&& (858993459 : Int32)) + (((a0 - ((a0.toUInt32 >>> ((1 : Int32).toUInt32 &&& Int32.toUInt32 31)).toInt32 &&& (1431655765 : Int32))).toUInt32 >>> ((2 : Int32).toUInt32 &&& Int32.toUInt32 31)).toInt32 &&& (858993459 : Int32))) + ((((a0 - ((a0.toUInt32 >>> ((1 : Int32).toUInt32 &&& Int32.toUInt32 31)).toInt32 &&& (1431655765 : Int32))) &&& (858993459 : Int32)) + (((a0 - ((a0.toUInt32 >>> ((1 : Int32).toUInt32 &&& Int32.toUInt32 31)).toInt32 &&& (1431655765 : Int32))).toUInt32 >>> ((2 : Int32).toUInt32 &&& Int32.toUInt32 31)).toInt32 &&& (858993459 : Int32))).toUInt32 >>> ((4 : Int32).toUInt32 &&& Int32.toUInt32 31)).toInt32) &&& (252645135 : Int32)) + ((((((a0 - ((a0.toUInt32 >>> ((1 : Int32).toUInt32 &&& Int32.toUInt32 31)).toInt32 &&& (1431655765 : Int32))) &&& (858993459 : Int32)) + (((a0 - ((a0.toUInt32 >>> ((1 : Int32).toUInt32 &&& Int32.toUInt32 31)).toInt32 &&& (1431655765 : Int32))).toUInt32 >>> ((2 : Int32).toUInt32 &&& Int32.toUInt32 31)).toInt32 &&& (858993459 : Int32))) + ((((a0 - ((a0.toUInt32 >>> ((1 : Int32).toUInt32 &&& Int32.toUInt32 31)).toInt32 &&& (1431655765 : Int32))) &&& (858993459 : Int32)) + (((a0 - ((a0.toUInt32 >>> ((1 : Int32).toUInt32 &&& Int32.toUInt32 31)).toInt32 &&& (1431655765 : Int32))).toUInt32 >>> ((2 : Int32).toUInt32 &&& Int32.toUInt32 31)).toInt32 &&& (858993459 : Int32))).toUInt32 >>> ((4 : Int32).toUInt32 &&& Int32.toUInt32 31)).toInt32) &&& (252645135 : Int32)).toUInt32 >>> ((8 : Int32).toUInt32 &&& Int32.toUInt32 31)).toInt32) + (((((((a0 - ((a0.toUInt32 >>> ((1 : Int32).toUInt32 &&& Int32.toUInt32 31)).toInt32 &&& (1431655765 : Int32))) &&& (858993459 : Int32)) + (((a0 - ((a0.toUInt32 >>> ((1 : Int32).toUInt32 &&& Int32.toUInt32 31)).toInt32 &&& (1431655765 : Int32))).toUInt32 >>> ((2 : Int32).toUInt32 &&& Int32.toUInt32 31)).toInt32 &&& (858993459 : Int32))) + ((((a0 - ((a0.toUInt32 >>> ((1 : Int32).toUInt32 &&& Int32.toUInt32 31)).toInt32 &&& (1431655765 : Int32))) &&& (858993459 : Int32)) + (((a0 - ((a0.toUInt32 >>> ((1 : Int32).toUInt32 &&& Int32.toUInt32 31)).toInt32 &&& (1431655765 : Int32))).toUInt32 >>> ((2 : Int32).toUInt32 &&& Int32.toUInt32 31)).toInt32 &&& (858993459 : Int32))).toUInt32 >>> ((4 : Int32).toUInt32 &&& Int32.toUInt32 31)).toInt32) &&& (252645135 : Int32)) + ((((((a0 - ((a0.toUInt32 >>> ((1 : Int32).toUInt32 &&& Int32.toUInt32 31)).toInt32 &&& (1431655765 : Int32))) &&& (858993459 : Int32)) + (((a0 - ((a0.toUInt32 >>> ((1 : Int32).toUInt32 &&& Int32.toUInt32 31)).toInt32 &&& (1431655765 : Int32))).toUInt32 >>> ((2 : Int32).toUInt32 &&& Int32.toUInt32 31)).toInt32 &&& (858993459 : Int32))) + ((((a0 - ((a0.toUInt32 >>> ((1 : Int32).toUInt32 &&& Int32.toUInt32 31)).toInt32 &&& (1431655765 : Int32))) &&& (858993459 : Int32)) + (((a0 - ((a0.toUInt32 >>> ((1 : Int32).toUInt32 &&& Int32.toUInt32 31)).toInt32 &&& (1431655765 : Int32))).toUInt32 >>> ((2 : Int32).toUInt32 &&& Int32.toUInt32 31)).toInt32 &&& (858993459 : Int32))).toUInt32 >>> ((4 : Int32).toUInt32 &&& Int32.toUInt32 31)).toInt32) &&& (252645135 : Int32)).toUInt32 >>> ((8 : Int32).toUInt32 &&& Int32.toUInt32 31)).toInt32).toUInt32 >>> ((16 : Int32).toUInt32 &&& Int32.toUInt32 31)).toInt32) &&& (63 : Int32)), w)
noncomputable def mJ6_bitCount_0f7a4 (N : Nat) (as : List AV) (w : Wd) : Option (Int32 × Wd) := xI1 as fun a0 t => xN1 t (callW (pJ6_bitCount_0f7a4 N a0) w)
set_option maxRecDepth 100000 in
set_option maxHeartbeats 4000000 in
theorem kJ6_bitCount_0f7a4 : TK cJ6_bitCount_0f7a4 RJ6 1 tJ6_bitCount_0f7a4 := ⟨by decide +kernel, wok_of [1073, 1074, 1074, 1075] (by decide +kernel) (by decide +kernel)⟩
set_option maxRecDepth 100000 in
set_option maxHeartbeats 4000000 in
theorem crJ6_bitCount_0f7a4 {N : Nat} {X : XT} (G : GX X cJ6_bitCount_0f7a4 RJ6) (hR : xR X = rmL 1) : CRs X tJ6_bitCount_0f7a4 (oF []) (oF []) (oF []) := by
  have hl : tJ6_bitCount_0f7a4.filter isInv = [] := rfl
  intro e he
  rw [hl] at he
  cases he
set_option maxRecDepth 100000 in
set_option maxHeartbeats 4000000 in
theorem MJ6_bitCount_0f7a4 (N : Nat) : SndI yJ6_bitCount_0f7a4 cJ6_bitCount_0f7a4 1 (some .int) 1 1 false (mJ6_bitCount_0f7a4 N) := by
  refine SndI.of tJ6_bitCount_0f7a4 (by decide +kernel) rfl rfl ?_ ?_
  · intro as w x h
    obtain ⟨a0, t1, rfl, h_1⟩ := xI1_some h
    obtain ⟨rfl, h_2⟩ := xN1_some h_1
    clear h h_1
    have h := h_2
    rw [callW_eq] at h
    exact ⟨(fun z => by cases z), rfl, Nat.le_of_ble_eq_true rfl⟩
  · intro X G hn hR as w r h hr
    have hC := crJ6_bitCount_0f7a4 (N := N) G hR
    obtain ⟨a0, t1, rfl, h_1⟩ := xI1_some h
    obtain ⟨rfl, h_2⟩ := xN1_some h_1
    clear h h_1
    have h := h_2
    rw [callW_eq] at h
    refine run_sound (r := r) (X := X) (cc := cJ6_bitCount_0f7a4) (own := RJ6) (tab := tJ6_bitCount_0f7a4) G (by rw [hn]; exact kJ6_bitCount_0f7a4) (oI := (oF [])) (oL := (oF [])) (oV := (oF [])) (rI := (fun x w => some (x, w))) (rL := (fun _ _ => none)) (rV := (fun _ => none))
      (K := (fun j ls st w => none)) (fun x w pc ls hx hd => hr x w pc ls (Option.some.inj hx) hd) (fun _ _ _ _ hx => by cases hx) (fun _ _ _ hx => by cases hx) hC (fun ls => lsb [none] 0 ls) (keepsP_of rfl) ?_ 44 0 [some (.inl a0)] [] w ?_ h
    · intro j ls st w hfx h
      try dsimp only at h
      cases h
    · exact trivial
-- MoorGuides$Claims.othersCanBe(I)Z
def tX0_othersCanBe : List EN := [
  (0, .iconst 0, 0, 0, 0, 0, 0, []), (1, .istore_n 2, 0, 0, 0, 0, 0, []), (2, .iload_n 2, 3, 0, 0, 0, 0, []), (3, .aload_n 0, 0, 0, 0, 0, 0, []),
  (4, .getfield 24, 0, 0, 0, 0, 0, []), (7, .if_icmp .ge 32, 0, 25, 0, 0, 0, []), (10, .iload_n 1, 0, 0, 0, 0, 0, []), (11, .iload_n 2, 0, 0, 0, 0, 0, []),
  (12, .ishr, 0, 0, 0, 0, 0, []), (13, .iconst 1, 0, 0, 0, 1, 0, []), (14, .iand, 0, 0, 0, 0, 0, []), (15, .ifCond .ne 18, 0, 23, 0, 0, 0, []),
  (18, .aload_n 0, 0, 0, 0, 0, 0, []), (19, .getfield 21, 0, 0, 4, 0, 0, []), (22, .iload_n 2, 0, 0, 0, 0, 0, []), (23, .iaload, 0, 0, 0, 0, 0, []),
  (24, .iload_n 1, 0, 0, 0, 0, 0, []), (25, .iconst (-1), 0, 0, 0, (-1), 0, []), (26, .ixor, 0, 0, 0, 0, 0, []), (27, .iand, 0, 0, 0, 0, 0, []),
  (28, .ifCond .eq 5, 0, 23, 0, 0, 0, []), (31, .iconst 0, 0, 0, 0, 0, 0, []), (32, .ireturn, 0, 0, 0, 0, 0, []), (33, .iinc 2 1, 0, 0, 0, 1, 0, []),
  (36, .goto (-34), 0, 2, 0, 0, 0, []), (39, .iconst 1, 0, 0, 0, 1, 0, []), (40, .ireturn, 0, 0, 0, 0, 0, [])]
noncomputable def fX0_othersCanBe_2 (N : Nat) (a1 : Int32) : Nat → Int32 → Wd → Option (Int32 × Wd)
  | 0, _, _ => none
  | n + 1, v2, w =>
    if v2 < (gI w 4 0 0) then
      if ((a1 >>> (v2 &&& (31 : Int32))) &&& (1 : Int32)) = 0 then
        (ldI w 20 0 v2 12).bind fun x1 =>
        if (x1 &&& (a1 ^^^ (-1 : Int32))) = 0 then callW (fX0_othersCanBe_2 N a1 n (v2 + (1 : Int32))) w else
        some ((0 : Int32), w)
      else
      callW (fX0_othersCanBe_2 N a1 n (v2 + (1 : Int32))) w
    else
    some ((1 : Int32), w)
noncomputable def pX0_othersCanBe (N : Nat) (a1 : Int32) (w : Wd) : Option (Int32 × Wd) :=
  callW (fX0_othersCanBe_2 N a1 N (0 : Int32)) w
noncomputable def mX0_othersCanBe (N : Nat) (as : List AV) (w : Wd) : Option (Int32 × Wd) := xS1 4 as fun t => xI1 t fun a1 t => xN1 t (callW (pX0_othersCanBe N a1) w)
set_option maxRecDepth 100000 in
set_option maxHeartbeats 4000000 in
theorem kX0_othersCanBe : TK cX0_othersCanBe RX0 3 tX0_othersCanBe := ⟨by decide +kernel, wok_of [712, 717] (by decide +kernel) (by decide +kernel)⟩
set_option maxRecDepth 100000 in
set_option maxHeartbeats 4000000 in
theorem sX0_othersCanBe_2 {N : Nat} {X : XT} (G : GX X cX0_othersCanBe RX0) (hn : xnL X = 3) (hC : CRs X tX0_othersCanBe (oF []) (oF []) (oF [])) {r : Int32 × Wd} (hr : RTZ X cX0_othersCanBe r) (a1 : Int32) : ∀ (n : Nat) (v2 : Int32) (w : Wd), fX0_othersCanBe_2 N a1 n v2 w = some r → WW X (pcAt tX0_othersCanBe 2) [some (.inr (.inr (4, 0))), some (.inl a1), some (.inl v2)] [] w := by
  intro n
  induction n with
  | zero => intro v2 w h; cases h
  | succ n ih =>
    intro v2 w h
    refine run_sound (r := r) (X := X) (cc := cX0_othersCanBe) (own := RX0) (tab := tX0_othersCanBe) G (by rw [hn]; exact kX0_othersCanBe) (oI := (oF [])) (oL := (oF [])) (oV := (oF [])) (rI := retZ) (rL := (fun _ _ => none)) (rV := (fun _ => none))
      (K := (fun j ls st w => if j = 2 then (lgI ls 2 fun v2 => st0 st (callW (fX0_othersCanBe_2 N a1 n v2) w)) else none)) hr (fun _ _ _ _ hx => by cases hx) (fun _ _ _ hx => by cases hx) hC (fun ls => lsb [some (.inr (.inr (4, 0))), some (.inl a1), none] 0 ls) (keepsP_of rfl) ?_ 29 2 [some (.inr (.inr (4, 0))), some (.inl a1), some (.inl v2)] [] w ?_ h
    · intro j ls st w hfx h
      obtain ⟨e0, e1, -⟩ : _ = _ ∧ _ = _ ∧ True := hfx
      try dsimp only at h
      by_cases hj : j = 2
      · subst hj
        rw [if_pos rfl] at h
        obtain ⟨v2, e2, h_1⟩ := lgI_some h
        obtain ⟨rfl, h_2⟩ := st0_some h_1
        clear h h_1
        have h := h_2
        try rw [callW_eq] at h
        exact WW.le (a := [some (.inr (.inr (4, 0))), some (.inl a1), some (.inl v2)]) (by rw [hn]; rfl) (show _ = _ ∧ _ = _ ∧ _ = _ ∧ True from ⟨e0, e1, e2, trivial⟩) (ih v2 w h)
      rw [if_neg hj] at h
      cases h
    · exact (show _ = _ ∧ _ = _ ∧ True from ⟨rfl, rfl, trivial⟩)
set_option maxRecDepth 100000 in
set_option maxHeartbeats 4000000 in
theorem crX0_othersCanBe {N : Nat} {X : XT} (G : GX X cX0_othersCanBe RX0) (hR : xR X = rmL 1) : CRs X tX0_othersCanBe (oF []) (oF []) (oF []) := by
  have hl : tX0_othersCanBe.filter isInv = [] := rfl
  intro e he
  rw [hl] at he
  cases he
set_option maxRecDepth 100000 in
set_option maxHeartbeats 4000000 in
theorem MX0_othersCanBe (N : Nat) : SndI yX0_othersCanBe cX0_othersCanBe 3 (some .boolean) 1 2 true (mX0_othersCanBe N) := by
  refine SndI.ofZ tX0_othersCanBe (by decide +kernel) rfl rfl ?_ ?_
  · intro as w x h
    obtain ⟨t1, rfl, h_1⟩ := xS1_some h
    obtain ⟨a1, t2, rfl, h_2⟩ := xI1_some h_1
    obtain ⟨rfl, h_3⟩ := xN1_some h_2
    clear h h_1 h_2
    have h := h_3
    rw [callW_eq] at h
    exact ⟨fun _ => ⟨_, _, _, rfl, rfl, _, rfl, rfl⟩, rfl, Nat.le_of_ble_eq_true rfl⟩
  · intro X G hn hR as w r h hr
    have hC := crX0_othersCanBe (N := N) G hR
    obtain ⟨t1, rfl, h_1⟩ := xS1_some h
    obtain ⟨a1, t2, rfl, h_2⟩ := xI1_some h_1
    obtain ⟨rfl, h_3⟩ := xN1_some h_2
    clear h h_1 h_2
    have h := h_3
    rw [callW_eq] at h
    refine run_sound (r := r) (X := X) (cc := cX0_othersCanBe) (own := RX0) (tab := tX0_othersCanBe) G (by rw [hn]; exact kX0_othersCanBe) (oI := (oF [])) (oL := (oF [])) (oV := (oF [])) (rI := retZ) (rL := (fun _ _ => none)) (rV := (fun _ => none))
      (K := (fun j ls st w => if j = 2 then (lgI ls 2 fun v2 => st0 st (callW (fX0_othersCanBe_2 N a1 N v2) w)) else none)) hr (fun _ _ _ _ hx => by cases hx) (fun _ _ _ hx => by cases hx) hC (fun ls => lsb [some (.inr (.inr (4, 0))), some (.inl a1), none] 0 ls) (keepsP_of rfl) ?_ 29 0 [some (.inr (.inr (4, 0))), some (.inl a1), none] [] w ?_ h
    · intro j ls st w hfx h
      obtain ⟨e0, e1, -⟩ : _ = _ ∧ _ = _ ∧ True := hfx
      try dsimp only at h
      by_cases hj : j = 2
      · subst hj
        rw [if_pos rfl] at h
        obtain ⟨v2, e2, h_1⟩ := lgI_some h
        obtain ⟨rfl, h_2⟩ := st0_some h_1
        clear h h_1
        have h := h_2
        try rw [callW_eq] at h
        exact WW.le (a := [some (.inr (.inr (4, 0))), some (.inl a1), some (.inl v2)]) (by rw [hn]; rfl) (show _ = _ ∧ _ = _ ∧ _ = _ ∧ True from ⟨e0, e1, e2, trivial⟩) (sX0_othersCanBe_2 G hn hC hr a1 N v2 w h)
      rw [if_neg hj] at h
      cases h
    · exact (show _ = _ ∧ _ = _ ∧ True from ⟨rfl, rfl, trivial⟩)
-- MoorGuides$Claims.falseOnes()I
def tX0_falseOnes : List EN := [
  (0, .iconst 0, 0, 0, 0, 0, 0, []), (1, .istore_n 1, 0, 0, 0, 0, 0, []), (2, .bipush 13, 0, 0, 0, 13, 0, []), (4, .istore_n 2, 0, 0, 0, 0, 0, []),
  (5, .iconst 0, 0, 0, 0, 0, 0, []), (6, .istore_n 3, 0, 0, 0, 0, 0, []), (7, .iload_n 3, 7, 0, 0, 0, 0, []), (8, .iconst 1, 0, 0, 0, 1, 0, []),
  (9, .aload_n 0, 0, 0, 0, 0, 0, []), (10, .getfield 24, 0, 0, 0, 0, 0, []), (13, .ishl, 0, 0, 0, 0, 0, []), (14, .if_icmp .ge 32, 0, 27, 0, 0, 0, []),
  (17, .iload_n 3, 0, 0, 0, 0, 0, []), (18, .invokestatic 38, 0, 0, 1, 0, 0, []), (21, .iload_n 2, 0, 0, 0, 0, 0, []), (22, .if_icmp .ge 18, 0, 25, 0, 0, 0, []),
  (25, .aload_n 0, 0, 0, 0, 0, 0, []), (26, .iload_n 3, 0, 0, 0, 0, 0, []), (27, .invokevirtual 44, 0, 1, 2, 0, 0, []), (30, .ifCond .eq 10, 0, 25, 0, 0, 0, []),
  (33, .iload_n 3, 0, 0, 0, 0, 0, []), (34, .istore_n 1, 0, 0, 0, 0, 0, []), (35, .iload_n 3, 0, 0, 0, 0, 0, []), (36, .invokestatic 38, 0, 0, 1, 0, 0, []),
  (39, .istore_n 2, 0, 0, 0, 0, 0, []), (40, .iinc 3 1, 0, 0, 0, 1, 0, []), (43, .goto (-36), 0, 6, 0, 0, 0, []), (46, .iload_n 1, 0, 0, 0, 0, 0, []),
  (47, .ireturn, 0, 0, 0, 0, 0, [])]
noncomputable def fX0_falseOnes_6 (N : Nat) : Nat → Int32 → Int32 → Int32 → Wd → Option (Int32 × Wd)
  | 0, _, _, _, _ => none
  | n + 1, v1, v2, v3, w =>
    if v3 < ((1 : Int32) <<< ((gI w 4 0 0) &&& (31 : Int32))) then
      (callW (pJ6_bitCount_0f7a4 N v3) w).bind fun r1 =>
      if r1.1 < v2 then
        (callW (pX0_othersCanBe N v3) r1.2).bind fun r2 =>
        if r2.1 = 0 then callW (fX0_falseOnes_6 N n v1 v2 (v3 + (1 : Int32))) r2.2 else
        (callW (pJ6_bitCount_0f7a4 N v3) r2.2).bind fun r3 =>
        callW (fX0_falseOnes_6 N n v3 r3.1 (v3 + (1 : Int32))) r3.2
      else
      callW (fX0_falseOnes_6 N n v1 v2 (v3 + (1 : Int32))) r1.2
    else
    some (v1, w)
noncomputable def pX0_falseOnes (N : Nat) (w : Wd) : Option (Int32 × Wd) :=
  callW (fX0_falseOnes_6 N N (0 : Int32) (13 : Int32) (0 : Int32)) w
noncomputable def mX0_falseOnes (N : Nat) (as : List AV) (w : Wd) : Option (Int32 × Wd) := xS1 4 as fun t => xN1 t (callW (pX0_falseOnes N) w)
set_option maxRecDepth 100000 in
set_option maxHeartbeats 4000000 in
theorem kX0_falseOnes : TK cX0_falseOnes RX0 4 tX0_falseOnes := ⟨by decide +kernel, wok_of [712] (by decide +kernel) (by decide +kernel)⟩
set_option maxRecDepth 100000 in
set_option maxHeartbeats 4000000 in
theorem sX0_falseOnes_6 {N : Nat} {X : XT} (G : GX X cX0_falseOnes RX0) (hn : xnL X = 4) (hC : CRs X tX0_falseOnes (oF [(mJ6_bitCount_0f7a4 N), (mX0_othersCanBe N)]) (oF []) (oF [])) {r : Int32 × Wd} (hr : RTI X cX0_falseOnes r)  : ∀ (n : Nat) (v1 : Int32) (v2 : Int32) (v3 : Int32) (w : Wd), fX0_falseOnes_6 N n v1 v2 v3 w = some r → WW X (pcAt tX0_falseOnes 6) [some (.inr (.inr (4, 0))), some (.inl v1), some (.inl v2), some (.inl v3)] [] w := by
  intro n
  induction n with
  | zero => intro v1 v2 v3 w h; cases h
  | succ n ih =>
    intro v1 v2 v3 w h
    refine run_sound (r := r) (X := X) (cc := cX0_falseOnes) (own := RX0) (tab := tX0_falseOnes) G (by rw [hn]; exact kX0_falseOnes) (oI := (oF [(mJ6_bitCount_0f7a4 N), (mX0_othersCanBe N)])) (oL := (oF [])) (oV := (oF [])) (rI := (fun x w => some (x, w))) (rL := (fun _ _ => none)) (rV := (fun _ => none))
      (K := (fun j ls st w => if j = 6 then (lgI ls 1 fun v1 => lgI ls 2 fun v2 => lgI ls 3 fun v3 => st0 st (callW (fX0_falseOnes_6 N n v1 v2 v3) w)) else none)) (fun x w pc ls hx hd => hr x w pc ls (Option.some.inj hx) hd) (fun _ _ _ _ hx => by cases hx) (fun _ _ _ hx => by cases hx) hC (fun ls => lsb [some (.inr (.inr (4, 0))), none, none, none] 0 ls) (keepsP_of rfl) ?_ 31 6 [some (.inr (.inr (4, 0))), some (.inl v1), some (.inl v2), some (.inl v3)] [] w ?_ h
    · intro j ls st w hfx h
      obtain ⟨e0, -⟩ : _ = _ ∧ True := hfx
      try dsimp only at h
      by_cases hj : j = 6
      · subst hj
        rw [if_pos rfl] at h
        obtain ⟨v1, e1, h_1⟩ := lgI_some h
        obtain ⟨v2, e2, h_2⟩ := lgI_some h_1
        obtain ⟨v3, e3, h_3⟩ := lgI_some h_2
        obtain ⟨rfl, h_4⟩ := st0_some h_3
        clear h h_1 h_2 h_3
        have h := h_4
        try rw [callW_eq] at h
        exact WW.le (a := [some (.inr (.inr (4, 0))), some (.inl v1), some (.inl v2), some (.inl v3)]) (by rw [hn]; rfl) (show _ = _ ∧ _ = _ ∧ _ = _ ∧ _ = _ ∧ True from ⟨e0, e1, e2, e3, trivial⟩) (ih v1 v2 v3 w h)
      rw [if_neg hj] at h
      cases h
    · exact (show _ = _ ∧ True from ⟨rfl, trivial⟩)
set_option maxRecDepth 100000 in
set_option maxHeartbeats 4000000 in
theorem crX0_falseOnes {N : Nat} {X : XT} (G : GX X cX0_falseOnes RX0) (hR : xR X = rmL 2) : CRs X tX0_falseOnes (oF [(mJ6_bitCount_0f7a4 N), (mX0_othersCanBe N)]) (oF []) (oF []) := by
  have hl : tX0_falseOnes.filter isInv = [(18, .invokestatic 38, 0, 0, 1, 0, 0, []), (27, .invokevirtual 44, 0, 1, 2, 0, 0, []), (36, .invokestatic 38, 0, 0, 1, 0, 0, [])] := rfl
  intro e he
  rw [hl] at he
  simp only [List.mem_cons, List.not_mem_nil, or_false] at he
  rcases he with rfl | rfl | rfl
  · exact crI_S (idx := 38) G (by decide +kernel) (MJ6_bitCount_0f7a4 N) (cw_of (ps := [1442, 1071, 171, 1072]) (by decide +kernel) (by decide +kernel)) ⟨by decide +kernel, by decide +kernel, by decide +kernel⟩ (by unfold rmOk; rw [hR]; exact ⟨by decide, by decide⟩)
  · exact crI_V (idx := 44) G (by decide +kernel) (MX0_othersCanBe N) (cw_of (ps := [1443, 1445, 69, 163, 1446]) (by decide +kernel) (by decide +kernel)) ⟨by decide +kernel, by decide +kernel, by decide +kernel⟩ (by unfold rmOk; rw [hR]; exact ⟨by decide, by decide⟩)
  · exact crI_S (idx := 38) G (by decide +kernel) (MJ6_bitCount_0f7a4 N) (cw_of (ps := [1442, 1071, 171, 1072]) (by decide +kernel) (by decide +kernel)) ⟨by decide +kernel, by decide +kernel, by decide +kernel⟩ (by unfold rmOk; rw [hR]; exact ⟨by decide, by decide⟩)
set_option maxRecDepth 100000 in
set_option maxHeartbeats 4000000 in
theorem MX0_falseOnes (N : Nat) : SndI yX0_falseOnes cX0_falseOnes 4 (some .int) 2 1 true (mX0_falseOnes N) := by
  refine SndI.of tX0_falseOnes (by decide +kernel) rfl rfl ?_ ?_
  · intro as w x h
    obtain ⟨t1, rfl, h_1⟩ := xS1_some h
    obtain ⟨rfl, h_2⟩ := xN1_some h_1
    clear h h_1
    have h := h_2
    rw [callW_eq] at h
    exact ⟨fun _ => ⟨_, _, _, rfl, rfl, _, rfl, rfl⟩, rfl, Nat.le_of_ble_eq_true rfl⟩
  · intro X G hn hR as w r h hr
    have hC := crX0_falseOnes (N := N) G hR
    obtain ⟨t1, rfl, h_1⟩ := xS1_some h
    obtain ⟨rfl, h_2⟩ := xN1_some h_1
    clear h h_1
    have h := h_2
    rw [callW_eq] at h
    refine run_sound (r := r) (X := X) (cc := cX0_falseOnes) (own := RX0) (tab := tX0_falseOnes) G (by rw [hn]; exact kX0_falseOnes) (oI := (oF [(mJ6_bitCount_0f7a4 N), (mX0_othersCanBe N)])) (oL := (oF [])) (oV := (oF [])) (rI := (fun x w => some (x, w))) (rL := (fun _ _ => none)) (rV := (fun _ => none))
      (K := (fun j ls st w => if j = 6 then (lgI ls 1 fun v1 => lgI ls 2 fun v2 => lgI ls 3 fun v3 => st0 st (callW (fX0_falseOnes_6 N N v1 v2 v3) w)) else none)) (fun x w pc ls hx hd => hr x w pc ls (Option.some.inj hx) hd) (fun _ _ _ _ hx => by cases hx) (fun _ _ _ hx => by cases hx) hC (fun ls => lsb [some (.inr (.inr (4, 0))), none, none, none] 0 ls) (keepsP_of rfl) ?_ 31 0 [some (.inr (.inr (4, 0))), none, none, none] [] w ?_ h
    · intro j ls st w hfx h
      obtain ⟨e0, -⟩ : _ = _ ∧ True := hfx
      try dsimp only at h
      by_cases hj : j = 6
      · subst hj
        rw [if_pos rfl] at h
        obtain ⟨v1, e1, h_1⟩ := lgI_some h
        obtain ⟨v2, e2, h_2⟩ := lgI_some h_1
        obtain ⟨v3, e3, h_3⟩ := lgI_some h_2
        obtain ⟨rfl, h_4⟩ := st0_some h_3
        clear h h_1 h_2 h_3
        have h := h_4
        try rw [callW_eq] at h
        exact WW.le (a := [some (.inr (.inr (4, 0))), some (.inl v1), some (.inl v2), some (.inl v3)]) (by rw [hn]; rfl) (show _ = _ ∧ _ = _ ∧ _ = _ ∧ _ = _ ∧ True from ⟨e0, e1, e2, e3, trivial⟩) (sX0_falseOnes_6 G hn hC hr N v1 v2 v3 w h)
      rw [if_neg hj] at h
      cases h
    · exact (show _ = _ ∧ True from ⟨rfl, trivial⟩)
-- MoorGuides$Law.add(I)Z
def tX1_add : List EN := [
  (0, .aload_n 0, 0, 0, 0, 0, 0, []), (1, .getfield 21, 0, 1, 2, 0, 0, []), (4, .aload_n 0, 0, 0, 0, 0, 0, []), (5, .getfield 11, 0, 1, 0, 0, 0, []),
  (8, .arraylength, 0, 0, 0, 0, 0, []), (9, .if_icmp .lt 5, 0, 8, 0, 0, 0, []), (12, .iconst 0, 0, 0, 0, 0, 0, []), (13, .ireturn, 0, 0, 0, 0, 0, []),
  (14, .aload_n 0, 0, 0, 0, 0, 0, []), (15, .getfield 11, 0, 1, 0, 0, 0, []), (18, .aload_n 0, 0, 0, 0, 0, 0, []), (19, .getfield 21, 0, 1, 2, 0, 0, []),
  (22, .iload_n 1, 0, 0, 0, 0, 0, []), (23, .iastore, 0, 0, 0, 0, 0, []), (24, .aload_n 0, 0, 0, 0, 0, 0, []), (25, .dup, 0, 0, 0, 0, 0, []),
  (26, .getfield 21, 0, 1, 2, 0, 0, []), (29, .iconst 1, 0, 0, 0, 1, 0, []), (30, .iadd, 0, 0, 0, 0, 0, []), (31, .putfield 21, 0, 1, 2, 0, 0, []),
  (34, .iconst 1, 0, 0, 0, 1, 0, []), (35, .ireturn, 0, 0, 0, 0, 0, [])]
noncomputable def pX1_add (N : Nat) (i0 : Nat) (a1 : Int32) (w : Wd) : Option (Int32 × Wd) :=
  if (gI w 5 i0 2) < (Int32.ofNat 64) then
    (stI w 21 i0 (gI w 5 i0 2) 64 a1).bind fun w1 =>
    some ((1 : Int32), (setI w1 5 i0 2 ((gI w1 5 i0 2) + (1 : Int32))))
  else
  some ((0 : Int32), w)
noncomputable def mX1_add (N : Nat) (as : List AV) (w : Wd) : Option (Int32 × Wd) := xR1 5 as fun i0 t => xI1 t fun a1 t => xN1 t (callW (pX1_add N i0 a1) w)
set_option maxRecDepth 100000 in
set_option maxHeartbeats 4000000 in
theorem kX1_add : TK cX1_add RX1 2 tX1_add := ⟨by decide +kernel, wok_of [245, 243, 243, 245, 245, 245] (by decide +kernel) (by decide +kernel)⟩
set_option maxRecDepth 100000 in
set_option maxHeartbeats 4000000 in
theorem crX1_add {N : Nat} {X : XT} (G : GX X cX1_add RX1) (hR : xR X = rmL 1) : CRs X tX1_add (oF []) (oF []) (oF []) := by
  have hl : tX1_add.filter isInv = [] := rfl
  intro e he
  rw [hl] at he
  cases he
set_option maxRecDepth 100000 in
set_option maxHeartbeats 4000000 in
theorem MX1_add (N : Nat) : SndI yX1_add cX1_add 2 (some .boolean) 1 2 true (mX1_add N) := by
  refine SndI.ofZ tX1_add (by decide +kernel) rfl rfl ?_ ?_
  · intro as w x h
    obtain ⟨i0, t1, rfl, h_1⟩ := xR1_some h
    obtain ⟨a1, t2, rfl, h_2⟩ := xI1_some h_1
    obtain ⟨rfl, h_3⟩ := xN1_some h_2
    clear h h_1 h_2
    have h := h_3
    rw [callW_eq] at h
    exact ⟨fun _ => ⟨_, _, _, rfl, rfl, _, rfl, rfl⟩, rfl, Nat.le_of_ble_eq_true rfl⟩
  · intro X G hn hR as w r h hr
    have hC := crX1_add (N := N) G hR
    obtain ⟨i0, t1, rfl, h_1⟩ := xR1_some h
    obtain ⟨a1, t2, rfl, h_2⟩ := xI1_some h_1
    obtain ⟨rfl, h_3⟩ := xN1_some h_2
    clear h h_1 h_2
    have h := h_3
    rw [callW_eq] at h
    refine run_sound (r := r) (X := X) (cc := cX1_add) (own := RX1) (tab := tX1_add) G (by rw [hn]; exact kX1_add) (oI := (oF [])) (oL := (oF [])) (oV := (oF [])) (rI := retZ) (rL := (fun _ _ => none)) (rV := (fun _ => none))
      (K := (fun j ls st w => none)) hr (fun _ _ _ _ hx => by cases hx) (fun _ _ _ hx => by cases hx) hC (fun ls => lsb [some (.inr (.inr (5, i0))), some (.inl a1)] 0 ls) (keepsP_of rfl) ?_ 24 0 [some (.inr (.inr (5, i0))), some (.inl a1)] [] w ?_ h
    · intro j ls st w hfx h
      obtain ⟨e0, e1, -⟩ : _ = _ ∧ _ = _ ∧ True := hfx
      try dsimp only at h
      cases h
    · exact (show _ = _ ∧ _ = _ ∧ True from ⟨rfl, rfl, trivial⟩)
-- MoorGuides$Tokens.isName(I)Z
def tX10_isName : List EN := [
  (0, .iload_n 0, 0, 0, 0, 0, 0, []), (1, .iconst 4, 0, 0, 0, 4, 0, []), (2, .if_icmp .eq 21, 0, 12, 0, 0, 0, []), (5, .iload_n 0, 0, 0, 0, 0, 0, []),
  (6, .bipush 9, 0, 0, 0, 9, 0, []), (8, .if_icmp .eq 15, 0, 12, 0, 0, 0, []), (11, .iload_n 0, 0, 0, 0, 0, 0, []), (12, .bipush 19, 0, 0, 0, 19, 0, []),
  (14, .if_icmp .lt 13, 0, 14, 0, 0, 0, []), (17, .iload_n 0, 0, 0, 0, 0, 0, []), (18, .bipush 23, 0, 0, 0, 23, 0, []), (20, .if_icmp .gt 7, 0, 14, 0, 0, 0, []),
  (23, .iconst 1, 0, 0, 0, 1, 0, []), (24, .goto 4, 0, 15, 0, 0, 0, []), (27, .iconst 0, 0, 0, 0, 0, 0, []), (28, .ireturn, 0, 0, 0, 0, 0, [])]
noncomputable def pX10_isName (N : Nat) (a0 : Int32) (w : Wd) : Option (Int32 × Wd) :=
  if a0 = (4 : Int32) then some ((1 : Int32), w) else
  if a0 = (9 : Int32) then some ((1 : Int32), w) else
  if a0 < (19 : Int32) then some ((0 : Int32), w) else
  if (23 : Int32) < a0 then some ((0 : Int32), w) else
  some ((1 : Int32), w)
noncomputable def mX10_isName (N : Nat) (as : List AV) (w : Wd) : Option (Int32 × Wd) := xI1 as fun a0 t => xN1 t (callW (pX10_isName N a0) w)
set_option maxRecDepth 100000 in
set_option maxHeartbeats 4000000 in
theorem kX10_isName : TK cX10_isName RX10 1 tX10_isName := ⟨by decide +kernel, wok_of [] (by decide +kernel) (by decide +kernel)⟩
set_option maxRecDepth 100000 in
set_option maxHeartbeats 4000000 in
theorem crX10_isName {N : Nat} {X : XT} (G : GX X cX10_isName RX10) (hR : xR X = rmL 1) : CRs X tX10_isName (oF []) (oF []) (oF []) := by
  have hl : tX10_isName.filter isInv = [] := rfl
  intro e he
  rw [hl] at he
  cases he
set_option maxRecDepth 100000 in
set_option maxHeartbeats 4000000 in
theorem MX10_isName (N : Nat) : SndI yX10_isName cX10_isName 1 (some .boolean) 1 1 false (mX10_isName N) := by
  refine SndI.ofZ tX10_isName (by decide +kernel) rfl rfl ?_ ?_
  · intro as w x h
    obtain ⟨a0, t1, rfl, h_1⟩ := xI1_some h
    obtain ⟨rfl, h_2⟩ := xN1_some h_1
    clear h h_1
    have h := h_2
    rw [callW_eq] at h
    exact ⟨(fun z => by cases z), rfl, Nat.le_of_ble_eq_true rfl⟩
  · intro X G hn hR as w r h hr
    have hC := crX10_isName (N := N) G hR
    obtain ⟨a0, t1, rfl, h_1⟩ := xI1_some h
    obtain ⟨rfl, h_2⟩ := xN1_some h_1
    clear h h_1
    have h := h_2
    rw [callW_eq] at h
    refine run_sound (r := r) (X := X) (cc := cX10_isName) (own := RX10) (tab := tX10_isName) G (by rw [hn]; exact kX10_isName) (oI := (oF [])) (oL := (oF [])) (oV := (oF [])) (rI := retZ) (rL := (fun _ _ => none)) (rV := (fun _ => none))
      (K := (fun j ls st w => none)) hr (fun _ _ _ _ hx => by cases hx) (fun _ _ _ hx => by cases hx) hC (fun ls => lsb [some (.inl a0)] 0 ls) (keepsP_of rfl) ?_ 18 0 [some (.inl a0)] [] w ?_ h
    · intro j ls st w hfx h
      obtain ⟨e0, -⟩ : _ = _ ∧ True := hfx
      try dsimp only at h
      cases h
    · exact (show _ = _ ∧ True from ⟨rfl, trivial⟩)
-- java/lang/Math.abs(J)J
def tJ9_abs_067f4 : List EN := [
  (0, .lload_n 0, 0, 0, 0, 0, 0, []), (1, .lconst 0, 0, 0, 0, 0, 0, []), (2, .lcmp, 0, 0, 0, 0, 0, []), (3, .ifCond .ge 8, 0, 7, 0, 0, 0, []),
  (6, .lload_n 0, 0, 0, 0, 0, 0, []), (7, .lneg, 0, 0, 0, 0, 0, []), (8, .goto 4, 0, 8, 0, 0, 0, []), (11, .lload_n 0, 0, 0, 0, 0, 0, []),
  (12, .lreturn, 0, 0, 0, 0, 0, [])]
noncomputable def pJ9_abs_067f4 (N : Nat) (a0 : Int64) (w : Wd) : Option (Int64 × Wd) :=
  if (lg_cmp a0 (0 : Int64)) < 0 then some ((-a0), w) else
  some (a0, w)
noncomputable def mJ9_abs_067f4 (N : Nat) (as : List AV) (w : Wd) : Option (Int64 × Wd) := xL1 as fun a0 t => xN1 t (callW (pJ9_abs_067f4 N a0) w)
set_option maxRecDepth 100000 in
set_option maxHeartbeats 4000000 in
theorem kJ9_abs_067f4 : TK cJ9_abs_067f4 RJ9 2 tJ9_abs_067f4 := ⟨by decide +kernel, wok_of [] (by decide +kernel) (by decide +kernel)⟩
set_option maxRecDepth 100000 in
set_option maxHeartbeats 4000000 in
theorem crJ9_abs_067f4 {N : Nat} {X : XT} (G : GX X cJ9_abs_067f4 RJ9) (hR : xR X = rmL 1) : CRs X tJ9_abs_067f4 (oF []) (oF []) (oF []) := by
  have hl : tJ9_abs_067f4.filter isInv = [] := rfl
  intro e he
  rw [hl] at he
  cases he
set_option maxRecDepth 100000 in
set_option maxHeartbeats 4000000 in
theorem MJ9_abs_067f4 (N : Nat) : SndL yJ9_abs_067f4 cJ9_abs_067f4 2 (some .long) 1 1 false (mJ9_abs_067f4 N) := by
  refine SndL.of tJ9_abs_067f4 (by decide +kernel) rfl rfl ?_ ?_
  · intro as w x h
    obtain ⟨a0, t1, rfl, h_1⟩ := xL1_some h
    obtain ⟨rfl, h_2⟩ := xN1_some h_1
    clear h h_1
    have h := h_2
    rw [callW_eq] at h
    exact ⟨(fun z => by cases z), rfl, Nat.le_of_ble_eq_true rfl⟩
  · intro X G hn hR as w r h hr
    have hC := crJ9_abs_067f4 (N := N) G hR
    obtain ⟨a0, t1, rfl, h_1⟩ := xL1_some h
    obtain ⟨rfl, h_2⟩ := xN1_some h_1
    clear h h_1
    have h := h_2
    rw [callW_eq] at h
    refine run_sound (r := r) (X := X) (cc := cJ9_abs_067f4) (own := RJ9) (tab := tJ9_abs_067f4) G (by rw [hn]; exact kJ9_abs_067f4) (oI := (oF [])) (oL := (oF [])) (oV := (oF [])) (rI := (fun _ _ => none)) (rL := (fun x w => some (x, w))) (rV := (fun _ => none))
      (K := (fun j ls st w => none)) (fun _ _ _ _ hx => by cases hx) (fun x w pc ls hx hd => hr x w pc ls (Option.some.inj hx) hd) (fun _ _ _ hx => by cases hx) hC (fun ls => lsb [some (.inr (.inl a0)), none] 0 ls) (keepsP_of rfl) ?_ 11 0 [some (.inr (.inl a0)), none] [] w ?_ h
    · intro j ls st w hfx h
      obtain ⟨e0, -⟩ : _ = _ ∧ True := hfx
      try dsimp only at h
      cases h
    · exact (show _ = _ ∧ True from ⟨rfl, trivial⟩)
-- MoorGuides$Law.join(IJJ)J
def tX1_join : List EN := [
  (0, .iload_n 0, 0, 0, 0, 0, 0, []), (1, .tableswitch 279 16 43 #[127, 145, 279, 279, 279, 279, 279, 279, 279, 279, 279, 279, 279, 279, 279, 279, 279, 279, 279, 163, 167, 171, 203, 219, 231, 243, 255, 267], 0, 102, 127, 0, 0, [(16, 2), (17, 14), (18, 102), (19, 102), (20, 102), (21, 102), (22, 102), (23, 102), (24, 102), (25, 102), (26, 102), (27, 102), (28, 102), (29, 102), (30, 102), (31, 102), (32, 102), (33, 102), (34, 102), (35, 26), (36, 30), (37, 34), (38, 52), (39, 62), (40, 70), (41, 78), (42, 86), (43, 94)]), (128, .lload_n 1, 0, 0, 0, 0, 0, []), (129, .lconst 0, 0, 0, 0, 0, 0, []),
  (130, .lcmp, 0, 0, 0, 0, 0, []), (131, .ifCond .ne 9, 0, 10, 0, 0, 0, []), (134, .lload_n 3, 0, 0, 0, 0, 0, []), (135, .lconst 0, 0, 0, 0, 0, 0, []),
  (136, .lcmp, 0, 0, 0, 0, 0, []), (137, .ifCond .eq 7, 0, 12, 0, 0, 0, []), (140, .lconst 1, 0, 0, 0, 0, 1, []), (141, .goto 4, 0, 13, 0, 0, 0, []),
  (144, .lconst 0, 0, 0, 0, 0, 0, []), (145, .lreturn, 0, 0, 0, 0, 0, []), (146, .lload_n 1, 0, 0, 0, 0, 0, []), (147, .lconst 0, 0, 0, 0, 0, 0, []),
  (148, .lcmp, 0, 0, 0, 0, 0, []), (149, .ifCond .eq 13, 0, 24, 0, 0, 0, []), (152, .lload_n 3, 0, 0, 0, 0, 0, []), (153, .lconst 0, 0, 0, 0, 0, 0, []),
  (154, .lcmp, 0, 0, 0, 0, 0, []), (155, .ifCond .eq 7, 0, 24, 0, 0, 0, []), (158, .lconst 1, 0, 0, 0, 0, 1, []), (159, .goto 4, 0, 25, 0, 0, 0, []),
  (162, .lconst 0, 0, 0, 0, 0, 0, []), (163, .lreturn, 0, 0, 0, 0, 0, []), (164, .lload_n 1, 0, 0, 0, 0, 0, []), (165, .lload_n 3, 0, 0, 0, 0, 0, []),
  (166, .ladd, 0, 0, 0, 0, 0, []), (167, .lreturn, 0, 0, 0, 0, 0, []), (168, .lload_n 1, 0, 0, 0, 0, 0, []), (169, .lload_n 3, 0, 0, 0, 0, 0, []),
  (170, .lsub, 0, 0, 0, 0, 0, []), (171, .lreturn, 0, 0, 0, 0, 0, []), (172, .lload_n 1, 0, 0, 0, 0, 0, []), (173, .lconst 0, 0, 0, 0, 0, 0, []),
  (174, .lcmp, 0, 0, 0, 0, 0, []), (175, .ifCond .eq 25, 0, 48, 0, 0, 0, []), (178, .lload_n 3, 0, 0, 0, 0, 0, []), (179, .invokestatic 41, 0, 0, 1, 0, 0, [(0, 0)]),
  (182, .ldc2_w 37, 0, 0, 0, 0, 1000000000000, []), (185, .lload_n 1, 0, 0, 0, 0, 0, []), (186, .invokestatic 41, 0, 0, 1, 0, 0, [(0, 0)]), (189, .ldiv, 0, 0, 0, 0, 0, []),
  (190, .lcmp, 0, 0, 0, 0, 0, []), (191, .ifCond .le 9, 0, 48, 0, 0, 0, []), (194, .ldc2_w 35, 0, 0, 0, 0, (-9223372036854775808), []), (197, .goto 6, 0, 51, 0, 0, 0, []),
  (200, .lload_n 1, 0, 0, 0, 0, 0, []), (201, .lload_n 3, 0, 0, 0, 0, 0, []), (202, .lmul, 0, 0, 0, 0, 0, []), (203, .lreturn, 0, 0, 0, 0, 0, []),
  (204, .lload_n 3, 0, 0, 0, 0, 0, []), (205, .lconst 0, 0, 0, 0, 0, 0, []), (206, .lcmp, 0, 0, 0, 0, 0, []), (207, .ifCond .ne 9, 0, 58, 0, 0, 0, []),
  (210, .ldc2_w 35, 0, 0, 0, 0, (-9223372036854775808), []), (213, .goto 6, 0, 61, 0, 0, 0, []), (216, .lload_n 1, 0, 0, 0, 0, 0, []), (217, .lload_n 3, 0, 0, 0, 0, 0, []),
  (218, .ldiv, 0, 0, 0, 0, 0, []), (219, .lreturn, 0, 0, 0, 0, 0, []), (220, .lload_n 1, 0, 0, 0, 0, 0, []), (221, .lload_n 3, 0, 0, 0, 0, 0, []),
  (222, .lcmp, 0, 0, 0, 0, 0, []), (223, .ifCond .ge 7, 0, 68, 0, 0, 0, []), (226, .lconst 1, 0, 0, 0, 0, 1, []), (227, .goto 4, 0, 69, 0, 0, 0, []),
  (230, .lconst 0, 0, 0, 0, 0, 0, []), (231, .lreturn, 0, 0, 0, 0, 0, []), (232, .lload_n 1, 0, 0, 0, 0, 0, []), (233, .lload_n 3, 0, 0, 0, 0, 0, []),
  (234, .lcmp, 0, 0, 0, 0, 0, []), (235, .ifCond .gt 7, 0, 76, 0, 0, 0, []), (238, .lconst 1, 0, 0, 0, 0, 1, []), (239, .goto 4, 0, 77, 0, 0, 0, []),
  (242, .lconst 0, 0, 0, 0, 0, 0, []), (243, .lreturn, 0, 0, 0, 0, 0, []), (244, .lload_n 1, 0, 0, 0, 0, 0, []), (245, .lload_n 3, 0, 0, 0, 0, 0, []),
  (246, .lcmp, 0, 0, 0, 0, 0, []), (247, .ifCond .ne 7, 0, 84, 0, 0, 0, []), (250, .lconst 1, 0, 0, 0, 0, 1, []), (251, .goto 4, 0, 85, 0, 0, 0, []),
  (254, .lconst 0, 0, 0, 0, 0, 0, []), (255, .lreturn, 0, 0, 0, 0, 0, []), (256, .lload_n 1, 0, 0, 0, 0, 0, []), (257, .lload_n 3, 0, 0, 0, 0, 0, []),
  (258, .lcmp, 0, 0, 0, 0, 0, []), (259, .ifCond .eq 7, 0, 92, 0, 0, 0, []), (262, .lconst 1, 0, 0, 0, 0, 1, []), (263, .goto 4, 0, 93, 0, 0, 0, []),
  (266, .lconst 0, 0, 0, 0, 0, 0, []), (267, .lreturn, 0, 0, 0, 0, 0, []), (268, .lload_n 1, 0, 0, 0, 0, 0, []), (269, .lload_n 3, 0, 0, 0, 0, 0, []),
  (270, .lcmp, 0, 0, 0, 0, 0, []), (271, .ifCond .lt 7, 0, 100, 0, 0, 0, []), (274, .lconst 1, 0, 0, 0, 0, 1, []), (275, .goto 4, 0, 101, 0, 0, 0, []),
  (278, .lconst 0, 0, 0, 0, 0, 0, []), (279, .lreturn, 0, 0, 0, 0, 0, []), (280, .lload_n 1, 0, 0, 0, 0, 0, []), (281, .lload_n 3, 0, 0, 0, 0, 0, []),
  (282, .lcmp, 0, 0, 0, 0, 0, []), (283, .ifCond .le 7, 0, 108, 0, 0, 0, []), (286, .lconst 1, 0, 0, 0, 0, 1, []), (287, .goto 4, 0, 109, 0, 0, 0, []),
  (290, .lconst 0, 0, 0, 0, 0, 0, []), (291, .lreturn, 0, 0, 0, 0, 0, [])]
noncomputable def pX1_join (N : Nat) (a0 : Int32) (a1 : Int64) (a3 : Int64) (w : Wd) : Option (Int64 × Wd) :=
  if a0 = (16 : Int32) then
    if (lg_cmp a1 (0 : Int64)) = 0 then
      if (lg_cmp a3 (0 : Int64)) = 0 then some ((0 : Int64), w) else
      some ((1 : Int64), w)
    else
    some ((1 : Int64), w)
  else
  if a0 = (17 : Int32) then
    if (lg_cmp a1 (0 : Int64)) = 0 then some ((0 : Int64), w) else
    if (lg_cmp a3 (0 : Int64)) = 0 then some ((0 : Int64), w) else
    some ((1 : Int64), w)
  else
  if a0 = (18 : Int32) then
    if 0 < (lg_cmp a1 a3) then some ((1 : Int64), w) else
    some ((0 : Int64), w)
  else
  if a0 = (19 : Int32) then
    if 0 < (lg_cmp a1 a3) then some ((1 : Int64), w) else
    some ((0 : Int64), w)
  else
  if a0 = (20 : Int32) then
    if 0 < (lg_cmp a1 a3) then some ((1 : Int64), w) else
    some ((0 : Int64), w)
  else
  if a0 = (21 : Int32) then
    if 0 < (lg_cmp a1 a3) then some ((1 : Int64), w) else
    some ((0 : Int64), w)
  else
  if a0 = (22 : Int32) then
    if 0 < (lg_cmp a1 a3) then some ((1 : Int64), w) else
    some ((0 : Int64), w)
  else
  if a0 = (23 : Int32) then
    if 0 < (lg_cmp a1 a3) then some ((1 : Int64), w) else
    some ((0 : Int64), w)
  else
  if a0 = (24 : Int32) then
    if 0 < (lg_cmp a1 a3) then some ((1 : Int64), w) else
    some ((0 : Int64), w)
  else
  if a0 = (25 : Int32) then
    if 0 < (lg_cmp a1 a3) then some ((1 : Int64), w) else
    some ((0 : Int64), w)
  else
  if a0 = (26 : Int32) then
    if 0 < (lg_cmp a1 a3) then some ((1 : Int64), w) else
    some ((0 : Int64), w)
  else
  if a0 = (27 : Int32) then
    if 0 < (lg_cmp a1 a3) then some ((1 : Int64), w) else
    some ((0 : Int64), w)
  else
  if a0 = (28 : Int32) then
    if 0 < (lg_cmp a1 a3) then some ((1 : Int64), w) else
    some ((0 : Int64), w)
  else
  if a0 = (29 : Int32) then
    if 0 < (lg_cmp a1 a3) then some ((1 : Int64), w) else
    some ((0 : Int64), w)
  else
  if a0 = (30 : Int32) then
    if 0 < (lg_cmp a1 a3) then some ((1 : Int64), w) else
    some ((0 : Int64), w)
  else
  if a0 = (31 : Int32) then
    if 0 < (lg_cmp a1 a3) then some ((1 : Int64), w) else
    some ((0 : Int64), w)
  else
  if a0 = (32 : Int32) then
    if 0 < (lg_cmp a1 a3) then some ((1 : Int64), w) else
    some ((0 : Int64), w)
  else
  if a0 = (33 : Int32) then
    if 0 < (lg_cmp a1 a3) then some ((1 : Int64), w) else
    some ((0 : Int64), w)
  else
  if a0 = (34 : Int32) then
    if 0 < (lg_cmp a1 a3) then some ((1 : Int64), w) else
    some ((0 : Int64), w)
  else
  if a0 = (35 : Int32) then some ((a1 + a3), w) else
  if a0 = (36 : Int32) then some ((a1 - a3), w) else
  if a0 = (37 : Int32) then
    if (lg_cmp a1 (0 : Int64)) = 0 then some ((a1 * a3), w) else
    (callW (pJ9_abs_067f4 N a3) w).bind fun r1 =>
    (callW (pJ9_abs_067f4 N a1) r1.2).bind fun r2 =>
    if r2.1 = 0 then none else
    if 0 < (lg_cmp r1.1 ((1000000000000 : Int64) / r2.1)) then some ((-9223372036854775808 : Int64), r2.2) else
    some ((a1 * a3), r2.2)
  else
  if a0 = (38 : Int32) then
    if (lg_cmp a3 (0 : Int64)) = 0 then some ((-9223372036854775808 : Int64), w) else
    if a3 = 0 then none else
    some ((a1 / a3), w)
  else
  if a0 = (39 : Int32) then
    if (lg_cmp a1 a3) < 0 then some ((1 : Int64), w) else
    some ((0 : Int64), w)
  else
  if a0 = (40 : Int32) then
    if 0 < (lg_cmp a1 a3) then some ((0 : Int64), w) else
    some ((1 : Int64), w)
  else
  if a0 = (41 : Int32) then
    if (lg_cmp a1 a3) = 0 then some ((1 : Int64), w) else
    some ((0 : Int64), w)
  else
  if a0 = (42 : Int32) then
    if (lg_cmp a1 a3) = 0 then some ((0 : Int64), w) else
    some ((1 : Int64), w)
  else
  if a0 = (43 : Int32) then
    if (lg_cmp a1 a3) < 0 then some ((0 : Int64), w) else
    some ((1 : Int64), w)
  else
  if 0 < (lg_cmp a1 a3) then some ((1 : Int64), w) else
  some ((0 : Int64), w)
noncomputable def mX1_join (N : Nat) (as : List AV) (w : Wd) : Option (Int64 × Wd) := xI1 as fun a0 t => xL1 t fun a1 t => xL1 t fun a3 t => xN1 t (callW (pX1_join N a0 a1 a3) w)
set_option maxRecDepth 100000 in
set_option maxHeartbeats 4000000 in
theorem kX1_join : TK cX1_join RX1 5 tX1_join := ⟨by decide +kernel, wok_of [1103, 1104, 1104] (by decide +kernel) (by decide +kernel)⟩
set_option maxRecDepth 100000 in
set_option maxHeartbeats 4000000 in
theorem crX1_join {N : Nat} {X : XT} (G : GX X cX1_join RX1) (hR : xR X = rmL 2) : CRs X tX1_join (oF []) (oF [(mJ9_abs_067f4 N)]) (oF []) := by
  have hl : tX1_join.filter isInv = [(179, .invokestatic 41, 0, 0, 1, 0, 0, [(0, 0)]), (186, .invokestatic 41, 0, 0, 1, 0, 0, [(0, 0)])] := rfl
  intro e he
  rw [hl] at he
  simp only [List.mem_cons, List.not_mem_nil, or_false] at he
  rcases he with rfl | rfl
  · exact crL_S (idx := 41) G (by decide +kernel) (MJ9_abs_067f4 N) (cw_of (ps := [1100, 1101, 165, 1102]) (by decide +kernel) (by decide +kernel)) ⟨by decide +kernel, by decide +kernel, by decide +kernel⟩ (by unfold rmOk; rw [hR]; exact ⟨by decide, by decide⟩)
  · exact crL_S (idx := 41) G (by decide +kernel) (MJ9_abs_067f4 N) (cw_of (ps := [1100, 1101, 165, 1102]) (by decide +kernel) (by decide +kernel)) ⟨by decide +kernel, by decide +kernel, by decide +kernel⟩ (by unfold rmOk; rw [hR]; exact ⟨by decide, by decide⟩)
set_option maxRecDepth 100000 in
set_option maxHeartbeats 4000000 in
theorem MX1_join (N : Nat) : SndL yX1_join cX1_join 5 (some .long) 2 3 false (mX1_join N) := by
  refine SndL.of tX1_join (by decide +kernel) rfl rfl ?_ ?_
  · intro as w x h
    obtain ⟨a0, t1, rfl, h_1⟩ := xI1_some h
    obtain ⟨a1, t2, rfl, h_2⟩ := xL1_some h_1
    obtain ⟨a3, t3, rfl, h_3⟩ := xL1_some h_2
    obtain ⟨rfl, h_4⟩ := xN1_some h_3
    clear h h_1 h_2 h_3
    have h := h_4
    rw [callW_eq] at h
    exact ⟨(fun z => by cases z), rfl, Nat.le_of_ble_eq_true rfl⟩
  · intro X G hn hR as w r h hr
    have hC := crX1_join (N := N) G hR
    obtain ⟨a0, t1, rfl, h_1⟩ := xI1_some h
    obtain ⟨a1, t2, rfl, h_2⟩ := xL1_some h_1
    obtain ⟨a3, t3, rfl, h_3⟩ := xL1_some h_2
    obtain ⟨rfl, h_4⟩ := xN1_some h_3
    clear h h_1 h_2 h_3
    have h := h_4
    rw [callW_eq] at h
    refine run_sound (r := r) (X := X) (cc := cX1_join) (own := RX1) (tab := tX1_join) G (by rw [hn]; exact kX1_join) (oI := (oF [])) (oL := (oF [(mJ9_abs_067f4 N)])) (oV := (oF [])) (rI := (fun _ _ => none)) (rL := (fun x w => some (x, w))) (rV := (fun _ => none))
      (K := (fun j ls st w => none)) (fun _ _ _ _ hx => by cases hx) (fun x w pc ls hx hd => hr x w pc ls (Option.some.inj hx) hd) (fun _ _ _ hx => by cases hx) hC (fun ls => lsb [some (.inl a0), some (.inr (.inl a1)), none, some (.inr (.inl a3)), none] 0 ls) (keepsP_of rfl) ?_ 112 0 [some (.inl a0), some (.inr (.inl a1)), none, some (.inr (.inl a3)), none] [] w ?_ h
    · intro j ls st w hfx h
      obtain ⟨e0, e1, e3, -⟩ : _ = _ ∧ _ = _ ∧ _ = _ ∧ True := hfx
      try dsimp only at h
      cases h
    · exact (show _ = _ ∧ _ = _ ∧ _ = _ ∧ True from ⟨rfl, rfl, rfl, trivial⟩)
-- MoorGuides$Law.workOut([J)J
def tX1_workOut : List EN := [
  (0, .iconst 0, 0, 0, 0, 0, 0, []), (1, .istore_n 2, 0, 0, 0, 0, 0, []), (2, .iconst 0, 0, 0, 0, 0, 0, []), (3, .istore_n 3, 0, 0, 0, 0, 0, []),
  (4, .iload_n 3, 5, 0, 0, 0, 0, []), (5, .aload_n 0, 0, 0, 0, 0, 0, []), (6, .getfield 21, 0, 1, 2, 0, 0, []), (9, .if_icmp .ge 177, 0, 100, 0, 0, 0, []),
  (12, .aload_n 0, 0, 0, 0, 0, 0, []), (13, .getfield 11, 0, 1, 0, 0, 0, []), (16, .iload_n 3, 0, 0, 0, 0, 0, []), (17, .iaload, 0, 0, 0, 0, 0, []),
  (18, .istore 4, 0, 0, 0, 0, 0, []), (20, .iload 4, 0, 0, 0, 0, 0, []), (22, .iconst (-1), 0, 0, 0, (-1), 0, []), (23, .ixor, 0, 0, 0, 0, 0, []),
  (24, .istore 5, 0, 0, 0, 0, 0, []), (26, .iload 4, 0, 0, 0, 0, 0, []), (28, .ifCond .lt 14, 0, 24, 0, 0, 0, []), (31, .iload 4, 0, 0, 0, 0, 0, []),
  (33, .i2l, 0, 0, 0, 0, 0, []), (34, .lstore 6, 0, 0, 0, 0, 0, []), (36, .iinc 2 1, 0, 0, 0, 1, 0, []), (39, .goto 100, 0, 76, 0, 0, 0, []),
  (42, .iload 5, 0, 0, 0, 0, 0, []), (44, .aload_n 1, 0, 0, 0, 0, 0, []), (45, .arraylength, 0, 0, 0, 0, 0, []), (46, .if_icmp .ge 23, 0, 37, 0, 0, 0, []),
  (49, .iload 5, 0, 0, 0, 0, 0, []), (51, .invokestatic 25, 0, 0, 1, 0, 0, []), (54, .ifCond .eq 15, 0, 37, 0, 0, 0, []), (57, .aload_n 1, 0, 0, 0, 0, 0, []),
  (58, .iload 5, 0, 0, 0, 0, 0, []), (60, .laload, 0, 0, 0, 0, 0, []), (61, .lstore 6, 0, 0, 0, 0, 0, []), (63, .iinc 2 1, 0, 0, 0, 1, 0, []),
  (66, .goto 73, 0, 76, 0, 0, 0, []), (69, .iload 5, 38, 0, 0, 0, 0, []), (71, .bipush 18, 0, 0, 0, 18, 0, []), (73, .if_icmp .ne 30, 0, 56, 0, 0, 0, []),
  (76, .iload_n 2, 0, 0, 0, 0, 0, []), (77, .ifCond .le 26, 0, 56, 0, 0, 0, []), (80, .aload_n 0, 0, 0, 0, 0, 0, []), (81, .getfield 17, 0, 1, 1, 0, 0, []),
  (84, .iload_n 2, 0, 0, 0, 0, 0, []), (85, .iconst 1, 0, 0, 0, 1, 0, []), (86, .isub, 0, 0, 0, 0, 0, []), (87, .laload, 0, 0, 0, 0, 0, []),
  (88, .lconst 0, 0, 0, 0, 0, 0, []), (89, .lcmp, 0, 0, 0, 0, 0, []), (90, .ifCond .ne 7, 0, 53, 0, 0, 0, []), (93, .lconst 1, 0, 0, 0, 0, 1, []),
  (94, .goto 4, 0, 54, 0, 0, 0, []), (97, .lconst 0, 0, 0, 0, 0, 0, []), (98, .lstore 6, 55, 0, 0, 0, 0, []), (100, .goto 39, 0, 76, 0, 0, 0, []),
  (103, .iload_n 2, 57, 0, 0, 0, 0, []), (104, .iconst 1, 0, 0, 0, 1, 0, []), (105, .if_icmp .le 30, 0, 74, 0, 0, 0, []), (108, .iinc 2 (-1), 0, 0, 0, (-1), 0, []),
  (111, .iload 5, 0, 0, 0, 0, 0, []), (113, .aload_n 0, 0, 0, 0, 0, 0, []), (114, .getfield 17, 0, 1, 1, 0, 0, []), (117, .iload_n 2, 0, 0, 0, 0, 0, []),
  (118, .iconst 1, 0, 0, 0, 1, 0, []), (119, .isub, 0, 0, 0, 0, 0, []), (120, .laload, 0, 0, 0, 0, 0, []), (121, .aload_n 0, 0, 0, 0, 0, 0, []),
  (122, .getfield 17, 0, 1, 1, 0, 0, []), (125, .iload_n 2, 0, 0, 0, 0, 0, []), (126, .laload, 0, 0, 0, 0, 0, []), (127, .invokestatic 31, 0, 0, 3, 0, 0, [(0, 0)]),
  (130, .lstore 6, 0, 0, 0, 0, 0, []), (132, .goto 7, 0, 76, 0, 0, 0, []), (135, .ldc2_w 35, 0, 0, 0, 0, (-9223372036854775808), []), (138, .lreturn, 0, 0, 0, 0, 0, []),
  (139, .lload 6, 77, 0, 0, 0, 0, []), (141, .ldc2_w 37, 0, 0, 0, 0, 1000000000000, []), (144, .lcmp, 0, 0, 0, 0, 0, []), (145, .ifCond .gt 21, 0, 89, 0, 0, 0, []),
  (148, .lload 6, 0, 0, 0, 0, 0, []), (150, .ldc2_w 39, 0, 0, 0, 0, (-1000000000000), []), (153, .lcmp, 0, 0, 0, 0, 0, []), (154, .ifCond .lt 12, 0, 89, 0, 0, 0, []),
  (157, .iload_n 2, 0, 0, 0, 0, 0, []), (158, .aload_n 0, 0, 0, 0, 0, 0, []), (159, .getfield 17, 0, 1, 1, 0, 0, []), (162, .arraylength, 0, 0, 0, 0, 0, []),
  (163, .if_icmp .le 7, 0, 91, 0, 0, 0, []), (166, .ldc2_w 35, 0, 0, 0, 0, (-9223372036854775808), []), (169, .lreturn, 0, 0, 0, 0, 0, []), (170, .aload_n 0, 0, 0, 0, 0, 0, []),
  (171, .getfield 17, 0, 1, 1, 0, 0, []), (174, .iload_n 2, 0, 0, 0, 0, 0, []), (175, .iconst 1, 0, 0, 0, 1, 0, []), (176, .isub, 0, 0, 0, 0, 0, []),
  (177, .lload 6, 0, 0, 0, 0, 0, []), (179, .lastore, 0, 0, 0, 0, 0, []), (180, .iinc 3 1, 0, 0, 0, 1, 0, []), (183, .goto (-179), 0, 4, 0, 0, 0, []),
  (186, .iload_n 2, 101, 0, 0, 0, 0, []), (187, .iconst 1, 0, 0, 0, 1, 0, []), (188, .if_icmp .ne 12, 0, 108, 0, 0, 0, []), (191, .aload_n 0, 0, 0, 0, 0, 0, []),
  (192, .getfield 17, 0, 1, 1, 0, 0, []), (195, .iconst 0, 0, 0, 0, 0, 0, []), (196, .laload, 0, 0, 0, 0, 0, []), (197, .goto 6, 0, 109, 0, 0, 0, []),
  (200, .ldc2_w 35, 0, 0, 0, 0, (-9223372036854775808), []), (203, .lreturn, 0, 0, 0, 0, 0, [])]
noncomputable def fX1_workOut_100 (N : Nat) (i0 : Nat) (v2 : Int32) (w : Wd) : Option (Int64 × Wd) :=
  if v2 = (1 : Int32) then
    (ldL w 22 i0 (0 : Int32) 64).bind fun x1 =>
    some (x1, w)
  else
  some ((-9223372036854775808 : Int64), w)
noncomputable def fX1_workOut_76 (N : Nat) (i0 : Nat) (i1 : Nat) (k4 : Int32 → Int32 → Wd → Option (Int64 × Wd)) (v2 : Int32) (v3 : Int32) (v6 : Int64) (w : Wd) : Option (Int64 × Wd) :=
  if 0 < (lg_cmp v6 (1000000000000 : Int64)) then some ((-9223372036854775808 : Int64), w) else
  if (lg_cmp v6 (-1000000000000 : Int64)) < 0 then some ((-9223372036854775808 : Int64), w) else
  if (Int32.ofNat 64) < v2 then some ((-9223372036854775808 : Int64), w) else
  (stL w 22 i0 (v2 - (1 : Int32)) 64 v6).bind fun w1 =>
  k4 v2 (v3 + (1 : Int32)) w1
noncomputable def fX1_workOut_56 (N : Nat) (i0 : Nat) (i1 : Nat) (k4 : Int32 → Int32 → Wd → Option (Int64 × Wd)) (v2 : Int32) (v3 : Int32) (v5 : Int32) (w : Wd) : Option (Int64 × Wd) :=
  if (1 : Int32) < v2 then
    (ldL w 22 i0 ((v2 + (-1 : Int32)) - (1 : Int32)) 64).bind fun x1 =>
    (ldL w 22 i0 (v2 + (-1 : Int32)) 64).bind fun x2 =>
    (callW (pX1_join N v5 x1 x2) w).bind fun r3 =>
    callW (fX1_workOut_76 N i0 i1 k4 (v2 + (-1 : Int32)) v3 r3.1) r3.2
  else
  some ((-9223372036854775808 : Int64), w)
noncomputable def fX1_workOut_54 (N : Nat) (i0 : Nat) (i1 : Nat) (k4 : Int32 → Int32 → Wd → Option (Int64 × Wd)) (v2 : Int32) (v3 : Int32) (s0 : Int64) (w : Wd) : Option (Int64 × Wd) :=
  callW (fX1_workOut_76 N i0 i1 k4 v2 v3 s0) w
noncomputable def fX1_workOut_37 (N : Nat) (i0 : Nat) (i1 : Nat) (k4 : Int32 → Int32 → Wd → Option (Int64 × Wd)) (v2 : Int32) (v3 : Int32) (v5 : Int32) (w : Wd) : Option (Int64 × Wd) :=
  if v5 = (18 : Int32) then
    if 0 < v2 then
      (ldL w 22 i0 (v2 - (1 : Int32)) 64).bind fun x1 =>
      if (lg_cmp x1 (0 : Int64)) = 0 then callW (fX1_workOut_54 N i0 i1 k4 v2 v3 (1 : Int64)) w else
      callW (fX1_workOut_54 N i0 i1 k4 v2 v3 (0 : Int64)) w
    else
    callW (fX1_workOut_56 N i0 i1 k4 v2 v3 v5) w
  else
  callW (fX1_workOut_56 N i0 i1 k4 v2 v3 v5) w
noncomputable def fX1_workOut_4 (N : Nat) (i0 : Nat) (i1 : Nat) : Nat → (Int32 → Wd → Option (Int64 × Wd)) → Int32 → Int32 → Wd → Option (Int64 × Wd)
  | 0, _, _, _, _ => none
  | n + 1, k100, v2, v3, w =>
    if v3 < (gI w 5 i0 2) then
      (ldI w 21 i0 v3 64).bind fun x1 =>
      if x1 < 0 then
        if (x1 ^^^ (-1 : Int32)) < (Int32.ofNat 24) then
          (callW (pX10_isName N (x1 ^^^ (-1 : Int32))) w).bind fun r2 =>
          if r2.1 = 0 then callW (fX1_workOut_37 N i0 i1 (fX1_workOut_4 N i0 i1 n k100) v2 v3 (x1 ^^^ (-1 : Int32))) r2.2 else
          (ldL r2.2 66 i1 (x1 ^^^ (-1 : Int32)) 24).bind fun x3 =>
          callW (fX1_workOut_76 N i0 i1 (fX1_workOut_4 N i0 i1 n k100) (v2 + (1 : Int32)) v3 x3) r2.2
        else
        callW (fX1_workOut_37 N i0 i1 (fX1_workOut_4 N i0 i1 n k100) v2 v3 (x1 ^^^ (-1 : Int32))) w
      else
      callW (fX1_workOut_76 N i0 i1 (fX1_workOut_4 N i0 i1 n k100) (v2 + (1 : Int32)) v3 x1.toInt64) w
    else
    k100 v2 w
noncomputable def pX1_workOut (N : Nat) (i0 : Nat) (i1 : Nat) (w : Wd) : Option (Int64 × Wd) :=
  callW (fX1_workOut_4 N i0 i1 N (fX1_workOut_100 N i0) (0 : Int32) (0 : Int32)) w
noncomputable def mX1_workOut (N : Nat) (as : List AV) (w : Wd) : Option (Int64 × Wd) := xR1 5 as fun i0 t => xR1 66 t fun i1 t => xN1 t (callW (pX1_workOut N i0 i1) w)
set_option maxRecDepth 100000 in
set_option maxHeartbeats 4000000 in
theorem kX1_workOut : TK cX1_workOut RX1 8 tX1_workOut := ⟨by decide +kernel, wok_of [245, 243, 244, 244, 244, 1104, 1103, 1105, 244, 1104, 244, 244, 1104] (by decide +kernel) (by decide +kernel)⟩
set_option maxRecDepth 100000 in
set_option maxHeartbeats 4000000 in
theorem sX1_workOut_100 {N : Nat} {X : XT} (G : GX X cX1_workOut RX1) (hn : xnL X = 8) (hC : CRs X tX1_workOut (oF [(mX10_isName N)]) (oF [(mX1_join N)]) (oF [])) {r : Int64 × Wd} (hr : RTL X cX1_workOut r) (i0 : Nat) (i1 : Nat) : ∀ (v2 : Int32) (w : Wd), fX1_workOut_100 N i0 v2 w = some r → WW X (pcAt tX1_workOut 100) [some (.inr (.inr (5, i0))), some (.inr (.inr (66, i1))), some (.inl v2), none, none, none, none, none] [] w := by
  intro v2 w h
  refine run_sound (r := r) (X := X) (cc := cX1_workOut) (own := RX1) (tab := tX1_workOut) G (by rw [hn]; exact kX1_workOut) (oI := (oF [(mX10_isName N)])) (oL := (oF [(mX1_join N)])) (oV := (oF [])) (rI := (fun _ _ => none)) (rL := (fun x w => some (x, w))) (rV := (fun _ => none))
    (K := (fun j ls st w => none)) (fun _ _ _ _ hx => by cases hx) (fun x w pc ls hx hd => hr x w pc ls (Option.some.inj hx) hd) (fun _ _ _ hx => by cases hx) hC (fun ls => lsb [some (.inr (.inr (5, i0))), some (.inr (.inr (66, i1))), none, none, none, none, none, none] 0 ls) (keepsP_of rfl) ?_ 112 100 [some (.inr (.inr (5, i0))), some (.inr (.inr (66, i1))), some (.inl v2), none, none, none, none, none] [] w ?_ h
  · intro j ls st w hfx h
    obtain ⟨e0, e1, -⟩ : _ = _ ∧ _ = _ ∧ True := hfx
    try dsimp only at h
    cases h
  · exact (show _ = _ ∧ _ = _ ∧ True from ⟨rfl, rfl, trivial⟩)
set_option maxRecDepth 100000 in
set_option maxHeartbeats 4000000 in
theorem sX1_workOut_76 {N : Nat} {X : XT} (G : GX X cX1_workOut RX1) (hn : xnL X = 8) (hC : CRs X tX1_workOut (oF [(mX10_isName N)]) (oF [(mX1_join N)]) (oF [])) {r : Int64 × Wd} (hr : RTL X cX1_workOut r) (i0 : Nat) (i1 : Nat) : ∀ (k4 : Int32 → Int32 → Wd → Option (Int64 × Wd)) (v2 : Int32) (v3 : Int32) (v6 : Int64) (w : Wd), fX1_workOut_76 N i0 i1 k4 v2 v3 v6 w = some r → (∀ (v2 : Int32) (v3 : Int32) (w : Wd), k4 v2 v3 w = some r → WW X (pcAt tX1_workOut 4) [some (.inr (.inr (5, i0))), some (.inr (.inr (66, i1))), some (.inl v2), some (.inl v3), none, none, none, none] [] w) → WW X (pcAt tX1_workOut 76) [some (.inr (.inr (5, i0))), some (.inr (.inr (66, i1))), some (.inl v2), some (.inl v3), none, none, some (.inr (.inl v6)), none] [] w := by
  intro k4 v2 v3 v6 w h h4
  refine run_sound (r := r) (X := X) (cc := cX1_workOut) (own := RX1) (tab := tX1_workOut) G (by rw [hn]; exact kX1_workOut) (oI := (oF [(mX10_isName N)])) (oL := (oF [(mX1_join N)])) (oV := (oF [])) (rI := (fun _ _ => none)) (rL := (fun x w => some (x, w))) (rV := (fun _ => none))
    (K := (fun j ls st w => if j = 4 then (lgI ls 2 fun v2 => lgI ls 3 fun v3 => st0 st (k4 v2 v3 w)) else none)) (fun _ _ _ _ hx => by cases hx) (fun x w pc ls hx hd => hr x w pc ls (Option.some.inj hx) hd) (fun _ _ _ hx => by cases hx) hC (fun ls => lsb [some (.inr (.inr (5, i0))), some (.inr (.inr (66, i1))), none, none, none, none, none, none] 0 ls) (keepsP_of rfl) ?_ 112 76 [some (.inr (.inr (5, i0))), some (.inr (.inr (66, i1))), some (.inl v2), some (.inl v3), none, none, some (.inr (.inl v6)), none] [] w ?_ h
  · intro j ls st w hfx h
    obtain ⟨e0, e1, -⟩ : _ = _ ∧ _ = _ ∧ True := hfx
    try dsimp only at h
    by_cases hj : j = 4
    · subst hj
      rw [if_pos rfl] at h
      obtain ⟨v2, e2, h_1⟩ := lgI_some h
      obtain ⟨v3, e3, h_2⟩ := lgI_some h_1
      obtain ⟨rfl, h_3⟩ := st0_some h_2
      clear h h_1 h_2
      have h := h_3
      try rw [callW_eq] at h
      exact WW.le (a := [some (.inr (.inr (5, i0))), some (.inr (.inr (66, i1))), some (.inl v2), some (.inl v3), none, none, none, none]) (by rw [hn]; rfl) (show _ = _ ∧ _ = _ ∧ _ = _ ∧ _ = _ ∧ True from ⟨e0, e1, e2, e3, trivial⟩) (h4 v2 v3 w h)
    rw [if_neg hj] at h
    cases h
  · exact (show _ = _ ∧ _ = _ ∧ True from ⟨rfl, rfl, trivial⟩)
set_option maxRecDepth 100000 in
set_option maxHeartbeats 4000000 in
theorem sX1_workOut_56 {N : Nat} {X : XT} (G : GX X cX1_workOut RX1) (hn : xnL X = 8) (hC : CRs X tX1_workOut (oF [(mX10_isName N)]) (oF [(mX1_join N)]) (oF [])) {r : Int64 × Wd} (hr : RTL X cX1_workOut r) (i0 : Nat) (i1 : Nat) : ∀ (k4 : Int32 → Int32 → Wd → Option (Int64 × Wd)) (v2 : Int32) (v3 : Int32) (v5 : Int32) (w : Wd), fX1_workOut_56 N i0 i1 k4 v2 v3 v5 w = some r → (∀ (v2 : Int32) (v3 : Int32) (w : Wd), k4 v2 v3 w = some r → WW X (pcAt tX1_workOut 4) [some (.inr (.inr (5, i0))), some (.inr (.inr (66, i1))), some (.inl v2), some (.inl v3), none, none, none, none] [] w) → WW X (pcAt tX1_workOut 56) [some (.inr (.inr (5, i0))), some (.inr (.inr (66, i1))), some (.inl v2), some (.inl v3), none, some (.inl v5), none, none] [] w := by
  intro k4 v2 v3 v5 w h h4
  refine run_sound (r := r) (X := X) (cc := cX1_workOut) (own := RX1) (tab := tX1_workOut) G (by rw [hn]; exact kX1_workOut) (oI := (oF [(mX10_isName N)])) (oL := (oF [(mX1_join N)])) (oV := (oF [])) (rI := (fun _ _ => none)) (rL := (fun x w => some (x, w))) (rV := (fun _ => none))
    (K := (fun j ls st w => if j = 76 then (lgI ls 2 fun v2 => lgI ls 3 fun v3 => lgL ls 6 fun v6 => st0 st (callW (fX1_workOut_76 N i0 i1 k4 v2 v3 v6) w)) else none)) (fun _ _ _ _ hx => by cases hx) (fun x w pc ls hx hd => hr x w pc ls (Option.some.inj hx) hd) (fun _ _ _ hx => by cases hx) hC (fun ls => lsb [some (.inr (.inr (5, i0))), some (.inr (.inr (66, i1))), none, none, none, none, none, none] 0 ls) (keepsP_of rfl) ?_ 112 56 [some (.inr (.inr (5, i0))), some (.inr (.inr (66, i1))), some (.inl v2), some (.inl v3), none, some (.inl v5), none, none] [] w ?_ h
  · intro j ls st w hfx h
    obtain ⟨e0, e1, -⟩ : _ = _ ∧ _ = _ ∧ True := hfx
    try dsimp only at h
    by_cases hj : j = 76
    · subst hj
      rw [if_pos rfl] at h
      obtain ⟨v2, e2, h_1⟩ := lgI_some h
      obtain ⟨v3, e3, h_2⟩ := lgI_some h_1
      obtain ⟨v6, e6, h_3⟩ := lgL_some h_2
      obtain ⟨rfl, h_4⟩ := st0_some h_3
      clear h h_1 h_2 h_3
      have h := h_4
      try rw [callW_eq] at h
      exact WW.le (a := [some (.inr (.inr (5, i0))), some (.inr (.inr (66, i1))), some (.inl v2), some (.inl v3), none, none, some (.inr (.inl v6)), none]) (by rw [hn]; rfl) (show _ = _ ∧ _ = _ ∧ _ = _ ∧ _ = _ ∧ _ = _ ∧ True from ⟨e0, e1, e2, e3, e6, trivial⟩) (sX1_workOut_76 G hn hC hr i0 i1 k4 v2 v3 v6 w h (fun v2 v3 w h => (h4 v2 v3 w h)))
    rw [if_neg hj] at h
    cases h
  · exact (show _ = _ ∧ _ = _ ∧ True from ⟨rfl, rfl, trivial⟩)
set_option maxRecDepth 100000 in
set_option maxHeartbeats 4000000 in
theorem sX1_workOut_54 {N : Nat} {X : XT} (G : GX X cX1_workOut RX1) (hn : xnL X = 8) (hC : CRs X tX1_workOut (oF [(mX10_isName N)]) (oF [(mX1_join N)]) (oF [])) {r : Int64 × Wd} (hr : RTL X cX1_workOut r) (i0 : Nat) (i1 : Nat) : ∀ (k4 : Int32 → Int32 → Wd → Option (Int64 × Wd)) (v2 : Int32) (v3 : Int32) (s0 : Int64) (w : Wd), fX1_workOut_54 N i0 i1 k4 v2 v3 s0 w = some r → (∀ (v2 : Int32) (v3 : Int32) (w : Wd), k4 v2 v3 w = some r → WW X (pcAt tX1_workOut 4) [some (.inr (.inr (5, i0))), some (.inr (.inr (66, i1))), some (.inl v2), some (.inl v3), none, none, none, none] [] w) → WW X (pcAt tX1_workOut 54) [some (.inr (.inr (5, i0))), some (.inr (.inr (66, i1))), some (.inl v2), some (.inl v3), none, none, none, none] [.inr (.inl s0)] w := by
  intro k4 v2 v3 s0 w h h4
  refine run_sound (r := r) (X := X) (cc := cX1_workOut) (own := RX1) (tab := tX1_workOut) G (by rw [hn]; exact kX1_workOut) (oI := (oF [(mX10_isName N)])) (oL := (oF [(mX1_join N)])) (oV := (oF [])) (rI := (fun _ _ => none)) (rL := (fun x w => some (x, w))) (rV := (fun _ => none))
    (K := (fun j ls st w => if j = 76 then (lgI ls 2 fun v2 => lgI ls 3 fun v3 => lgL ls 6 fun v6 => st0 st (callW (fX1_workOut_76 N i0 i1 k4 v2 v3 v6) w)) else none)) (fun _ _ _ _ hx => by cases hx) (fun x w pc ls hx hd => hr x w pc ls (Option.some.inj hx) hd) (fun _ _ _ hx => by cases hx) hC (fun ls => lsb [some (.inr (.inr (5, i0))), some (.inr (.inr (66, i1))), none, none, none, none, none, none] 0 ls) (keepsP_of rfl) ?_ 112 54 [some (.inr (.inr (5, i0))), some (.inr (.inr (66, i1))), some (.inl v2), some (.inl v3), none, none, none, none] [.inr (.inl s0)] w ?_ h
  · intro j ls st w hfx h
    obtain ⟨e0, e1, -⟩ : _ = _ ∧ _ = _ ∧ True := hfx
    try dsimp only at h
    by_cases hj : j = 76
    · subst hj
      rw [if_pos rfl] at h
      obtain ⟨v2, e2, h_1⟩ := lgI_some h
      obtain ⟨v3, e3, h_2⟩ := lgI_some h_1
      obtain ⟨v6, e6, h_3⟩ := lgL_some h_2
      obtain ⟨rfl, h_4⟩ := st0_some h_3
      clear h h_1 h_2 h_3
      have h := h_4
      try rw [callW_eq] at h
      exact WW.le (a := [some (.inr (.inr (5, i0))), some (.inr (.inr (66, i1))), some (.inl v2), some (.inl v3), none, none, some (.inr (.inl v6)), none]) (by rw [hn]; rfl) (show _ = _ ∧ _ = _ ∧ _ = _ ∧ _ = _ ∧ _ = _ ∧ True from ⟨e0, e1, e2, e3, e6, trivial⟩) (sX1_workOut_76 G hn hC hr i0 i1 k4 v2 v3 v6 w h (fun v2 v3 w h => (h4 v2 v3 w h)))
    rw [if_neg hj] at h
    cases h
  · exact (show _ = _ ∧ _ = _ ∧ True from ⟨rfl, rfl, trivial⟩)
set_option maxRecDepth 100000 in
set_option maxHeartbeats 4000000 in
theorem sX1_workOut_37 {N : Nat} {X : XT} (G : GX X cX1_workOut RX1) (hn : xnL X = 8) (hC : CRs X tX1_workOut (oF [(mX10_isName N)]) (oF [(mX1_join N)]) (oF [])) {r : Int64 × Wd} (hr : RTL X cX1_workOut r) (i0 : Nat) (i1 : Nat) : ∀ (k4 : Int32 → Int32 → Wd → Option (Int64 × Wd)) (v2 : Int32) (v3 : Int32) (v5 : Int32) (w : Wd), fX1_workOut_37 N i0 i1 k4 v2 v3 v5 w = some r → (∀ (v2 : Int32) (v3 : Int32) (w : Wd), k4 v2 v3 w = some r → WW X (pcAt tX1_workOut 4) [some (.inr (.inr (5, i0))), some (.inr (.inr (66, i1))), some (.inl v2), some (.inl v3), none, none, none, none] [] w) → WW X (pcAt tX1_workOut 37) [some (.inr (.inr (5, i0))), some (.inr (.inr (66, i1))), some (.inl v2), some (.inl v3), none, some (.inl v5), none, none] [] w := by
  intro k4 v2 v3 v5 w h h4
  refine run_sound (r := r) (X := X) (cc := cX1_workOut) (own := RX1) (tab := tX1_workOut) G (by rw [hn]; exact kX1_workOut) (oI := (oF [(mX10_isName N)])) (oL := (oF [(mX1_join N)])) (oV := (oF [])) (rI := (fun _ _ => none)) (rL := (fun x w => some (x, w))) (rV := (fun _ => none))
    (K := (fun j ls st w => if j = 54 then (lgI ls 2 fun v2 => lgI ls 3 fun v3 => pl1 st fun s0 st => st0 st (callW (fX1_workOut_54 N i0 i1 k4 v2 v3 s0) w)) else if j = 56 then (lgI ls 2 fun v2 => lgI ls 3 fun v3 => lgI ls 5 fun v5 => st0 st (callW (fX1_workOut_56 N i0 i1 k4 v2 v3 v5) w)) else none)) (fun _ _ _ _ hx => by cases hx) (fun x w pc ls hx hd => hr x w pc ls (Option.some.inj hx) hd) (fun _ _ _ hx => by cases hx) hC (fun ls => lsb [some (.inr (.inr (5, i0))), some (.inr (.inr (66, i1))), none, none, none, none, none, none] 0 ls) (keepsP_of rfl) ?_ 112 37 [some (.inr (.inr (5, i0))), some (.inr (.inr (66, i1))), some (.inl v2), some (.inl v3), none, some (.inl v5), none, none] [] w ?_ h
  · intro j ls st w hfx h
    obtain ⟨e0, e1, -⟩ : _ = _ ∧ _ = _ ∧ True := hfx
    try dsimp only at h
    by_cases hj : j = 54
    · subst hj
      rw [if_pos rfl] at h
      obtain ⟨v2, e2, h_1⟩ := lgI_some h
      obtain ⟨v3, e3, h_2⟩ := lgI_some h_1
      obtain ⟨s0, st0, rfl, h_3⟩ := pl1_some h_2
      obtain ⟨rfl, h_4⟩ := st0_some h_3
      clear h h_1 h_2 h_3
      have h := h_4
      try rw [callW_eq] at h
      exact WW.le (a := [some (.inr (.inr (5, i0))), some (.inr (.inr (66, i1))), some (.inl v2), some (.inl v3), none, none, none, none]) (by rw [hn]; rfl) (show _ = _ ∧ _ = _ ∧ _ = _ ∧ _ = _ ∧ True from ⟨e0, e1, e2, e3, trivial⟩) (sX1_workOut_54 G hn hC hr i0 i1 k4 v2 v3 s0 w h (fun v2 v3 w h => (h4 v2 v3 w h)))
    rw [if_neg hj] at h
    by_cases hj : j = 56
    · subst hj
      rw [if_pos rfl] at h
      obtain ⟨v2, e2, h_1⟩ := lgI_some h
      obtain ⟨v3, e3, h_2⟩ := lgI_some h_1
      obtain ⟨v5, e5, h_3⟩ := lgI_some h_2
      obtain ⟨rfl, h_4⟩ := st0_some h_3
      clear h h_1 h_2 h_3
      have h := h_4
      try rw [callW_eq] at h
      exact WW.le (a := [some (.inr (.inr (5, i0))), some (.inr (.inr (66, i1))), some (.inl v2), some (.inl v3), none, some (.inl v5), none, none]) (by rw [hn]; rfl) (show _ = _ ∧ _ = _ ∧ _ = _ ∧ _ = _ ∧ _ = _ ∧ True from ⟨e0, e1, e2, e3, e5, trivial⟩) (sX1_workOut_56 G hn hC hr i0 i1 k4 v2 v3 v5 w h (fun v2 v3 w h => (h4 v2 v3 w h)))
    rw [if_neg hj] at h
    cases h
  · exact (show _ = _ ∧ _ = _ ∧ True from ⟨rfl, rfl, trivial⟩)
set_option maxRecDepth 100000 in
set_option maxHeartbeats 4000000 in
theorem sX1_workOut_4 {N : Nat} {X : XT} (G : GX X cX1_workOut RX1) (hn : xnL X = 8) (hC : CRs X tX1_workOut (oF [(mX10_isName N)]) (oF [(mX1_join N)]) (oF [])) {r : Int64 × Wd} (hr : RTL X cX1_workOut r) (i0 : Nat) (i1 : Nat) : ∀ (n : Nat) (k100 : Int32 → Wd → Option (Int64 × Wd)) (v2 : Int32) (v3 : Int32) (w : Wd), fX1_workOut_4 N i0 i1 n k100 v2 v3 w = some r → (∀ (v2 : Int32) (w : Wd), k100 v2 w = some r → WW X (pcAt tX1_workOut 100) [some (.inr (.inr (5, i0))), some (.inr (.inr (66, i1))), some (.inl v2), none, none, none, none, none] [] w) → WW X (pcAt tX1_workOut 4) [some (.inr (.inr (5, i0))), some (.inr (.inr (66, i1))), some (.inl v2), some (.inl v3), none, none, none, none] [] w := by
  intro n
  induction n with
  | zero => intro k100 v2 v3 w h h100; cases h
  | succ n ih =>
    intro k100 v2 v3 w h h100
    refine run_sound (r := r) (X := X) (cc := cX1_workOut) (own := RX1) (tab := tX1_workOut) G (by rw [hn]; exact kX1_workOut) (oI := (oF [(mX10_isName N)])) (oL := (oF [(mX1_join N)])) (oV := (oF [])) (rI := (fun _ _ => none)) (rL := (fun x w => some (x, w))) (rV := (fun _ => none))
      (K := (fun j ls st w => if j = 37 then (lgI ls 2 fun v2 => lgI ls 3 fun v3 => lgI ls 5 fun v5 => st0 st (callW (fX1_workOut_37 N i0 i1 (fX1_workOut_4 N i0 i1 n k100) v2 v3 v5) w)) else if j = 76 then (lgI ls 2 fun v2 => lgI ls 3 fun v3 => lgL ls 6 fun v6 => st0 st (callW (fX1_workOut_76 N i0 i1 (fX1_workOut_4 N i0 i1 n k100) v2 v3 v6) w)) else if j = 100 then (lgI ls 2 fun v2 => st0 st (k100 v2 w)) else none)) (fun _ _ _ _ hx => by cases hx) (fun x w pc ls hx hd => hr x w pc ls (Option.some.inj hx) hd) (fun _ _ _ hx => by cases hx) hC (fun ls => lsb [some (.inr (.inr (5, i0))), some (.inr (.inr (66, i1))), none, none, none, none, none, none] 0 ls) (keepsP_of rfl) ?_ 112 4 [some (.inr (.inr (5, i0))), some (.inr (.inr (66, i1))), some (.inl v2), some (.inl v3), none, none, none, none] [] w ?_ h
    · intro j ls st w hfx h
      obtain ⟨e0, e1, -⟩ : _ = _ ∧ _ = _ ∧ True := hfx
      try dsimp only at h
      by_cases hj : j = 37
      · subst hj
        rw [if_pos rfl] at h
        obtain ⟨v2, e2, h_1⟩ := lgI_some h
        obtain ⟨v3, e3, h_2⟩ := lgI_some h_1
        obtain ⟨v5, e5, h_3⟩ := lgI_some h_2
        obtain ⟨rfl, h_4⟩ := st0_some h_3
        clear h h_1 h_2 h_3
        have h := h_4
        try rw [callW_eq] at h
        exact WW.le (a := [some (.inr (.inr (5, i0))), some (.inr (.inr (66, i1))), some (.inl v2), some (.inl v3), none, some (.inl v5), none, none]) (by rw [hn]; rfl) (show _ = _ ∧ _ = _ ∧ _ = _ ∧ _ = _ ∧ _ = _ ∧ True from ⟨e0, e1, e2, e3, e5, trivial⟩) (sX1_workOut_37 G hn hC hr i0 i1 (fX1_workOut_4 N i0 i1 n k100) v2 v3 v5 w h (fun v2 v3 w h => (ih k100 v2 v3 w h h100)))
      rw [if_neg hj] at h
      by_cases hj : j = 76
      · subst hj
        rw [if_pos rfl] at h
        obtain ⟨v2, e2, h_1⟩ := lgI_some h
        obtain ⟨v3, e3, h_2⟩ := lgI_some h_1
        obtain ⟨v6, e6, h_3⟩ := lgL_some h_2
        obtain ⟨rfl, h_4⟩ := st0_some h_3
        clear h h_1 h_2 h_3
        have h := h_4
        try rw [callW_eq] at h
        exact WW.le (a := [some (.inr (.inr (5, i0))), some (.inr (.inr (66, i1))), some (.inl v2), some (.inl v3), none, none, some (.inr (.inl v6)), none]) (by rw [hn]; rfl) (show _ = _ ∧ _ = _ ∧ _ = _ ∧ _ = _ ∧ _ = _ ∧ True from ⟨e0, e1, e2, e3, e6, trivial⟩) (sX1_workOut_76 G hn hC hr i0 i1 (fX1_workOut_4 N i0 i1 n k100) v2 v3 v6 w h (fun v2 v3 w h => (ih k100 v2 v3 w h h100)))
      rw [if_neg hj] at h
      by_cases hj : j = 100
      · subst hj
        rw [if_pos rfl] at h
        obtain ⟨v2, e2, h_1⟩ := lgI_some h
        obtain ⟨rfl, h_2⟩ := st0_some h_1
        clear h h_1
        have h := h_2
        try rw [callW_eq] at h
        exact WW.le (a := [some (.inr (.inr (5, i0))), some (.inr (.inr (66, i1))), some (.inl v2), none, none, none, none, none]) (by rw [hn]; rfl) (show _ = _ ∧ _ = _ ∧ _ = _ ∧ True from ⟨e0, e1, e2, trivial⟩) (h100 v2 w h)
      rw [if_neg hj] at h
      cases h
    · exact (show _ = _ ∧ _ = _ ∧ True from ⟨rfl, rfl, trivial⟩)
set_option maxRecDepth 100000 in
set_option maxHeartbeats 4000000 in
theorem crX1_workOut {N : Nat} {X : XT} (G : GX X cX1_workOut RX1) (hR : xR X = rmL 3) : CRs X tX1_workOut (oF [(mX10_isName N)]) (oF [(mX1_join N)]) (oF []) := by
  have hl : tX1_workOut.filter isInv = [(51, .invokestatic 25, 0, 0, 1, 0, 0, []), (127, .invokestatic 31, 0, 0, 3, 0, 0, [(0, 0)])] := rfl
  intro e he
  rw [hl] at he
  simp only [List.mem_cons, List.not_mem_nil, or_false] at he
  rcases he with rfl | rfl
  · exact crI_S (idx := 25) G (by decide +kernel) (MX10_isName N) (cw_of (ps := [1096, 962, 153, 963]) (by decide +kernel) (by decide +kernel)) ⟨by decide +kernel, by decide +kernel, by decide +kernel⟩ (by unfold rmOk; rw [hR]; exact ⟨by decide, by decide⟩)
  · exact crL_S (idx := 31) G (by decide +kernel) (MX1_join N) (cw_of (ps := [1097, 1098, 151, 1099]) (by decide +kernel) (by decide +kernel)) ⟨by decide +kernel, by decide +kernel, by decide +kernel⟩ (by unfold rmOk; rw [hR]; exact ⟨by decide, by decide⟩)
set_option maxRecDepth 100000 in
set_option maxHeartbeats 4000000 in
theorem MX1_workOut (N : Nat) : SndL yX1_workOut cX1_workOut 8 (some .long) 3 2 true (mX1_workOut N) := by
  refine SndL.of tX1_workOut (by decide +kernel) rfl rfl ?_ ?_
  · intro as w x h
    obtain ⟨i0, t1, rfl, h_1⟩ := xR1_some h
    obtain ⟨i1, t2, rfl, h_2⟩ := xR1_some h_1
    obtain ⟨rfl, h_3⟩ := xN1_some h_2
    clear h h_1 h_2
    have h := h_3
    rw [callW_eq] at h
    exact ⟨fun _ => ⟨_, _, _, rfl, rfl, _, rfl, rfl⟩, rfl, Nat.le_of_ble_eq_true rfl⟩
  · intro X G hn hR as w r h hr
    have hC := crX1_workOut (N := N) G hR
    obtain ⟨i0, t1, rfl, h_1⟩ := xR1_some h
    obtain ⟨i1, t2, rfl, h_2⟩ := xR1_some h_1
    obtain ⟨rfl, h_3⟩ := xN1_some h_2
    clear h h_1 h_2
    have h := h_3
    rw [callW_eq] at h
    refine run_sound (r := r) (X := X) (cc := cX1_workOut) (own := RX1) (tab := tX1_workOut) G (by rw [hn]; exact kX1_workOut) (oI := (oF [(mX10_isName N)])) (oL := (oF [(mX1_join N)])) (oV := (oF [])) (rI := (fun _ _ => none)) (rL := (fun x w => some (x, w))) (rV := (fun _ => none))
      (K := (fun j ls st w => if j = 4 then (lgI ls 2 fun v2 => lgI ls 3 fun v3 => st0 st (callW (fX1_workOut_4 N i0 i1 N (fX1_workOut_100 N i0) v2 v3) w)) else none)) (fun _ _ _ _ hx => by cases hx) (fun x w pc ls hx hd => hr x w pc ls (Option.some.inj hx) hd) (fun _ _ _ hx => by cases hx) hC (fun ls => lsb [some (.inr (.inr (5, i0))), some (.inr (.inr (66, i1))), none, none, none, none, none, none] 0 ls) (keepsP_of rfl) ?_ 112 0 [some (.inr (.inr (5, i0))), some (.inr (.inr (66, i1))), none, none, none, none, none, none] [] w ?_ h
    · intro j ls st w hfx h
      obtain ⟨e0, e1, -⟩ : _ = _ ∧ _ = _ ∧ True := hfx
      try dsimp only at h
      by_cases hj : j = 4
      · subst hj
        rw [if_pos rfl] at h
        obtain ⟨v2, e2, h_1⟩ := lgI_some h
        obtain ⟨v3, e3, h_2⟩ := lgI_some h_1
        obtain ⟨rfl, h_3⟩ := st0_some h_2
        clear h h_1 h_2
        have h := h_3
        try rw [callW_eq] at h
        exact WW.le (a := [some (.inr (.inr (5, i0))), some (.inr (.inr (66, i1))), some (.inl v2), some (.inl v3), none, none, none, none]) (by rw [hn]; rfl) (show _ = _ ∧ _ = _ ∧ _ = _ ∧ _ = _ ∧ True from ⟨e0, e1, e2, e3, trivial⟩) (sX1_workOut_4 G hn hC hr i0 i1 N (fX1_workOut_100 N i0) v2 v3 w h (fun v2 w h => (sX1_workOut_100 G hn hC hr i0 i1 v2 w h)))
      rw [if_neg hj] at h
      cases h
    · exact (show _ = _ ∧ _ = _ ∧ True from ⟨rfl, rfl, trivial⟩)
-- MoorGuides$Stand.isThere(II)Z
def tX9_isThere : List EN := [
  (0, .aload_n 0, 0, 0, 0, 0, 0, []), (1, .getfield 56, 0, 9, 3, 0, 0, []), (4, .iload_n 1, 0, 0, 0, 0, 0, []), (5, .ishr, 0, 0, 0, 0, 0, []),
  (6, .iconst 1, 0, 0, 0, 1, 0, []), (7, .iand, 0, 0, 0, 0, 0, []), (8, .ifCond .ne 39, 0, 25, 0, 0, 0, []), (11, .aload_n 0, 0, 0, 0, 0, 0, []),
  (12, .getfield 39, 0, 9, 0, 0, 0, []), (15, .getfield 59, 0, 4, 4, 0, 0, []), (18, .getfield 84, 0, 6, 4, 0, 0, []), (21, .iload_n 1, 0, 0, 0, 0, 0, []),
  (22, .iaload, 0, 0, 0, 0, 0, []), (23, .iload_n 2, 0, 0, 0, 0, 0, []), (24, .if_icmp .gt 23, 0, 25, 0, 0, 0, []), (27, .iload_n 2, 0, 0, 0, 0, 0, []),
  (28, .aload_n 0, 0, 0, 0, 0, 0, []), (29, .getfield 39, 0, 9, 0, 0, 0, []), (32, .getfield 59, 0, 4, 4, 0, 0, []), (35, .getfield 87, 0, 6, 5, 0, 0, []),
  (38, .iload_n 1, 0, 0, 0, 0, 0, []), (39, .iaload, 0, 0, 0, 0, 0, []), (40, .if_icmp .ge 7, 0, 25, 0, 0, 0, []), (43, .iconst 1, 0, 0, 0, 1, 0, []),
  (44, .goto 4, 0, 26, 0, 0, 0, []), (47, .iconst 0, 0, 0, 0, 0, 0, []), (48, .ireturn, 0, 0, 0, 0, 0, [])]
noncomputable def pX9_isThere (N : Nat) (i0 : Nat) (a1 : Int32) (a2 : Int32) (w : Wd) : Option (Int32 × Wd) :=
  if (((gI w 13 i0 3) >>> (a1 &&& (31 : Int32))) &&& (1 : Int32)) = 0 then
    (ldI w 51 (gR w 13 i0 0) a1 6).bind fun x1 =>
    if a2 < x1 then some ((0 : Int32), w) else
    (ldI w 52 (gR w 13 i0 0) a1 6).bind fun x2 =>
    if a2 < x2 then some ((1 : Int32), w) else
    some ((0 : Int32), w)
  else
  some ((0 : Int32), w)
noncomputable def mX9_isThere (N : Nat) (as : List AV) (w : Wd) : Option (Int32 × Wd) := xR1 13 as fun i0 t => xI1 t fun a1 t => xI1 t fun a2 t => xN1 t (callW (pX9_isThere N i0 a1 a2) w)
set_option maxRecDepth 100000 in
set_option maxHeartbeats 4000000 in
theorem kX9_isThere : TK cX9_isThere RX9 3 tX9_isThere := ⟨by decide +kernel, wok_of [527, 516, 279, 212, 516, 279, 215] (by decide +kernel) (by decide +kernel)⟩
set_option maxRecDepth 100000 in
set_option maxHeartbeats 4000000 in
theorem crX9_isThere {N : Nat} {X : XT} (G : GX X cX9_isThere RX9) (hR : xR X = rmL 1) : CRs X tX9_isThere (oF []) (oF []) (oF []) := by
  have hl : tX9_isThere.filter isInv = [] := rfl
  intro e he
  rw [hl] at he
  cases he
set_option maxRecDepth 100000 in
set_option maxHeartbeats 4000000 in
theorem MX9_isThere (N : Nat) : SndI yX9_isThere cX9_isThere 3 (some .boolean) 1 3 true (mX9_isThere N) := by
  refine SndI.ofZ tX9_isThere (by decide +kernel) rfl rfl ?_ ?_
  · intro as w x h
    obtain ⟨i0, t1, rfl, h_1⟩ := xR1_some h
    obtain ⟨a1, t2, rfl, h_2⟩ := xI1_some h_1
    obtain ⟨a2, t3, rfl, h_3⟩ := xI1_some h_2
    obtain ⟨rfl, h_4⟩ := xN1_some h_3
    clear h h_1 h_2 h_3
    have h := h_4
    rw [callW_eq] at h
    exact ⟨fun _ => ⟨_, _, _, rfl, rfl, _, rfl, rfl⟩, rfl, Nat.le_of_ble_eq_true rfl⟩
  · intro X G hn hR as w r h hr
    have hC := crX9_isThere (N := N) G hR
    obtain ⟨i0, t1, rfl, h_1⟩ := xR1_some h
    obtain ⟨a1, t2, rfl, h_2⟩ := xI1_some h_1
    obtain ⟨a2, t3, rfl, h_3⟩ := xI1_some h_2
    obtain ⟨rfl, h_4⟩ := xN1_some h_3
    clear h h_1 h_2 h_3
    have h := h_4
    rw [callW_eq] at h
    refine run_sound (r := r) (X := X) (cc := cX9_isThere) (own := RX9) (tab := tX9_isThere) G (by rw [hn]; exact kX9_isThere) (oI := (oF [])) (oL := (oF [])) (oV := (oF [])) (rI := retZ) (rL := (fun _ _ => none)) (rV := (fun _ => none))
      (K := (fun j ls st w => none)) hr (fun _ _ _ _ hx => by cases hx) (fun _ _ _ hx => by cases hx) hC (fun ls => lsb [some (.inr (.inr (13, i0))), some (.inl a1), some (.inl a2)] 0 ls) (keepsP_of rfl) ?_ 29 0 [some (.inr (.inr (13, i0))), some (.inl a1), some (.inl a2)] [] w ?_ h
    · intro j ls st w hfx h
      obtain ⟨e0, e1, e2, -⟩ : _ = _ ∧ _ = _ ∧ _ = _ ∧ True := hfx
      try dsimp only at h
      cases h
    · exact (show _ = _ ∧ _ = _ ∧ _ = _ ∧ True from ⟨rfl, rfl, rfl, trivial⟩)
-- MoorGuides$Stand.knownBits(II)I
def tX9_knownBits : List EN := [
  (0, .aload_n 0, 0, 0, 0, 0, 0, []), (1, .iload_n 1, 0, 0, 0, 0, 0, []), (2, .iload_n 2, 0, 0, 0, 0, 0, []), (3, .invokevirtual 90, 0, 0, 3, 0, 0, []),
  (6, .ifCond .ne 5, 0, 7, 0, 0, 0, []), (9, .iconst 0, 0, 0, 0, 0, 0, []), (10, .ireturn, 0, 0, 0, 0, 0, []), (11, .aload_n 0, 0, 0, 0, 0, 0, []),
  (12, .getfield 17, 0, 9, 5, 0, 0, []), (15, .iload_n 1, 0, 0, 0, 0, 0, []), (16, .aaload, 0, 0, 0, 0, 0, []), (17, .astore_n 3, 0, 0, 0, 0, 0, []),
  (18, .iload_n 2, 0, 0, 0, 0, 0, []), (19, .aload_n 0, 0, 0, 0, 0, 0, []), (20, .getfield 39, 0, 9, 0, 0, 0, []), (23, .getfield 59, 0, 4, 4, 0, 0, []),
  (26, .getfield 93, 0, 6, 6, 0, 0, []), (29, .iload_n 1, 0, 0, 0, 0, 0, []), (30, .iaload, 0, 0, 0, 0, 0, []), (31, .isub, 0, 0, 0, 0, 0, []),
  (32, .istore 4, 0, 0, 0, 0, 0, []), (34, .iconst 0, 0, 0, 0, 0, 0, []), (35, .istore 5, 0, 0, 0, 0, 0, []), (37, .iconst 0, 0, 0, 0, 0, 0, []),
  (38, .istore 6, 0, 0, 0, 0, 0, []), (40, .iload 6, 26, 0, 0, 0, 0, []), (42, .aload_n 0, 0, 0, 0, 0, 0, []), (43, .getfield 39, 0, 9, 0, 0, 0, []),
  (46, .getfield 96, 0, 4, 0, 0, 0, []), (49, .if_icmp .ge 54, 0, 57, 0, 0, 0, []), (52, .aload_n 3, 0, 0, 0, 0, 0, []), (53, .iload 6, 0, 0, 0, 0, 0, []),
  (55, .iaload, 0, 0, 0, 0, 0, []), (56, .iconst (-1), 0, 0, 0, (-1), 0, []), (57, .if_icmp .ne 7, 0, 37, 0, 0, 0, []), (60, .iconst 0, 0, 0, 0, 0, 0, []),
  (61, .goto 7, 0, 40, 0, 0, 0, []), (64, .aload_n 3, 0, 0, 0, 0, 0, []), (65, .iload 6, 0, 0, 0, 0, 0, []), (67, .iaload, 0, 0, 0, 0, 0, []),
  (68, .istore 7, 41, 0, 0, 0, 0, []), (70, .iload 7, 0, 0, 0, 0, 0, []), (72, .ifCond .lt 25, 0, 55, 0, 0, 0, []), (75, .iload 7, 0, 0, 0, 0, 0, []),
  (77, .iload_n 2, 0, 0, 0, 0, 0, []), (78, .if_icmp .gt 19, 0, 55, 0, 0, 0, []), (81, .iload 7, 0, 0, 0, 0, 0, []), (83, .iload 4, 0, 0, 0, 0, 0, []),
  (85, .if_icmp .lt 12, 0, 55, 0, 0, 0, []), (88, .iload 5, 0, 0, 0, 0, 0, []), (90, .iconst 1, 0, 0, 0, 1, 0, []), (91, .iload 6, 0, 0, 0, 0, 0, []),
  (93, .ishl, 0, 0, 0, 0, 0, []), (94, .ior, 0, 0, 0, 0, 0, []), (95, .istore 5, 0, 0, 0, 0, 0, []), (97, .iinc 6 1, 0, 0, 0, 1, 0, []),
  (100, .goto (-60), 0, 25, 0, 0, 0, []), (103, .iconst 0, 58, 0, 0, 0, 0, []), (104, .istore 6, 0, 0, 0, 0, 0, []), (106, .iload 6, 60, 0, 0, 0, 0, []),
  (108, .aload_n 0, 0, 0, 0, 0, 0, []), (109, .getfield 68, 0, 9, 7, 0, 0, []), (112, .if_icmp .ge 55, 0, 93, 0, 0, 0, []), (115, .aload_n 0, 0, 0, 0, 0, 0, []),
  (116, .getfield 26, 0, 9, 9, 0, 0, []), (119, .iload 6, 0, 0, 0, 0, 0, []), (121, .iaload, 0, 0, 0, 0, 0, []), (122, .iload_n 2, 0, 0, 0, 0, 0, []),
  (123, .if_icmp .gt 38, 0, 91, 0, 0, 0, []), (126, .aload_n 0, 0, 0, 0, 0, 0, []), (127, .getfield 26, 0, 9, 9, 0, 0, []), (130, .iload 6, 0, 0, 0, 0, 0, []),
  (132, .iaload, 0, 0, 0, 0, 0, []), (133, .aload_n 3, 0, 0, 0, 0, 0, []), (134, .aload_n 0, 0, 0, 0, 0, 0, []), (135, .getfield 23, 0, 9, 8, 0, 0, []),
  (138, .iload 6, 0, 0, 0, 0, 0, []), (140, .iaload, 0, 0, 0, 0, 0, []), (141, .iaload, 0, 0, 0, 0, 0, []), (142, .if_icmp .le 19, 0, 91, 0, 0, 0, []),
  (145, .iload 5, 0, 0, 0, 0, 0, []), (147, .iconst 1, 0, 0, 0, 1, 0, []), (148, .aload_n 0, 0, 0, 0, 0, 0, []), (149, .getfield 23, 0, 9, 8, 0, 0, []),
  (152, .iload 6, 0, 0, 0, 0, 0, []), (154, .iaload, 0, 0, 0, 0, 0, []), (155, .ishl, 0, 0, 0, 0, 0, []), (156, .iconst (-1), 0, 0, 0, (-1), 0, []),
  (157, .ixor, 0, 0, 0, 0, 0, []), (158, .iand, 0, 0, 0, 0, 0, []), (159, .istore 5, 0, 0, 0, 0, 0, []), (161, .iinc 6 1, 0, 0, 0, 1, 0, []),
  (164, .goto (-58), 0, 59, 0, 0, 0, []), (167, .iload 5, 0, 0, 0, 0, 0, []), (169, .ireturn, 0, 0, 0, 0, 0, [])]
noncomputable def fX9_knownBits_59 (N : Nat) (i0 : Nat) (a2 : Int32) : Nat → Nat → Int32 → Int32 → Wd → Option (Int32 × Wd)
  | 0, _, _, _, _ => none
  | n + 1, q3, v5, v6, w =>
    if v6 < (gI w 13 i0 7) then
      (ldI w 65 i0 v6 12).bind fun x1 =>
      if a2 < x1 then callW (fX9_knownBits_59 N i0 a2 n q3 v5 (v6 + (1 : Int32))) w else
      (ldI w 65 i0 v6 12).bind fun x2 =>
      (ldI w 64 i0 v6 12).bind fun x3 =>
      (ldI w 62 q3 x3 8).bind fun x4 =>
      if x4 < x2 then
        (ldI w 64 i0 v6 12).bind fun x5 =>
        callW (fX9_knownBits_59 N i0 a2 n q3 (v5 &&& (((1 : Int32) <<< (x5 &&& (31 : Int32))) ^^^ (-1 : Int32))) (v6 + (1 : Int32))) w
      else
      callW (fX9_knownBits_59 N i0 a2 n q3 v5 (v6 + (1 : Int32))) w
    else
    some (v5, w)
noncomputable def fX9_knownBits_57 (N : Nat) (i0 : Nat) (a2 : Int32) (q3 : Nat) (v5 : Int32) (w : Wd) : Option (Int32 × Wd) :=
  callW (fX9_knownBits_59 N i0 a2 N q3 v5 (0 : Int32)) w
noncomputable def fX9_knownBits_40 (N : Nat) (i0 : Nat) (a2 : Int32) (k25 : Nat → Int32 → Int32 → Int32 → Wd → Option (Int32 × Wd)) (q3 : Nat) (v4 : Int32) (v5 : Int32) (v6 : Int32) (s0 : Int32) (w : Wd) : Option (Int32 × Wd) :=
  if s0 < 0 then k25 q3 v4 v5 (v6 + (1 : Int32)) w else
  if a2 < s0 then k25 q3 v4 v5 (v6 + (1 : Int32)) w else
  if s0 < v4 then k25 q3 v4 v5 (v6 + (1 : Int32)) w else
  k25 q3 v4 (v5 ||| ((1 : Int32) <<< (v6 &&& (31 : Int32)))) (v6 + (1 : Int32)) w
noncomputable def fX9_knownBits_25 (N : Nat) (i0 : Nat) (a2 : Int32) : Nat → (Nat → Int32 → Wd → Option (Int32 × Wd)) → Nat → Int32 → Int32 → Int32 → Wd → Option (Int32 × Wd)
  | 0, _, _, _, _, _, _ => none
  | n + 1, k57, q3, v4, v5, v6, w =>
    if v6 < (gI w 8 (gR w 13 i0 0) 0) then
      (ldI w 62 q3 v6 8).bind fun x1 =>
      if x1 = (-1 : Int32) then callW (fX9_knownBits_40 N i0 a2 (fX9_knownBits_25 N i0 a2 n k57) q3 v4 v5 v6 (0 : Int32)) w else
      (ldI w 62 q3 v6 8).bind fun x2 =>
      callW (fX9_knownBits_40 N i0 a2 (fX9_knownBits_25 N i0 a2 n k57) q3 v4 v5 v6 x2) w
    else
    k57 q3 v5 w
noncomputable def pX9_knownBits (N : Nat) (i0 : Nat) (a1 : Int32) (a2 : Int32) (w : Wd) : Option (Int32 × Wd) :=
  (callW (pX9_isThere N i0 a1 a2) w).bind fun r1 =>
  if r1.1 = 0 then some ((0 : Int32), r1.2) else
  (ldR a1 6 i0).bind fun q2 =>
  (ldI r1.2 53 (gR r1.2 13 i0 0) a1 6).bind fun x3 =>
  callW (fX9_knownBits_25 N i0 a2 N (fX9_knownBits_57 N i0 a2) q2 (a2 - x3) (0 : Int32) (0 : Int32)) r1.2
noncomputable def mX9_knownBits (N : Nat) (as : List AV) (w : Wd) : Option (Int32 × Wd) := xR1 13 as fun i0 t => xI1 t fun a1 t => xI1 t fun a2 t => xN1 t (callW (pX9_knownBits N i0 a1 a2) w)
set_option maxRecDepth 100000 in
set_option maxHeartbeats 4000000 in
theorem kX9_knownBits : TK cX9_knownBits RX9 8 tX9_knownBits := ⟨by decide +kernel, wok_of [534, 516, 279, 218, 516, 262, 538, 541, 541, 540, 540] (by decide +kernel) (by decide +kernel)⟩
set_option maxRecDepth 100000 in
set_option maxHeartbeats 4000000 in
theorem sX9_knownBits_59 {N : Nat} {X : XT} (G : GX X cX9_knownBits RX9) (hn : xnL X = 8) (hC : CRs X tX9_knownBits (oF [(mX9_isThere N)]) (oF []) (oF [])) {r : Int32 × Wd} (hr : RTI X cX9_knownBits r) (i0 : Nat) (a1 : Int32) (a2 : Int32) : ∀ (n : Nat) (q3 : Nat) (v5 : Int32) (v6 : Int32) (w : Wd), fX9_knownBits_59 N i0 a2 n q3 v5 v6 w = some r → WW X (pcAt tX9_knownBits 59) [some (.inr (.inr (13, i0))), some (.inl a1), some (.inl a2), some (.inr (.inr (62, q3))), none, some (.inl v5), some (.inl v6), none] [] w := by
  intro n
  induction n with
  | zero => intro q3 v5 v6 w h; cases h
  | succ n ih =>
    intro q3 v5 v6 w h
    refine run_sound (r := r) (X := X) (cc := cX9_knownBits) (own := RX9) (tab := tX9_knownBits) G (by rw [hn]; exact kX9_knownBits) (oI := (oF [(mX9_isThere N)])) (oL := (oF [])) (oV := (oF [])) (rI := (fun x w => some (x, w))) (rL := (fun _ _ => none)) (rV := (fun _ => none))
      (K := (fun j ls st w => if j = 59 then (lgR ls 3 fun kk q3 => if kk = 62 then lgI ls 5 fun v5 => lgI ls 6 fun v6 => st0 st (callW (fX9_knownBits_59 N i0 a2 n q3 v5 v6) w) else none) else none)) (fun x w pc ls hx hd => hr x w pc ls (Option.some.inj hx) hd) (fun _ _ _ _ hx => by cases hx) (fun _ _ _ hx => by cases hx) hC (fun ls => lsb [some (.inr (.inr (13, i0))), some (.inl a1), some (.inl a2), none, none, none, none, none] 0 ls) (keepsP_of rfl) ?_ 97 59 [some (.inr (.inr (13, i0))), some (.inl a1), some (.inl a2), some (.inr (.inr (62, q3))), none, some (.inl v5), some (.inl v6), none] [] w ?_ h
    · intro j ls st w hfx h
      obtain ⟨e0, e1, e2, -⟩ : _ = _ ∧ _ = _ ∧ _ = _ ∧ True := hfx
      try dsimp only at h
      by_cases hj : j = 59
      · subst hj
        rw [if_pos rfl] at h
        obtain ⟨kk3, q3, e3, h_1⟩ := lgR_some h
        obtain ⟨rfl, h_2⟩ := if_some _ h_1
        obtain ⟨v5, e5, h_3⟩ := lgI_some h_2
        obtain ⟨v6, e6, h_4⟩ := lgI_some h_3
        obtain ⟨rfl, h_5⟩ := st0_some h_4
        clear h h_1 h_2 h_3 h_4
        have h := h_5
        try rw [callW_eq] at h
        exact WW.le (a := [some (.inr (.inr (13, i0))), some (.inl a1), some (.inl a2), some (.inr (.inr (62, q3))), none, some (.inl v5), some (.inl v6), none]) (by rw [hn]; rfl) (show _ = _ ∧ _ = _ ∧ _ = _ ∧ _ = _ ∧ _ = _ ∧ _ = _ ∧ True from ⟨e0, e1, e2, e3, e5, e6, trivial⟩) (ih q3 v5 v6 w h)
      rw [if_neg hj] at h
      cases h
    · exact (show _ = _ ∧ _ = _ ∧ _ = _ ∧ True from ⟨rfl, rfl, rfl, trivial⟩)
set_option maxRecDepth 100000 in
set_option maxHeartbeats 4000000 in
theorem sX9_knownBits_57 {N : Nat} {X : XT} (G : GX X cX9_knownBits RX9) (hn : xnL X = 8) (hC : CRs X tX9_knownBits (oF [(mX9_isThere N)]) (oF []) (oF [])) {r : Int32 × Wd} (hr : RTI X cX9_knownBits r) (i0 : Nat) (a1 : Int32) (a2 : Int32) : ∀ (q3 : Nat) (v5 : Int32) (w : Wd), fX9_knownBits_57 N i0 a2 q3 v5 w = some r → WW X (pcAt tX9_knownBits 57) [some (.inr (.inr (13, i0))), some (.inl a1), some (.inl a2), some (.inr (.inr (62, q3))), none, some (.inl v5), none, none] [] w := by
  intro q3 v5 w h
  refine run_sound (r := r) (X := X) (cc := cX9_knownBits) (own := RX9) (tab := tX9_knownBits) G (by rw [hn]; exact kX9_knownBits) (oI := (oF [(mX9_isThere N)])) (oL := (oF [])) (oV := (oF [])) (rI := (fun x w => some (x, w))) (rL := (fun _ _ => none)) (rV := (fun _ => none))
    (K := (fun j ls st w => if j = 59 then (lgR ls 3 fun kk q3 => if kk = 62 then lgI ls 5 fun v5 => lgI ls 6 fun v6 => st0 st (callW (fX9_knownBits_59 N i0 a2 N q3 v5 v6) w) else none) else none)) (fun x w pc ls hx hd => hr x w pc ls (Option.some.inj hx) hd) (fun _ _ _ _ hx => by cases hx) (fun _ _ _ hx => by cases hx) hC (fun ls => lsb [some (.inr (.inr (13, i0))), some (.inl a1), some (.inl a2), none, none, none, none, none] 0 ls) (keepsP_of rfl) ?_ 97 57 [some (.inr (.inr (13, i0))), some (.inl a1), some (.inl a2), some (.inr (.inr (62, q3))), none, some (.inl v5), none, none] [] w ?_ h
  · intro j ls st w hfx h
    obtain ⟨e0, e1, e2, -⟩ : _ = _ ∧ _ = _ ∧ _ = _ ∧ True := hfx
    try dsimp only at h
    by_cases hj : j = 59
    · subst hj
      rw [if_pos rfl] at h
      obtain ⟨kk3, q3, e3, h_1⟩ := lgR_some h
      obtain ⟨rfl, h_2⟩ := if_some _ h_1
      obtain ⟨v5, e5, h_3⟩ := lgI_some h_2
      obtain ⟨v6, e6, h_4⟩ := lgI_some h_3
      obtain ⟨rfl, h_5⟩ := st0_some h_4
      clear h h_1 h_2 h_3 h_4
      have h := h_5
      try rw [callW_eq] at h
      exact WW.le (a := [some (.inr (.inr (13, i0))), some (.inl a1), some (.inl a2), some (.inr (.inr (62, q3))), none, some (.inl v5), some (.inl v6), none]) (by rw [hn]; rfl) (show _ = _ ∧ _ = _ ∧ _ = _ ∧ _ = _ ∧ _ = _ ∧ _ = _ ∧ True from ⟨e0, e1, e2, e3, e5, e6, trivial⟩) (sX9_knownBits_59 G hn hC hr i0 a1 a2 N q3 v5 v6 w h)
    rw [if_neg hj] at h
    cases h
  · exact (show _ = _ ∧ _ = _ ∧ _ = _ ∧ True from ⟨rfl, rfl, rfl, trivial⟩)
set_option maxRecDepth 100000 in
set_option maxHeartbeats 4000000 in
theorem sX9_knownBits_40 {N : Nat} {X : XT} (G : GX X cX9_knownBits RX9) (hn : xnL X = 8) (hC : CRs X tX9_knownBits (oF [(mX9_isThere N)]) (oF []) (oF [])) {r : Int32 × Wd} (hr : RTI X cX9_knownBits r) (i0 : Nat) (a1 : Int32) (a2 : Int32) : ∀ (k25 : Nat → Int32 → Int32 → Int32 → Wd → Option (Int32 × Wd)) (q3 : Nat) (v4 : Int32) (v5 : Int32) (v6 : Int32) (s0 : Int32) (w : Wd), fX9_knownBits_40 N i0 a2 k25 q3 v4 v5 v6 s0 w = some r → (∀ (q3 : Nat) (v4 : Int32) (v5 : Int32) (v6 : Int32) (w : Wd), k25 q3 v4 v5 v6 w = some r → WW X (pcAt tX9_knownBits 25) [some (.inr (.inr (13, i0))), some (.inl a1), some (.inl a2), some (.inr (.inr (62, q3))), some (.inl v4), some (.inl v5), some (.inl v6), none] [] w) → WW X (pcAt tX9_knownBits 40) [some (.inr (.inr (13, i0))), some (.inl a1), some (.inl a2), some (.inr (.inr (62, q3))), some (.inl v4), some (.inl v5), some (.inl v6), none] [.inl s0] w := by
  intro k25 q3 v4 v5 v6 s0 w h h25
  refine run_sound (r := r) (X := X) (cc := cX9_knownBits) (own := RX9) (tab := tX9_knownBits) G (by rw [hn]; exact kX9_knownBits) (oI := (oF [(mX9_isThere N)])) (oL := (oF [])) (oV := (oF [])) (rI := (fun x w => some (x, w))) (rL := (fun _ _ => none)) (rV := (fun _ => none))
    (K := (fun j ls st w => if j = 25 then (lgR ls 3 fun kk q3 => if kk = 62 then lgI ls 4 fun v4 => lgI ls 5 fun v5 => lgI ls 6 fun v6 => st0 st (k25 q3 v4 v5 v6 w) else none) else none)) (fun x w pc ls hx hd => hr x w pc ls (Option.some.inj hx) hd) (fun _ _ _ _ hx => by cases hx) (fun _ _ _ hx => by cases hx) hC (fun ls => lsb [some (.inr (.inr (13, i0))), some (.inl a1), some (.inl a2), none, none, none, none, none] 0 ls) (keepsP_of rfl) ?_ 97 40 [some (.inr (.inr (13, i0))), some (.inl a1), some (.inl a2), some (.inr (.inr (62, q3))), some (.inl v4), some (.inl v5), some (.inl v6), none] [.inl s0] w ?_ h
  · intro j ls st w hfx h
    obtain ⟨e0, e1, e2, -⟩ : _ = _ ∧ _ = _ ∧ _ = _ ∧ True := hfx
    try dsimp only at h
    by_cases hj : j = 25
    · subst hj
      rw [if_pos rfl] at h
      obtain ⟨kk3, q3, e3, h_1⟩ := lgR_some h
      obtain ⟨rfl, h_2⟩ := if_some _ h_1
      obtain ⟨v4, e4, h_3⟩ := lgI_some h_2
      obtain ⟨v5, e5, h_4⟩ := lgI_some h_3
      obtain ⟨v6, e6, h_5⟩ := lgI_some h_4
      obtain ⟨rfl, h_6⟩ := st0_some h_5
      clear h h_1 h_2 h_3 h_4 h_5
      have h := h_6
      try rw [callW_eq] at h
      exact WW.le (a := [some (.inr (.inr (13, i0))), some (.inl a1), some (.inl a2), some (.inr (.inr (62, q3))), some (.inl v4), some (.inl v5), some (.inl v6), none]) (by rw [hn]; rfl) (show _ = _ ∧ _ = _ ∧ _ = _ ∧ _ = _ ∧ _ = _ ∧ _ = _ ∧ _ = _ ∧ True from ⟨e0, e1, e2, e3, e4, e5, e6, trivial⟩) (h25 q3 v4 v5 v6 w h)
    rw [if_neg hj] at h
    cases h
  · exact (show _ = _ ∧ _ = _ ∧ _ = _ ∧ True from ⟨rfl, rfl, rfl, trivial⟩)
set_option maxRecDepth 100000 in
set_option maxHeartbeats 4000000 in
theorem sX9_knownBits_25 {N : Nat} {X : XT} (G : GX X cX9_knownBits RX9) (hn : xnL X = 8) (hC : CRs X tX9_knownBits (oF [(mX9_isThere N)]) (oF []) (oF [])) {r : Int32 × Wd} (hr : RTI X cX9_knownBits r) (i0 : Nat) (a1 : Int32) (a2 : Int32) : ∀ (n : Nat) (k57 : Nat → Int32 → Wd → Option (Int32 × Wd)) (q3 : Nat) (v4 : Int32) (v5 : Int32) (v6 : Int32) (w : Wd), fX9_knownBits_25 N i0 a2 n k57 q3 v4 v5 v6 w = some r → (∀ (q3 : Nat) (v5 : Int32) (w : Wd), k57 q3 v5 w = some r → WW X (pcAt tX9_knownBits 57) [some (.inr (.inr (13, i0))), some (.inl a1), some (.inl a2), some (.inr (.inr (62, q3))), none, some (.inl v5), none, none] [] w) → WW X (pcAt tX9_knownBits 25) [some (.inr (.inr (13, i0))), some (.inl a1), some (.inl a2), some (.inr (.inr (62, q3))), some (.inl v4), some (.inl v5), some (.inl v6), none] [] w := by
  intro n
  induction n with
  | zero => intro k57 q3 v4 v5 v6 w h h57; cases h
  | succ n ih =>
    intro k57 q3 v4 v5 v6 w h h57
    refine run_sound (r := r) (X := X) (cc := cX9_knownBits) (own := RX9) (tab := tX9_knownBits) G (by rw [hn]; exact kX9_knownBits) (oI := (oF [(mX9_isThere N)])) (oL := (oF [])) (oV := (oF [])) (rI := (fun x w => some (x, w))) (rL := (fun _ _ => none)) (rV := (fun _ => none))
      (K := (fun j ls st w => if j = 40 then (lgR ls 3 fun kk q3 => if kk = 62 then lgI ls 4 fun v4 => lgI ls 5 fun v5 => lgI ls 6 fun v6 => po1 st fun s0 st => st0 st (callW (fX9_knownBits_40 N i0 a2 (fX9_knownBits_25 N i0 a2 n k57) q3 v4 v5 v6 s0) w) else none) else if j = 57 then (lgR ls 3 fun kk q3 => if kk = 62 then lgI ls 5 fun v5 => st0 st (k57 q3 v5 w) else none) else none)) (fun x w pc ls hx hd => hr x w pc ls (Option.some.inj hx) hd) (fun _ _ _ _ hx => by cases hx) (fun _ _ _ hx => by cases hx) hC (fun ls => lsb [some (.inr (.inr (13, i0))), some (.inl a1), some (.inl a2), none, none, none, none, none] 0 ls) (keepsP_of rfl) ?_ 97 25 [some (.inr (.inr (13, i0))), some (.inl a1), some (.inl a2), some (.inr (.inr (62, q3))), some (.inl v4), some (.inl v5), some (.inl v6), none] [] w ?_ h
    · intro j ls st w hfx h
      obtain ⟨e0, e1, e2, -⟩ : _ = _ ∧ _ = _ ∧ _ = _ ∧ True := hfx
      try dsimp only at h
      by_cases hj : j = 40
      · subst hj
        rw [if_pos rfl] at h
        obtain ⟨kk3, q3, e3, h_1⟩ := lgR_some h
        obtain ⟨rfl, h_2⟩ := if_some _ h_1
        obtain ⟨v4, e4, h_3⟩ := lgI_some h_2
        obtain ⟨v5, e5, h_4⟩ := lgI_some h_3
        obtain ⟨v6, e6, h_5⟩ := lgI_some h_4
        obtain ⟨s0, st0, rfl, h_6⟩ := po1_some h_5
        obtain ⟨rfl, h_7⟩ := st0_some h_6
        clear h h_1 h_2 h_3 h_4 h_5 h_6
        have h := h_7
        try rw [callW_eq] at h
        exact WW.le (a := [some (.inr (.inr (13, i0))), some (.inl a1), some (.inl a2), some (.inr (.inr (62, q3))), some (.inl v4), some (.inl v5), some (.inl v6), none]) (by rw [hn]; rfl) (show _ = _ ∧ _ = _ ∧ _ = _ ∧ _ = _ ∧ _ = _ ∧ _ = _ ∧ _ = _ ∧ True from ⟨e0, e1, e2, e3, e4, e5, e6, trivial⟩) (sX9_knownBits_40 G hn hC hr i0 a1 a2 (fX9_knownBits_25 N i0 a2 n k57) q3 v4 v5 v6 s0 w h (fun q3 v4 v5 v6 w h => (ih k57 q3 v4 v5 v6 w h h57)))
      rw [if_neg hj] at h
      by_cases hj : j = 57
      · subst hj
        rw [if_pos rfl] at h
        obtain ⟨kk3, q3, e3, h_1⟩ := lgR_some h
        obtain ⟨rfl, h_2⟩ := if_some _ h_1
        obtain ⟨v5, e5, h_3⟩ := lgI_some h_2
        obtain ⟨rfl, h_4⟩ := st0_some h_3
        clear h h_1 h_2 h_3
        have h := h_4
        try rw [callW_eq] at h
        exact WW.le (a := [some (.inr (.inr (13, i0))), some (.inl a1), some (.inl a2), some (.inr (.inr (62, q3))), none, some (.inl v5), none, none]) (by rw [hn]; rfl) (show _ = _ ∧ _ = _ ∧ _ = _ ∧ _ = _ ∧ _ = _ ∧ True from ⟨e0, e1, e2, e3, e5, trivial⟩) (h57 q3 v5 w h)
      rw [if_neg hj] at h
      cases h
    · exact (show _ = _ ∧ _ = _ ∧ _ = _ ∧ True from ⟨rfl, rfl, rfl, trivial⟩)
set_option maxRecDepth 100000 in
set_option maxHeartbeats 4000000 in
theorem crX9_knownBits {N : Nat} {X : XT} (G : GX X cX9_knownBits RX9) (hR : xR X = rmL 2) : CRs X tX9_knownBits (oF [(mX9_isThere N)]) (oF []) (oF []) := by
  have hl : tX9_knownBits.filter isInv = [(3, .invokevirtual 90, 0, 0, 3, 0, 0, [])] := rfl
  intro e he
  rw [hl] at he
  simp only [List.mem_cons, List.not_mem_nil, or_false] at he
  rcases he with rfl
  · exact crI_V (idx := 90) G (by decide +kernel) (MX9_isThere N) (cw_of (ps := [1025, 1026, 1027, 158, 1028]) (by decide +kernel) (by decide +kernel)) ⟨by decide +kernel, by decide +kernel, by decide +kernel⟩ (by unfold rmOk; rw [hR]; exact ⟨by decide, by decide⟩)
set_option maxRecDepth 100000 in
set_option maxHeartbeats 4000000 in
theorem MX9_knownBits (N : Nat) : SndI yX9_knownBits cX9_knownBits 8 (some .int) 2 3 true (mX9_knownBits N) := by
  refine SndI.of tX9_knownBits (by decide +kernel) rfl rfl ?_ ?_
  · intro as w x h
    obtain ⟨i0, t1, rfl, h_1⟩ := xR1_some h
    obtain ⟨a1, t2, rfl, h_2⟩ := xI1_some h_1
    obtain ⟨a2, t3, rfl, h_3⟩ := xI1_some h_2
    obtain ⟨rfl, h_4⟩ := xN1_some h_3
    clear h h_1 h_2 h_3
    have h := h_4
    rw [callW_eq] at h
    exact ⟨fun _ => ⟨_, _, _, rfl, rfl, _, rfl, rfl⟩, rfl, Nat.le_of_ble_eq_true rfl⟩
  · intro X G hn hR as w r h hr
    have hC := crX9_knownBits (N := N) G hR
    obtain ⟨i0, t1, rfl, h_1⟩ := xR1_some h
    obtain ⟨a1, t2, rfl, h_2⟩ := xI1_some h_1
    obtain ⟨a2, t3, rfl, h_3⟩ := xI1_some h_2
    obtain ⟨rfl, h_4⟩ := xN1_some h_3
    clear h h_1 h_2 h_3
    have h := h_4
    rw [callW_eq] at h
    refine run_sound (r := r) (X := X) (cc := cX9_knownBits) (own := RX9) (tab := tX9_knownBits) G (by rw [hn]; exact kX9_knownBits) (oI := (oF [(mX9_isThere N)])) (oL := (oF [])) (oV := (oF [])) (rI := (fun x w => some (x, w))) (rL := (fun _ _ => none)) (rV := (fun _ => none))
      (K := (fun j ls st w => if j = 25 then (lgR ls 3 fun kk q3 => if kk = 62 then lgI ls 4 fun v4 => lgI ls 5 fun v5 => lgI ls 6 fun v6 => st0 st (callW (fX9_knownBits_25 N i0 a2 N (fX9_knownBits_57 N i0 a2) q3 v4 v5 v6) w) else none) else none)) (fun x w pc ls hx hd => hr x w pc ls (Option.some.inj hx) hd) (fun _ _ _ _ hx => by cases hx) (fun _ _ _ hx => by cases hx) hC (fun ls => lsb [some (.inr (.inr (13, i0))), some (.inl a1), some (.inl a2), none, none, none, none, none] 0 ls) (keepsP_of rfl) ?_ 97 0 [some (.inr (.inr (13, i0))), some (.inl a1), some (.inl a2), none, none, none, none, none] [] w ?_ h
    · intro j ls st w hfx h
      obtain ⟨e0, e1, e2, -⟩ : _ = _ ∧ _ = _ ∧ _ = _ ∧ True := hfx
      try dsimp only at h
      by_cases hj : j = 25
      · subst hj
        rw [if_pos rfl] at h
        obtain ⟨kk3, q3, e3, h_1⟩ := lgR_some h
        obtain ⟨rfl, h_2⟩ := if_some _ h_1
        obtain ⟨v4, e4, h_3⟩ := lgI_some h_2
        obtain ⟨v5, e5, h_4⟩ := lgI_some h_3
        obtain ⟨v6, e6, h_5⟩ := lgI_some h_4
        obtain ⟨rfl, h_6⟩ := st0_some h_5
        clear h h_1 h_2 h_3 h_4 h_5
        have h := h_6
        try rw [callW_eq] at h
        exact WW.le (a := [some (.inr (.inr (13, i0))), some (.inl a1), some (.inl a2), some (.inr (.inr (62, q3))), some (.inl v4), some (.inl v5), some (.inl v6), none]) (by rw [hn]; rfl) (show _ = _ ∧ _ = _ ∧ _ = _ ∧ _ = _ ∧ _ = _ ∧ _ = _ ∧ _ = _ ∧ True from ⟨e0, e1, e2, e3, e4, e5, e6, trivial⟩) (sX9_knownBits_25 G hn hC hr i0 a1 a2 N (fX9_knownBits_57 N i0 a2) q3 v4 v5 v6 w h (fun q3 v5 w h => (sX9_knownBits_57 G hn hC hr i0 a1 a2 q3 v5 w h)))
      rw [if_neg hj] at h
      cases h
    · exact (show _ = _ ∧ _ = _ ∧ _ = _ ∧ True from ⟨rfl, rfl, rfl, trivial⟩)
-- MoorGuides$Leading.isKnown(II)Z
def tX2_isKnown : List EN := [
  (0, .aload_n 0, 0, 0, 0, 0, 0, []), (1, .getfield 9, 0, 2, 1, 0, 0, []), (4, .iload_n 2, 0, 0, 0, 0, 0, []), (5, .iaload, 0, 0, 0, 0, 0, []),
  (6, .iload_n 1, 0, 0, 0, 0, 0, []), (7, .ishr, 0, 0, 0, 0, 0, []), (8, .iconst 1, 0, 0, 0, 1, 0, []), (9, .iand, 0, 0, 0, 0, 0, []),
  (10, .ifCond .eq 7, 0, 11, 0, 0, 0, []), (13, .iconst 1, 0, 0, 0, 1, 0, []), (14, .goto 4, 0, 12, 0, 0, 0, []), (17, .iconst 0, 0, 0, 0, 0, 0, []),
  (18, .ireturn, 0, 0, 0, 0, 0, [])]
noncomputable def pX2_isKnown (N : Nat) (a1 : Int32) (a2 : Int32) (w : Wd) : Option (Int32 × Wd) :=
  (ldI w 23 0 a2 6).bind fun x1 =>
  if ((x1 >>> (a1 &&& (31 : Int32))) &&& (1 : Int32)) = 0 then some ((0 : Int32), w) else
  some ((1 : Int32), w)
noncomputable def mX2_isKnown (N : Nat) (as : List AV) (w : Wd) : Option (Int32 × Wd) := xS1 6 as fun t => xI1 t fun a1 t => xI1 t fun a2 t => xN1 t (callW (pX2_isKnown N a1 a2) w)
set_option maxRecDepth 100000 in
set_option maxHeartbeats 4000000 in
theorem kX2_isKnown : TK cX2_isKnown RX2 3 tX2_isKnown := ⟨by decide +kernel, wok_of [574] (by decide +kernel) (by decide +kernel)⟩
set_option maxRecDepth 100000 in
set_option maxHeartbeats 4000000 in
theorem crX2_isKnown {N : Nat} {X : XT} (G : GX X cX2_isKnown RX2) (hR : xR X = rmL 1) : CRs X tX2_isKnown (oF []) (oF []) (oF []) := by
  have hl : tX2_isKnown.filter isInv = [] := rfl
  intro e he
  rw [hl] at he
  cases he
set_option maxRecDepth 100000 in
set_option maxHeartbeats 4000000 in
theorem MX2_isKnown (N : Nat) : SndI yX2_isKnown cX2_isKnown 3 (some .boolean) 1 3 true (mX2_isKnown N) := by
  refine SndI.ofZ tX2_isKnown (by decide +kernel) rfl rfl ?_ ?_
  · intro as w x h
    obtain ⟨t1, rfl, h_1⟩ := xS1_some h
    obtain ⟨a1, t2, rfl, h_2⟩ := xI1_some h_1
    obtain ⟨a2, t3, rfl, h_3⟩ := xI1_some h_2
    obtain ⟨rfl, h_4⟩ := xN1_some h_3
    clear h h_1 h_2 h_3
    have h := h_4
    rw [callW_eq] at h
    exact ⟨fun _ => ⟨_, _, _, rfl, rfl, _, rfl, rfl⟩, rfl, Nat.le_of_ble_eq_true rfl⟩
  · intro X G hn hR as w r h hr
    have hC := crX2_isKnown (N := N) G hR
    obtain ⟨t1, rfl, h_1⟩ := xS1_some h
    obtain ⟨a1, t2, rfl, h_2⟩ := xI1_some h_1
    obtain ⟨a2, t3, rfl, h_3⟩ := xI1_some h_2
    obtain ⟨rfl, h_4⟩ := xN1_some h_3
    clear h h_1 h_2 h_3
    have h := h_4
    rw [callW_eq] at h
    refine run_sound (r := r) (X := X) (cc := cX2_isKnown) (own := RX2) (tab := tX2_isKnown) G (by rw [hn]; exact kX2_isKnown) (oI := (oF [])) (oL := (oF [])) (oV := (oF [])) (rI := retZ) (rL := (fun _ _ => none)) (rV := (fun _ => none))
      (K := (fun j ls st w => none)) hr (fun _ _ _ _ hx => by cases hx) (fun _ _ _ hx => by cases hx) hC (fun ls => lsb [some (.inr (.inr (6, 0))), some (.inl a1), some (.inl a2)] 0 ls) (keepsP_of rfl) ?_ 15 0 [some (.inr (.inr (6, 0))), some (.inl a1), some (.inl a2)] [] w ?_ h
    · intro j ls st w hfx h
      obtain ⟨e0, e1, e2, -⟩ : _ = _ ∧ _ = _ ∧ _ = _ ∧ True := hfx
      try dsimp only at h
      cases h
    · exact (show _ = _ ∧ _ = _ ∧ _ = _ ∧ True from ⟨rfl, rfl, rfl, trivial⟩)
-- java/lang/Math.min(II)I
def tJ9_min_7cf53 : List EN := [
  (0, .iload_n 0, 0, 0, 0, 0, 0, []), (1, .iload_n 1, 0, 0, 0, 0, 0, []), (2, .if_icmp .gt 7, 0, 5, 0, 0, 0, []), (5, .iload_n 0, 0, 0, 0, 0, 0, []),
  (6, .goto 4, 0, 6, 0, 0, 0, []), (9, .iload_n 1, 0, 0, 0, 0, 0, []), (10, .ireturn, 0, 0, 0, 0, 0, [])]
noncomputable def pJ9_min_7cf53 (N : Nat) (a0 : Int32) (a1 : Int32) (w : Wd) : Option (Int32 × Wd) :=
  if a1 < a0 then some (a1, w) else
  some (a0, w)
noncomputable def mJ9_min_7cf53 (N : Nat) (as : List AV) (w : Wd) : Option (Int32 × Wd) := xI1 as fun a0 t => xI1 t fun a1 t => xN1 t (callW (pJ9_min_7cf53 N a0 a1) w)
set_option maxRecDepth 100000 in
set_option maxHeartbeats 4000000 in
theorem kJ9_min_7cf53 : TK cJ9_min_7cf53 RJ9 2 tJ9_min_7cf53 := ⟨by decide +kernel, wok_of [] (by decide +kernel) (by decide +kernel)⟩
set_option maxRecDepth 100000 in
set_option maxHeartbeats 4000000 in
theorem crJ9_min_7cf53 {N : Nat} {X : XT} (G : GX X cJ9_min_7cf53 RJ9) (hR : xR X = rmL 1) : CRs X tJ9_min_7cf53 (oF []) (oF []) (oF []) := by
  have hl : tJ9_min_7cf53.filter isInv = [] := rfl
  intro e he
  rw [hl] at he
  cases he
set_option maxRecDepth 100000 in
set_option maxHeartbeats 4000000 in
theorem MJ9_min_7cf53 (N : Nat) : SndI yJ9_min_7cf53 cJ9_min_7cf53 2 (some .int) 1 2 false (mJ9_min_7cf53 N) := by
  refine SndI.of tJ9_min_7cf53 (by decide +kernel) rfl rfl ?_ ?_
  · intro as w x h
    obtain ⟨a0, t1, rfl, h_1⟩ := xI1_some h
    obtain ⟨a1, t2, rfl, h_2⟩ := xI1_some h_1
    obtain ⟨rfl, h_3⟩ := xN1_some h_2
    clear h h_1 h_2
    have h := h_3
    rw [callW_eq] at h
    exact ⟨(fun z => by cases z), rfl, Nat.le_of_ble_eq_true rfl⟩
  · intro X G hn hR as w r h hr
    have hC := crJ9_min_7cf53 (N := N) G hR
    obtain ⟨a0, t1, rfl, h_1⟩ := xI1_some h
    obtain ⟨a1, t2, rfl, h_2⟩ := xI1_some h_1
    obtain ⟨rfl, h_3⟩ := xN1_some h_2
    clear h h_1 h_2
    have h := h_3
    rw [callW_eq] at h
    refine run_sound (r := r) (X := X) (cc := cJ9_min_7cf53) (own := RJ9) (tab := tJ9_min_7cf53) G (by rw [hn]; exact kJ9_min_7cf53) (oI := (oF [])) (oL := (oF [])) (oV := (oF [])) (rI := (fun x w => some (x, w))) (rL := (fun _ _ => none)) (rV := (fun _ => none))
      (K := (fun j ls st w => none)) (fun x w pc ls hx hd => hr x w pc ls (Option.some.inj hx) hd) (fun _ _ _ _ hx => by cases hx) (fun _ _ _ hx => by cases hx) hC (fun ls => lsb [some (.inl a0), some (.inl a1)] 0 ls) (keepsP_of rfl) ?_ 9 0 [some (.inl a0), some (.inl a1)] [] w ?_ h
    · intro j ls st w hfx h
      obtain ⟨e0, e1, -⟩ : _ = _ ∧ _ = _ ∧ True := hfx
      try dsimp only at h
      cases h
    · exact (show _ = _ ∧ _ = _ ∧ True from ⟨rfl, rfl, trivial⟩)

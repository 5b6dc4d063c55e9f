-- MoorGuidesModel.wrongly()I
def tX12_wrongly : List EN := [
  (0, .aload_n 0, 0, 0, 0, 0, 0, []), (1, .iconst 0, 0, 0, 0, 0, 0, []), (2, .putfield 196, 0, 12, 2, 0, 0, []), (5, .iconst 1, 0, 0, 0, 1, 0, []),
  (6, .aload_n 0, 0, 0, 0, 0, 0, []), (7, .getfield 444, 0, 12, 93, 0, 0, []), (10, .ishl, 0, 0, 0, 0, 0, []), (11, .iconst 1, 0, 0, 0, 1, 0, []),
  (12, .isub, 0, 0, 0, 0, 0, []), (13, .istore_n 1, 0, 0, 0, 0, 0, []), (14, .iconst 0, 0, 0, 0, 0, 0, []), (15, .istore_n 2, 0, 0, 0, 0, 0, []),
  (16, .iload_n 2, 13, 0, 0, 0, 0, []), (17, .aload_n 0, 0, 0, 0, 0, 0, []), (18, .getfield 444, 0, 12, 93, 0, 0, []), (21, .if_icmp .ge 44, 0, 39, 0, 0, 0, []),
  (24, .iconst 0, 0, 0, 0, 0, 0, []), (25, .istore_n 3, 0, 0, 0, 0, 0, []), (26, .iload_n 3, 19, 0, 0, 0, 0, []), (27, .iload_n 1, 0, 0, 0, 0, 0, []),
  (28, .if_icmp .gt 31, 0, 37, 0, 0, 0, []), (31, .iload_n 3, 0, 0, 0, 0, 0, []), (32, .invokestatic 485, 0, 0, 1, 0, 0, []), (35, .iload_n 2, 0, 0, 0, 0, 0, []),
  (36, .if_icmp .ne 17, 0, 35, 0, 0, 0, []), (39, .aload_n 0, 0, 0, 0, 0, 0, []), (40, .iload_n 1, 0, 0, 0, 0, 0, []), (41, .iload_n 3, 0, 0, 0, 0, 0, []),
  (42, .iconst (-1), 0, 0, 0, (-1), 0, []), (43, .ixor, 0, 0, 0, 0, 0, []), (44, .iand, 0, 0, 0, 0, 0, []), (45, .invokevirtual 619, 0, 1, 2, 0, 0, []),
  (48, .ifCond .eq 5, 0, 35, 0, 0, 0, []), (51, .iload_n 3, 0, 0, 0, 0, 0, []), (52, .ireturn, 0, 0, 0, 0, 0, []), (53, .iinc 3 1, 0, 0, 0, 1, 0, []),
  (56, .goto (-30), 0, 18, 0, 0, 0, []), (59, .iinc 2 1, 38, 0, 0, 1, 0, []), (62, .goto (-46), 0, 12, 0, 0, 0, []), (65, .iconst 0, 0, 0, 0, 0, 0, []),
  (66, .ireturn, 0, 0, 0, 0, 0, [])]
noncomputable def fX12_wrongly_37 (N : Nat) (k12 : Int32 → Int32 → Wd → Option (Int32 × Wd)) (v1 : Int32) (v2 : Int32) (w : Wd) : Option (Int32 × Wd) :=
  k12 v1 (v2 + (1 : Int32)) w
noncomputable def fX12_wrongly_18 (N : Nat) : Nat → (Int32 → Int32 → Wd → Option (Int32 × Wd)) → Int32 → Int32 → Int32 → Wd → Option (Int32 × Wd)
  | 0, _, _, _, _, _ => none
  | n + 1, k37, v1, v2, v3, w =>
    if v1 < v3 then k37 v1 v2 w else
    (callW (pX12_manyOf N v3) w).bind fun r1 =>
    if r1.1 = v2 then
      (callW (pX12_canAll N (v1 &&& (v3 ^^^ (-1 : Int32)))) r1.2).bind fun r2 =>
      if r2.1 = 0 then callW (fX12_wrongly_18 N n k37 v1 v2 (v3 + (1 : Int32))) r2.2 else
      some (v3, r2.2)
    else
    callW (fX12_wrongly_18 N n k37 v1 v2 (v3 + (1 : Int32))) r1.2
noncomputable def fX12_wrongly_12 (N : Nat) : Nat → Int32 → Int32 → Wd → Option (Int32 × Wd)
  | 0, _, _, _ => none
  | n + 1, v1, v2, w =>
    if v2 < (gI w 16 0 93) then callW (fX12_wrongly_18 N N (fX12_wrongly_37 N (fX12_wrongly_12 N n)) v1 v2 (0 : Int32)) w else
    some ((0 : Int32), w)
noncomputable def pX12_wrongly (N : Nat) (w : Wd) : Option (Int32 × Wd) :=
  callW (fX12_wrongly_12 N N (((1 : Int32) <<< ((gI (setI w 16 0 2 (0 : Int32)) 16 0 93) &&& (31 : Int32))) - (1 : Int32)) (0 : Int32)) (setI w 16 0 2 (0 : Int32))
noncomputable def mX12_wrongly (N : Nat) (as : List AV) (w : Wd) : Option (Int32 × Wd) := xS1 16 as fun t => xN1 t (callW (pX12_wrongly N) w)
set_option maxRecDepth 100000 in
set_option maxHeartbeats 4000000 in
theorem kX12_wrongly : TK cX12_wrongly RX12 4 tX12_wrongly := ⟨by decide +kernel, wok_of [1592, 1683, 1683] (by decide +kernel) (by decide +kernel)⟩
set_option maxRecDepth 100000 in
set_option maxHeartbeats 4000000 in
theorem sX12_wrongly_37 {N : Nat} {X : XT} (G : GX X cX12_wrongly RX12) (hn : xnL X = 4) (hC : CRs X tX12_wrongly (oF [(mX12_manyOf N), (mX12_canAll N)]) (oF []) (oF [])) {r : Int32 × Wd} (hr : RTI X cX12_wrongly r)  : ∀ (k12 : Int32 → Int32 → Wd → Option (Int32 × Wd)) (v1 : Int32) (v2 : Int32) (w : Wd), fX12_wrongly_37 N k12 v1 v2 w = some r → (∀ (v1 : Int32) (v2 : Int32) (w : Wd), k12 v1 v2 w = some r → WW X (pcAt tX12_wrongly 12) [some (.inr (.inr (16, 0))), some (.inl v1), some (.inl v2), none] [] w) → WW X (pcAt tX12_wrongly 37) [some (.inr (.inr (16, 0))), some (.inl v1), some (.inl v2), none] [] w := by
  intro k12 v1 v2 w h h12
  refine run_sound (r := r) (X := X) (cc := cX12_wrongly) (own := RX12) (tab := tX12_wrongly) G (by rw [hn]; exact kX12_wrongly) (oI := (oF [(mX12_manyOf N), (mX12_canAll N)])) (oL := (oF [])) (oV := (oF [])) (rI := (fun x w => some (x, w))) (rL := (fun _ _ => none)) (rV := (fun _ => none))
    (K := (fun j ls st w => if j = 12 then (lgI ls 1 fun v1 => lgI ls 2 fun v2 => st0 st (k12 v1 v2 w)) else none)) (fun x w pc ls hx hd => hr x w pc ls (Option.some.inj hx) hd) (fun _ _ _ _ hx => by cases hx) (fun _ _ _ hx => by cases hx) hC (fun ls => lsb [some (.inr (.inr (16, 0))), none, none, none] 0 ls) (keepsP_of rfl) ?_ 43 37 [some (.inr (.inr (16, 0))), some (.inl v1), some (.inl v2), none] [] w ?_ h
  · intro j ls st w hfx h
    obtain ⟨e0, -⟩ : _ = _ ∧ True := hfx
    try dsimp only at h
    by_cases hj : j = 12
    · subst hj
      rw [if_pos rfl] at h
      obtain ⟨v1, e1, h_1⟩ := lgI_some h
      obtain ⟨v2, e2, h_2⟩ := lgI_some h_1
      obtain ⟨rfl, h_3⟩ := st0_some h_2
      clear h h_1 h_2
      have h := h_3
      try rw [callW_eq] at h
      exact WW.le (a := [some (.inr (.inr (16, 0))), some (.inl v1), some (.inl v2), none]) (by rw [hn]; rfl) (show _ = _ ∧ _ = _ ∧ _ = _ ∧ True from ⟨e0, e1, e2, trivial⟩) (h12 v1 v2 w h)
    rw [if_neg hj] at h
    cases h
  · exact (show _ = _ ∧ True from ⟨rfl, trivial⟩)
set_option maxRecDepth 100000 in
set_option maxHeartbeats 4000000 in
theorem sX12_wrongly_18 {N : Nat} {X : XT} (G : GX X cX12_wrongly RX12) (hn : xnL X = 4) (hC : CRs X tX12_wrongly (oF [(mX12_manyOf N), (mX12_canAll N)]) (oF []) (oF [])) {r : Int32 × Wd} (hr : RTI X cX12_wrongly r)  : ∀ (n : Nat) (k37 : Int32 → Int32 → Wd → Option (Int32 × Wd)) (v1 : Int32) (v2 : Int32) (v3 : Int32) (w : Wd), fX12_wrongly_18 N n k37 v1 v2 v3 w = some r → (∀ (v1 : Int32) (v2 : Int32) (w : Wd), k37 v1 v2 w = some r → WW X (pcAt tX12_wrongly 37) [some (.inr (.inr (16, 0))), some (.inl v1), some (.inl v2), none] [] w) → WW X (pcAt tX12_wrongly 18) [some (.inr (.inr (16, 0))), some (.inl v1), some (.inl v2), some (.inl v3)] [] w := by
  intro n
  induction n with
  | zero => intro k37 v1 v2 v3 w h h37; cases h
  | succ n ih =>
    intro k37 v1 v2 v3 w h h37
    refine run_sound (r := r) (X := X) (cc := cX12_wrongly) (own := RX12) (tab := tX12_wrongly) G (by rw [hn]; exact kX12_wrongly) (oI := (oF [(mX12_manyOf N), (mX12_canAll N)])) (oL := (oF [])) (oV := (oF [])) (rI := (fun x w => some (x, w))) (rL := (fun _ _ => none)) (rV := (fun _ => none))
      (K := (fun j ls st w => if j = 18 then (lgI ls 1 fun v1 => lgI ls 2 fun v2 => lgI ls 3 fun v3 => st0 st (callW (fX12_wrongly_18 N n k37 v1 v2 v3) w)) else if j = 37 then (lgI ls 1 fun v1 => lgI ls 2 fun v2 => st0 st (k37 v1 v2 w)) else none)) (fun x w pc ls hx hd => hr x w pc ls (Option.some.inj hx) hd) (fun _ _ _ _ hx => by cases hx) (fun _ _ _ hx => by cases hx) hC (fun ls => lsb [some (.inr (.inr (16, 0))), none, none, none] 0 ls) (keepsP_of rfl) ?_ 43 18 [some (.inr (.inr (16, 0))), some (.inl v1), some (.inl v2), some (.inl v3)] [] w ?_ h
    · intro j ls st w hfx h
      obtain ⟨e0, -⟩ : _ = _ ∧ True := hfx
      try dsimp only at h
      by_cases hj : j = 18
      · subst hj
        rw [if_pos rfl] at h
        obtain ⟨v1, e1, h_1⟩ := lgI_some h
        obtain ⟨v2, e2, h_2⟩ := lgI_some h_1
        obtain ⟨v3, e3, h_3⟩ := lgI_some h_2
        obtain ⟨rfl, h_4⟩ := st0_some h_3
        clear h h_1 h_2 h_3
        have h := h_4
        try rw [callW_eq] at h
        exact WW.le (a := [some (.inr (.inr (16, 0))), some (.inl v1), some (.inl v2), some (.inl v3)]) (by rw [hn]; rfl) (show _ = _ ∧ _ = _ ∧ _ = _ ∧ _ = _ ∧ True from ⟨e0, e1, e2, e3, trivial⟩) (ih k37 v1 v2 v3 w h h37)
      rw [if_neg hj] at h
      by_cases hj : j = 37
      · subst hj
        rw [if_pos rfl] at h
        obtain ⟨v1, e1, h_1⟩ := lgI_some h
        obtain ⟨v2, e2, h_2⟩ := lgI_some h_1
        obtain ⟨rfl, h_3⟩ := st0_some h_2
        clear h h_1 h_2
        have h := h_3
        try rw [callW_eq] at h
        exact WW.le (a := [some (.inr (.inr (16, 0))), some (.inl v1), some (.inl v2), none]) (by rw [hn]; rfl) (show _ = _ ∧ _ = _ ∧ _ = _ ∧ True from ⟨e0, e1, e2, trivial⟩) (h37 v1 v2 w h)
      rw [if_neg hj] at h
      cases h
    · exact (show _ = _ ∧ True from ⟨rfl, trivial⟩)
set_option maxRecDepth 100000 in
set_option maxHeartbeats 4000000 in
theorem sX12_wrongly_12 {N : Nat} {X : XT} (G : GX X cX12_wrongly RX12) (hn : xnL X = 4) (hC : CRs X tX12_wrongly (oF [(mX12_manyOf N), (mX12_canAll N)]) (oF []) (oF [])) {r : Int32 × Wd} (hr : RTI X cX12_wrongly r)  : ∀ (n : Nat) (v1 : Int32) (v2 : Int32) (w : Wd), fX12_wrongly_12 N n v1 v2 w = some r → WW X (pcAt tX12_wrongly 12) [some (.inr (.inr (16, 0))), some (.inl v1), some (.inl v2), none] [] w := by
  intro n
  induction n with
  | zero => intro v1 v2 w h; cases h
  | succ n ih =>
    intro v1 v2 w h
    refine run_sound (r := r) (X := X) (cc := cX12_wrongly) (own := RX12) (tab := tX12_wrongly) G (by rw [hn]; exact kX12_wrongly) (oI := (oF [(mX12_manyOf N), (mX12_canAll N)])) (oL := (oF [])) (oV := (oF [])) (rI := (fun x w => some (x, w))) (rL := (fun _ _ => none)) (rV := (fun _ => none))
      (K := (fun j ls st w => if j = 18 then (lgI ls 1 fun v1 => lgI ls 2 fun v2 => lgI ls 3 fun v3 => st0 st (callW (fX12_wrongly_18 N N (fX12_wrongly_37 N (fX12_wrongly_12 N n)) v1 v2 v3) w)) else none)) (fun x w pc ls hx hd => hr x w pc ls (Option.some.inj hx) hd) (fun _ _ _ _ hx => by cases hx) (fun _ _ _ hx => by cases hx) hC (fun ls => lsb [some (.inr (.inr (16, 0))), none, none, none] 0 ls) (keepsP_of rfl) ?_ 43 12 [some (.inr (.inr (16, 0))), some (.inl v1), some (.inl v2), none] [] w ?_ h
    · intro j ls st w hfx h
      obtain ⟨e0, -⟩ : _ = _ ∧ True := hfx
      try dsimp only at h
      by_cases hj : j = 18
      · subst hj
        rw [if_pos rfl] at h
        obtain ⟨v1, e1, h_1⟩ := lgI_some h
        obtain ⟨v2, e2, h_2⟩ := lgI_some h_1
        obtain ⟨v3, e3, h_3⟩ := lgI_some h_2
        obtain ⟨rfl, h_4⟩ := st0_some h_3
        clear h h_1 h_2 h_3
        have h := h_4
        try rw [callW_eq] at h
        exact WW.le (a := [some (.inr (.inr (16, 0))), some (.inl v1), some (.inl v2), some (.inl v3)]) (by rw [hn]; rfl) (show _ = _ ∧ _ = _ ∧ _ = _ ∧ _ = _ ∧ True from ⟨e0, e1, e2, e3, trivial⟩) (sX12_wrongly_18 G hn hC hr N (fX12_wrongly_37 N (fX12_wrongly_12 N n)) v1 v2 v3 w h (fun v1 v2 w h => (sX12_wrongly_37 G hn hC hr (fX12_wrongly_12 N n) v1 v2 w h (fun v1 v2 w h => (ih v1 v2 w h)))))
      rw [if_neg hj] at h
      cases h
    · exact (show _ = _ ∧ True from ⟨rfl, trivial⟩)
set_option maxRecDepth 100000 in
set_option maxHeartbeats 4000000 in
theorem crX12_wrongly {N : Nat} {X : XT} (G : GX X cX12_wrongly RX12) (hR : xR X = rmL 3) : CRs X tX12_wrongly (oF [(mX12_manyOf N), (mX12_canAll N)]) (oF []) (oF []) := by
  have hl : tX12_wrongly.filter isInv = [(32, .invokestatic 485, 0, 0, 1, 0, 0, []), (45, .invokevirtual 619, 0, 1, 2, 0, 0, [])] := rfl
  intro e he
  rw [hl] at he
  simp only [List.mem_cons, List.not_mem_nil, or_false] at he
  rcases he with rfl | rfl
  · exact crI_S (idx := 485) G (by decide +kernel) (MX12_manyOf N) (cw_of (ps := [2125, 2126, 162, 2127]) (by decide +kernel) (by decide +kernel)) ⟨by decide +kernel, by decide +kernel, by decide +kernel⟩ (by unfold rmOk; rw [hR]; exact ⟨by decide, by decide⟩)
  · exact crI_V (idx := 619) G (by decide +kernel) (MX12_canAll N) (cw_of (ps := [2324, 2326, 142, 162, 2327]) (by decide +kernel) (by decide +kernel)) ⟨by decide +kernel, by decide +kernel, by decide +kernel⟩ (by unfold rmOk; rw [hR]; exact ⟨by decide, by decide⟩)
set_option maxRecDepth 100000 in
set_option maxHeartbeats 4000000 in
theorem MX12_wrongly (N : Nat) : SndI yX12_wrongly cX12_wrongly 4 (some .int) 3 1 true (mX12_wrongly N) := by
  refine SndI.of tX12_wrongly (by decide +kernel) rfl rfl ?_ ?_
  · intro as w x h
    obtain ⟨t1, rfl, h_1⟩ := xS1_some h
    obtain ⟨rfl, h_2⟩ := xN1_some h_1
    clear h h_1
    have h := h_2
    rw [callW_eq] at h
    exact ⟨fun _ => ⟨_, _, _, rfl, rfl, _, rfl, rfl⟩, rfl, Nat.le_of_ble_eq_true rfl⟩
  · intro X G hn hR as w r h hr
    have hC := crX12_wrongly (N := N) G hR
    obtain ⟨t1, rfl, h_1⟩ := xS1_some h
    obtain ⟨rfl, h_2⟩ := xN1_some h_1
    clear h h_1
    have h := h_2
    rw [callW_eq] at h
    refine run_sound (r := r) (X := X) (cc := cX12_wrongly) (own := RX12) (tab := tX12_wrongly) G (by rw [hn]; exact kX12_wrongly) (oI := (oF [(mX12_manyOf N), (mX12_canAll N)])) (oL := (oF [])) (oV := (oF [])) (rI := (fun x w => some (x, w))) (rL := (fun _ _ => none)) (rV := (fun _ => none))
      (K := (fun j ls st w => if j = 12 then (lgI ls 1 fun v1 => lgI ls 2 fun v2 => st0 st (callW (fX12_wrongly_12 N N v1 v2) w)) else none)) (fun x w pc ls hx hd => hr x w pc ls (Option.some.inj hx) hd) (fun _ _ _ _ hx => by cases hx) (fun _ _ _ hx => by cases hx) hC (fun ls => lsb [some (.inr (.inr (16, 0))), none, none, none] 0 ls) (keepsP_of rfl) ?_ 43 0 [some (.inr (.inr (16, 0))), none, none, none] [] w ?_ h
    · intro j ls st w hfx h
      obtain ⟨e0, -⟩ : _ = _ ∧ True := hfx
      try dsimp only at h
      by_cases hj : j = 12
      · subst hj
        rw [if_pos rfl] at h
        obtain ⟨v1, e1, h_1⟩ := lgI_some h
        obtain ⟨v2, e2, h_2⟩ := lgI_some h_1
        obtain ⟨rfl, h_3⟩ := st0_some h_2
        clear h h_1 h_2
        have h := h_3
        try rw [callW_eq] at h
        exact WW.le (a := [some (.inr (.inr (16, 0))), some (.inl v1), some (.inl v2), none]) (by rw [hn]; rfl) (show _ = _ ∧ _ = _ ∧ _ = _ ∧ True from ⟨e0, e1, e2, trivial⟩) (sX12_wrongly_12 G hn hC hr N v1 v2 w h)
      rw [if_neg hj] at h
      cases h
    · exact (show _ = _ ∧ True from ⟨rfl, trivial⟩)
-- MoorGuidesModel.against(I)I
def tX12_against : List EN := [
  (0, .aload_n 0, 0, 0, 0, 0, 0, []), (1, .iconst 0, 0, 0, 0, 0, 0, []), (2, .putfield 196, 0, 12, 2, 0, 0, []), (5, .iload_n 1, 0, 0, 0, 0, 0, []),
  (6, .ifCond .lt 11, 0, 9, 0, 0, 0, []), (9, .iload_n 1, 0, 0, 0, 0, 0, []), (10, .aload_n 0, 0, 0, 0, 0, 0, []), (11, .getfield 444, 0, 12, 93, 0, 0, []),
  (14, .if_icmp .lt 5, 0, 11, 0, 0, 0, []), (17, .iconst (-1), 0, 0, 0, (-1), 0, []), (18, .ireturn, 0, 0, 0, 0, 0, []), (19, .iconst 0, 0, 0, 0, 0, 0, []),
  (20, .istore_n 2, 0, 0, 0, 0, 0, []), (21, .iconst 0, 0, 0, 0, 0, 0, []), (22, .istore_n 3, 0, 0, 0, 0, 0, []), (23, .iload_n 3, 16, 0, 0, 0, 0, []),
  (24, .aload_n 0, 0, 0, 0, 0, 0, []), (25, .getfield 444, 0, 12, 93, 0, 0, []), (28, .if_icmp .ge 26, 0, 32, 0, 0, 0, []), (31, .iload_n 2, 0, 0, 0, 0, 0, []),
  (32, .aload_n 0, 0, 0, 0, 0, 0, []), (33, .iload_n 1, 0, 0, 0, 0, 0, []), (34, .iload_n 3, 0, 0, 0, 0, 0, []), (35, .invokevirtual 616, 0, 0, 3, 0, 0, []),
  (38, .ifCond .eq 7, 0, 27, 0, 0, 0, []), (41, .iconst 1, 0, 0, 0, 1, 0, []), (42, .goto 4, 0, 28, 0, 0, 0, []), (45, .iconst 0, 0, 0, 0, 0, 0, []),
  (46, .iadd, 0, 0, 0, 0, 0, []), (47, .istore_n 2, 0, 0, 0, 0, 0, []), (48, .iinc 3 1, 0, 0, 0, 1, 0, []), (51, .goto (-28), 0, 15, 0, 0, 0, []),
  (54, .iload_n 2, 0, 0, 0, 0, 0, []), (55, .ireturn, 0, 0, 0, 0, 0, [])]
noncomputable def fX12_against_15 (N : Nat) (a1 : Int32) : Nat → Int32 → Int32 → Wd → Option (Int32 × Wd)
  | 0, _, _, _ => none
  | n + 1, v2, v3, w =>
    if v3 < (gI w 16 0 93) then
      (callW (pX12_cannot N a1 v3) w).bind fun r1 =>
      if r1.1 = 0 then callW (fX12_against_15 N a1 n (v2 + (0 : Int32)) (v3 + (1 : Int32))) r1.2 else
      callW (fX12_against_15 N a1 n (v2 + (1 : Int32)) (v3 + (1 : Int32))) r1.2
    else
    some (v2, w)
noncomputable def pX12_against (N : Nat) (a1 : Int32) (w : Wd) : Option (Int32 × Wd) :=
  if a1 < 0 then some ((-1 : Int32), (setI w 16 0 2 (0 : Int32))) else
  if a1 < (gI (setI w 16 0 2 (0 : Int32)) 16 0 93) then callW (fX12_against_15 N a1 N (0 : Int32) (0 : Int32)) (setI w 16 0 2 (0 : Int32)) else
  some ((-1 : Int32), (setI w 16 0 2 (0 : Int32)))
noncomputable def mX12_against (N : Nat) (as : List AV) (w : Wd) : Option (Int32 × Wd) := xS1 16 as fun t => xI1 t fun a1 t => xN1 t (callW (pX12_against N a1) w)
set_option maxRecDepth 100000 in
set_option maxHeartbeats 4000000 in
theorem kX12_against : TK cX12_against RX12 4 tX12_against := ⟨by decide +kernel, wok_of [1592, 1683, 1683] (by decide +kernel) (by decide +kernel)⟩
set_option maxRecDepth 100000 in
set_option maxHeartbeats 4000000 in
theorem sX12_against_15 {N : Nat} {X : XT} (G : GX X cX12_against RX12) (hn : xnL X = 4) (hC : CRs X tX12_against (oF [(mX12_cannot N)]) (oF []) (oF [])) {r : Int32 × Wd} (hr : RTI X cX12_against r) (a1 : Int32) : ∀ (n : Nat) (v2 : Int32) (v3 : Int32) (w : Wd), fX12_against_15 N a1 n v2 v3 w = some r → WW X (pcAt tX12_against 15) [some (.inr (.inr (16, 0))), some (.inl a1), some (.inl v2), some (.inl v3)] [] w := by
  intro n
  induction n with
  | zero => intro v2 v3 w h; cases h
  | succ n ih =>
    intro v2 v3 w h
    refine run_sound (r := r) (X := X) (cc := cX12_against) (own := RX12) (tab := tX12_against) G (by rw [hn]; exact kX12_against) (oI := (oF [(mX12_cannot N)])) (oL := (oF [])) (oV := (oF [])) (rI := (fun x w => some (x, w))) (rL := (fun _ _ => none)) (rV := (fun _ => none))
      (K := (fun j ls st w => if j = 15 then (lgI ls 2 fun v2 => lgI ls 3 fun v3 => st0 st (callW (fX12_against_15 N a1 n v2 v3) w)) else none)) (fun x w pc ls hx hd => hr x w pc ls (Option.some.inj hx) hd) (fun _ _ _ _ hx => by cases hx) (fun _ _ _ hx => by cases hx) hC (fun ls => lsb [some (.inr (.inr (16, 0))), some (.inl a1), none, none] 0 ls) (keepsP_of rfl) ?_ 36 15 [some (.inr (.inr (16, 0))), some (.inl a1), some (.inl v2), some (.inl v3)] [] w ?_ h
    · intro j ls st w hfx h
      obtain ⟨e0, e1, -⟩ : _ = _ ∧ _ = _ ∧ True := hfx
      try dsimp only at h
      by_cases hj : j = 15
      · subst hj
        rw [if_pos rfl] at h
        obtain ⟨v2, e2, h_1⟩ := lgI_some h
        obtain ⟨v3, e3, h_2⟩ := lgI_some h_1
        obtain ⟨rfl, h_3⟩ := st0_some h_2
        clear h h_1 h_2
        have h := h_3
        try rw [callW_eq] at h
        exact WW.le (a := [some (.inr (.inr (16, 0))), some (.inl a1), some (.inl v2), some (.inl v3)]) (by rw [hn]; rfl) (show _ = _ ∧ _ = _ ∧ _ = _ ∧ _ = _ ∧ True from ⟨e0, e1, e2, e3, trivial⟩) (ih v2 v3 w h)
      rw [if_neg hj] at h
      cases h
    · exact (show _ = _ ∧ _ = _ ∧ True from ⟨rfl, rfl, trivial⟩)
set_option maxRecDepth 100000 in
set_option maxHeartbeats 4000000 in
theorem crX12_against {N : Nat} {X : XT} (G : GX X cX12_against RX12) (hR : xR X = rmL 2) : CRs X tX12_against (oF [(mX12_cannot N)]) (oF []) (oF []) := by
  have hl : tX12_against.filter isInv = [(35, .invokevirtual 616, 0, 0, 3, 0, 0, [])] := rfl
  intro e he
  rw [hl] at he
  simp only [List.mem_cons, List.not_mem_nil, or_false] at he
  rcases he with rfl
  · exact crI_V (idx := 616) G (by decide +kernel) (MX12_cannot N) (cw_of (ps := [2328, 2330, 143, 162, 2331]) (by decide +kernel) (by decide +kernel)) ⟨by decide +kernel, by decide +kernel, by decide +kernel⟩ (by unfold rmOk; rw [hR]; exact ⟨by decide, by decide⟩)
set_option maxRecDepth 100000 in
set_option maxHeartbeats 4000000 in
theorem MX12_against (N : Nat) : SndI yX12_against cX12_against 4 (some .int) 2 2 true (mX12_against N) := by
  refine SndI.of tX12_against (by decide +kernel) rfl rfl ?_ ?_
  · intro as w x h
    obtain ⟨t1, rfl, h_1⟩ := xS1_some h
    obtain ⟨a1, t2, rfl, h_2⟩ := xI1_some h_1
    obtain ⟨rfl, h_3⟩ := xN1_some h_2
    clear h h_1 h_2
    have h := h_3
    rw [callW_eq] at h
    exact ⟨fun _ => ⟨_, _, _, rfl, rfl, _, rfl, rfl⟩, rfl, Nat.le_of_ble_eq_true rfl⟩
  · intro X G hn hR as w r h hr
    have hC := crX12_against (N := N) G hR
    obtain ⟨t1, rfl, h_1⟩ := xS1_some h
    obtain ⟨a1, t2, rfl, h_2⟩ := xI1_some h_1
    obtain ⟨rfl, h_3⟩ := xN1_some h_2
    clear h h_1 h_2
    have h := h_3
    rw [callW_eq] at h
    refine run_sound (r := r) (X := X) (cc := cX12_against) (own := RX12) (tab := tX12_against) G (by rw [hn]; exact kX12_against) (oI := (oF [(mX12_cannot N)])) (oL := (oF [])) (oV := (oF [])) (rI := (fun x w => some (x, w))) (rL := (fun _ _ => none)) (rV := (fun _ => none))
      (K := (fun j ls st w => if j = 15 then (lgI ls 2 fun v2 => lgI ls 3 fun v3 => st0 st (callW (fX12_against_15 N a1 N v2 v3) w)) else none)) (fun x w pc ls hx hd => hr x w pc ls (Option.some.inj hx) hd) (fun _ _ _ _ hx => by cases hx) (fun _ _ _ hx => by cases hx) hC (fun ls => lsb [some (.inr (.inr (16, 0))), some (.inl a1), none, none] 0 ls) (keepsP_of rfl) ?_ 36 0 [some (.inr (.inr (16, 0))), some (.inl a1), none, none] [] w ?_ h
    · intro j ls st w hfx h
      obtain ⟨e0, e1, -⟩ : _ = _ ∧ _ = _ ∧ True := hfx
      try dsimp only at h
      by_cases hj : j = 15
      · subst hj
        rw [if_pos rfl] at h
        obtain ⟨v2, e2, h_1⟩ := lgI_some h
        obtain ⟨v3, e3, h_2⟩ := lgI_some h_1
        obtain ⟨rfl, h_3⟩ := st0_some h_2
        clear h h_1 h_2
        have h := h_3
        try rw [callW_eq] at h
        exact WW.le (a := [some (.inr (.inr (16, 0))), some (.inl a1), some (.inl v2), some (.inl v3)]) (by rw [hn]; rfl) (show _ = _ ∧ _ = _ ∧ _ = _ ∧ _ = _ ∧ True from ⟨e0, e1, e2, e3, trivial⟩) (sX12_against_15 G hn hC hr a1 N v2 v3 w h)
      rw [if_neg hj] at h
      cases h
    · exact (show _ = _ ∧ _ = _ ∧ True from ⟨rfl, rfl, trivial⟩)
-- MoorGuidesModel.slide(I)I
def tX12_slide : List EN := [
  (0, .aload_n 0, 0, 0, 0, 0, 0, []), (1, .iconst 0, 0, 0, 0, 0, 0, []), (2, .putfield 196, 0, 12, 2, 0, 0, []), (5, .aload_n 0, 0, 0, 0, 0, 0, []),
  (6, .iload_n 1, 0, 0, 0, 0, 0, []), (7, .invokevirtual 473, 0, 0, 2, 0, 0, []), (10, .ifCond .eq 12, 0, 11, 0, 0, 0, []), (13, .aload_n 0, 0, 0, 0, 0, 0, []),
  (14, .getfield 441, 0, 12, 65, 0, 0, []), (17, .bipush 12, 0, 0, 0, 12, 0, []), (19, .if_icmp .ne 5, 0, 13, 0, 0, 0, []), (22, .iconst (-1), 0, 0, 0, (-1), 0, []),
  (23, .ireturn, 0, 0, 0, 0, 0, []), (24, .aload_n 0, 0, 0, 0, 0, 0, []), (25, .iconst 1, 0, 0, 0, 1, 0, []), (26, .iconst 0, 0, 0, 0, 0, 0, []),
  (27, .iconst 0, 0, 0, 0, 0, 0, []), (28, .invokevirtual 504, 0, 0, 4, 0, 0, [(0, 0), (0, 0)]), (31, .aload_n 0, 0, 0, 0, 0, 0, []), (32, .getfield 62, 0, 12, 45, 0, 0, []),
  (35, .aload_n 0, 0, 0, 0, 0, 0, []), (36, .getfield 441, 0, 12, 65, 0, 0, []), (39, .iload_n 1, 0, 0, 0, 0, 0, []), (40, .iastore, 0, 0, 0, 0, 0, []),
  (41, .aload_n 0, 0, 0, 0, 0, 0, []), (42, .getfield 65, 0, 12, 46, 0, 0, []), (45, .aload_n 0, 0, 0, 0, 0, 0, []), (46, .getfield 441, 0, 12, 65, 0, 0, []),
  (49, .aload_n 0, 0, 0, 0, 0, 0, []), (50, .getfield 438, 0, 12, 64, 0, 0, []), (53, .iastore, 0, 0, 0, 0, 0, []), (54, .aload_n 0, 0, 0, 0, 0, 0, []),
  (55, .dup, 0, 0, 0, 0, 0, []), (56, .getfield 441, 0, 12, 65, 0, 0, []), (59, .iconst 1, 0, 0, 0, 1, 0, []), (60, .iadd, 0, 0, 0, 0, 0, []),
  (61, .putfield 441, 0, 12, 65, 0, 0, []), (64, .aload_n 0, 0, 0, 0, 0, 0, []), (65, .getfield 441, 0, 12, 65, 0, 0, []), (68, .ireturn, 0, 0, 0, 0, 0, [])]
noncomputable def pX12_slide (N : Nat) (a1 : Int32) (w : Wd) : Option (Int32 × Wd) :=
  (callW (pX12_isPart N a1) (setI w 16 0 2 (0 : Int32))).bind fun r1 =>
  if r1.1 = 0 then some ((-1 : Int32), r1.2) else
  if (gI r1.2 16 0 65) = (12 : Int32) then some ((-1 : Int32), r1.2) else
  (callW (pX12_remember N (1 : Int32) (0 : Int32) (0 : Int32)) r1.2).bind fun w2 =>
  (stI w2 89 0 (gI w2 16 0 65) 24 a1).bind fun w3 =>
  (stI w3 90 0 (gI w3 16 0 65) 24 (gI w3 16 0 64)).bind fun w4 =>
  some ((gI (setI w4 16 0 65 ((gI w4 16 0 65) + (1 : Int32))) 16 0 65), (setI w4 16 0 65 ((gI w4 16 0 65) + (1 : Int32))))
noncomputable def mX12_slide (N : Nat) (as : List AV) (w : Wd) : Option (Int32 × Wd) := xS1 16 as fun t => xI1 t fun a1 t => xN1 t (callW (pX12_slide N a1) w)
set_option maxRecDepth 100000 in
set_option maxHeartbeats 4000000 in
theorem kX12_slide : TK cX12_slide RX12 2 tX12_slide := ⟨by decide +kernel, wok_of [1592, 1655, 1635, 1655, 1636, 1655, 1654, 1655, 1655, 1655] (by decide +kernel) (by decide +kernel)⟩
set_option maxRecDepth 100000 in
set_option maxHeartbeats 4000000 in
theorem crX12_slide {N : Nat} {X : XT} (G : GX X cX12_slide RX12) (hR : xR X = rmL 2) : CRs X tX12_slide (oF [(mX12_isPart N)]) (oF []) (oF [(mX12_remember N)]) := by
  have hl : tX12_slide.filter isInv = [(7, .invokevirtual 473, 0, 0, 2, 0, 0, []), (28, .invokevirtual 504, 0, 0, 4, 0, 0, [(0, 0), (0, 0)])] := rfl
  intro e he
  rw [hl] at he
  simp only [List.mem_cons, List.not_mem_nil, or_false] at he
  rcases he with rfl | rfl
  · exact crI_V (idx := 473) G (by decide +kernel) (MX12_isPart N) (cw_of (ps := [2094, 2096, 109, 162, 2097]) (by decide +kernel) (by decide +kernel)) ⟨by decide +kernel, by decide +kernel, by decide +kernel⟩ (by unfold rmOk; rw [hR]; exact ⟨by decide, by decide⟩)
  · exact crV_V (idx := 504) G (by decide +kernel) (MX12_remember N) (cw_of (ps := [2155, 2157, 116, 162, 2158]) (by decide +kernel) (by decide +kernel)) ⟨by decide +kernel, by decide +kernel, by decide +kernel⟩ (by unfold rmOk; rw [hR]; exact ⟨by decide, by decide⟩)
set_option maxRecDepth 100000 in
set_option maxHeartbeats 4000000 in
theorem MX12_slide (N : Nat) : SndI yX12_slide cX12_slide 2 (some .int) 2 2 true (mX12_slide N) := by
  refine SndI.of tX12_slide (by decide +kernel) rfl rfl ?_ ?_
  · intro as w x h
    obtain ⟨t1, rfl, h_1⟩ := xS1_some h
    obtain ⟨a1, t2, rfl, h_2⟩ := xI1_some h_1
    obtain ⟨rfl, h_3⟩ := xN1_some h_2
    clear h h_1 h_2
    have h := h_3
    rw [callW_eq] at h
    exact ⟨fun _ => ⟨_, _, _, rfl, rfl, _, rfl, rfl⟩, rfl, Nat.le_of_ble_eq_true rfl⟩
  · intro X G hn hR as w r h hr
    have hC := crX12_slide (N := N) G hR
    obtain ⟨t1, rfl, h_1⟩ := xS1_some h
    obtain ⟨a1, t2, rfl, h_2⟩ := xI1_some h_1
    obtain ⟨rfl, h_3⟩ := xN1_some h_2
    clear h h_1 h_2
    have h := h_3
    rw [callW_eq] at h
    refine run_sound (r := r) (X := X) (cc := cX12_slide) (own := RX12) (tab := tX12_slide) G (by rw [hn]; exact kX12_slide) (oI := (oF [(mX12_isPart N)])) (oL := (oF [])) (oV := (oF [(mX12_remember N)])) (rI := (fun x w => some (x, w))) (rL := (fun _ _ => none)) (rV := (fun _ => none))
      (K := (fun j ls st w => none)) (fun x w pc ls hx hd => hr x w pc ls (Option.some.inj hx) hd) (fun _ _ _ _ hx => by cases hx) (fun _ _ _ hx => by cases hx) hC (fun ls => lsb [some (.inr (.inr (16, 0))), some (.inl a1)] 0 ls) (keepsP_of rfl) ?_ 42 0 [some (.inr (.inr (16, 0))), some (.inl a1)] [] w ?_ h
    · intro j ls st w hfx h
      obtain ⟨e0, e1, -⟩ : _ = _ ∧ _ = _ ∧ True := hfx
      try dsimp only at h
      cases h
    · exact (show _ = _ ∧ _ = _ ∧ True from ⟨rfl, rfl, trivial⟩)
-- MoorGuidesModel.undo()I
def tX12_undo : List EN := [
  (0, .aload_n 0, 0, 0, 0, 0, 0, []), (1, .iconst 0, 0, 0, 0, 0, 0, []), (2, .putfield 196, 0, 12, 2, 0, 0, []), (5, .aload_n 0, 0, 0, 0, 0, 0, []),
  (6, .getfield 447, 0, 12, 74, 0, 0, []), (9, .ifCond .ne 5, 0, 8, 0, 0, 0, []), (12, .iconst (-1), 0, 0, 0, (-1), 0, []), (13, .ireturn, 0, 0, 0, 0, 0, []),
  (14, .aload_n 0, 0, 0, 0, 0, 0, []), (15, .dup, 0, 0, 0, 0, 0, []), (16, .getfield 447, 0, 12, 74, 0, 0, []), (19, .iconst 1, 0, 0, 0, 1, 0, []),
  (20, .isub, 0, 0, 0, 0, 0, []), (21, .putfield 447, 0, 12, 74, 0, 0, []), (24, .aload_n 0, 0, 0, 0, 0, 0, []), (25, .getfield 124, 0, 12, 75, 0, 0, []),
  (28, .iconst 3, 0, 0, 0, 3, 0, []), (29, .aload_n 0, 0, 0, 0, 0, 0, []), (30, .getfield 447, 0, 12, 74, 0, 0, []), (33, .imul, 0, 0, 0, 0, 0, []),
  (34, .iaload, 0, 0, 0, 0, 0, []), (35, .iconst 1, 0, 0, 0, 1, 0, []), (36, .if_icmp .ne 16, 0, 30, 0, 0, 0, []), (39, .aload_n 0, 0, 0, 0, 0, 0, []),
  (40, .dup, 0, 0, 0, 0, 0, []), (41, .getfield 441, 0, 12, 65, 0, 0, []), (44, .iconst 1, 0, 0, 0, 1, 0, []), (45, .isub, 0, 0, 0, 0, 0, []),
  (46, .putfield 441, 0, 12, 65, 0, 0, []), (49, .goto 34, 0, 51, 0, 0, 0, []), (52, .aload_n 0, 0, 0, 0, 0, 0, []), (53, .getfield 112, 0, 12, 70, 0, 0, []),
  (56, .aload_n 0, 0, 0, 0, 0, 0, []), (57, .getfield 124, 0, 12, 75, 0, 0, []), (60, .iconst 3, 0, 0, 0, 3, 0, []), (61, .aload_n 0, 0, 0, 0, 0, 0, []),
  (62, .getfield 447, 0, 12, 74, 0, 0, []), (65, .imul, 0, 0, 0, 0, 0, []), (66, .iconst 1, 0, 0, 0, 1, 0, []), (67, .iadd, 0, 0, 0, 0, 0, []),
  (68, .iaload, 0, 0, 0, 0, 0, []), (69, .aload_n 0, 0, 0, 0, 0, 0, []), (70, .getfield 124, 0, 12, 75, 0, 0, []), (73, .iconst 3, 0, 0, 0, 3, 0, []),
  (74, .aload_n 0, 0, 0, 0, 0, 0, []), (75, .getfield 447, 0, 12, 74, 0, 0, []), (78, .imul, 0, 0, 0, 0, 0, []), (79, .iconst 2, 0, 0, 0, 2, 0, []),
  (80, .iadd, 0, 0, 0, 0, 0, []), (81, .iaload, 0, 0, 0, 0, 0, []), (82, .iastore, 0, 0, 0, 0, 0, []), (83, .aload_n 0, 0, 0, 0, 0, 0, []),
  (84, .getfield 447, 0, 12, 74, 0, 0, []), (87, .ireturn, 0, 0, 0, 0, 0, [])]
noncomputable def pX12_undo (N : Nat) (w : Wd) : Option (Int32 × Wd) :=
  if (gI (setI w 16 0 2 (0 : Int32)) 16 0 74) = 0 then some ((-1 : Int32), (setI w 16 0 2 (0 : Int32))) else
  (ldI (setI (setI w 16 0 2 (0 : Int32)) 16 0 74 ((gI (setI w 16 0 2 (0 : Int32)) 16 0 74) - (1 : Int32))) 109 0 ((3 : Int32) * (gI (setI (setI w 16 0 2 (0 : Int32)) 16 0 74 ((gI (setI w 16 0 2 (0 : Int32)) 16 0 74) - (1 : Int32))) 16 0 74)) 60).bind fun x1 =>
  if x1 = (1 : Int32) then
    let w2 : Wd := (setI (setI (setI w 16 0 2 (0 : Int32)) 16 0 74 ((gI (setI w 16 0 2 (0 : Int32)) 16 0 74) - (1 : Int32))) 16 0 65 ((gI (setI (setI w 16 0 2 (0 : Int32)) 16 0 74 ((gI (setI w 16 0 2 (0 : Int32)) 16 0 74) - (1 : Int32))) 16 0 65) - (1 : Int32)))
    some ((gI w2 16 0 74), w2)
  else
  (ldI (setI (setI w 16 0 2 (0 : Int32)) 16 0 74 ((gI (setI w 16 0 2 (0 : Int32)) 16 0 74) - (1 : Int32))) 109 0 (((3 : Int32) * (gI (setI (setI w 16 0 2 (0 : Int32)) 16 0 74 ((gI (setI w 16 0 2 (0 : Int32)) 16 0 74) - (1 : Int32))) 16 0 74)) + (1 : Int32)) 60).bind fun x3 =>
  (ldI (setI (setI w 16 0 2 (0 : Int32)) 16 0 74 ((gI (setI w 16 0 2 (0 : Int32)) 16 0 74) - (1 : Int32))) 109 0 (((3 : Int32) * (gI (setI (setI w 16 0 2 (0 : Int32)) 16 0 74 ((gI (setI w 16 0 2 (0 : Int32)) 16 0 74) - (1 : Int32))) 16 0 74)) + (2 : Int32)) 60).bind fun x4 =>
  (stI (setI (setI w 16 0 2 (0 : Int32)) 16 0 74 ((gI (setI w 16 0 2 (0 : Int32)) 16 0 74) - (1 : Int32))) 105 0 x3 12 x4).bind fun w5 =>
  some ((gI w5 16 0 74), w5)
noncomputable def mX12_undo (N : Nat) (as : List AV) (w : Wd) : Option (Int32 × Wd) := xS1 16 as fun t => xN1 t (callW (pX12_undo N) w)
set_option maxRecDepth 100000 in
set_option maxHeartbeats 4000000 in
theorem kX12_undo : TK cX12_undo RX12 1 tX12_undo := ⟨by decide +kernel, wok_of [1592, 1664, 1664, 1664, 1665, 1664, 1655, 1655, 1660, 1665, 1664, 1665, 1664, 1664] (by decide +kernel) (by decide +kernel)⟩
set_option maxRecDepth 100000 in
set_option maxHeartbeats 4000000 in
theorem crX12_undo {N : Nat} {X : XT} (G : GX X cX12_undo RX12) (hR : xR X = rmL 1) : CRs X tX12_undo (oF []) (oF []) (oF []) := by
  have hl : tX12_undo.filter isInv = [] := rfl
  intro e he
  rw [hl] at he
  cases he
set_option maxRecDepth 100000 in
set_option maxHeartbeats 4000000 in
theorem MX12_undo (N : Nat) : SndI yX12_undo cX12_undo 1 (some .int) 1 1 true (mX12_undo N) := by
  refine SndI.of tX12_undo (by decide +kernel) rfl rfl ?_ ?_
  · intro as w x h
    obtain ⟨t1, rfl, h_1⟩ := xS1_some h
    obtain ⟨rfl, h_2⟩ := xN1_some h_1
    clear h h_1
    have h := h_2
    rw [callW_eq] at h
    exact ⟨fun _ => ⟨_, _, _, rfl, rfl, _, rfl, rfl⟩, rfl, Nat.le_of_ble_eq_true rfl⟩
  · intro X G hn hR as w r h hr
    have hC := crX12_undo (N := N) G hR
    obtain ⟨t1, rfl, h_1⟩ := xS1_some h
    obtain ⟨rfl, h_2⟩ := xN1_some h_1
    clear h h_1
    have h := h_2
    rw [callW_eq] at h
    refine run_sound (r := r) (X := X) (cc := cX12_undo) (own := RX12) (tab := tX12_undo) G (by rw [hn]; exact kX12_undo) (oI := (oF [])) (oL := (oF [])) (oV := (oF [])) (rI := (fun x w => some (x, w))) (rL := (fun _ _ => none)) (rV := (fun _ => none))
      (K := (fun j ls st w => none)) (fun x w pc ls hx hd => hr x w pc ls (Option.some.inj hx) hd) (fun _ _ _ _ hx => by cases hx) (fun _ _ _ hx => by cases hx) hC (fun ls => lsb [some (.inr (.inr (16, 0)))] 0 ls) (keepsP_of rfl) ?_ 56 0 [some (.inr (.inr (16, 0)))] [] w ?_ h
    · intro j ls st w hfx h
      obtain ⟨e0, -⟩ : _ = _ ∧ True := hfx
      try dsimp only at h
      cases h
    · exact (show _ = _ ∧ True from ⟨rfl, trivial⟩)
-- MoorGuidesModel.keep()I
def tX12_keep : List EN := [
  (0, .aload_n 0, 0, 0, 0, 0, 0, []), (1, .iconst 0, 0, 0, 0, 0, 0, []), (2, .putfield 196, 0, 12, 2, 0, 0, []), (5, .aload_n 0, 0, 0, 0, 0, 0, []),
  (6, .iconst 1, 0, 0, 0, 1, 0, []), (7, .putfield 450, 0, 12, 97, 0, 0, [(0, 0)]), (10, .aload_n 0, 0, 0, 0, 0, 0, []), (11, .aload_n 0, 0, 0, 0, 0, 0, []),
  (12, .getfield 438, 0, 12, 64, 0, 0, []), (15, .putfield 622, 0, 12, 98, 0, 0, []), (18, .aload_n 0, 0, 0, 0, 0, 0, []), (19, .aload_n 0, 0, 0, 0, 0, 0, []),
  (20, .getfield 441, 0, 12, 65, 0, 0, []), (23, .putfield 625, 0, 12, 99, 0, 0, []), (26, .aload_n 0, 0, 0, 0, 0, 0, []), (27, .aload_n 0, 0, 0, 0, 0, 0, []),
  (28, .getfield 115, 0, 12, 71, 0, 0, []), (31, .iconst 0, 0, 0, 0, 0, 0, []), (32, .laload, 0, 0, 0, 0, 0, []), (33, .putfield 628, 0, 12, 100, 0, 0, []),
  (36, .iconst 0, 0, 0, 0, 0, 0, []), (37, .istore_n 1, 0, 0, 0, 0, 0, []), (38, .iload_n 1, 23, 0, 0, 0, 0, []), (39, .bipush 48, 0, 0, 0, 48, 0, []),
  (41, .if_icmp .ge 33, 0, 43, 0, 0, 0, []), (44, .aload_n 0, 0, 0, 0, 0, 0, []), (45, .getfield 169, 0, 12, 101, 0, 0, []), (48, .iload_n 1, 0, 0, 0, 0, 0, []),
  (49, .aload_n 0, 0, 0, 0, 0, 0, []), (50, .getfield 100, 0, 12, 66, 0, 0, []), (53, .iload_n 1, 0, 0, 0, 0, 0, []), (54, .iaload, 0, 0, 0, 0, 0, []),
  (55, .iastore, 0, 0, 0, 0, 0, []), (56, .aload_n 0, 0, 0, 0, 0, 0, []), (57, .getfield 172, 0, 12, 102, 0, 0, []), (60, .iload_n 1, 0, 0, 0, 0, 0, []),
  (61, .aload_n 0, 0, 0, 0, 0, 0, []), (62, .getfield 103, 0, 12, 67, 0, 0, []), (65, .iload_n 1, 0, 0, 0, 0, 0, []), (66, .baload, 0, 0, 0, 0, 0, []),
  (67, .bastore, 0, 0, 0, 0, 0, []), (68, .iinc 1 1, 0, 0, 0, 1, 0, []), (71, .goto (-33), 0, 22, 0, 0, 0, []), (74, .iconst 0, 44, 0, 0, 0, 0, []),
  (75, .istore_n 1, 0, 0, 0, 0, 0, []), (76, .iload_n 1, 46, 0, 0, 0, 0, []), (77, .bipush 6, 0, 0, 0, 6, 0, []), (79, .if_icmp .ge 45, 0, 74, 0, 0, 0, []),
  (82, .aload_n 0, 0, 0, 0, 0, 0, []), (83, .getfield 175, 0, 12, 103, 0, 0, []), (86, .iload_n 1, 0, 0, 0, 0, 0, []), (87, .aload_n 0, 0, 0, 0, 0, 0, []),
  (88, .getfield 106, 0, 12, 68, 0, 0, []), (91, .iload_n 1, 0, 0, 0, 0, 0, []), (92, .baload, 0, 0, 0, 0, 0, []), (93, .bastore, 0, 0, 0, 0, 0, []),
  (94, .aload_n 0, 0, 0, 0, 0, 0, []), (95, .getfield 178, 0, 12, 104, 0, 0, []), (98, .iload_n 1, 0, 0, 0, 0, 0, []), (99, .aload_n 0, 0, 0, 0, 0, 0, []),
  (100, .getfield 109, 0, 12, 69, 0, 0, []), (103, .iload_n 1, 0, 0, 0, 0, 0, []), (104, .iaload, 0, 0, 0, 0, 0, []), (105, .iastore, 0, 0, 0, 0, 0, []),
  (106, .aload_n 0, 0, 0, 0, 0, 0, []), (107, .getfield 181, 0, 12, 105, 0, 0, []), (110, .iload_n 1, 0, 0, 0, 0, 0, []), (111, .aload_n 0, 0, 0, 0, 0, 0, []),
  (112, .getfield 112, 0, 12, 70, 0, 0, []), (115, .iload_n 1, 0, 0, 0, 0, 0, []), (116, .iaload, 0, 0, 0, 0, 0, []), (117, .iastore, 0, 0, 0, 0, 0, []),
  (118, .iinc 1 1, 0, 0, 0, 1, 0, []), (121, .goto (-45), 0, 45, 0, 0, 0, []), (124, .iconst 0, 75, 0, 0, 0, 0, []), (125, .istore_n 1, 0, 0, 0, 0, 0, []),
  (126, .iload_n 1, 77, 0, 0, 0, 0, []), (127, .bipush 12, 0, 0, 0, 12, 0, []), (129, .if_icmp .ge 33, 0, 97, 0, 0, 0, []), (132, .aload_n 0, 0, 0, 0, 0, 0, []),
  (133, .getfield 184, 0, 12, 106, 0, 0, []), (136, .iload_n 1, 0, 0, 0, 0, 0, []), (137, .aload_n 0, 0, 0, 0, 0, 0, []), (138, .getfield 62, 0, 12, 45, 0, 0, []),
  (141, .iload_n 1, 0, 0, 0, 0, 0, []), (142, .iaload, 0, 0, 0, 0, 0, []), (143, .iastore, 0, 0, 0, 0, 0, []), (144, .aload_n 0, 0, 0, 0, 0, 0, []),
  (145, .getfield 187, 0, 12, 107, 0, 0, []), (148, .iload_n 1, 0, 0, 0, 0, 0, []), (149, .aload_n 0, 0, 0, 0, 0, 0, []), (150, .getfield 65, 0, 12, 46, 0, 0, []),
  (153, .iload_n 1, 0, 0, 0, 0, 0, []), (154, .iaload, 0, 0, 0, 0, 0, []), (155, .iastore, 0, 0, 0, 0, 0, []), (156, .iinc 1 1, 0, 0, 0, 1, 0, []),
  (159, .goto (-33), 0, 76, 0, 0, 0, []), (162, .aload_n 0, 98, 0, 0, 0, 0, []), (163, .getfield 438, 0, 12, 64, 0, 0, []), (166, .ireturn, 0, 0, 0, 0, 0, [])]
noncomputable def fX12_keep_97 (N : Nat) (w : Wd) : Option (Int32 × Wd) :=
  some ((gI w 16 0 64), w)
noncomputable def fX12_keep_76 (N : Nat) : Nat → (Wd → Option (Int32 × Wd)) → Int32 → Wd → Option (Int32 × Wd)
  | 0, _, _, _ => none
  | n + 1, k97, v1, w =>
    if v1 < (12 : Int32) then
      (ldI w 89 0 v1 24).bind fun x1 =>
      (stI w 129 0 v1 12 x1).bind fun w2 =>
      (ldI w2 90 0 v1 24).bind fun x3 =>
      (stI w2 130 0 v1 12 x3).bind fun w4 =>
      callW (fX12_keep_76 N n k97 (v1 + (1 : Int32))) w4
    else
    k97 w
noncomputable def fX12_keep_74 (N : Nat) (w : Wd) : Option (Int32 × Wd) :=
  callW (fX12_keep_76 N N (fX12_keep_97 N) (0 : Int32)) w
noncomputable def fX12_keep_45 (N : Nat) : Nat → (Wd → Option (Int32 × Wd)) → Int32 → Wd → Option (Int32 × Wd)
  | 0, _, _, _ => none
  | n + 1, k74, v1, w =>
    if v1 < (6 : Int32) then
      (ldI w 103 0 v1 12).bind fun x1 =>
      (stI w 126 0 v1 6 (x1 &&& 1)).bind fun w2 =>
      (ldI w2 104 0 v1 12).bind fun x3 =>
      (stI w2 127 0 v1 6 x3).bind fun w4 =>
      (ldI w4 105 0 v1 12).bind fun x5 =>
      (stI w4 128 0 v1 6 x5).bind fun w6 =>
      callW (fX12_keep_45 N n k74 (v1 + (1 : Int32))) w6
    else
    k74 w
noncomputable def fX12_keep_43 (N : Nat) (w : Wd) : Option (Int32 × Wd) :=
  callW (fX12_keep_45 N N (fX12_keep_74 N) (0 : Int32)) w
noncomputable def fX12_keep_22 (N : Nat) : Nat → (Wd → Option (Int32 × Wd)) → Int32 → Wd → Option (Int32 × Wd)
  | 0, _, _, _ => none
  | n + 1, k43, v1, w =>
    if v1 < (48 : Int32) then
      (ldI w 101 0 v1 96).bind fun x1 =>
      (stI w 124 0 v1 48 x1).bind fun w2 =>
      (ldI w2 102 0 v1 96).bind fun x3 =>
      (stI w2 125 0 v1 48 (x3 &&& 1)).bind fun w4 =>
      callW (fX12_keep_22 N n k43 (v1 + (1 : Int32))) w4
    else
    k43 w
noncomputable def pX12_keep (N : Nat) (w : Wd) : Option (Int32 × Wd) :=
  let w1 : Wd := (setI (setI (setI (setI w 16 0 2 (0 : Int32)) 16 0 97 (1 : Int32)) 16 0 98 (gI (setI (setI w 16 0 2 (0 : Int32)) 16 0 97 (1 : Int32)) 16 0 64)) 16 0 99 (gI (setI (setI (setI w 16 0 2 (0 : Int32)) 16 0 97 (1 : Int32)) 16 0 98 (gI (setI (setI w 16 0 2 (0 : Int32)) 16 0 97 (1 : Int32)) 16 0 64)) 16 0 65))
  (ldL w1 106 0 (0 : Int32) 2).bind fun x2 =>
  callW (fX12_keep_22 N N (fX12_keep_43 N) (0 : Int32)) (setL w1 16 0 100 x2)
noncomputable def mX12_keep (N : Nat) (as : List AV) (w : Wd) : Option (Int32 × Wd) := xS1 16 as fun t => xN1 t (callW (pX12_keep N) w)
set_option maxRecDepth 100000 in
set_option maxHeartbeats 4000000 in
theorem kX12_keep : TK cX12_keep RX12 2 tX12_keep := ⟨by decide +kernel, wok_of [1592, 1687, 1654, 1688, 1655, 1689, 1661, 1690, 1691, 1656, 1692, 1657, 1693, 1658, 1694, 1659, 1695, 1660, 1696, 1635, 1697, 1636, 1654] (by decide +kernel) (by decide +kernel)⟩
set_option maxRecDepth 100000 in
set_option maxHeartbeats 4000000 in
theorem sX12_keep_97 {N : Nat} {X : XT} (G : GX X cX12_keep RX12) (hn : xnL X = 2) (hC : CRs X tX12_keep (oF []) (oF []) (oF [])) {r : Int32 × Wd} (hr : RTI X cX12_keep r)  : ∀ (w : Wd), fX12_keep_97 N w = some r → WW X (pcAt tX12_keep 97) [some (.inr (.inr (16, 0))), none] [] w := by
  intro w h
  refine run_sound (r := r) (X := X) (cc := cX12_keep) (own := RX12) (tab := tX12_keep) G (by rw [hn]; exact kX12_keep) (oI := (oF [])) (oL := (oF [])) (oV := (oF [])) (rI := (fun x w => some (x, w))) (rL := (fun _ _ => none)) (rV := (fun _ => none))
    (K := (fun j ls st w => none)) (fun x w pc ls hx hd => hr x w pc ls (Option.some.inj hx) hd) (fun _ _ _ _ hx => by cases hx) (fun _ _ _ hx => by cases hx) hC (fun ls => lsb [some (.inr (.inr (16, 0))), none] 0 ls) (keepsP_of rfl) ?_ 102 97 [some (.inr (.inr (16, 0))), none] [] w ?_ h
  · intro j ls st w hfx h
    obtain ⟨e0, -⟩ : _ = _ ∧ True := hfx
    try dsimp only at h
    cases h
  · exact (show _ = _ ∧ True from ⟨rfl, trivial⟩)
set_option maxRecDepth 100000 in
set_option maxHeartbeats 4000000 in
theorem sX12_keep_76 {N : Nat} {X : XT} (G : GX X cX12_keep RX12) (hn : xnL X = 2) (hC : CRs X tX12_keep (oF []) (oF []) (oF [])) {r : Int32 × Wd} (hr : RTI X cX12_keep r)  : ∀ (n : Nat) (k97 : Wd → Option (Int32 × Wd)) (v1 : Int32) (w : Wd), fX12_keep_76 N n k97 v1 w = some r → (∀ (w : Wd), k97 w = some r → WW X (pcAt tX12_keep 97) [some (.inr (.inr (16, 0))), none] [] w) → WW X (pcAt tX12_keep 76) [some (.inr (.inr (16, 0))), some (.inl v1)] [] w := by
  intro n
  induction n with
  | zero => intro k97 v1 w h h97; cases h
  | succ n ih =>
    intro k97 v1 w h h97
    refine run_sound (r := r) (X := X) (cc := cX12_keep) (own := RX12) (tab := tX12_keep) G (by rw [hn]; exact kX12_keep) (oI := (oF [])) (oL := (oF [])) (oV := (oF [])) (rI := (fun x w => some (x, w))) (rL := (fun _ _ => none)) (rV := (fun _ => none))
      (K := (fun j ls st w => if j = 76 then (lgI ls 1 fun v1 => st0 st (callW (fX12_keep_76 N n k97 v1) w)) else if j = 97 then (st0 st (k97 w)) else none)) (fun x w pc ls hx hd => hr x w pc ls (Option.some.inj hx) hd) (fun _ _ _ _ hx => by cases hx) (fun _ _ _ hx => by cases hx) hC (fun ls => lsb [some (.inr (.inr (16, 0))), none] 0 ls) (keepsP_of rfl) ?_ 102 76 [some (.inr (.inr (16, 0))), some (.inl v1)] [] w ?_ h
    · intro j ls st w hfx h
      obtain ⟨e0, -⟩ : _ = _ ∧ True := hfx
      try dsimp only at h
      by_cases hj : j = 76
      · subst hj
        rw [if_pos rfl] at h
        obtain ⟨v1, e1, h_1⟩ := lgI_some h
        obtain ⟨rfl, h_2⟩ := st0_some h_1
        clear h h_1
        have h := h_2
        try rw [callW_eq] at h
        exact WW.le (a := [some (.inr (.inr (16, 0))), some (.inl v1)]) (by rw [hn]; rfl) (show _ = _ ∧ _ = _ ∧ True from ⟨e0, e1, trivial⟩) (ih k97 v1 w h h97)
      rw [if_neg hj] at h
      by_cases hj : j = 97
      · subst hj
        rw [if_pos rfl] at h
        obtain ⟨rfl, h_1⟩ := st0_some h
        clear h
        have h := h_1
        try rw [callW_eq] at h
        exact WW.le (a := [some (.inr (.inr (16, 0))), none]) (by rw [hn]; rfl) (show _ = _ ∧ True from ⟨e0, trivial⟩) (h97 w h)
      rw [if_neg hj] at h
      cases h
    · exact (show _ = _ ∧ True from ⟨rfl, trivial⟩)
set_option maxRecDepth 100000 in
set_option maxHeartbeats 4000000 in
theorem sX12_keep_74 {N : Nat} {X : XT} (G : GX X cX12_keep RX12) (hn : xnL X = 2) (hC : CRs X tX12_keep (oF []) (oF []) (oF [])) {r : Int32 × Wd} (hr : RTI X cX12_keep r)  : ∀ (w : Wd), fX12_keep_74 N w = some r → WW X (pcAt tX12_keep 74) [some (.inr (.inr (16, 0))), none] [] w := by
  intro w h
  refine run_sound (r := r) (X := X) (cc := cX12_keep) (own := RX12) (tab := tX12_keep) G (by rw [hn]; exact kX12_keep) (oI := (oF [])) (oL := (oF [])) (oV := (oF [])) (rI := (fun x w => some (x, w))) (rL := (fun _ _ => none)) (rV := (fun _ => none))
    (K := (fun j ls st w => if j = 76 then (lgI ls 1 fun v1 => st0 st (callW (fX12_keep_76 N N (fX12_keep_97 N) v1) w)) else none)) (fun x w pc ls hx hd => hr x w pc ls (Option.some.inj hx) hd) (fun _ _ _ _ hx => by cases hx) (fun _ _ _ hx => by cases hx) hC (fun ls => lsb [some (.inr (.inr (16, 0))), none] 0 ls) (keepsP_of rfl) ?_ 102 74 [some (.inr (.inr (16, 0))), none] [] w ?_ h
  · intro j ls st w hfx h
    obtain ⟨e0, -⟩ : _ = _ ∧ True := hfx
    try dsimp only at h
    by_cases hj : j = 76
    · subst hj
      rw [if_pos rfl] at h
      obtain ⟨v1, e1, h_1⟩ := lgI_some h
      obtain ⟨rfl, h_2⟩ := st0_some h_1
      clear h h_1
      have h := h_2
      try rw [callW_eq] at h
      exact WW.le (a := [some (.inr (.inr (16, 0))), some (.inl v1)]) (by rw [hn]; rfl) (show _ = _ ∧ _ = _ ∧ True from ⟨e0, e1, trivial⟩) (sX12_keep_76 G hn hC hr N (fX12_keep_97 N) v1 w h (fun w h => (sX12_keep_97 G hn hC hr w h)))
    rw [if_neg hj] at h
    cases h
  · exact (show _ = _ ∧ True from ⟨rfl, trivial⟩)
set_option maxRecDepth 100000 in
set_option maxHeartbeats 4000000 in
theorem sX12_keep_45 {N : Nat} {X : XT} (G : GX X cX12_keep RX12) (hn : xnL X = 2) (hC : CRs X tX12_keep (oF []) (oF []) (oF [])) {r : Int32 × Wd} (hr : RTI X cX12_keep r)  : ∀ (n : Nat) (k74 : Wd → Option (Int32 × Wd)) (v1 : Int32) (w : Wd), fX12_keep_45 N n k74 v1 w = some r → (∀ (w : Wd), k74 w = some r → WW X (pcAt tX12_keep 74) [some (.inr (.inr (16, 0))), none] [] w) → WW X (pcAt tX12_keep 45) [some (.inr (.inr (16, 0))), some (.inl v1)] [] w := by
  intro n
  induction n with
  | zero => intro k74 v1 w h h74; cases h
  | succ n ih =>
    intro k74 v1 w h h74
    refine run_sound (r := r) (X := X) (cc := cX12_keep) (own := RX12) (tab := tX12_keep) G (by rw [hn]; exact kX12_keep) (oI := (oF [])) (oL := (oF [])) (oV := (oF [])) (rI := (fun x w => some (x, w))) (rL := (fun _ _ => none)) (rV := (fun _ => none))
      (K := (fun j ls st w => if j = 45 then (lgI ls 1 fun v1 => st0 st (callW (fX12_keep_45 N n k74 v1) w)) else if j = 74 then (st0 st (k74 w)) else none)) (fun x w pc ls hx hd => hr x w pc ls (Option.some.inj hx) hd) (fun _ _ _ _ hx => by cases hx) (fun _ _ _ hx => by cases hx) hC (fun ls => lsb [some (.inr (.inr (16, 0))), none] 0 ls) (keepsP_of rfl) ?_ 102 45 [some (.inr (.inr (16, 0))), some (.inl v1)] [] w ?_ h
    · intro j ls st w hfx h
      obtain ⟨e0, -⟩ : _ = _ ∧ True := hfx
      try dsimp only at h
      by_cases hj : j = 45
      · subst hj
        rw [if_pos rfl] at h
        obtain ⟨v1, e1, h_1⟩ := lgI_some h
        obtain ⟨rfl, h_2⟩ := st0_some h_1
        clear h h_1
        have h := h_2
        try rw [callW_eq] at h
        exact WW.le (a := [some (.inr (.inr (16, 0))), some (.inl v1)]) (by rw [hn]; rfl) (show _ = _ ∧ _ = _ ∧ True from ⟨e0, e1, trivial⟩) (ih k74 v1 w h h74)
      rw [if_neg hj] at h
      by_cases hj : j = 74
      · subst hj
        rw [if_pos rfl] at h
        obtain ⟨rfl, h_1⟩ := st0_some h
        clear h
        have h := h_1
        try rw [callW_eq] at h
        exact WW.le (a := [some (.inr (.inr (16, 0))), none]) (by rw [hn]; rfl) (show _ = _ ∧ True from ⟨e0, trivial⟩) (h74 w h)
      rw [if_neg hj] at h
      cases h
    · exact (show _ = _ ∧ True from ⟨rfl, trivial⟩)
set_option maxRecDepth 100000 in
set_option maxHeartbeats 4000000 in
theorem sX12_keep_43 {N : Nat} {X : XT} (G : GX X cX12_keep RX12) (hn : xnL X = 2) (hC : CRs X tX12_keep (oF []) (oF []) (oF [])) {r : Int32 × Wd} (hr : RTI X cX12_keep r)  : ∀ (w : Wd), fX12_keep_43 N w = some r → WW X (pcAt tX12_keep 43) [some (.inr (.inr (16, 0))), none] [] w := by
  intro w h
  refine run_sound (r := r) (X := X) (cc := cX12_keep) (own := RX12) (tab := tX12_keep) G (by rw [hn]; exact kX12_keep) (oI := (oF [])) (oL := (oF [])) (oV := (oF [])) (rI := (fun x w => some (x, w))) (rL := (fun _ _ => none)) (rV := (fun _ => none))
    (K := (fun j ls st w => if j = 45 then (lgI ls 1 fun v1 => st0 st (callW (fX12_keep_45 N N (fX12_keep_74 N) v1) w)) else none)) (fun x w pc ls hx hd => hr x w pc ls (Option.some.inj hx) hd) (fun _ _ _ _ hx => by cases hx) (fun _ _ _ hx => by cases hx) hC (fun ls => lsb [some (.inr (.inr (16, 0))), none] 0 ls) (keepsP_of rfl) ?_ 102 43 [some (.inr (.inr (16, 0))), none] [] w ?_ h
  · intro j ls st w hfx h
    obtain ⟨e0, -⟩ : _ = _ ∧ True := hfx
    try dsimp only at h
    by_cases hj : j = 45
    · subst hj
      rw [if_pos rfl] at h
      obtain ⟨v1, e1, h_1⟩ := lgI_some h
      obtain ⟨rfl, h_2⟩ := st0_some h_1
      clear h h_1
      have h := h_2
      try rw [callW_eq] at h
      exact WW.le (a := [some (.inr (.inr (16, 0))), some (.inl v1)]) (by rw [hn]; rfl) (show _ = _ ∧ _ = _ ∧ True from ⟨e0, e1, trivial⟩) (sX12_keep_45 G hn hC hr N (fX12_keep_74 N) v1 w h (fun w h => (sX12_keep_74 G hn hC hr w h)))
    rw [if_neg hj] at h
    cases h
  · exact (show _ = _ ∧ True from ⟨rfl, trivial⟩)
set_option maxRecDepth 100000 in
set_option maxHeartbeats 4000000 in
theorem sX12_keep_22 {N : Nat} {X : XT} (G : GX X cX12_keep RX12) (hn : xnL X = 2) (hC : CRs X tX12_keep (oF []) (oF []) (oF [])) {r : Int32 × Wd} (hr : RTI X cX12_keep r)  : ∀ (n : Nat) (k43 : Wd → Option (Int32 × Wd)) (v1 : Int32) (w : Wd), fX12_keep_22 N n k43 v1 w = some r → (∀ (w : Wd), k43 w = some r → WW X (pcAt tX12_keep 43) [some (.inr (.inr (16, 0))), none] [] w) → WW X (pcAt tX12_keep 22) [some (.inr (.inr (16, 0))), some (.inl v1)] [] w := by
  intro n
  induction n with
  | zero => intro k43 v1 w h h43; cases h
  | succ n ih =>
    intro k43 v1 w h h43
    refine run_sound (r := r) (X := X) (cc := cX12_keep) (own := RX12) (tab := tX12_keep) G (by rw [hn]; exact kX12_keep) (oI := (oF [])) (oL := (oF [])) (oV := (oF [])) (rI := (fun x w => some (x, w))) (rL := (fun _ _ => none)) (rV := (fun _ => none))
      (K := (fun j ls st w => if j = 22 then (lgI ls 1 fun v1 => st0 st (callW (fX12_keep_22 N n k43 v1) w)) else if j = 43 then (st0 st (k43 w)) else none)) (fun x w pc ls hx hd => hr x w pc ls (Option.some.inj hx) hd) (fun _ _ _ _ hx => by cases hx) (fun _ _ _ hx => by cases hx) hC (fun ls => lsb [some (.inr (.inr (16, 0))), none] 0 ls) (keepsP_of rfl) ?_ 102 22 [some (.inr (.inr (16, 0))), some (.inl v1)] [] w ?_ h
    · intro j ls st w hfx h
      obtain ⟨e0, -⟩ : _ = _ ∧ True := hfx
      try dsimp only at h
      by_cases hj : j = 22
      · subst hj
        rw [if_pos rfl] at h
        obtain ⟨v1, e1, h_1⟩ := lgI_some h
        obtain ⟨rfl, h_2⟩ := st0_some h_1
        clear h h_1
        have h := h_2
        try rw [callW_eq] at h
        exact WW.le (a := [some (.inr (.inr (16, 0))), some (.inl v1)]) (by rw [hn]; rfl) (show _ = _ ∧ _ = _ ∧ True from ⟨e0, e1, trivial⟩) (ih k43 v1 w h h43)
      rw [if_neg hj] at h
      by_cases hj : j = 43
      · subst hj
        rw [if_pos rfl] at h
        obtain ⟨rfl, h_1⟩ := st0_some h
        clear h
        have h := h_1
        try rw [callW_eq] at h
        exact WW.le (a := [some (.inr (.inr (16, 0))), none]) (by rw [hn]; rfl) (show _ = _ ∧ True from ⟨e0, trivial⟩) (h43 w h)
      rw [if_neg hj] at h
      cases h
    · exact (show _ = _ ∧ True from ⟨rfl, trivial⟩)
set_option maxRecDepth 100000 in
set_option maxHeartbeats 4000000 in
theorem crX12_keep {N : Nat} {X : XT} (G : GX X cX12_keep RX12) (hR : xR X = rmL 1) : CRs X tX12_keep (oF []) (oF []) (oF []) := by
  have hl : tX12_keep.filter isInv = [] := rfl
  intro e he
  rw [hl] at he
  cases he
set_option maxRecDepth 100000 in
set_option maxHeartbeats 4000000 in
theorem MX12_keep (N : Nat) : SndI yX12_keep cX12_keep 2 (some .int) 1 1 true (mX12_keep N) := by
  refine SndI.of tX12_keep (by decide +kernel) rfl rfl ?_ ?_
  · intro as w x h
    obtain ⟨t1, rfl, h_1⟩ := xS1_some h
    obtain ⟨rfl, h_2⟩ := xN1_some h_1
    clear h h_1
    have h := h_2
    rw [callW_eq] at h
    exact ⟨fun _ => ⟨_, _, _, rfl, rfl, _, rfl, rfl⟩, rfl, Nat.le_of_ble_eq_true rfl⟩
  · intro X G hn hR as w r h hr
    have hC := crX12_keep (N := N) G hR
    obtain ⟨t1, rfl, h_1⟩ := xS1_some h
    obtain ⟨rfl, h_2⟩ := xN1_some h_1
    clear h h_1
    have h := h_2
    rw [callW_eq] at h
    refine run_sound (r := r) (X := X) (cc := cX12_keep) (own := RX12) (tab := tX12_keep) G (by rw [hn]; exact kX12_keep) (oI := (oF [])) (oL := (oF [])) (oV := (oF [])) (rI := (fun x w => some (x, w))) (rL := (fun _ _ => none)) (rV := (fun _ => none))
      (K := (fun j ls st w => if j = 22 then (lgI ls 1 fun v1 => st0 st (callW (fX12_keep_22 N N (fX12_keep_43 N) v1) w)) else none)) (fun x w pc ls hx hd => hr x w pc ls (Option.some.inj hx) hd) (fun _ _ _ _ hx => by cases hx) (fun _ _ _ hx => by cases hx) hC (fun ls => lsb [some (.inr (.inr (16, 0))), none] 0 ls) (keepsP_of rfl) ?_ 102 0 [some (.inr (.inr (16, 0))), none] [] w ?_ h
    · intro j ls st w hfx h
      obtain ⟨e0, -⟩ : _ = _ ∧ True := hfx
      try dsimp only at h
      by_cases hj : j = 22
      · subst hj
        rw [if_pos rfl] at h
        obtain ⟨v1, e1, h_1⟩ := lgI_some h
        obtain ⟨rfl, h_2⟩ := st0_some h_1
        clear h h_1
        have h := h_2
        try rw [callW_eq] at h
        exact WW.le (a := [some (.inr (.inr (16, 0))), some (.inl v1)]) (by rw [hn]; rfl) (show _ = _ ∧ _ = _ ∧ True from ⟨e0, e1, trivial⟩) (sX12_keep_22 G hn hC hr N (fX12_keep_43 N) v1 w h (fun w h => (sX12_keep_43 G hn hC hr w h)))
      rw [if_neg hj] at h
      cases h
    · exact (show _ = _ ∧ True from ⟨rfl, trivial⟩)
-- MoorGuidesModel.back()I
def tX12_back : List EN := [
  (0, .aload_n 0, 0, 0, 0, 0, 0, []), (1, .iconst 0, 0, 0, 0, 0, 0, []), (2, .putfield 196, 0, 12, 2, 0, 0, []), (5, .aload_n 0, 0, 0, 0, 0, 0, []),
  (6, .getfield 450, 0, 12, 97, 0, 0, []), (9, .ifCond .ne 5, 0, 8, 0, 0, 0, []), (12, .iconst (-1), 0, 0, 0, (-1), 0, []), (13, .ireturn, 0, 0, 0, 0, 0, []),
  (14, .aload_n 0, 0, 0, 0, 0, 0, []), (15, .aload_n 0, 0, 0, 0, 0, 0, []), (16, .getfield 622, 0, 12, 98, 0, 0, []), (19, .putfield 438, 0, 12, 64, 0, 0, []),
  (22, .aload_n 0, 0, 0, 0, 0, 0, []), (23, .aload_n 0, 0, 0, 0, 0, 0, []), (24, .getfield 625, 0, 12, 99, 0, 0, []), (27, .putfield 441, 0, 12, 65, 0, 0, []),
  (30, .aload_n 0, 0, 0, 0, 0, 0, []), (31, .getfield 115, 0, 12, 71, 0, 0, []), (34, .iconst 0, 0, 0, 0, 0, 0, []), (35, .aload_n 0, 0, 0, 0, 0, 0, []),
  (36, .getfield 628, 0, 12, 100, 0, 0, []), (39, .lastore, 0, 0, 0, 0, 0, []), (40, .iconst 0, 0, 0, 0, 0, 0, []), (41, .istore_n 1, 0, 0, 0, 0, 0, []),
  (42, .iload_n 1, 25, 0, 0, 0, 0, []), (43, .bipush 48, 0, 0, 0, 48, 0, []), (45, .if_icmp .ge 33, 0, 45, 0, 0, 0, []), (48, .aload_n 0, 0, 0, 0, 0, 0, []),
  (49, .getfield 100, 0, 12, 66, 0, 0, []), (52, .iload_n 1, 0, 0, 0, 0, 0, []), (53, .aload_n 0, 0, 0, 0, 0, 0, []), (54, .getfield 169, 0, 12, 101, 0, 0, []),
  (57, .iload_n 1, 0, 0, 0, 0, 0, []), (58, .iaload, 0, 0, 0, 0, 0, []), (59, .iastore, 0, 0, 0, 0, 0, []), (60, .aload_n 0, 0, 0, 0, 0, 0, []),
  (61, .getfield 103, 0, 12, 67, 0, 0, []), (64, .iload_n 1, 0, 0, 0, 0, 0, []), (65, .aload_n 0, 0, 0, 0, 0, 0, []), (66, .getfield 172, 0, 12, 102, 0, 0, []),
  (69, .iload_n 1, 0, 0, 0, 0, 0, []), (70, .baload, 0, 0, 0, 0, 0, []), (71, .bastore, 0, 0, 0, 0, 0, []), (72, .iinc 1 1, 0, 0, 0, 1, 0, []),
  (75, .goto (-33), 0, 24, 0, 0, 0, []), (78, .iconst 0, 46, 0, 0, 0, 0, []), (79, .istore_n 1, 0, 0, 0, 0, 0, []), (80, .iload_n 1, 48, 0, 0, 0, 0, []),
  (81, .bipush 6, 0, 0, 0, 6, 0, []), (83, .if_icmp .ge 45, 0, 76, 0, 0, 0, []), (86, .aload_n 0, 0, 0, 0, 0, 0, []), (87, .getfield 106, 0, 12, 68, 0, 0, []),
  (90, .iload_n 1, 0, 0, 0, 0, 0, []), (91, .aload_n 0, 0, 0, 0, 0, 0, []), (92, .getfield 175, 0, 12, 103, 0, 0, []), (95, .iload_n 1, 0, 0, 0, 0, 0, []),
  (96, .baload, 0, 0, 0, 0, 0, []), (97, .bastore, 0, 0, 0, 0, 0, []), (98, .aload_n 0, 0, 0, 0, 0, 0, []), (99, .getfield 109, 0, 12, 69, 0, 0, []),
  (102, .iload_n 1, 0, 0, 0, 0, 0, []), (103, .aload_n 0, 0, 0, 0, 0, 0, []), (104, .getfield 178, 0, 12, 104, 0, 0, []), (107, .iload_n 1, 0, 0, 0, 0, 0, []),
  (108, .iaload, 0, 0, 0, 0, 0, []), (109, .iastore, 0, 0, 0, 0, 0, []), (110, .aload_n 0, 0, 0, 0, 0, 0, []), (111, .getfield 112, 0, 12, 70, 0, 0, []),
  (114, .iload_n 1, 0, 0, 0, 0, 0, []), (115, .aload_n 0, 0, 0, 0, 0, 0, []), (116, .getfield 181, 0, 12, 105, 0, 0, []), (119, .iload_n 1, 0, 0, 0, 0, 0, []),
  (120, .iaload, 0, 0, 0, 0, 0, []), (121, .iastore, 0, 0, 0, 0, 0, []), (122, .iinc 1 1, 0, 0, 0, 1, 0, []), (125, .goto (-45), 0, 47, 0, 0, 0, []),
  (128, .iconst 0, 77, 0, 0, 0, 0, []), (129, .istore_n 1, 0, 0, 0, 0, 0, []), (130, .iload_n 1, 79, 0, 0, 0, 0, []), (131, .bipush 12, 0, 0, 0, 12, 0, []),
  (133, .if_icmp .ge 33, 0, 99, 0, 0, 0, []), (136, .aload_n 0, 0, 0, 0, 0, 0, []), (137, .getfield 62, 0, 12, 45, 0, 0, []), (140, .iload_n 1, 0, 0, 0, 0, 0, []),
  (141, .aload_n 0, 0, 0, 0, 0, 0, []), (142, .getfield 184, 0, 12, 106, 0, 0, []), (145, .iload_n 1, 0, 0, 0, 0, 0, []), (146, .iaload, 0, 0, 0, 0, 0, []),
  (147, .iastore, 0, 0, 0, 0, 0, []), (148, .aload_n 0, 0, 0, 0, 0, 0, []), (149, .getfield 65, 0, 12, 46, 0, 0, []), (152, .iload_n 1, 0, 0, 0, 0, 0, []),
  (153, .aload_n 0, 0, 0, 0, 0, 0, []), (154, .getfield 187, 0, 12, 107, 0, 0, []), (157, .iload_n 1, 0, 0, 0, 0, 0, []), (158, .iaload, 0, 0, 0, 0, 0, []),
  (159, .iastore, 0, 0, 0, 0, 0, []), (160, .iinc 1 1, 0, 0, 0, 1, 0, []), (163, .goto (-33), 0, 78, 0, 0, 0, []), (166, .aload_n 0, 100, 0, 0, 0, 0, []),
  (167, .iconst 0, 0, 0, 0, 0, 0, []), (168, .putfield 447, 0, 12, 74, 0, 0, []), (171, .aload_n 0, 0, 0, 0, 0, 0, []), (172, .getfield 438, 0, 12, 64, 0, 0, []),
  (175, .ireturn, 0, 0, 0, 0, 0, [])]
noncomputable def fX12_back_99 (N : Nat) (w : Wd) : Option (Int32 × Wd) :=
  some ((gI (setI w 16 0 74 (0 : Int32)) 16 0 64), (setI w 16 0 74 (0 : Int32)))
noncomputable def fX12_back_78 (N : Nat) : Nat → (Wd → Option (Int32 × Wd)) → Int32 → Wd → Option (Int32 × Wd)
  | 0, _, _, _ => none
  | n + 1, k99, v1, w =>
    if v1 < (12 : Int32) then
      (ldI w 129 0 v1 12).bind fun x1 =>
      (stI w 89 0 v1 24 x1).bind fun w2 =>
      (ldI w2 130 0 v1 12).bind fun x3 =>
      (stI w2 90 0 v1 24 x3).bind fun w4 =>
      callW (fX12_back_78 N n k99 (v1 + (1 : Int32))) w4
    else
    k99 w
noncomputable def fX12_back_76 (N : Nat) (w : Wd) : Option (Int32 × Wd) :=
  callW (fX12_back_78 N N (fX12_back_99 N) (0 : Int32)) w
noncomputable def fX12_back_47 (N : Nat) : Nat → (Wd → Option (Int32 × Wd)) → Int32 → Wd → Option (Int32 × Wd)
  | 0, _, _, _ => none
  | n + 1, k76, v1, w =>
    if v1 < (6 : Int32) then
      (ldI w 126 0 v1 6).bind fun x1 =>
      (stI w 103 0 v1 12 (x1 &&& 1)).bind fun w2 =>
      (ldI w2 127 0 v1 6).bind fun x3 =>
      (stI w2 104 0 v1 12 x3).bind fun w4 =>
      (ldI w4 128 0 v1 6).bind fun x5 =>
      (stI w4 105 0 v1 12 x5).bind fun w6 =>
      callW (fX12_back_47 N n k76 (v1 + (1 : Int32))) w6
    else
    k76 w
noncomputable def fX12_back_45 (N : Nat) (w : Wd) : Option (Int32 × Wd) :=
  callW (fX12_back_47 N N (fX12_back_76 N) (0 : Int32)) w
noncomputable def fX12_back_24 (N : Nat) : Nat → (Wd → Option (Int32 × Wd)) → Int32 → Wd → Option (Int32 × Wd)
  | 0, _, _, _ => none
  | n + 1, k45, v1, w =>
    if v1 < (48 : Int32) then
      (ldI w 124 0 v1 48).bind fun x1 =>
      (stI w 101 0 v1 96 x1).bind fun w2 =>
      (ldI w2 125 0 v1 48).bind fun x3 =>
      (stI w2 102 0 v1 96 (x3 &&& 1)).bind fun w4 =>
      callW (fX12_back_24 N n k45 (v1 + (1 : Int32))) w4
    else
    k45 w
noncomputable def pX12_back (N : Nat) (w : Wd) : Option (Int32 × Wd) :=
  if (gI (setI w 16 0 2 (0 : Int32)) 16 0 97) = 0 then some ((-1 : Int32), (setI w 16 0 2 (0 : Int32))) else
  let w1 : Wd := (setI (setI (setI w 16 0 2 (0 : Int32)) 16 0 64 (gI (setI w 16 0 2 (0 : Int32)) 16 0 98)) 16 0 65 (gI (setI (setI w 16 0 2 (0 : Int32)) 16 0 64 (gI (setI w 16 0 2 (0 : Int32)) 16 0 98)) 16 0 99))
  (stL w1 106 0 (0 : Int32) 2 (gL w1 16 0 100)).bind fun w2 =>
  callW (fX12_back_24 N N (fX12_back_45 N) (0 : Int32)) w2
noncomputable def mX12_back (N : Nat) (as : List AV) (w : Wd) : Option (Int32 × Wd) := xS1 16 as fun t => xN1 t (callW (pX12_back N) w)
set_option maxRecDepth 100000 in
set_option maxHeartbeats 4000000 in
theorem kX12_back : TK cX12_back RX12 2 tX12_back := ⟨by decide +kernel, wok_of [1592, 1687, 1688, 1654, 1689, 1655, 1661, 1690, 1656, 1691, 1657, 1692, 1658, 1693, 1659, 1694, 1660, 1695, 1635, 1696, 1636, 1697, 1664, 1654] (by decide +kernel) (by decide +kernel)⟩
set_option maxRecDepth 100000 in
set_option maxHeartbeats 4000000 in
theorem sX12_back_99 {N : Nat} {X : XT} (G : GX X cX12_back RX12) (hn : xnL X = 2) (hC : CRs X tX12_back (oF []) (oF []) (oF [])) {r : Int32 × Wd} (hr : RTI X cX12_back r)  : ∀ (w : Wd), fX12_back_99 N w = some r → WW X (pcAt tX12_back 99) [some (.inr (.inr (16, 0))), none] [] w := by
  intro w h
  refine run_sound (r := r) (X := X) (cc := cX12_back) (own := RX12) (tab := tX12_back) G (by rw [hn]; exact kX12_back) (oI := (oF [])) (oL := (oF [])) (oV := (oF [])) (rI := (fun x w => some (x, w))) (rL := (fun _ _ => none)) (rV := (fun _ => none))
    (K := (fun j ls st w => none)) (fun x w pc ls hx hd => hr x w pc ls (Option.some.inj hx) hd) (fun _ _ _ _ hx => by cases hx) (fun _ _ _ hx => by cases hx) hC (fun ls => lsb [some (.inr (.inr (16, 0))), none] 0 ls) (keepsP_of rfl) ?_ 107 99 [some (.inr (.inr (16, 0))), none] [] w ?_ h
  · intro j ls st w hfx h
    obtain ⟨e0, -⟩ : _ = _ ∧ True := hfx
    try dsimp only at h
    cases h
  · exact (show _ = _ ∧ True from ⟨rfl, trivial⟩)
set_option maxRecDepth 100000 in
set_option maxHeartbeats 4000000 in
theorem sX12_back_78 {N : Nat} {X : XT} (G : GX X cX12_back RX12) (hn : xnL X = 2) (hC : CRs X tX12_back (oF []) (oF []) (oF [])) {r : Int32 × Wd} (hr : RTI X cX12_back r)  : ∀ (n : Nat) (k99 : Wd → Option (Int32 × Wd)) (v1 : Int32) (w : Wd), fX12_back_78 N n k99 v1 w = some r → (∀ (w : Wd), k99 w = some r → WW X (pcAt tX12_back 99) [some (.inr (.inr (16, 0))), none] [] w) → WW X (pcAt tX12_back 78) [some (.inr (.inr (16, 0))), some (.inl v1)] [] w := by
  intro n
  induction n with
  | zero => intro k99 v1 w h h99; cases h
  | succ n ih =>
    intro k99 v1 w h h99
    refine run_sound (r := r) (X := X) (cc := cX12_back) (own := RX12) (tab := tX12_back) G (by rw [hn]; exact kX12_back) (oI := (oF [])) (oL := (oF [])) (oV := (oF [])) (rI := (fun x w => some (x, w))) (rL := (fun _ _ => none)) (rV := (fun _ => none))
      (K := (fun j ls st w => if j = 78 then (lgI ls 1 fun v1 => st0 st (callW (fX12_back_78 N n k99 v1) w)) else if j = 99 then (st0 st (k99 w)) else none)) (fun x w pc ls hx hd => hr x w pc ls (Option.some.inj hx) hd) (fun _ _ _ _ hx => by cases hx) (fun _ _ _ hx => by cases hx) hC (fun ls => lsb [some (.inr (.inr (16, 0))), none] 0 ls) (keepsP_of rfl) ?_ 107 78 [some (.inr (.inr (16, 0))), some (.inl v1)] [] w ?_ h
    · intro j ls st w hfx h
      obtain ⟨e0, -⟩ : _ = _ ∧ True := hfx
      try dsimp only at h
      by_cases hj : j = 78
      · subst hj
        rw [if_pos rfl] at h
        obtain ⟨v1, e1, h_1⟩ := lgI_some h
        obtain ⟨rfl, h_2⟩ := st0_some h_1
        clear h h_1
        have h := h_2
        try rw [callW_eq] at h
        exact WW.le (a := [some (.inr (.inr (16, 0))), some (.inl v1)]) (by rw [hn]; rfl) (show _ = _ ∧ _ = _ ∧ True from ⟨e0, e1, trivial⟩) (ih k99 v1 w h h99)
      rw [if_neg hj] at h
      by_cases hj : j = 99
      · subst hj
        rw [if_pos rfl] at h
        obtain ⟨rfl, h_1⟩ := st0_some h
        clear h
        have h := h_1
        try rw [callW_eq] at h
        exact WW.le (a := [some (.inr (.inr (16, 0))), none]) (by rw [hn]; rfl) (show _ = _ ∧ True from ⟨e0, trivial⟩) (h99 w h)
      rw [if_neg hj] at h
      cases h
    · exact (show _ = _ ∧ True from ⟨rfl, trivial⟩)
set_option maxRecDepth 100000 in
set_option maxHeartbeats 4000000 in
theorem sX12_back_76 {N : Nat} {X : XT} (G : GX X cX12_back RX12) (hn : xnL X = 2) (hC : CRs X tX12_back (oF []) (oF []) (oF [])) {r : Int32 × Wd} (hr : RTI X cX12_back r)  : ∀ (w : Wd), fX12_back_76 N w = some r → WW X (pcAt tX12_back 76) [some (.inr (.inr (16, 0))), none] [] w := by
  intro w h
  refine run_sound (r := r) (X := X) (cc := cX12_back) (own := RX12) (tab := tX12_back) G (by rw [hn]; exact kX12_back) (oI := (oF [])) (oL := (oF [])) (oV := (oF [])) (rI := (fun x w => some (x, w))) (rL := (fun _ _ => none)) (rV := (fun _ => none))
    (K := (fun j ls st w => if j = 78 then (lgI ls 1 fun v1 => st0 st (callW (fX12_back_78 N N (fX12_back_99 N) v1) w)) else none)) (fun x w pc ls hx hd => hr x w pc ls (Option.some.inj hx) hd) (fun _ _ _ _ hx => by cases hx) (fun _ _ _ hx => by cases hx) hC (fun ls => lsb [some (.inr (.inr (16, 0))), none] 0 ls) (keepsP_of rfl) ?_ 107 76 [some (.inr (.inr (16, 0))), none] [] w ?_ h
  · intro j ls st w hfx h
    obtain ⟨e0, -⟩ : _ = _ ∧ True := hfx
    try dsimp only at h
    by_cases hj : j = 78
    · subst hj
      rw [if_pos rfl] at h
      obtain ⟨v1, e1, h_1⟩ := lgI_some h
      obtain ⟨rfl, h_2⟩ := st0_some h_1
      clear h h_1
      have h := h_2
      try rw [callW_eq] at h
      exact WW.le (a := [some (.inr (.inr (16, 0))), some (.inl v1)]) (by rw [hn]; rfl) (show _ = _ ∧ _ = _ ∧ True from ⟨e0, e1, trivial⟩) (sX12_back_78 G hn hC hr N (fX12_back_99 N) v1 w h (fun w h => (sX12_back_99 G hn hC hr w h)))
    rw [if_neg hj] at h
    cases h
  · exact (show _ = _ ∧ True from ⟨rfl, trivial⟩)
set_option maxRecDepth 100000 in
set_option maxHeartbeats 4000000 in
theorem sX12_back_47 {N : Nat} {X : XT} (G : GX X cX12_back RX12) (hn : xnL X = 2) (hC : CRs X tX12_back (oF []) (oF []) (oF [])) {r : Int32 × Wd} (hr : RTI X cX12_back r)  : ∀ (n : Nat) (k76 : Wd → Option (Int32 × Wd)) (v1 : Int32) (w : Wd), fX12_back_47 N n k76 v1 w = some r → (∀ (w : Wd), k76 w = some r → WW X (pcAt tX12_back 76) [some (.inr (.inr (16, 0))), none] [] w) → WW X (pcAt tX12_back 47) [some (.inr (.inr (16, 0))), some (.inl v1)] [] w := by
  intro n
  induction n with
  | zero => intro k76 v1 w h h76; cases h
  | succ n ih =>
    intro k76 v1 w h h76
    refine run_sound (r := r) (X := X) (cc := cX12_back) (own := RX12) (tab := tX12_back) G (by rw [hn]; exact kX12_back) (oI := (oF [])) (oL := (oF [])) (oV := (oF [])) (rI := (fun x w => some (x, w))) (rL := (fun _ _ => none)) (rV := (fun _ => none))
      (K := (fun j ls st w => if j = 47 then (lgI ls 1 fun v1 => st0 st (callW (fX12_back_47 N n k76 v1) w)) else if j = 76 then (st0 st (k76 w)) else none)) (fun x w pc ls hx hd => hr x w pc ls (Option.some.inj hx) hd) (fun _ _ _ _ hx => by cases hx) (fun _ _ _ hx => by cases hx) hC (fun ls => lsb [some (.inr (.inr (16, 0))), none] 0 ls) (keepsP_of rfl) ?_ 107 47 [some (.inr (.inr (16, 0))), some (.inl v1)] [] w ?_ h
    · intro j ls st w hfx h
      obtain ⟨e0, -⟩ : _ = _ ∧ True := hfx
      try dsimp only at h
      by_cases hj : j = 47
      · subst hj
        rw [if_pos rfl] at h
        obtain ⟨v1, e1, h_1⟩ := lgI_some h
        obtain ⟨rfl, h_2⟩ := st0_some h_1
        clear h h_1
        have h := h_2
        try rw [callW_eq] at h
        exact WW.le (a := [some (.inr (.inr (16, 0))), some (.inl v1)]) (by rw [hn]; rfl) (show _ = _ ∧ _ = _ ∧ True from ⟨e0, e1, trivial⟩) (ih k76 v1 w h h76)
      rw [if_neg hj] at h
      by_cases hj : j = 76
      · subst hj
        rw [if_pos rfl] at h
        obtain ⟨rfl, h_1⟩ := st0_some h
        clear h
        have h := h_1
        try rw [callW_eq] at h
        exact WW.le (a := [some (.inr (.inr (16, 0))), none]) (by rw [hn]; rfl) (show _ = _ ∧ True from ⟨e0, trivial⟩) (h76 w h)
      rw [if_neg hj] at h
      cases h
    · exact (show _ = _ ∧ True from ⟨rfl, trivial⟩)
set_option maxRecDepth 100000 in
set_option maxHeartbeats 4000000 in
theorem sX12_back_45 {N : Nat} {X : XT} (G : GX X cX12_back RX12) (hn : xnL X = 2) (hC : CRs X tX12_back (oF []) (oF []) (oF [])) {r : Int32 × Wd} (hr : RTI X cX12_back r)  : ∀ (w : Wd), fX12_back_45 N w = some r → WW X (pcAt tX12_back 45) [some (.inr (.inr (16, 0))), none] [] w := by
  intro w h
  refine run_sound (r := r) (X := X) (cc := cX12_back) (own := RX12) (tab := tX12_back) G (by rw [hn]; exact kX12_back) (oI := (oF [])) (oL := (oF [])) (oV := (oF [])) (rI := (fun x w => some (x, w))) (rL := (fun _ _ => none)) (rV := (fun _ => none))
    (K := (fun j ls st w => if j = 47 then (lgI ls 1 fun v1 => st0 st (callW (fX12_back_47 N N (fX12_back_76 N) v1) w)) else none)) (fun x w pc ls hx hd => hr x w pc ls (Option.some.inj hx) hd) (fun _ _ _ _ hx => by cases hx) (fun _ _ _ hx => by cases hx) hC (fun ls => lsb [some (.inr (.inr (16, 0))), none] 0 ls) (keepsP_of rfl) ?_ 107 45 [some (.inr (.inr (16, 0))), none] [] w ?_ h
  · intro j ls st w hfx h
    obtain ⟨e0, -⟩ : _ = _ ∧ True := hfx
    try dsimp only at h
    by_cases hj : j = 47
    · subst hj
      rw [if_pos rfl] at h
      obtain ⟨v1, e1, h_1⟩ := lgI_some h
      obtain ⟨rfl, h_2⟩ := st0_some h_1
      clear h h_1
      have h := h_2
      try rw [callW_eq] at h
      exact WW.le (a := [some (.inr (.inr (16, 0))), some (.inl v1)]) (by rw [hn]; rfl) (show _ = _ ∧ _ = _ ∧ True from ⟨e0, e1, trivial⟩) (sX12_back_47 G hn hC hr N (fX12_back_76 N) v1 w h (fun w h => (sX12_back_76 G hn hC hr w h)))
    rw [if_neg hj] at h
    cases h
  · exact (show _ = _ ∧ True from ⟨rfl, trivial⟩)
set_option maxRecDepth 100000 in
set_option maxHeartbeats 4000000 in
theorem sX12_back_24 {N : Nat} {X : XT} (G : GX X cX12_back RX12) (hn : xnL X = 2) (hC : CRs X tX12_back (oF []) (oF []) (oF [])) {r : Int32 × Wd} (hr : RTI X cX12_back r)  : ∀ (n : Nat) (k45 : Wd → Option (Int32 × Wd)) (v1 : Int32) (w : Wd), fX12_back_24 N n k45 v1 w = some r → (∀ (w : Wd), k45 w = some r → WW X (pcAt tX12_back 45) [some (.inr (.inr (16, 0))), none] [] w) → WW X (pcAt tX12_back 24) [some (.inr (.inr (16, 0))), some (.inl v1)] [] w := by
  intro n
  induction n with
  | zero => intro k45 v1 w h h45; cases h
  | succ n ih =>
    intro k45 v1 w h h45
    refine run_sound (r := r) (X := X) (cc := cX12_back) (own := RX12) (tab := tX12_back) G (by rw [hn]; exact kX12_back) (oI := (oF [])) (oL := (oF [])) (oV := (oF [])) (rI := (fun x w => some (x, w))) (rL := (fun _ _ => none)) (rV := (fun _ => none))
      (K := (fun j ls st w => if j = 24 then (lgI ls 1 fun v1 => st0 st (callW (fX12_back_24 N n k45 v1) w)) else if j = 45 then (st0 st (k45 w)) else none)) (fun x w pc ls hx hd => hr x w pc ls (Option.some.inj hx) hd) (fun _ _ _ _ hx => by cases hx) (fun _ _ _ hx => by cases hx) hC (fun ls => lsb [some (.inr (.inr (16, 0))), none] 0 ls) (keepsP_of rfl) ?_ 107 24 [some (.inr (.inr (16, 0))), some (.inl v1)] [] w ?_ h
    · intro j ls st w hfx h
      obtain ⟨e0, -⟩ : _ = _ ∧ True := hfx
      try dsimp only at h
      by_cases hj : j = 24
      · subst hj
        rw [if_pos rfl] at h
        obtain ⟨v1, e1, h_1⟩ := lgI_some h
        obtain ⟨rfl, h_2⟩ := st0_some h_1
        clear h h_1
        have h := h_2
        try rw [callW_eq] at h
        exact WW.le (a := [some (.inr (.inr (16, 0))), some (.inl v1)]) (by rw [hn]; rfl) (show _ = _ ∧ _ = _ ∧ True from ⟨e0, e1, trivial⟩) (ih k45 v1 w h h45)
      rw [if_neg hj] at h
      by_cases hj : j = 45
      · subst hj
        rw [if_pos rfl] at h
        obtain ⟨rfl, h_1⟩ := st0_some h
        clear h
        have h := h_1
        try rw [callW_eq] at h
        exact WW.le (a := [some (.inr (.inr (16, 0))), none]) (by rw [hn]; rfl) (show _ = _ ∧ True from ⟨e0, trivial⟩) (h45 w h)
      rw [if_neg hj] at h
      cases h
    · exact (show _ = _ ∧ True from ⟨rfl, trivial⟩)
set_option maxRecDepth 100000 in
set_option maxHeartbeats 4000000 in
theorem crX12_back {N : Nat} {X : XT} (G : GX X cX12_back RX12) (hR : xR X = rmL 1) : CRs X tX12_back (oF []) (oF []) (oF []) := by
  have hl : tX12_back.filter isInv = [] := rfl
  intro e he
  rw [hl] at he
  cases he
set_option maxRecDepth 100000 in
set_option maxHeartbeats 4000000 in
theorem MX12_back (N : Nat) : SndI yX12_back cX12_back 2 (some .int) 1 1 true (mX12_back N) := by
  refine SndI.of tX12_back (by decide +kernel) rfl rfl ?_ ?_
  · intro as w x h
    obtain ⟨t1, rfl, h_1⟩ := xS1_some h
    obtain ⟨rfl, h_2⟩ := xN1_some h_1
    clear h h_1
    have h := h_2
    rw [callW_eq] at h
    exact ⟨fun _ => ⟨_, _, _, rfl, rfl, _, rfl, rfl⟩, rfl, Nat.le_of_ble_eq_true rfl⟩
  · intro X G hn hR as w r h hr
    have hC := crX12_back (N := N) G hR
    obtain ⟨t1, rfl, h_1⟩ := xS1_some h
    obtain ⟨rfl, h_2⟩ := xN1_some h_1
    clear h h_1
    have h := h_2
    rw [callW_eq] at h
    refine run_sound (r := r) (X := X) (cc := cX12_back) (own := RX12) (tab := tX12_back) G (by rw [hn]; exact kX12_back) (oI := (oF [])) (oL := (oF [])) (oV := (oF [])) (rI := (fun x w => some (x, w))) (rL := (fun _ _ => none)) (rV := (fun _ => none))
      (K := (fun j ls st w => if j = 24 then (lgI ls 1 fun v1 => st0 st (callW (fX12_back_24 N N (fX12_back_45 N) v1) w)) else none)) (fun x w pc ls hx hd => hr x w pc ls (Option.some.inj hx) hd) (fun _ _ _ _ hx => by cases hx) (fun _ _ _ hx => by cases hx) hC (fun ls => lsb [some (.inr (.inr (16, 0))), none] 0 ls) (keepsP_of rfl) ?_ 107 0 [some (.inr (.inr (16, 0))), none] [] w ?_ h
    · intro j ls st w hfx h
      obtain ⟨e0, -⟩ : _ = _ ∧ True := hfx
      try dsimp only at h
      by_cases hj : j = 24
      · subst hj
        rw [if_pos rfl] at h
        obtain ⟨v1, e1, h_1⟩ := lgI_some h
        obtain ⟨rfl, h_2⟩ := st0_some h_1
        clear h h_1
        have h := h_2
        try rw [callW_eq] at h
        exact WW.le (a := [some (.inr (.inr (16, 0))), some (.inl v1)]) (by rw [hn]; rfl) (show _ = _ ∧ _ = _ ∧ True from ⟨e0, e1, trivial⟩) (sX12_back_24 G hn hC hr N (fX12_back_45 N) v1 w h (fun w h => (sX12_back_45 G hn hC hr w h)))
      rw [if_neg hj] at h
      cases h
    · exact (show _ = _ ∧ True from ⟨rfl, trivial⟩)
-- MoorGuidesModel.manyGone()I
def tX12_manyGone : List EN := [
  (0, .iconst 0, 0, 0, 0, 0, 0, []), (1, .istore_n 1, 0, 0, 0, 0, 0, []), (2, .iconst 0, 0, 0, 0, 0, 0, []), (3, .istore_n 2, 0, 0, 0, 0, 0, []),
  (4, .iload_n 2, 5, 0, 0, 0, 0, []), (5, .aload_n 0, 0, 0, 0, 0, 0, []), (6, .getfield 298, 0, 12, 13, 0, 0, []), (9, .if_icmp .ge 26, 0, 21, 0, 0, 0, []),
  (12, .iload_n 1, 0, 0, 0, 0, 0, []), (13, .aload_n 0, 0, 0, 0, 0, 0, []), (14, .getfield 106, 0, 12, 68, 0, 0, []), (17, .iload_n 2, 0, 0, 0, 0, 0, []),
  (18, .baload, 0, 0, 0, 0, 0, []), (19, .ifCond .eq 7, 0, 16, 0, 0, 0, []), (22, .iconst 1, 0, 0, 0, 1, 0, []), (23, .goto 4, 0, 17, 0, 0, 0, []),
  (26, .iconst 0, 0, 0, 0, 0, 0, []), (27, .iadd, 0, 0, 0, 0, 0, []), (28, .istore_n 1, 0, 0, 0, 0, 0, []), (29, .iinc 2 1, 0, 0, 0, 1, 0, []),
  (32, .goto (-28), 0, 4, 0, 0, 0, []), (35, .iload_n 1, 0, 0, 0, 0, 0, []), (36, .ireturn, 0, 0, 0, 0, 0, [])]
noncomputable def fX12_manyGone_4 (N : Nat) : Nat → Int32 → Int32 → Wd → Option (Int32 × Wd)
  | 0, _, _, _ => none
  | n + 1, v1, v2, w =>
    if v2 < (gI w 16 0 13) then
      (ldI w 103 0 v2 12).bind fun x1 =>
      if x1 = 0 then callW (fX12_manyGone_4 N n (v1 + (0 : Int32)) (v2 + (1 : Int32))) w else
      callW (fX12_manyGone_4 N n (v1 + (1 : Int32)) (v2 + (1 : Int32))) w
    else
    some (v1, w)
noncomputable def pX12_manyGone (N : Nat) (w : Wd) : Option (Int32 × Wd) :=
  callW (fX12_manyGone_4 N N (0 : Int32) (0 : Int32)) w
noncomputable def mX12_manyGone (N : Nat) (as : List AV) (w : Wd) : Option (Int32 × Wd) := xS1 16 as fun t => xN1 t (callW (pX12_manyGone N) w)
set_option maxRecDepth 100000 in
set_option maxHeartbeats 4000000 in
theorem kX12_manyGone : TK cX12_manyGone RX12 3 tX12_manyGone := ⟨by decide +kernel, wok_of [1603, 1658] (by decide +kernel) (by decide +kernel)⟩
set_option maxRecDepth 100000 in
set_option maxHeartbeats 4000000 in
theorem sX12_manyGone_4 {N : Nat} {X : XT} (G : GX X cX12_manyGone RX12) (hn : xnL X = 3) (hC : CRs X tX12_manyGone (oF []) (oF []) (oF [])) {r : Int32 × Wd} (hr : RTI X cX12_manyGone r)  : ∀ (n : Nat) (v1 : Int32) (v2 : Int32) (w : Wd), fX12_manyGone_4 N n v1 v2 w = some r → WW X (pcAt tX12_manyGone 4) [some (.inr (.inr (16, 0))), some (.inl v1), some (.inl v2)] [] w := by
  intro n
  induction n with
  | zero => intro v1 v2 w h; cases h
  | succ n ih =>
    intro v1 v2 w h
    refine run_sound (r := r) (X := X) (cc := cX12_manyGone) (own := RX12) (tab := tX12_manyGone) G (by rw [hn]; exact kX12_manyGone) (oI := (oF [])) (oL := (oF [])) (oV := (oF [])) (rI := (fun x w => some (x, w))) (rL := (fun _ _ => none)) (rV := (fun _ => none))
      (K := (fun j ls st w => if j = 4 then (lgI ls 1 fun v1 => lgI ls 2 fun v2 => st0 st (callW (fX12_manyGone_4 N n v1 v2) w)) else none)) (fun x w pc ls hx hd => hr x w pc ls (Option.some.inj hx) hd) (fun _ _ _ _ hx => by cases hx) (fun _ _ _ hx => by cases hx) hC (fun ls => lsb [some (.inr (.inr (16, 0))), none, none] 0 ls) (keepsP_of rfl) ?_ 25 4 [some (.inr (.inr (16, 0))), some (.inl v1), some (.inl v2)] [] w ?_ h
    · intro j ls st w hfx h
      obtain ⟨e0, -⟩ : _ = _ ∧ True := hfx
      try dsimp only at h
      by_cases hj : j = 4
      · subst hj
        rw [if_pos rfl] at h
        obtain ⟨v1, e1, h_1⟩ := lgI_some h
        obtain ⟨v2, e2, h_2⟩ := lgI_some h_1
        obtain ⟨rfl, h_3⟩ := st0_some h_2
        clear h h_1 h_2
        have h := h_3
        try rw [callW_eq] at h
        exact WW.le (a := [some (.inr (.inr (16, 0))), some (.inl v1), some (.inl v2)]) (by rw [hn]; rfl) (show _ = _ ∧ _ = _ ∧ _ = _ ∧ True from ⟨e0, e1, e2, trivial⟩) (ih v1 v2 w h)
      rw [if_neg hj] at h
      cases h
    · exact (show _ = _ ∧ True from ⟨rfl, trivial⟩)
set_option maxRecDepth 100000 in
set_option maxHeartbeats 4000000 in
theorem crX12_manyGone {N : Nat} {X : XT} (G : GX X cX12_manyGone RX12) (hR : xR X = rmL 1) : CRs X tX12_manyGone (oF []) (oF []) (oF []) := by
  have hl : tX12_manyGone.filter isInv = [] := rfl
  intro e he
  rw [hl] at he
  cases he
set_option maxRecDepth 100000 in
set_option maxHeartbeats 4000000 in
theorem MX12_manyGone (N : Nat) : SndI yX12_manyGone cX12_manyGone 3 (some .int) 1 1 true (mX12_manyGone N) := by
  refine SndI.of tX12_manyGone (by decide +kernel) rfl rfl ?_ ?_
  · intro as w x h
    obtain ⟨t1, rfl, h_1⟩ := xS1_some h
    obtain ⟨rfl, h_2⟩ := xN1_some h_1
    clear h h_1
    have h := h_2
    rw [callW_eq] at h
    exact ⟨fun _ => ⟨_, _, _, rfl, rfl, _, rfl, rfl⟩, rfl, Nat.le_of_ble_eq_true rfl⟩
  · intro X G hn hR as w r h hr
    have hC := crX12_manyGone (N := N) G hR
    obtain ⟨t1, rfl, h_1⟩ := xS1_some h
    obtain ⟨rfl, h_2⟩ := xN1_some h_1
    clear h h_1
    have h := h_2
    rw [callW_eq] at h
    refine run_sound (r := r) (X := X) (cc := cX12_manyGone) (own := RX12) (tab := tX12_manyGone) G (by rw [hn]; exact kX12_manyGone) (oI := (oF [])) (oL := (oF [])) (oV := (oF [])) (rI := (fun x w => some (x, w))) (rL := (fun _ _ => none)) (rV := (fun _ => none))
      (K := (fun j ls st w => if j = 4 then (lgI ls 1 fun v1 => lgI ls 2 fun v2 => st0 st (callW (fX12_manyGone_4 N N v1 v2) w)) else none)) (fun x w pc ls hx hd => hr x w pc ls (Option.some.inj hx) hd) (fun _ _ _ _ hx => by cases hx) (fun _ _ _ hx => by cases hx) hC (fun ls => lsb [some (.inr (.inr (16, 0))), none, none] 0 ls) (keepsP_of rfl) ?_ 25 0 [some (.inr (.inr (16, 0))), none, none] [] w ?_ h
    · intro j ls st w hfx h
      obtain ⟨e0, -⟩ : _ = _ ∧ True := hfx
      try dsimp only at h
      by_cases hj : j = 4
      · subst hj
        rw [if_pos rfl] at h
        obtain ⟨v1, e1, h_1⟩ := lgI_some h
        obtain ⟨v2, e2, h_2⟩ := lgI_some h_1
        obtain ⟨rfl, h_3⟩ := st0_some h_2
        clear h h_1 h_2
        have h := h_3
        try rw [callW_eq] at h
        exact WW.le (a := [some (.inr (.inr (16, 0))), some (.inl v1), some (.inl v2)]) (by rw [hn]; rfl) (show _ = _ ∧ _ = _ ∧ _ = _ ∧ True from ⟨e0, e1, e2, trivial⟩) (sX12_manyGone_4 G hn hC hr N v1 v2 w h)
      rw [if_neg hj] at h
      cases h
    · exact (show _ = _ ∧ True from ⟨rfl, trivial⟩)
-- MoorGuidesModel.count(I)I
def tX12_count : List EN := [
  (0, .aload_n 0, 0, 0, 0, 0, 0, []), (1, .iconst 0, 0, 0, 0, 0, 0, []), (2, .putfield 196, 0, 12, 2, 0, 0, []), (5, .iload_n 1, 0, 0, 0, 0, 0, []),
  (6, .tableswitch 104 0 9 #[54, 59, 64, 69, 74, 79, 84, 89, 94, 99], 0, 35, 54, 0, 0, [(0, 5), (1, 8), (2, 11), (3, 14), (4, 17), (5, 20), (6, 23), (7, 26), (8, 29), (9, 32)]), (60, .aload_n 0, 0, 0, 0, 0, 0, []), (61, .getfield 295, 0, 12, 12, 0, 0, []), (64, .ireturn, 0, 0, 0, 0, 0, []),
  (65, .aload_n 0, 0, 0, 0, 0, 0, []), (66, .getfield 298, 0, 12, 13, 0, 0, []), (69, .ireturn, 0, 0, 0, 0, 0, []), (70, .aload_n 0, 0, 0, 0, 0, 0, []),
  (71, .getfield 301, 0, 12, 14, 0, 0, []), (74, .ireturn, 0, 0, 0, 0, 0, []), (75, .aload_n 0, 0, 0, 0, 0, 0, []), (76, .getfield 441, 0, 12, 65, 0, 0, []),
  (79, .ireturn, 0, 0, 0, 0, 0, []), (80, .aload_n 0, 0, 0, 0, 0, 0, []), (81, .getfield 316, 0, 12, 19, 0, 0, []), (84, .ireturn, 0, 0, 0, 0, 0, []),
  (85, .aload_n 0, 0, 0, 0, 0, 0, []), (86, .getfield 438, 0, 12, 64, 0, 0, []), (89, .ireturn, 0, 0, 0, 0, 0, []), (90, .aload_n 0, 0, 0, 0, 0, 0, []),
  (91, .getfield 444, 0, 12, 93, 0, 0, []), (94, .ireturn, 0, 0, 0, 0, 0, []), (95, .aload_n 0, 0, 0, 0, 0, 0, []), (96, .invokevirtual 631, 0, 0, 1, 0, 0, []),
  (99, .ireturn, 0, 0, 0, 0, 0, []), (100, .aload_n 0, 0, 0, 0, 0, 0, []), (101, .getfield 447, 0, 12, 74, 0, 0, []), (104, .ireturn, 0, 0, 0, 0, 0, []),
  (105, .aload_n 0, 0, 0, 0, 0, 0, []), (106, .getfield 310, 0, 12, 17, 0, 0, []), (109, .ireturn, 0, 0, 0, 0, 0, []), (110, .iconst (-1), 0, 0, 0, (-1), 0, []),
  (111, .ireturn, 0, 0, 0, 0, 0, [])]
noncomputable def pX12_count (N : Nat) (a1 : Int32) (w : Wd) : Option (Int32 × Wd) :=
  if a1 = (0 : Int32) then some ((gI (setI w 16 0 2 (0 : Int32)) 16 0 12), (setI w 16 0 2 (0 : Int32))) else
  if a1 = (1 : Int32) then some ((gI (setI w 16 0 2 (0 : Int32)) 16 0 13), (setI w 16 0 2 (0 : Int32))) else
  if a1 = (2 : Int32) then some ((gI (setI w 16 0 2 (0 : Int32)) 16 0 14), (setI w 16 0 2 (0 : Int32))) else
  if a1 = (3 : Int32) then some ((gI (setI w 16 0 2 (0 : Int32)) 16 0 65), (setI w 16 0 2 (0 : Int32))) else
  if a1 = (4 : Int32) then some ((gI (setI w 16 0 2 (0 : Int32)) 16 0 19), (setI w 16 0 2 (0 : Int32))) else
  if a1 = (5 : Int32) then some ((gI (setI w 16 0 2 (0 : Int32)) 16 0 64), (setI w 16 0 2 (0 : Int32))) else
  if a1 = (6 : Int32) then some ((gI (setI w 16 0 2 (0 : Int32)) 16 0 93), (setI w 16 0 2 (0 : Int32))) else
  if a1 = (7 : Int32) then
    (callW (pX12_manyGone N) (setI w 16 0 2 (0 : Int32))).bind fun r1 =>
    some (r1.1, r1.2)
  else
  if a1 = (8 : Int32) then some ((gI (setI w 16 0 2 (0 : Int32)) 16 0 74), (setI w 16 0 2 (0 : Int32))) else
  if a1 = (9 : Int32) then some ((gI (setI w 16 0 2 (0 : Int32)) 16 0 17), (setI w 16 0 2 (0 : Int32))) else
  some ((-1 : Int32), (setI w 16 0 2 (0 : Int32)))
noncomputable def mX12_count (N : Nat) (as : List AV) (w : Wd) : Option (Int32 × Wd) := xS1 16 as fun t => xI1 t fun a1 t => xN1 t (callW (pX12_count N a1) w)
set_option maxRecDepth 100000 in
set_option maxHeartbeats 4000000 in
theorem kX12_count : TK cX12_count RX12 2 tX12_count := ⟨by decide +kernel, wok_of [1592, 1602, 1603, 1604, 1655, 1609, 1654, 1683, 1664, 1607] (by decide +kernel) (by decide +kernel)⟩
set_option maxRecDepth 100000 in
set_option maxHeartbeats 4000000 in
theorem crX12_count {N : Nat} {X : XT} (G : GX X cX12_count RX12) (hR : xR X = rmL 2) : CRs X tX12_count (oF [(mX12_manyGone N)]) (oF []) (oF []) := by
  have hl : tX12_count.filter isInv = [(96, .invokevirtual 631, 0, 0, 1, 0, 0, [])] := rfl
  intro e he
  rw [hl] at he
  simp only [List.mem_cons, List.not_mem_nil, or_false] at he
  rcases he with rfl
  · exact crI_V (idx := 631) G (by decide +kernel) (MX12_manyGone N) (cw_of (ps := [2356, 2358, 144, 162, 2359]) (by decide +kernel) (by decide +kernel)) ⟨by decide +kernel, by decide +kernel, by decide +kernel⟩ (by unfold rmOk; rw [hR]; exact ⟨by decide, by decide⟩)
set_option maxRecDepth 100000 in
set_option maxHeartbeats 4000000 in
theorem MX12_count (N : Nat) : SndI yX12_count cX12_count 2 (some .int) 2 2 true (mX12_count N) := by
  refine SndI.of tX12_count (by decide +kernel) rfl rfl ?_ ?_
  · intro as w x h
    obtain ⟨t1, rfl, h_1⟩ := xS1_some h
    obtain ⟨a1, t2, rfl, h_2⟩ := xI1_some h_1
    obtain ⟨rfl, h_3⟩ := xN1_some h_2
    clear h h_1 h_2
    have h := h_3
    rw [callW_eq] at h
    exact ⟨fun _ => ⟨_, _, _, rfl, rfl, _, rfl, rfl⟩, rfl, Nat.le_of_ble_eq_true rfl⟩
  · intro X G hn hR as w r h hr
    have hC := crX12_count (N := N) G hR
    obtain ⟨t1, rfl, h_1⟩ := xS1_some h
    obtain ⟨a1, t2, rfl, h_2⟩ := xI1_some h_1
    obtain ⟨rfl, h_3⟩ := xN1_some h_2
    clear h h_1 h_2
    have h := h_3
    rw [callW_eq] at h
    refine run_sound (r := r) (X := X) (cc := cX12_count) (own := RX12) (tab := tX12_count) G (by rw [hn]; exact kX12_count) (oI := (oF [(mX12_manyGone N)])) (oL := (oF [])) (oV := (oF [])) (rI := (fun x w => some (x, w))) (rL := (fun _ _ => none)) (rV := (fun _ => none))
      (K := (fun j ls st w => none)) (fun x w pc ls hx hd => hr x w pc ls (Option.some.inj hx) hd) (fun _ _ _ _ hx => by cases hx) (fun _ _ _ hx => by cases hx) hC (fun ls => lsb [some (.inr (.inr (16, 0))), some (.inl a1)] 0 ls) (keepsP_of rfl) ?_ 39 0 [some (.inr (.inr (16, 0))), some (.inl a1)] [] w ?_ h
    · intro j ls st w hfx h
      obtain ⟨e0, e1, -⟩ : _ = _ ∧ _ = _ ∧ True := hfx
      try dsimp only at h
      cases h
    · exact (show _ = _ ∧ _ = _ ∧ True from ⟨rfl, rfl, trivial⟩)

-- MoorGuidesModel.worth(II)I
def tX12_worth : List EN := [
  (0, .aload_n 0, 0, 0, 0, 0, 0, []), (1, .iconst 0, 0, 0, 0, 0, 0, []), (2, .putfield 196, 0, 12, 2, 0, 0, []), (5, .aload_n 0, 0, 0, 0, 0, 0, []),
  (6, .iload_n 1, 0, 0, 0, 0, 0, []), (7, .invokevirtual 463, 0, 0, 2, 0, 0, []), (10, .ifCond .eq 10, 0, 10, 0, 0, 0, []), (13, .iload_n 2, 0, 0, 0, 0, 0, []),
  (14, .invokestatic 479, 0, 1, 1, 0, 0, []), (17, .ifCond .ne 5, 0, 12, 0, 0, 0, []), (20, .iconst (-1), 0, 0, 0, (-1), 0, []), (21, .ireturn, 0, 0, 0, 0, 0, []),
  (22, .aload_n 0, 0, 0, 0, 0, 0, []), (23, .iload_n 2, 0, 0, 0, 0, 0, []), (24, .invokevirtual 558, 0, 0, 2, 0, 0, [(0, 0), (0, 0)]), (27, .aload_n 0, 0, 0, 0, 0, 0, []),
  (28, .getfield 151, 0, 12, 86, 0, 0, []), (31, .bipush 63, 0, 0, 0, 63, 0, []), (33, .iaload, 0, 0, 0, 0, 0, []), (34, .aload_n 0, 0, 0, 0, 0, 0, []),
  (35, .getfield 151, 0, 12, 86, 0, 0, []), (38, .bipush 63, 0, 0, 0, 63, 0, []), (40, .iconst 1, 0, 0, 0, 1, 0, []), (41, .iload_n 1, 0, 0, 0, 0, 0, []),
  (42, .ishl, 0, 0, 0, 0, 0, []), (43, .iconst (-1), 0, 0, 0, (-1), 0, []), (44, .ixor, 0, 0, 0, 0, 0, []), (45, .iand, 0, 0, 0, 0, 0, []),
  (46, .iaload, 0, 0, 0, 0, 0, []), (47, .isub, 0, 0, 0, 0, 0, []), (48, .ireturn, 0, 0, 0, 0, 0, [])]
noncomputable def pX12_worth (N : Nat) (a1 : Int32) (a2 : Int32) (w : Wd) : Option (Int32 × Wd) :=
  (callW (pX12_isPerson N a1) (setI w 16 0 2 (0 : Int32))).bind fun r1 =>
  if r1.1 = 0 then some ((-1 : Int32), r1.2) else
  (callW (pX12_isNight N a2) r1.2).bind fun r2 =>
  if r2.1 = 0 then some ((-1 : Int32), r2.2) else
  (callW (pX12_layShares N a2) r2.2).bind fun w3 =>
  (ldI w3 118 0 (63 : Int32) 576).bind fun x4 =>
  (ldI w3 118 0 ((63 : Int32) &&& (((1 : Int32) <<< (a1 &&& (31 : Int32))) ^^^ (-1 : Int32))) 576).bind fun x5 =>
  some ((x4 - x5), w3)
noncomputable def mX12_worth (N : Nat) (as : List AV) (w : Wd) : Option (Int32 × Wd) := xS1 16 as fun t => xI1 t fun a1 t => xI1 t fun a2 t => xN1 t (callW (pX12_worth N a1 a2) w)
set_option maxRecDepth 100000 in
set_option maxHeartbeats 4000000 in
theorem kX12_worth : TK cX12_worth RX12 3 tX12_worth := ⟨by decide +kernel, wok_of [1602, 1686, 1686] (by decide +kernel) (by decide +kernel)⟩
set_option maxRecDepth 100000 in
set_option maxHeartbeats 4000000 in
theorem crX12_worth {N : Nat} {X : XT} (G : GX X cX12_worth RX12) (hR : xR X = rmL 6) : CRs X tX12_worth (oF [(mX12_isPerson N), (mX12_isNight N)]) (oF []) (oF [(mX12_layShares N)]) := by
  have hl : tX12_worth.filter isInv = [(7, .invokevirtual 463, 0, 0, 2, 0, 0, []), (14, .invokestatic 479, 0, 1, 1, 0, 0, []), (24, .invokevirtual 558, 0, 0, 2, 0, 0, [(0, 0), (0, 0)])] := rfl
  intro e he
  rw [hl] at he
  simp only [List.mem_cons, List.not_mem_nil, or_false] at he
  rcases he with rfl | rfl | rfl
  · exact crI_V (idx := 463) G (by decide +kernel) (MX12_isPerson N) (cw_of (ps := [2080, 2082, 106, 164, 2083]) (by decide +kernel) (by decide +kernel)) ⟨by decide +kernel, by decide +kernel, by decide +kernel⟩ (by unfold rmOk; rw [hR]; exact ⟨by decide, by decide⟩)
  · exact crI_S (idx := 479) G (by decide +kernel) (MX12_isNight N) (cw_of (ps := [2116, 2117, 164, 2118]) (by decide +kernel) (by decide +kernel)) ⟨by decide +kernel, by decide +kernel, by decide +kernel⟩ (by unfold rmOk; rw [hR]; exact ⟨by decide, by decide⟩)
  · exact crV_V (idx := 558) G (by decide +kernel) (MX12_layShares N) (cw_of (ps := [2237, 2239, 130, 164, 2240]) (by decide +kernel) (by decide +kernel)) ⟨by decide +kernel, by decide +kernel, by decide +kernel⟩ (by unfold rmOk; rw [hR]; exact ⟨by decide, by decide⟩)
set_option maxRecDepth 100000 in
set_option maxHeartbeats 4000000 in
theorem MX12_worth (N : Nat) : SndI yX12_worth cX12_worth 3 (some .int) 6 3 true (mX12_worth N) := by
  refine SndI.of tX12_worth (by decide +kernel) rfl rfl ?_ ?_
  · intro as w x h
    obtain ⟨t1, rfl, h_1⟩ := xS1_some h
    obtain ⟨a1, t2, rfl, h_2⟩ := xI1_some h_1
    obtain ⟨a2, t3, rfl, h_3⟩ := xI1_some h_2
    obtain ⟨rfl, h_4⟩ := xN1_some h_3
    clear h h_1 h_2 h_3
    have h := h_4
    rw [callW_eq] at h
    exact ⟨fun _ => ⟨_, _, _, rfl, rfl, _, rfl, rfl⟩, rfl, Nat.le_of_ble_eq_true rfl⟩
  · intro X G hn hR as w r h hr
    have hC := crX12_worth (N := N) G hR
    obtain ⟨t1, rfl, h_1⟩ := xS1_some h
    obtain ⟨a1, t2, rfl, h_2⟩ := xI1_some h_1
    obtain ⟨a2, t3, rfl, h_3⟩ := xI1_some h_2
    obtain ⟨rfl, h_4⟩ := xN1_some h_3
    clear h h_1 h_2 h_3
    have h := h_4
    rw [callW_eq] at h
    refine run_sound (r := r) (X := X) (cc := cX12_worth) (own := RX12) (tab := tX12_worth) G (by rw [hn]; exact kX12_worth) (oI := (oF [(mX12_isPerson N), (mX12_isNight N)])) (oL := (oF [])) (oV := (oF [(mX12_layShares N)])) (rI := (fun x w => some (x, w))) (rL := (fun _ _ => none)) (rV := (fun _ => none))
      (K := (fun j ls st w => none)) (fun x w pc ls hx hd => hr x w pc ls (Option.some.inj hx) hd) (fun _ _ _ _ hx => by cases hx) (fun _ _ _ hx => by cases hx) hC (fun ls => lsb [some (.inr (.inr (16, 0))), some (.inl a1), some (.inl a2)] 0 ls) (keepsP_of rfl) ?_ 33 0 [some (.inr (.inr (16, 0))), some (.inl a1), some (.inl a2)] [] w ?_ h
    · intro j ls st w hfx h
      obtain ⟨e0, e1, e2, -⟩ : _ = _ ∧ _ = _ ∧ _ = _ ∧ True := hfx
      try dsimp only at h
      cases h
    · exact (show _ = _ ∧ _ = _ ∧ _ = _ ∧ True from ⟨rfl, rfl, rfl, trivial⟩)
-- MoorGuidesModel.areParts(I)Z
def tX12_areParts : List EN := [
  (0, .iload_n 1, 0, 0, 0, 0, 0, []), (1, .ifCond .lt 16, 0, 9, 0, 0, 0, []), (4, .iload_n 1, 0, 0, 0, 0, 0, []), (5, .aload_n 0, 0, 0, 0, 0, 0, []),
  (6, .getfield 295, 0, 12, 12, 0, 0, []), (9, .ishr, 0, 0, 0, 0, 0, []), (10, .ifCond .ne 7, 0, 9, 0, 0, 0, []), (13, .iconst 1, 0, 0, 0, 1, 0, []),
  (14, .goto 4, 0, 10, 0, 0, 0, []), (17, .iconst 0, 0, 0, 0, 0, 0, []), (18, .ireturn, 0, 0, 0, 0, 0, [])]
noncomputable def pX12_areParts (N : Nat) (a1 : Int32) (w : Wd) : Option (Int32 × Wd) :=
  if a1 < 0 then some ((0 : Int32), w) else
  if (a1 >>> ((gI w 16 0 12) &&& (31 : Int32))) = 0 then some ((1 : Int32), w) else
  some ((0 : Int32), w)
noncomputable def mX12_areParts (N : Nat) (as : List AV) (w : Wd) : Option (Int32 × Wd) := xS1 16 as fun t => xI1 t fun a1 t => xN1 t (callW (pX12_areParts N a1) w)
set_option maxRecDepth 100000 in
set_option maxHeartbeats 4000000 in
theorem kX12_areParts : TK cX12_areParts RX12 2 tX12_areParts := ⟨by decide +kernel, wok_of [1612] (by decide +kernel) (by decide +kernel)⟩
set_option maxRecDepth 100000 in
set_option maxHeartbeats 4000000 in
theorem crX12_areParts {N : Nat} {X : XT} (G : GX X cX12_areParts RX12) (hR : xR X = rmL 1) : CRs X tX12_areParts (oF []) (oF []) (oF []) := by
  have hl : tX12_areParts.filter isInv = [] := rfl
  intro e he
  rw [hl] at he
  cases he
set_option maxRecDepth 100000 in
set_option maxHeartbeats 4000000 in
theorem MX12_areParts (N : Nat) : SndI yX12_areParts cX12_areParts 2 (some .boolean) 1 2 true (mX12_areParts N) := by
  refine SndI.ofZ tX12_areParts (by decide +kernel) rfl rfl ?_ ?_
  · intro as w x h
    obtain ⟨t1, rfl, h_1⟩ := xS1_some h
    obtain ⟨a1, t2, rfl, h_2⟩ := xI1_some h_1
    obtain ⟨rfl, h_3⟩ := xN1_some h_2
    clear h h_1 h_2
    have h := h_3
    rw [callW_eq] at h
    exact ⟨fun _ => ⟨_, _, _, rfl, rfl, _, rfl, rfl⟩, rfl, Nat.le_of_ble_eq_true rfl⟩
  · intro X G hn hR as w r h hr
    have hC := crX12_areParts (N := N) G hR
    obtain ⟨t1, rfl, h_1⟩ := xS1_some h
    obtain ⟨a1, t2, rfl, h_2⟩ := xI1_some h_1
    obtain ⟨rfl, h_3⟩ := xN1_some h_2
    clear h h_1 h_2
    have h := h_3
    rw [callW_eq] at h
    refine run_sound (r := r) (X := X) (cc := cX12_areParts) (own := RX12) (tab := tX12_areParts) G (by rw [hn]; exact kX12_areParts) (oI := (oF [])) (oL := (oF [])) (oV := (oF [])) (rI := retZ) (rL := (fun _ _ => none)) (rV := (fun _ => none))
      (K := (fun j ls st w => none)) hr (fun _ _ _ _ hx => by cases hx) (fun _ _ _ hx => by cases hx) hC (fun ls => lsb [some (.inr (.inr (16, 0))), some (.inl a1)] 0 ls) (keepsP_of rfl) ?_ 13 0 [some (.inr (.inr (16, 0))), some (.inl a1)] [] w ?_ h
    · intro j ls st w hfx h
      obtain ⟨e0, e1, -⟩ : _ = _ ∧ _ = _ ∧ True := hfx
      try dsimp only at h
      cases h
    · exact (show _ = _ ∧ _ = _ ∧ True from ⟨rfl, rfl, trivial⟩)
-- MoorGuidesModel.priceLed(I)I
def tX12_priceLed : List EN := [
  (0, .iconst 0, 0, 0, 0, 0, 0, []), (1, .istore_n 2, 0, 0, 0, 0, 0, []), (2, .iconst 0, 0, 0, 0, 0, 0, []), (3, .istore_n 3, 0, 0, 0, 0, 0, []),
  (4, .iload_n 3, 5, 0, 0, 0, 0, []), (5, .aload_n 0, 0, 0, 0, 0, 0, []), (6, .getfield 301, 0, 12, 14, 0, 0, []), (9, .if_icmp .ge 40, 0, 29, 0, 0, 0, []),
  (12, .iload_n 2, 0, 0, 0, 0, 0, []), (13, .aload_n 0, 0, 0, 0, 0, 0, []), (14, .getfield 53, 0, 12, 42, 0, 0, []), (17, .iload_n 3, 0, 0, 0, 0, 0, []),
  (18, .iaload, 0, 0, 0, 0, 0, []), (19, .iload_n 1, 0, 0, 0, 0, 0, []), (20, .if_icmp .ne 20, 0, 24, 0, 0, 0, []), (23, .aload_n 0, 0, 0, 0, 0, 0, []),
  (24, .iload_n 3, 0, 0, 0, 0, 0, []), (25, .invokevirtual 564, 0, 0, 2, 0, 0, []), (28, .ifCond .eq 12, 0, 24, 0, 0, 0, []), (31, .aload_n 0, 0, 0, 0, 0, 0, []),
  (32, .getfield 56, 0, 12, 43, 0, 0, []), (35, .iload_n 3, 0, 0, 0, 0, 0, []), (36, .iaload, 0, 0, 0, 0, 0, []), (37, .goto 4, 0, 25, 0, 0, 0, []),
  (40, .iconst 0, 0, 0, 0, 0, 0, []), (41, .iadd, 0, 0, 0, 0, 0, []), (42, .istore_n 2, 0, 0, 0, 0, 0, []), (43, .iinc 3 1, 0, 0, 0, 1, 0, []),
  (46, .goto (-42), 0, 4, 0, 0, 0, []), (49, .iload_n 2, 0, 0, 0, 0, 0, []), (50, .ireturn, 0, 0, 0, 0, 0, [])]
noncomputable def fX12_priceLed_4 (N : Nat) (a1 : Int32) : Nat → Int32 → Int32 → Wd → Option (Int32 × Wd)
  | 0, _, _, _ => none
  | n + 1, v2, v3, w =>
    if v3 < (gI w 16 0 14) then
      (ldI w 86 0 v3 16).bind fun x1 =>
      if x1 = a1 then
        (callW (pX12_isLed N v3) w).bind fun r2 =>
        if r2.1 = 0 then callW (fX12_priceLed_4 N a1 n (v2 + (0 : Int32)) (v3 + (1 : Int32))) r2.2 else
        (ldI r2.2 87 0 v3 16).bind fun x3 =>
        callW (fX12_priceLed_4 N a1 n (v2 + x3) (v3 + (1 : Int32))) r2.2
      else
      callW (fX12_priceLed_4 N a1 n (v2 + (0 : Int32)) (v3 + (1 : Int32))) w
    else
    some (v2, w)
noncomputable def pX12_priceLed (N : Nat) (a1 : Int32) (w : Wd) : Option (Int32 × Wd) :=
  callW (fX12_priceLed_4 N a1 N (0 : Int32) (0 : Int32)) w
noncomputable def mX12_priceLed (N : Nat) (as : List AV) (w : Wd) : Option (Int32 × Wd) := xS1 16 as fun t => xI1 t fun a1 t => xN1 t (callW (pX12_priceLed N a1) w)
set_option maxRecDepth 100000 in
set_option maxHeartbeats 4000000 in
theorem kX12_priceLed : TK cX12_priceLed RX12 4 tX12_priceLed := ⟨by decide +kernel, wok_of [1614, 1642, 1643] (by decide +kernel) (by decide +kernel)⟩
set_option maxRecDepth 100000 in
set_option maxHeartbeats 4000000 in
theorem sX12_priceLed_4 {N : Nat} {X : XT} (G : GX X cX12_priceLed RX12) (hn : xnL X = 4) (hC : CRs X tX12_priceLed (oF [(mX12_isLed N)]) (oF []) (oF [])) {r : Int32 × Wd} (hr : RTI X cX12_priceLed r) (a1 : Int32) : ∀ (n : Nat) (v2 : Int32) (v3 : Int32) (w : Wd), fX12_priceLed_4 N a1 n v2 v3 w = some r → WW X (pcAt tX12_priceLed 4) [some (.inr (.inr (16, 0))), some (.inl a1), some (.inl v2), some (.inl v3)] [] w := by
  intro n
  induction n with
  | zero => intro v2 v3 w h; cases h
  | succ n ih =>
    intro v2 v3 w h
    refine run_sound (r := r) (X := X) (cc := cX12_priceLed) (own := RX12) (tab := tX12_priceLed) G (by rw [hn]; exact kX12_priceLed) (oI := (oF [(mX12_isLed N)])) (oL := (oF [])) (oV := (oF [])) (rI := (fun x w => some (x, w))) (rL := (fun _ _ => none)) (rV := (fun _ => none))
      (K := (fun j ls st w => if j = 4 then (lgI ls 2 fun v2 => lgI ls 3 fun v3 => st0 st (callW (fX12_priceLed_4 N a1 n v2 v3) w)) else none)) (fun x w pc ls hx hd => hr x w pc ls (Option.some.inj hx) hd) (fun _ _ _ _ hx => by cases hx) (fun _ _ _ hx => by cases hx) hC (fun ls => lsb [some (.inr (.inr (16, 0))), some (.inl a1), none, none] 0 ls) (keepsP_of rfl) ?_ 33 4 [some (.inr (.inr (16, 0))), some (.inl a1), some (.inl v2), some (.inl v3)] [] w ?_ h
    · intro j ls st w hfx h
      obtain ⟨e0, e1, -⟩ : _ = _ ∧ _ = _ ∧ True := hfx
      try dsimp only at h
      by_cases hj : j = 4
      · subst hj
        rw [if_pos rfl] at h
        obtain ⟨v2, e2, h_1⟩ := lgI_some h
        obtain ⟨v3, e3, h_2⟩ := lgI_some h_1
        obtain ⟨rfl, h_3⟩ := st0_some h_2
        clear h h_1 h_2
        have h := h_3
        try rw [callW_eq] at h
        exact WW.le (a := [some (.inr (.inr (16, 0))), some (.inl a1), some (.inl v2), some (.inl v3)]) (by rw [hn]; rfl) (show _ = _ ∧ _ = _ ∧ _ = _ ∧ _ = _ ∧ True from ⟨e0, e1, e2, e3, trivial⟩) (ih v2 v3 w h)
      rw [if_neg hj] at h
      cases h
    · exact (show _ = _ ∧ _ = _ ∧ True from ⟨rfl, rfl, trivial⟩)
set_option maxRecDepth 100000 in
set_option maxHeartbeats 4000000 in
theorem crX12_priceLed {N : Nat} {X : XT} (G : GX X cX12_priceLed RX12) (hR : xR X = rmL 6) : CRs X tX12_priceLed (oF [(mX12_isLed N)]) (oF []) (oF []) := by
  have hl : tX12_priceLed.filter isInv = [(25, .invokevirtual 564, 0, 0, 2, 0, 0, [])] := rfl
  intro e he
  rw [hl] at he
  simp only [List.mem_cons, List.not_mem_nil, or_false] at he
  rcases he with rfl
  · exact crI_V (idx := 564) G (by decide +kernel) (MX12_isLed N) (cw_of (ps := [2265, 2267, 135, 164, 2268]) (by decide +kernel) (by decide +kernel)) ⟨by decide +kernel, by decide +kernel, by decide +kernel⟩ (by unfold rmOk; rw [hR]; exact ⟨by decide, by decide⟩)
set_option maxRecDepth 100000 in
set_option maxHeartbeats 4000000 in
theorem MX12_priceLed (N : Nat) : SndI yX12_priceLed cX12_priceLed 4 (some .int) 6 2 true (mX12_priceLed N) := by
  refine SndI.of tX12_priceLed (by decide +kernel) rfl rfl ?_ ?_
  · intro as w x h
    obtain ⟨t1, rfl, h_1⟩ := xS1_some h
    obtain ⟨a1, t2, rfl, h_2⟩ := xI1_some h_1
    obtain ⟨rfl, h_3⟩ := xN1_some h_2
    clear h h_1 h_2
    have h := h_3
    rw [callW_eq] at h
    exact ⟨fun _ => ⟨_, _, _, rfl, rfl, _, rfl, rfl⟩, rfl, Nat.le_of_ble_eq_true rfl⟩
  · intro X G hn hR as w r h hr
    have hC := crX12_priceLed (N := N) G hR
    obtain ⟨t1, rfl, h_1⟩ := xS1_some h
    obtain ⟨a1, t2, rfl, h_2⟩ := xI1_some h_1
    obtain ⟨rfl, h_3⟩ := xN1_some h_2
    clear h h_1 h_2
    have h := h_3
    rw [callW_eq] at h
    refine run_sound (r := r) (X := X) (cc := cX12_priceLed) (own := RX12) (tab := tX12_priceLed) G (by rw [hn]; exact kX12_priceLed) (oI := (oF [(mX12_isLed N)])) (oL := (oF [])) (oV := (oF [])) (rI := (fun x w => some (x, w))) (rL := (fun _ _ => none)) (rV := (fun _ => none))
      (K := (fun j ls st w => if j = 4 then (lgI ls 2 fun v2 => lgI ls 3 fun v3 => st0 st (callW (fX12_priceLed_4 N a1 N v2 v3) w)) else none)) (fun x w pc ls hx hd => hr x w pc ls (Option.some.inj hx) hd) (fun _ _ _ _ hx => by cases hx) (fun _ _ _ hx => by cases hx) hC (fun ls => lsb [some (.inr (.inr (16, 0))), some (.inl a1), none, none] 0 ls) (keepsP_of rfl) ?_ 33 0 [some (.inr (.inr (16, 0))), some (.inl a1), none, none] [] w ?_ h
    · intro j ls st w hfx h
      obtain ⟨e0, e1, -⟩ : _ = _ ∧ _ = _ ∧ True := hfx
      try dsimp only at h
      by_cases hj : j = 4
      · subst hj
        rw [if_pos rfl] at h
        obtain ⟨v2, e2, h_1⟩ := lgI_some h
        obtain ⟨v3, e3, h_2⟩ := lgI_some h_1
        obtain ⟨rfl, h_3⟩ := st0_some h_2
        clear h h_1 h_2
        have h := h_3
        try rw [callW_eq] at h
        exact WW.le (a := [some (.inr (.inr (16, 0))), some (.inl a1), some (.inl v2), some (.inl v3)]) (by rw [hn]; rfl) (show _ = _ ∧ _ = _ ∧ _ = _ ∧ _ = _ ∧ True from ⟨e0, e1, e2, e3, trivial⟩) (sX12_priceLed_4 G hn hC hr a1 N v2 v3 w h)
      rw [if_neg hj] at h
      cases h
    · exact (show _ = _ ∧ _ = _ ∧ True from ⟨rfl, rfl, trivial⟩)
-- MoorGuidesModel.stranger(II)I
def tX12_stranger : List EN := [
  (0, .aload_n 0, 0, 0, 0, 0, 0, []), (1, .iconst 0, 0, 0, 0, 0, 0, []), (2, .putfield 196, 0, 12, 2, 0, 0, []), (5, .aload_n 0, 0, 0, 0, 0, 0, []),
  (6, .iload_n 1, 0, 0, 0, 0, 0, []), (7, .invokevirtual 567, 0, 0, 2, 0, 0, []), (10, .ifCond .eq 10, 0, 10, 0, 0, 0, []), (13, .iload_n 2, 0, 0, 0, 0, 0, []),
  (14, .invokestatic 479, 0, 1, 1, 0, 0, []), (17, .ifCond .ne 5, 0, 12, 0, 0, 0, []), (20, .iconst (-1), 0, 0, 0, (-1), 0, []), (21, .ireturn, 0, 0, 0, 0, 0, []),
  (22, .aload_n 0, 0, 0, 0, 0, 0, []), (23, .iconst 0, 0, 0, 0, 0, 0, []), (24, .iload_n 2, 0, 0, 0, 0, 0, []), (25, .iconst 0, 0, 0, 0, 0, 0, []),
  (26, .invokevirtual 549, 0, 0, 4, 0, 0, [(0, 0), (0, 0)]), (29, .aload_n 0, 0, 0, 0, 0, 0, []), (30, .iload_n 2, 0, 0, 0, 0, 0, []), (31, .invokevirtual 570, 0, 2, 2, 0, 0, []),
  (34, .istore_n 3, 0, 0, 0, 0, 0, []), (35, .aload_n 0, 0, 0, 0, 0, 0, []), (36, .getfield 130, 0, 12, 77, 0, 0, []), (39, .bipush 6, 0, 0, 0, 6, 0, []),
  (41, .iload_n 1, 0, 0, 0, 0, 0, []), (42, .iastore, 0, 0, 0, 0, 0, []), (43, .aload_n 0, 0, 0, 0, 0, 0, []), (44, .iload_n 2, 0, 0, 0, 0, 0, []),
  (45, .invokevirtual 570, 0, 2, 2, 0, 0, []), (48, .iload_n 3, 0, 0, 0, 0, 0, []), (49, .isub, 0, 0, 0, 0, 0, []), (50, .ireturn, 0, 0, 0, 0, 0, [])]
noncomputable def pX12_stranger (N : Nat) (a1 : Int32) (a2 : Int32) (w : Wd) : Option (Int32 × Wd) :=
  (callW (pX12_areParts N a1) (setI w 16 0 2 (0 : Int32))).bind fun r1 =>
  if r1.1 = 0 then some ((-1 : Int32), r1.2) else
  (callW (pX12_isNight N a2) r1.2).bind fun r2 =>
  if r2.1 = 0 then some ((-1 : Int32), r2.2) else
  (callW (pX12_layKnown N (0 : Int32) a2 (0 : Int32)) r2.2).bind fun w3 =>
  (callW (pX12_priceLed N a2) w3).bind fun r4 =>
  (stI r4.2 111 0 (6 : Int32) 7 a1).bind fun w5 =>
  (callW (pX12_priceLed N a2) w5).bind fun r6 =>
  some ((r6.1 - r4.1), r6.2)
noncomputable def mX12_stranger (N : Nat) (as : List AV) (w : Wd) : Option (Int32 × Wd) := xS1 16 as fun t => xI1 t fun a1 t => xI1 t fun a2 t => xN1 t (callW (pX12_stranger N a1 a2) w)
set_option maxRecDepth 100000 in
set_option maxHeartbeats 4000000 in
theorem kX12_stranger : TK cX12_stranger RX12 4 tX12_stranger := ⟨by decide +kernel, wok_of [1602, 1677] (by decide +kernel) (by decide +kernel)⟩
set_option maxRecDepth 100000 in
set_option maxHeartbeats 4000000 in
theorem crX12_stranger {N : Nat} {X : XT} (G : GX X cX12_stranger RX12) (hR : xR X = rmL 7) : CRs X tX12_stranger (oF [(mX12_areParts N), (mX12_isNight N), (mX12_priceLed N)]) (oF []) (oF [(mX12_layKnown N)]) := by
  have hl : tX12_stranger.filter isInv = [(7, .invokevirtual 567, 0, 0, 2, 0, 0, []), (14, .invokestatic 479, 0, 1, 1, 0, 0, []), (26, .invokevirtual 549, 0, 0, 4, 0, 0, [(0, 0), (0, 0)]), (31, .invokevirtual 570, 0, 2, 2, 0, 0, []), (45, .invokevirtual 570, 0, 2, 2, 0, 0, [])] := rfl
  intro e he
  rw [hl] at he
  simp only [List.mem_cons, List.not_mem_nil, or_false] at he
  rcases he with rfl | rfl | rfl | rfl | rfl
  · exact crI_V (idx := 567) G (by decide +kernel) (MX12_areParts N) (cw_of (ps := [2257, 2259, 133, 164, 2260]) (by decide +kernel) (by decide +kernel)) ⟨by decide +kernel, by decide +kernel, by decide +kernel⟩ (by unfold rmOk; rw [hR]; exact ⟨by decide, by decide⟩)
  · exact crI_S (idx := 479) G (by decide +kernel) (MX12_isNight N) (cw_of (ps := [2116, 2117, 164, 2118]) (by decide +kernel) (by decide +kernel)) ⟨by decide +kernel, by decide +kernel, by decide +kernel⟩ (by unfold rmOk; rw [hR]; exact ⟨by decide, by decide⟩)
  · exact crV_V (idx := 549) G (by decide +kernel) (MX12_layKnown N) (cw_of (ps := [2193, 2195, 122, 164, 2196]) (by decide +kernel) (by decide +kernel)) ⟨by decide +kernel, by decide +kernel, by decide +kernel⟩ (by unfold rmOk; rw [hR]; exact ⟨by decide, by decide⟩)
  · exact crI_V (idx := 570) G (by decide +kernel) (MX12_priceLed N) (cw_of (ps := [2261, 2263, 134, 164, 2264]) (by decide +kernel) (by decide +kernel)) ⟨by decide +kernel, by decide +kernel, by decide +kernel⟩ (by unfold rmOk; rw [hR]; exact ⟨by decide, by decide⟩)
  · exact crI_V (idx := 570) G (by decide +kernel) (MX12_priceLed N) (cw_of (ps := [2261, 2263, 134, 164, 2264]) (by decide +kernel) (by decide +kernel)) ⟨by decide +kernel, by decide +kernel, by decide +kernel⟩ (by unfold rmOk; rw [hR]; exact ⟨by decide, by decide⟩)
set_option maxRecDepth 100000 in
set_option maxHeartbeats 4000000 in
theorem MX12_stranger (N : Nat) : SndI yX12_stranger cX12_stranger 4 (some .int) 7 3 true (mX12_stranger N) := by
  refine SndI.of tX12_stranger (by decide +kernel) rfl rfl ?_ ?_
  · intro as w x h
    obtain ⟨t1, rfl, h_1⟩ := xS1_some h
    obtain ⟨a1, t2, rfl, h_2⟩ := xI1_some h_1
    obtain ⟨a2, t3, rfl, h_3⟩ := xI1_some h_2
    obtain ⟨rfl, h_4⟩ := xN1_some h_3
    clear h h_1 h_2 h_3
    have h := h_4
    rw [callW_eq] at h
    exact ⟨fun _ => ⟨_, _, _, rfl, rfl, _, rfl, rfl⟩, rfl, Nat.le_of_ble_eq_true rfl⟩
  · intro X G hn hR as w r h hr
    have hC := crX12_stranger (N := N) G hR
    obtain ⟨t1, rfl, h_1⟩ := xS1_some h
    obtain ⟨a1, t2, rfl, h_2⟩ := xI1_some h_1
    obtain ⟨a2, t3, rfl, h_3⟩ := xI1_some h_2
    obtain ⟨rfl, h_4⟩ := xN1_some h_3
    clear h h_1 h_2 h_3
    have h := h_4
    rw [callW_eq] at h
    refine run_sound (r := r) (X := X) (cc := cX12_stranger) (own := RX12) (tab := tX12_stranger) G (by rw [hn]; exact kX12_stranger) (oI := (oF [(mX12_areParts N), (mX12_isNight N), (mX12_priceLed N)])) (oL := (oF [])) (oV := (oF [(mX12_layKnown N)])) (rI := (fun x w => some (x, w))) (rL := (fun _ _ => none)) (rV := (fun _ => none))
      (K := (fun j ls st w => none)) (fun x w pc ls hx hd => hr x w pc ls (Option.some.inj hx) hd) (fun _ _ _ _ hx => by cases hx) (fun _ _ _ hx => by cases hx) hC (fun ls => lsb [some (.inr (.inr (16, 0))), some (.inl a1), some (.inl a2), none] 0 ls) (keepsP_of rfl) ?_ 34 0 [some (.inr (.inr (16, 0))), some (.inl a1), some (.inl a2), none] [] w ?_ h
    · intro j ls st w hfx h
      obtain ⟨e0, e1, e2, -⟩ : _ = _ ∧ _ = _ ∧ _ = _ ∧ True := hfx
      try dsimp only at h
      cases h
    · exact (show _ = _ ∧ _ = _ ∧ _ = _ ∧ True from ⟨rfl, rfl, rfl, trivial⟩)
-- MoorGuidesModel.allLed(II)Z
def tX12_allLed : List EN := [
  (0, .iconst 0, 0, 0, 0, 0, 0, []), (1, .istore_n 3, 0, 0, 0, 0, 0, []), (2, .iload_n 3, 3, 0, 0, 0, 0, []), (3, .aload_n 0, 0, 0, 0, 0, 0, []),
  (4, .getfield 301, 0, 12, 14, 0, 0, []), (7, .if_icmp .ge 42, 0, 27, 0, 0, 0, []), (10, .iload_n 1, 0, 0, 0, 0, 0, []), (11, .iload_n 3, 0, 0, 0, 0, 0, []),
  (12, .invokestatic 341, 0, 0, 2, 0, 0, []), (15, .ifCond .ne 6, 0, 11, 0, 0, 0, []), (18, .goto 25, 0, 25, 0, 0, 0, []), (21, .aload_n 0, 0, 0, 0, 0, 0, []),
  (22, .iconst 0, 0, 0, 0, 0, 0, []), (23, .aload_n 0, 0, 0, 0, 0, 0, []), (24, .getfield 53, 0, 12, 42, 0, 0, []), (27, .iload_n 3, 0, 0, 0, 0, 0, []),
  (28, .iaload, 0, 0, 0, 0, 0, []), (29, .iload_n 2, 0, 0, 0, 0, 0, []), (30, .invokevirtual 549, 0, 0, 4, 0, 0, [(0, 0), (0, 0)]), (33, .aload_n 0, 0, 0, 0, 0, 0, []),
  (34, .iload_n 3, 0, 0, 0, 0, 0, []), (35, .invokevirtual 564, 0, 1, 2, 0, 0, []), (38, .ifCond .ne 5, 0, 25, 0, 0, 0, []), (41, .iconst 0, 0, 0, 0, 0, 0, []),
  (42, .ireturn, 0, 0, 0, 0, 0, []), (43, .iinc 3 1, 0, 0, 0, 1, 0, []), (46, .goto (-44), 0, 2, 0, 0, 0, []), (49, .iconst 1, 0, 0, 0, 1, 0, []),
  (50, .ireturn, 0, 0, 0, 0, 0, [])]
noncomputable def fX12_allLed_2 (N : Nat) (a1 : Int32) (a2 : Int32) : Nat → Int32 → Wd → Option (Int32 × Wd)
  | 0, _, _ => none
  | n + 1, v3, w =>
    if v3 < (gI w 16 0 14) then
      (callW (pX12_isOf N a1 v3) w).bind fun r1 =>
      if r1.1 = 0 then callW (fX12_allLed_2 N a1 a2 n (v3 + (1 : Int32))) r1.2 else
      (ldI r1.2 86 0 v3 16).bind fun x2 =>
      (callW (pX12_layKnown N (0 : Int32) x2 a2) r1.2).bind fun w3 =>
      (callW (pX12_isLed N v3) w3).bind fun r4 =>
      if r4.1 = 0 then some ((0 : Int32), r4.2) else
      callW (fX12_allLed_2 N a1 a2 n (v3 + (1 : Int32))) r4.2
    else
    some ((1 : Int32), w)
noncomputable def pX12_allLed (N : Nat) (a1 : Int32) (a2 : Int32) (w : Wd) : Option (Int32 × Wd) :=
  callW (fX12_allLed_2 N a1 a2 N (0 : Int32)) w
noncomputable def mX12_allLed (N : Nat) (as : List AV) (w : Wd) : Option (Int32 × Wd) := xS1 16 as fun t => xI1 t fun a1 t => xI1 t fun a2 t => xN1 t (callW (pX12_allLed N a1 a2) w)
set_option maxRecDepth 100000 in
set_option maxHeartbeats 4000000 in
theorem kX12_allLed : TK cX12_allLed RX12 4 tX12_allLed := ⟨by decide +kernel, wok_of [1614, 1642] (by decide +kernel) (by decide +kernel)⟩
set_option maxRecDepth 100000 in
set_option maxHeartbeats 4000000 in
theorem sX12_allLed_2 {N : Nat} {X : XT} (G : GX X cX12_allLed RX12) (hn : xnL X = 4) (hC : CRs X tX12_allLed (oF [(mX12_isOf N), (mX12_isLed N)]) (oF []) (oF [(mX12_layKnown N)])) {r : Int32 × Wd} (hr : RTZ X cX12_allLed r) (a1 : Int32) (a2 : Int32) : ∀ (n : Nat) (v3 : Int32) (w : Wd), fX12_allLed_2 N a1 a2 n v3 w = some r → WW X (pcAt tX12_allLed 2) [some (.inr (.inr (16, 0))), some (.inl a1), some (.inl a2), some (.inl v3)] [] w := by
  intro n
  induction n with
  | zero => intro v3 w h; cases h
  | succ n ih =>
    intro v3 w h
    refine run_sound (r := r) (X := X) (cc := cX12_allLed) (own := RX12) (tab := tX12_allLed) G (by rw [hn]; exact kX12_allLed) (oI := (oF [(mX12_isOf N), (mX12_isLed N)])) (oL := (oF [])) (oV := (oF [(mX12_layKnown N)])) (rI := retZ) (rL := (fun _ _ => none)) (rV := (fun _ => none))
      (K := (fun j ls st w => if j = 2 then (lgI ls 3 fun v3 => st0 st (callW (fX12_allLed_2 N a1 a2 n v3) w)) else none)) hr (fun _ _ _ _ hx => by cases hx) (fun _ _ _ hx => by cases hx) hC (fun ls => lsb [some (.inr (.inr (16, 0))), some (.inl a1), some (.inl a2), none] 0 ls) (keepsP_of rfl) ?_ 31 2 [some (.inr (.inr (16, 0))), some (.inl a1), some (.inl a2), some (.inl v3)] [] w ?_ h
    · intro j ls st w hfx h
      obtain ⟨e0, e1, e2, -⟩ : _ = _ ∧ _ = _ ∧ _ = _ ∧ True := hfx
      try dsimp only at h
      by_cases hj : j = 2
      · subst hj
        rw [if_pos rfl] at h
        obtain ⟨v3, e3, h_1⟩ := lgI_some h
        obtain ⟨rfl, h_2⟩ := st0_some h_1
        clear h h_1
        have h := h_2
        try rw [callW_eq] at h
        exact WW.le (a := [some (.inr (.inr (16, 0))), some (.inl a1), some (.inl a2), some (.inl v3)]) (by rw [hn]; rfl) (show _ = _ ∧ _ = _ ∧ _ = _ ∧ _ = _ ∧ True from ⟨e0, e1, e2, e3, trivial⟩) (ih v3 w h)
      rw [if_neg hj] at h
      cases h
    · exact (show _ = _ ∧ _ = _ ∧ _ = _ ∧ True from ⟨rfl, rfl, rfl, trivial⟩)
set_option maxRecDepth 100000 in
set_option maxHeartbeats 4000000 in
theorem crX12_allLed {N : Nat} {X : XT} (G : GX X cX12_allLed RX12) (hR : xR X = rmL 6) : CRs X tX12_allLed (oF [(mX12_isOf N), (mX12_isLed N)]) (oF []) (oF [(mX12_layKnown N)]) := by
  have hl : tX12_allLed.filter isInv = [(12, .invokestatic 341, 0, 0, 2, 0, 0, []), (30, .invokevirtual 549, 0, 0, 4, 0, 0, [(0, 0), (0, 0)]), (35, .invokevirtual 564, 0, 1, 2, 0, 0, [])] := rfl
  intro e he
  rw [hl] at he
  simp only [List.mem_cons, List.not_mem_nil, or_false] at he
  rcases he with rfl | rfl | rfl
  · exact crI_S (idx := 341) G (by decide +kernel) (MX12_isOf N) (cw_of (ps := [1589, 1590, 164, 1591]) (by decide +kernel) (by decide +kernel)) ⟨by decide +kernel, by decide +kernel, by decide +kernel⟩ (by unfold rmOk; rw [hR]; exact ⟨by decide, by decide⟩)
  · exact crV_V (idx := 549) G (by decide +kernel) (MX12_layKnown N) (cw_of (ps := [2193, 2195, 122, 164, 2196]) (by decide +kernel) (by decide +kernel)) ⟨by decide +kernel, by decide +kernel, by decide +kernel⟩ (by unfold rmOk; rw [hR]; exact ⟨by decide, by decide⟩)
  · exact crI_V (idx := 564) G (by decide +kernel) (MX12_isLed N) (cw_of (ps := [2265, 2267, 135, 164, 2268]) (by decide +kernel) (by decide +kernel)) ⟨by decide +kernel, by decide +kernel, by decide +kernel⟩ (by unfold rmOk; rw [hR]; exact ⟨by decide, by decide⟩)
set_option maxRecDepth 100000 in
set_option maxHeartbeats 4000000 in
theorem MX12_allLed (N : Nat) : SndI yX12_allLed cX12_allLed 4 (some .boolean) 6 3 true (mX12_allLed N) := by
  refine SndI.ofZ tX12_allLed (by decide +kernel) rfl rfl ?_ ?_
  · intro as w x h
    obtain ⟨t1, rfl, h_1⟩ := xS1_some h
    obtain ⟨a1, t2, rfl, h_2⟩ := xI1_some h_1
    obtain ⟨a2, t3, rfl, h_3⟩ := xI1_some h_2
    obtain ⟨rfl, h_4⟩ := xN1_some h_3
    clear h h_1 h_2 h_3
    have h := h_4
    rw [callW_eq] at h
    exact ⟨fun _ => ⟨_, _, _, rfl, rfl, _, rfl, rfl⟩, rfl, Nat.le_of_ble_eq_true rfl⟩
  · intro X G hn hR as w r h hr
    have hC := crX12_allLed (N := N) G hR
    obtain ⟨t1, rfl, h_1⟩ := xS1_some h
    obtain ⟨a1, t2, rfl, h_2⟩ := xI1_some h_1
    obtain ⟨a2, t3, rfl, h_3⟩ := xI1_some h_2
    obtain ⟨rfl, h_4⟩ := xN1_some h_3
    clear h h_1 h_2 h_3
    have h := h_4
    rw [callW_eq] at h
    refine run_sound (r := r) (X := X) (cc := cX12_allLed) (own := RX12) (tab := tX12_allLed) G (by rw [hn]; exact kX12_allLed) (oI := (oF [(mX12_isOf N), (mX12_isLed N)])) (oL := (oF [])) (oV := (oF [(mX12_layKnown N)])) (rI := retZ) (rL := (fun _ _ => none)) (rV := (fun _ => none))
      (K := (fun j ls st w => if j = 2 then (lgI ls 3 fun v3 => st0 st (callW (fX12_allLed_2 N a1 a2 N v3) w)) else none)) hr (fun _ _ _ _ hx => by cases hx) (fun _ _ _ hx => by cases hx) hC (fun ls => lsb [some (.inr (.inr (16, 0))), some (.inl a1), some (.inl a2), none] 0 ls) (keepsP_of rfl) ?_ 31 0 [some (.inr (.inr (16, 0))), some (.inl a1), some (.inl a2), none] [] w ?_ h
    · intro j ls st w hfx h
      obtain ⟨e0, e1, e2, -⟩ : _ = _ ∧ _ = _ ∧ _ = _ ∧ True := hfx
      try dsimp only at h
      by_cases hj : j = 2
      · subst hj
        rw [if_pos rfl] at h
        obtain ⟨v3, e3, h_1⟩ := lgI_some h
        obtain ⟨rfl, h_2⟩ := st0_some h_1
        clear h h_1
        have h := h_2
        try rw [callW_eq] at h
        exact WW.le (a := [some (.inr (.inr (16, 0))), some (.inl a1), some (.inl a2), some (.inl v3)]) (by rw [hn]; rfl) (show _ = _ ∧ _ = _ ∧ _ = _ ∧ _ = _ ∧ True from ⟨e0, e1, e2, e3, trivial⟩) (sX12_allLed_2 G hn hC hr a1 a2 N v3 w h)
      rw [if_neg hj] at h
      cases h
    · exact (show _ = _ ∧ _ = _ ∧ _ = _ ∧ True from ⟨rfl, rfl, rfl, trivial⟩)
-- MoorGuidesModel.fewest(II)I
def tX12_fewest : List EN := [
  (0, .aload_n 0, 0, 0, 0, 0, 0, []), (1, .iconst 0, 0, 0, 0, 0, 0, []), (2, .putfield 196, 0, 12, 2, 0, 0, []), (5, .iload_n 1, 0, 0, 0, 0, 0, []),
  (6, .ifCond .lt 21, 0, 15, 0, 0, 0, []), (9, .iload_n 1, 0, 0, 0, 0, 0, []), (10, .aload_n 0, 0, 0, 0, 0, 0, []), (11, .getfield 301, 0, 12, 14, 0, 0, []),
  (14, .ishr, 0, 0, 0, 0, 0, []), (15, .ifCond .ne 12, 0, 15, 0, 0, 0, []), (18, .iload_n 2, 0, 0, 0, 0, 0, []), (19, .iconst 0, 0, 0, 0, 0, 0, []),
  (20, .iconst 1, 0, 0, 0, 1, 0, []), (21, .invokestatic 241, 0, 0, 3, 0, 0, []), (24, .ifCond .ne 5, 0, 17, 0, 0, 0, []), (27, .iconst (-1), 0, 0, 0, (-1), 0, []),
  (28, .ireturn, 0, 0, 0, 0, 0, []), (29, .iconst 0, 0, 0, 0, 0, 0, []), (30, .istore_n 3, 0, 0, 0, 0, 0, []), (31, .iload_n 3, 20, 0, 0, 0, 0, []),
  (32, .aload_n 0, 0, 0, 0, 0, 0, []), (33, .getfield 295, 0, 12, 12, 0, 0, []), (36, .if_icmp .gt 59, 0, 50, 0, 0, 0, []), (39, .iconst 0, 0, 0, 0, 0, 0, []),
  (40, .istore 4, 0, 0, 0, 0, 0, []), (42, .iload 4, 26, 0, 0, 0, 0, []), (44, .iconst 1, 0, 0, 0, 1, 0, []), (45, .aload_n 0, 0, 0, 0, 0, 0, []),
  (46, .getfield 295, 0, 12, 12, 0, 0, []), (49, .ishl, 0, 0, 0, 0, 0, []), (50, .if_icmp .ge 39, 0, 48, 0, 0, 0, []), (53, .iload 4, 0, 0, 0, 0, 0, []),
  (55, .invokestatic 485, 0, 1, 1, 0, 0, []), (58, .iload_n 3, 0, 0, 0, 0, 0, []), (59, .if_icmp .ne 24, 0, 46, 0, 0, 0, []), (62, .aload_n 0, 0, 0, 0, 0, 0, []),
  (63, .iload_n 1, 0, 0, 0, 0, 0, []), (64, .iload 4, 0, 0, 0, 0, 0, []), (66, .invokevirtual 573, 0, 2, 3, 0, 0, []), (69, .ifCond .eq 14, 0, 46, 0, 0, 0, []),
  (72, .iload_n 2, 0, 0, 0, 0, 0, []), (73, .ifCond .ne 7, 0, 44, 0, 0, 0, []), (76, .iload_n 3, 0, 0, 0, 0, 0, []), (77, .goto 5, 0, 45, 0, 0, 0, []),
  (80, .iload 4, 0, 0, 0, 0, 0, []), (82, .ireturn, 0, 0, 0, 0, 0, []), (83, .iinc 4 1, 0, 0, 0, 1, 0, []), (86, .goto (-44), 0, 25, 0, 0, 0, []),
  (89, .iinc 3 1, 49, 0, 0, 1, 0, []), (92, .goto (-61), 0, 19, 0, 0, 0, []), (95, .bipush (-2), 0, 0, 0, (-2), 0, []), (97, .ireturn, 0, 0, 0, 0, 0, [])]
noncomputable def fX12_fewest_48 (N : Nat) (a1 : Int32) (a2 : Int32) (k19 : Int32 → Wd → Option (Int32 × Wd)) (v3 : Int32) (w : Wd) : Option (Int32 × Wd) :=
  k19 (v3 + (1 : Int32)) w
noncomputable def fX12_fewest_25 (N : Nat) (a1 : Int32) (a2 : Int32) : Nat → (Int32 → Wd → Option (Int32 × Wd)) → Int32 → Int32 → Wd → Option (Int32 × Wd)
  | 0, _, _, _, _ => none
  | n + 1, k48, v3, v4, w =>
    if v4 < ((1 : Int32) <<< ((gI w 16 0 12) &&& (31 : Int32))) then
      (callW (pX12_manyOf N v4) w).bind fun r1 =>
      if r1.1 = v3 then
        (callW (pX12_allLed N a1 v4) r1.2).bind fun r2 =>
        if r2.1 = 0 then callW (fX12_fewest_25 N a1 a2 n k48 v3 (v4 + (1 : Int32))) r2.2 else
        if a2 = 0 then some (v3, r2.2) else
        some (v4, r2.2)
      else
      callW (fX12_fewest_25 N a1 a2 n k48 v3 (v4 + (1 : Int32))) r1.2
    else
    k48 v3 w
noncomputable def fX12_fewest_19 (N : Nat) (a1 : Int32) (a2 : Int32) : Nat → Int32 → Wd → Option (Int32 × Wd)
  | 0, _, _ => none
  | n + 1, v3, w =>
    if (gI w 16 0 12) < v3 then some ((-2 : Int32), w) else
    callW (fX12_fewest_25 N a1 a2 N (fX12_fewest_48 N a1 a2 (fX12_fewest_19 N a1 a2 n)) v3 (0 : Int32)) w
noncomputable def pX12_fewest (N : Nat) (a1 : Int32) (a2 : Int32) (w : Wd) : Option (Int32 × Wd) :=
  if a1 < 0 then some ((-1 : Int32), (setI w 16 0 2 (0 : Int32))) else
  if (a1 >>> ((gI (setI w 16 0 2 (0 : Int32)) 16 0 14) &&& (31 : Int32))) = 0 then
    (callW (pX12_isIn N a2 (0 : Int32) (1 : Int32)) (setI w 16 0 2 (0 : Int32))).bind fun r1 =>
    if r1.1 = 0 then some ((-1 : Int32), r1.2) else
    callW (fX12_fewest_19 N a1 a2 N (0 : Int32)) r1.2
  else
  some ((-1 : Int32), (setI w 16 0 2 (0 : Int32)))
noncomputable def mX12_fewest (N : Nat) (as : List AV) (w : Wd) : Option (Int32 × Wd) := xS1 16 as fun t => xI1 t fun a1 t => xI1 t fun a2 t => xN1 t (callW (pX12_fewest N a1 a2) w)
set_option maxRecDepth 100000 in
set_option maxHeartbeats 4000000 in
theorem kX12_fewest : TK cX12_fewest RX12 5 tX12_fewest := ⟨by decide +kernel, wok_of [1602, 1614, 1612, 1612] (by decide +kernel) (by decide +kernel)⟩
set_option maxRecDepth 100000 in
set_option maxHeartbeats 4000000 in
theorem sX12_fewest_48 {N : Nat} {X : XT} (G : GX X cX12_fewest RX12) (hn : xnL X = 5) (hC : CRs X tX12_fewest (oF [(mX12_isIn N), (mX12_manyOf N), (mX12_allLed N)]) (oF []) (oF [])) {r : Int32 × Wd} (hr : RTI X cX12_fewest r) (a1 : Int32) (a2 : Int32) : ∀ (k19 : Int32 → Wd → Option (Int32 × Wd)) (v3 : Int32) (w : Wd), fX12_fewest_48 N a1 a2 k19 v3 w = some r → (∀ (v3 : Int32) (w : Wd), k19 v3 w = some r → WW X (pcAt tX12_fewest 19) [some (.inr (.inr (16, 0))), some (.inl a1), some (.inl a2), some (.inl v3), none] [] w) → WW X (pcAt tX12_fewest 48) [some (.inr (.inr (16, 0))), some (.inl a1), some (.inl a2), some (.inl v3), none] [] w := by
  intro k19 v3 w h h19
  refine run_sound (r := r) (X := X) (cc := cX12_fewest) (own := RX12) (tab := tX12_fewest) G (by rw [hn]; exact kX12_fewest) (oI := (oF [(mX12_isIn N), (mX12_manyOf N), (mX12_allLed N)])) (oL := (oF [])) (oV := (oF [])) (rI := (fun x w => some (x, w))) (rL := (fun _ _ => none)) (rV := (fun _ => none))
    (K := (fun j ls st w => if j = 19 then (lgI ls 3 fun v3 => st0 st (k19 v3 w)) else none)) (fun x w pc ls hx hd => hr x w pc ls (Option.some.inj hx) hd) (fun _ _ _ _ hx => by cases hx) (fun _ _ _ hx => by cases hx) hC (fun ls => lsb [some (.inr (.inr (16, 0))), some (.inl a1), some (.inl a2), none, none] 0 ls) (keepsP_of rfl) ?_ 54 48 [some (.inr (.inr (16, 0))), some (.inl a1), some (.inl a2), some (.inl v3), none] [] w ?_ h
  · intro j ls st w hfx h
    obtain ⟨e0, e1, e2, -⟩ : _ = _ ∧ _ = _ ∧ _ = _ ∧ True := hfx
    try dsimp only at h
    by_cases hj : j = 19
    · subst hj
      rw [if_pos rfl] at h
      obtain ⟨v3, e3, h_1⟩ := lgI_some h
      obtain ⟨rfl, h_2⟩ := st0_some h_1
      clear h h_1
      have h := h_2
      try rw [callW_eq] at h
      exact WW.le (a := [some (.inr (.inr (16, 0))), some (.inl a1), some (.inl a2), some (.inl v3), none]) (by rw [hn]; rfl) (show _ = _ ∧ _ = _ ∧ _ = _ ∧ _ = _ ∧ True from ⟨e0, e1, e2, e3, trivial⟩) (h19 v3 w h)
    rw [if_neg hj] at h
    cases h
  · exact (show _ = _ ∧ _ = _ ∧ _ = _ ∧ True from ⟨rfl, rfl, rfl, trivial⟩)
set_option maxRecDepth 100000 in
set_option maxHeartbeats 4000000 in
theorem sX12_fewest_25 {N : Nat} {X : XT} (G : GX X cX12_fewest RX12) (hn : xnL X = 5) (hC : CRs X tX12_fewest (oF [(mX12_isIn N), (mX12_manyOf N), (mX12_allLed N)]) (oF []) (oF [])) {r : Int32 × Wd} (hr : RTI X cX12_fewest r) (a1 : Int32) (a2 : Int32) : ∀ (n : Nat) (k48 : Int32 → Wd → Option (Int32 × Wd)) (v3 : Int32) (v4 : Int32) (w : Wd), fX12_fewest_25 N a1 a2 n k48 v3 v4 w = some r → (∀ (v3 : Int32) (w : Wd), k48 v3 w = some r → WW X (pcAt tX12_fewest 48) [some (.inr (.inr (16, 0))), some (.inl a1), some (.inl a2), some (.inl v3), none] [] w) → WW X (pcAt tX12_fewest 25) [some (.inr (.inr (16, 0))), some (.inl a1), some (.inl a2), some (.inl v3), some (.inl v4)] [] w := by
  intro n
  induction n with
  | zero => intro k48 v3 v4 w h h48; cases h
  | succ n ih =>
    intro k48 v3 v4 w h h48
    refine run_sound (r := r) (X := X) (cc := cX12_fewest) (own := RX12) (tab := tX12_fewest) G (by rw [hn]; exact kX12_fewest) (oI := (oF [(mX12_isIn N), (mX12_manyOf N), (mX12_allLed N)])) (oL := (oF [])) (oV := (oF [])) (rI := (fun x w => some (x, w))) (rL := (fun _ _ => none)) (rV := (fun _ => none))
      (K := (fun j ls st w => if j = 25 then (lgI ls 3 fun v3 => lgI ls 4 fun v4 => st0 st (callW (fX12_fewest_25 N a1 a2 n k48 v3 v4) w)) else if j = 48 then (lgI ls 3 fun v3 => st0 st (k48 v3 w)) else none)) (fun x w pc ls hx hd => hr x w pc ls (Option.some.inj hx) hd) (fun _ _ _ _ hx => by cases hx) (fun _ _ _ hx => by cases hx) hC (fun ls => lsb [some (.inr (.inr (16, 0))), some (.inl a1), some (.inl a2), none, none] 0 ls) (keepsP_of rfl) ?_ 54 25 [some (.inr (.inr (16, 0))), some (.inl a1), some (.inl a2), some (.inl v3), some (.inl v4)] [] w ?_ h
    · intro j ls st w hfx h
      obtain ⟨e0, e1, e2, -⟩ : _ = _ ∧ _ = _ ∧ _ = _ ∧ True := hfx
      try dsimp only at h
      by_cases hj : j = 25
      · subst hj
        rw [if_pos rfl] at h
        obtain ⟨v3, e3, h_1⟩ := lgI_some h
        obtain ⟨v4, e4, h_2⟩ := lgI_some h_1
        obtain ⟨rfl, h_3⟩ := st0_some h_2
        clear h h_1 h_2
        have h := h_3
        try rw [callW_eq] at h
        exact WW.le (a := [some (.inr (.inr (16, 0))), some (.inl a1), some (.inl a2), some (.inl v3), some (.inl v4)]) (by rw [hn]; rfl) (show _ = _ ∧ _ = _ ∧ _ = _ ∧ _ = _ ∧ _ = _ ∧ True from ⟨e0, e1, e2, e3, e4, trivial⟩) (ih k48 v3 v4 w h h48)
      rw [if_neg hj] at h
      by_cases hj : j = 48
      · subst hj
        rw [if_pos rfl] at h
        obtain ⟨v3, e3, h_1⟩ := lgI_some h
        obtain ⟨rfl, h_2⟩ := st0_some h_1
        clear h h_1
        have h := h_2
        try rw [callW_eq] at h
        exact WW.le (a := [some (.inr (.inr (16, 0))), some (.inl a1), some (.inl a2), some (.inl v3), none]) (by rw [hn]; rfl) (show _ = _ ∧ _ = _ ∧ _ = _ ∧ _ = _ ∧ True from ⟨e0, e1, e2, e3, trivial⟩) (h48 v3 w h)
      rw [if_neg hj] at h
      cases h
    · exact (show _ = _ ∧ _ = _ ∧ _ = _ ∧ True from ⟨rfl, rfl, rfl, trivial⟩)
set_option maxRecDepth 100000 in
set_option maxHeartbeats 4000000 in
theorem sX12_fewest_19 {N : Nat} {X : XT} (G : GX X cX12_fewest RX12) (hn : xnL X = 5) (hC : CRs X tX12_fewest (oF [(mX12_isIn N), (mX12_manyOf N), (mX12_allLed N)]) (oF []) (oF [])) {r : Int32 × Wd} (hr : RTI X cX12_fewest r) (a1 : Int32) (a2 : Int32) : ∀ (n : Nat) (v3 : Int32) (w : Wd), fX12_fewest_19 N a1 a2 n v3 w = some r → WW X (pcAt tX12_fewest 19) [some (.inr (.inr (16, 0))), some (.inl a1), some (.inl a2), some (.inl v3), none] [] w := by
  intro n
  induction n with
  | zero => intro v3 w h; cases h
  | succ n ih =>
    intro v3 w h
    refine run_sound (r := r) (X := X) (cc := cX12_fewest) (own := RX12) (tab := tX12_fewest) G (by rw [hn]; exact kX12_fewest) (oI := (oF [(mX12_isIn N), (mX12_manyOf N), (mX12_allLed N)])) (oL := (oF [])) (oV := (oF [])) (rI := (fun x w => some (x, w))) (rL := (fun _ _ => none)) (rV := (fun _ => none))
      (K := (fun j ls st w => if j = 25 then (lgI ls 3 fun v3 => lgI ls 4 fun v4 => st0 st (callW (fX12_fewest_25 N a1 a2 N (fX12_fewest_48 N a1 a2 (fX12_fewest_19 N a1 a2 n)) v3 v4) w)) else none)) (fun x w pc ls hx hd => hr x w pc ls (Option.some.inj hx) hd) (fun _ _ _ _ hx => by cases hx) (fun _ _ _ hx => by cases hx) hC (fun ls => lsb [some (.inr (.inr (16, 0))), some (.inl a1), some (.inl a2), none, none] 0 ls) (keepsP_of rfl) ?_ 54 19 [some (.inr (.inr (16, 0))), some (.inl a1), some (.inl a2), some (.inl v3), none] [] w ?_ h
    · intro j ls st w hfx h
      obtain ⟨e0, e1, e2, -⟩ : _ = _ ∧ _ = _ ∧ _ = _ ∧ True := hfx
      try dsimp only at h
      by_cases hj : j = 25
      · subst hj
        rw [if_pos rfl] at h
        obtain ⟨v3, e3, h_1⟩ := lgI_some h
        obtain ⟨v4, e4, h_2⟩ := lgI_some h_1
        obtain ⟨rfl, h_3⟩ := st0_some h_2
        clear h h_1 h_2
        have h := h_3
        try rw [callW_eq] at h
        exact WW.le (a := [some (.inr (.inr (16, 0))), some (.inl a1), some (.inl a2), some (.inl v3), some (.inl v4)]) (by rw [hn]; rfl) (show _ = _ ∧ _ = _ ∧ _ = _ ∧ _ = _ ∧ _ = _ ∧ True from ⟨e0, e1, e2, e3, e4, trivial⟩) (sX12_fewest_25 G hn hC hr a1 a2 N (fX12_fewest_48 N a1 a2 (fX12_fewest_19 N a1 a2 n)) v3 v4 w h (fun v3 w h => (sX12_fewest_48 G hn hC hr a1 a2 (fX12_fewest_19 N a1 a2 n) v3 w h (fun v3 w h => (ih v3 w h)))))
      rw [if_neg hj] at h
      cases h
    · exact (show _ = _ ∧ _ = _ ∧ _ = _ ∧ True from ⟨rfl, rfl, rfl, trivial⟩)
set_option maxRecDepth 100000 in
set_option maxHeartbeats 4000000 in
theorem crX12_fewest {N : Nat} {X : XT} (G : GX X cX12_fewest RX12) (hR : xR X = rmL 7) : CRs X tX12_fewest (oF [(mX12_isIn N), (mX12_manyOf N), (mX12_allLed N)]) (oF []) (oF []) := by
  have hl : tX12_fewest.filter isInv = [(21, .invokestatic 241, 0, 0, 3, 0, 0, []), (55, .invokestatic 485, 0, 1, 1, 0, 0, []), (66, .invokevirtual 573, 0, 2, 3, 0, 0, [])] := rfl
  intro e he
  rw [hl] at he
  simp only [List.mem_cons, List.not_mem_nil, or_false] at he
  rcases he with rfl | rfl | rfl
  · exact crI_S (idx := 241) G (by decide +kernel) (MX12_isIn N) (cw_of (ps := [1986, 1987, 164, 1988]) (by decide +kernel) (by decide +kernel)) ⟨by decide +kernel, by decide +kernel, by decide +kernel⟩ (by unfold rmOk; rw [hR]; exact ⟨by decide, by decide⟩)
  · exact crI_S (idx := 485) G (by decide +kernel) (MX12_manyOf N) (cw_of (ps := [2135, 2136, 164, 2137]) (by decide +kernel) (by decide +kernel)) ⟨by decide +kernel, by decide +kernel, by decide +kernel⟩ (by unfold rmOk; rw [hR]; exact ⟨by decide, by decide⟩)
  · exact crI_V (idx := 573) G (by decide +kernel) (MX12_allLed N) (cw_of (ps := [2273, 2275, 136, 164, 2276]) (by decide +kernel) (by decide +kernel)) ⟨by decide +kernel, by decide +kernel, by decide +kernel⟩ (by unfold rmOk; rw [hR]; exact ⟨by decide, by decide⟩)
set_option maxRecDepth 100000 in
set_option maxHeartbeats 4000000 in
theorem MX12_fewest (N : Nat) : SndI yX12_fewest cX12_fewest 5 (some .int) 7 3 true (mX12_fewest N) := by
  refine SndI.of tX12_fewest (by decide +kernel) rfl rfl ?_ ?_
  · intro as w x h
    obtain ⟨t1, rfl, h_1⟩ := xS1_some h
    obtain ⟨a1, t2, rfl, h_2⟩ := xI1_some h_1
    obtain ⟨a2, t3, rfl, h_3⟩ := xI1_some h_2
    obtain ⟨rfl, h_4⟩ := xN1_some h_3
    clear h h_1 h_2 h_3
    have h := h_4
    rw [callW_eq] at h
    exact ⟨fun _ => ⟨_, _, _, rfl, rfl, _, rfl, rfl⟩, rfl, Nat.le_of_ble_eq_true rfl⟩
  · intro X G hn hR as w r h hr
    have hC := crX12_fewest (N := N) G hR
    obtain ⟨t1, rfl, h_1⟩ := xS1_some h
    obtain ⟨a1, t2, rfl, h_2⟩ := xI1_some h_1
    obtain ⟨a2, t3, rfl, h_3⟩ := xI1_some h_2
    obtain ⟨rfl, h_4⟩ := xN1_some h_3
    clear h h_1 h_2 h_3
    have h := h_4
    rw [callW_eq] at h
    refine run_sound (r := r) (X := X) (cc := cX12_fewest) (own := RX12) (tab := tX12_fewest) G (by rw [hn]; exact kX12_fewest) (oI := (oF [(mX12_isIn N), (mX12_manyOf N), (mX12_allLed N)])) (oL := (oF [])) (oV := (oF [])) (rI := (fun x w => some (x, w))) (rL := (fun _ _ => none)) (rV := (fun _ => none))
      (K := (fun j ls st w => if j = 19 then (lgI ls 3 fun v3 => st0 st (callW (fX12_fewest_19 N a1 a2 N v3) w)) else none)) (fun x w pc ls hx hd => hr x w pc ls (Option.some.inj hx) hd) (fun _ _ _ _ hx => by cases hx) (fun _ _ _ hx => by cases hx) hC (fun ls => lsb [some (.inr (.inr (16, 0))), some (.inl a1), some (.inl a2), none, none] 0 ls) (keepsP_of rfl) ?_ 54 0 [some (.inr (.inr (16, 0))), some (.inl a1), some (.inl a2), none, none] [] w ?_ h
    · intro j ls st w hfx h
      obtain ⟨e0, e1, e2, -⟩ : _ = _ ∧ _ = _ ∧ _ = _ ∧ True := hfx
      try dsimp only at h
      by_cases hj : j = 19
      · subst hj
        rw [if_pos rfl] at h
        obtain ⟨v3, e3, h_1⟩ := lgI_some h
        obtain ⟨rfl, h_2⟩ := st0_some h_1
        clear h h_1
        have h := h_2
        try rw [callW_eq] at h
        exact WW.le (a := [some (.inr (.inr (16, 0))), some (.inl a1), some (.inl a2), some (.inl v3), none]) (by rw [hn]; rfl) (show _ = _ ∧ _ = _ ∧ _ = _ ∧ _ = _ ∧ True from ⟨e0, e1, e2, e3, trivial⟩) (sX12_fewest_19 G hn hC hr a1 a2 N v3 w h)
      rw [if_neg hj] at h
      cases h
    · exact (show _ = _ ∧ _ = _ ∧ _ = _ ∧ True from ⟨rfl, rfl, rfl, trivial⟩)
-- MoorGuidesModel.turn(II)V
def tX12_turn : List EN := [
  (0, .aload_n 0, 0, 0, 0, 0, 0, []), (1, .getfield 154, 0, 12, 88, 0, 0, []), (4, .iload_n 1, 0, 0, 0, 0, 0, []), (5, .iaload, 0, 0, 0, 0, 0, []),
  (6, .istore_n 3, 0, 0, 0, 0, 0, []), (7, .aload_n 0, 0, 0, 0, 0, 0, []), (8, .getfield 154, 0, 12, 88, 0, 0, []), (11, .iload_n 1, 0, 0, 0, 0, 0, []),
  (12, .aload_n 0, 0, 0, 0, 0, 0, []), (13, .getfield 154, 0, 12, 88, 0, 0, []), (16, .iload_n 2, 0, 0, 0, 0, 0, []), (17, .iaload, 0, 0, 0, 0, 0, []),
  (18, .iastore, 0, 0, 0, 0, 0, []), (19, .aload_n 0, 0, 0, 0, 0, 0, []), (20, .getfield 154, 0, 12, 88, 0, 0, []), (23, .iload_n 2, 0, 0, 0, 0, 0, []),
  (24, .iload_n 3, 0, 0, 0, 0, 0, []), (25, .iastore, 0, 0, 0, 0, 0, []), (26, .return_, 0, 0, 0, 0, 0, [])]
noncomputable def pX12_turn (N : Nat) (a1 : Int32) (a2 : Int32) (w : Wd) : Option (Wd) :=
  (ldI w 119 0 a1 8).bind fun x1 =>
  (ldI w 119 0 a2 8).bind fun x2 =>
  (stI w 119 0 a1 8 x2).bind fun w3 =>
  (stI w3 119 0 a2 8 x1).bind fun w4 =>
  some w4
noncomputable def mX12_turn (N : Nat) (as : List AV) (w : Wd) : Option (Wd) := xS1 16 as fun t => xI1 t fun a1 t => xI1 t fun a2 t => xN1 t (callW (pX12_turn N a1 a2) w)
set_option maxRecDepth 100000 in
set_option maxHeartbeats 4000000 in
theorem kX12_turn : TK cX12_turn RX12 4 tX12_turn := ⟨by decide +kernel, wok_of [1688, 1688, 1688, 1688] (by decide +kernel) (by decide +kernel)⟩
set_option maxRecDepth 100000 in
set_option maxHeartbeats 4000000 in
theorem crX12_turn {N : Nat} {X : XT} (G : GX X cX12_turn RX12) (hR : xR X = rmL 1) : CRs X tX12_turn (oF []) (oF []) (oF []) := by
  have hl : tX12_turn.filter isInv = [] := rfl
  intro e he
  rw [hl] at he
  cases he
set_option maxRecDepth 100000 in
set_option maxHeartbeats 4000000 in
theorem MX12_turn (N : Nat) : SndV yX12_turn cX12_turn 4 none 1 3 true (mX12_turn N) := by
  refine SndV.of tX12_turn (by decide +kernel) rfl rfl ?_ ?_
  · intro as w x h
    obtain ⟨t1, rfl, h_1⟩ := xS1_some h
    obtain ⟨a1, t2, rfl, h_2⟩ := xI1_some h_1
    obtain ⟨a2, t3, rfl, h_3⟩ := xI1_some h_2
    obtain ⟨rfl, h_4⟩ := xN1_some h_3
    clear h h_1 h_2 h_3
    have h := h_4
    rw [callW_eq] at h
    exact ⟨fun _ => ⟨_, _, _, rfl, rfl, _, rfl, rfl⟩, rfl, Nat.le_of_ble_eq_true rfl⟩
  · intro X G hn hR as w r h hr
    have hC := crX12_turn (N := N) G hR
    obtain ⟨t1, rfl, h_1⟩ := xS1_some h
    obtain ⟨a1, t2, rfl, h_2⟩ := xI1_some h_1
    obtain ⟨a2, t3, rfl, h_3⟩ := xI1_some h_2
    obtain ⟨rfl, h_4⟩ := xN1_some h_3
    clear h h_1 h_2 h_3
    have h := h_4
    rw [callW_eq] at h
    refine run_sound (r := r) (X := X) (cc := cX12_turn) (own := RX12) (tab := tX12_turn) G (by rw [hn]; exact kX12_turn) (oI := (oF [])) (oL := (oF [])) (oV := (oF [])) (rI := (fun _ _ => none)) (rL := (fun _ _ => none)) (rV := (fun w => some w))
      (K := (fun j ls st w => none)) (fun _ _ _ _ hx => by cases hx) (fun _ _ _ _ hx => by cases hx) (fun w pc ls hx hd => hr w pc ls (Option.some.inj hx) hd) hC (fun ls => lsb [some (.inr (.inr (16, 0))), some (.inl a1), some (.inl a2), none] 0 ls) (keepsP_of rfl) ?_ 21 0 [some (.inr (.inr (16, 0))), some (.inl a1), some (.inl a2), none] [] w ?_ h
    · intro j ls st w hfx h
      obtain ⟨e0, e1, e2, -⟩ : _ = _ ∧ _ = _ ∧ _ = _ ∧ True := hfx
      try dsimp only at h
      cases h
    · exact (show _ = _ ∧ _ = _ ∧ _ = _ ∧ True from ⟨rfl, rfl, rfl, trivial⟩)
-- MoorGuidesModel.nextRow(I)Z
def tX12_nextRow : List EN := [
  (0, .iload_n 1, 0, 0, 0, 0, 0, []), (1, .iconst 2, 0, 0, 0, 2, 0, []), (2, .isub, 0, 0, 0, 0, 0, []), (3, .istore_n 2, 0, 0, 0, 0, 0, []),
  (4, .iload_n 2, 5, 0, 0, 0, 0, []), (5, .ifCond .lt 26, 0, 19, 0, 0, 0, []), (8, .aload_n 0, 0, 0, 0, 0, 0, []), (9, .getfield 154, 0, 12, 88, 0, 0, []),
  (12, .iload_n 2, 0, 0, 0, 0, 0, []), (13, .iaload, 0, 0, 0, 0, 0, []), (14, .aload_n 0, 0, 0, 0, 0, 0, []), (15, .getfield 154, 0, 12, 88, 0, 0, []),
  (18, .iload_n 2, 0, 0, 0, 0, 0, []), (19, .iconst 1, 0, 0, 0, 1, 0, []), (20, .iadd, 0, 0, 0, 0, 0, []), (21, .iaload, 0, 0, 0, 0, 0, []),
  (22, .if_icmp .le 9, 0, 19, 0, 0, 0, []), (25, .iinc 2 (-1), 0, 0, 0, (-1), 0, []), (28, .goto (-24), 0, 4, 0, 0, 0, []), (31, .iload_n 2, 20, 0, 0, 0, 0, []),
  (32, .ifCond .ge 5, 0, 23, 0, 0, 0, []), (35, .iconst 0, 0, 0, 0, 0, 0, []), (36, .ireturn, 0, 0, 0, 0, 0, []), (37, .iload_n 1, 0, 0, 0, 0, 0, []),
  (38, .iconst 1, 0, 0, 0, 1, 0, []), (39, .isub, 0, 0, 0, 0, 0, []), (40, .istore_n 3, 0, 0, 0, 0, 0, []), (41, .aload_n 0, 28, 0, 0, 0, 0, []),
  (42, .getfield 154, 0, 12, 88, 0, 0, []), (45, .iload_n 3, 0, 0, 0, 0, 0, []), (46, .iaload, 0, 0, 0, 0, 0, []), (47, .aload_n 0, 0, 0, 0, 0, 0, []),
  (48, .getfield 154, 0, 12, 88, 0, 0, []), (51, .iload_n 2, 0, 0, 0, 0, 0, []), (52, .iaload, 0, 0, 0, 0, 0, []), (53, .if_icmp .ge 9, 0, 38, 0, 0, 0, []),
  (56, .iinc 3 (-1), 0, 0, 0, (-1), 0, []), (59, .goto (-18), 0, 27, 0, 0, 0, []), (62, .aload_n 0, 39, 0, 0, 0, 0, []), (63, .iload_n 2, 0, 0, 0, 0, 0, []),
  (64, .iload_n 3, 0, 0, 0, 0, 0, []), (65, .invokevirtual 576, 0, 0, 3, 0, 0, [(0, 0), (0, 0)]), (68, .iload_n 2, 0, 0, 0, 0, 0, []), (69, .iconst 1, 0, 0, 0, 1, 0, []),
  (70, .iadd, 0, 0, 0, 0, 0, []), (71, .istore 4, 0, 0, 0, 0, 0, []), (73, .iload_n 1, 0, 0, 0, 0, 0, []), (74, .iconst 1, 0, 0, 0, 1, 0, []),
  (75, .isub, 0, 0, 0, 0, 0, []), (76, .istore 5, 0, 0, 0, 0, 0, []), (78, .iload 4, 51, 0, 0, 0, 0, []), (80, .iload 5, 0, 0, 0, 0, 0, []),
  (82, .if_icmp .ge 20, 0, 60, 0, 0, 0, []), (85, .aload_n 0, 0, 0, 0, 0, 0, []), (86, .iload 4, 0, 0, 0, 0, 0, []), (88, .iload 5, 0, 0, 0, 0, 0, []),
  (90, .invokevirtual 576, 0, 0, 3, 0, 0, [(0, 0), (0, 0)]), (93, .iinc 4 1, 0, 0, 0, 1, 0, []), (96, .iinc 5 (-1), 0, 0, 0, (-1), 0, []), (99, .goto (-21), 0, 50, 0, 0, 0, []),
  (102, .iconst 1, 0, 0, 0, 1, 0, []), (103, .ireturn, 0, 0, 0, 0, 0, [])]
noncomputable def fX12_nextRow_50 (N : Nat) : Nat → Int32 → Int32 → Wd → Option (Int32 × Wd)
  | 0, _, _, _ => none
  | n + 1, v4, v5, w =>
    if v4 < v5 then
      (callW (pX12_turn N v4 v5) w).bind fun w1 =>
      callW (fX12_nextRow_50 N n (v4 + (1 : Int32)) (v5 + (-1 : Int32))) w1
    else
    some ((1 : Int32), w)
noncomputable def fX12_nextRow_38 (N : Nat) (a1 : Int32) (v2 : Int32) (v3 : Int32) (w : Wd) : Option (Int32 × Wd) :=
  (callW (pX12_turn N v2 v3) w).bind fun w1 =>
  callW (fX12_nextRow_50 N N (v2 + (1 : Int32)) (a1 - (1 : Int32))) w1
noncomputable def fX12_nextRow_27 (N : Nat) (a1 : Int32) : Nat → (Int32 → Int32 → Wd → Option (Int32 × Wd)) → Int32 → Int32 → Wd → Option (Int32 × Wd)
  | 0, _, _, _, _ => none
  | n + 1, k38, v2, v3, w =>
    (ldI w 119 0 v3 8).bind fun x1 =>
    (ldI w 119 0 v2 8).bind fun x2 =>
    if x1 < x2 then callW (fX12_nextRow_27 N a1 n k38 v2 (v3 + (-1 : Int32))) w else
    k38 v2 v3 w
noncomputable def fX12_nextRow_19 (N : Nat) (a1 : Int32) (v2 : Int32) (w : Wd) : Option (Int32 × Wd) :=
  if v2 < 0 then some ((0 : Int32), w) else
  callW (fX12_nextRow_27 N a1 N (fX12_nextRow_38 N a1) v2 (a1 - (1 : Int32))) w
noncomputable def fX12_nextRow_4 (N : Nat) (a1 : Int32) : Nat → (Int32 → Wd → Option (Int32 × Wd)) → Int32 → Wd → Option (Int32 × Wd)
  | 0, _, _, _ => none
  | n + 1, k19, v2, w =>
    if v2 < 0 then k19 v2 w else
    (ldI w 119 0 v2 8).bind fun x1 =>
    (ldI w 119 0 (v2 + (1 : Int32)) 8).bind fun x2 =>
    if x2 < x1 then callW (fX12_nextRow_4 N a1 n k19 (v2 + (-1 : Int32))) w else
    k19 v2 w
noncomputable def pX12_nextRow (N : Nat) (a1 : Int32) (w : Wd) : Option (Int32 × Wd) :=
  callW (fX12_nextRow_4 N a1 N (fX12_nextRow_19 N a1) (a1 - (2 : Int32))) w
noncomputable def mX12_nextRow (N : Nat) (as : List AV) (w : Wd) : Option (Int32 × Wd) := xS1 16 as fun t => xI1 t fun a1 t => xN1 t (callW (pX12_nextRow N a1) w)
set_option maxRecDepth 100000 in
set_option maxHeartbeats 4000000 in
theorem kX12_nextRow : TK cX12_nextRow RX12 6 tX12_nextRow := ⟨by decide +kernel, wok_of [1688, 1688, 1688, 1688] (by decide +kernel) (by decide +kernel)⟩
set_option maxRecDepth 100000 in
set_option maxHeartbeats 4000000 in
theorem sX12_nextRow_50 {N : Nat} {X : XT} (G : GX X cX12_nextRow RX12) (hn : xnL X = 6) (hC : CRs X tX12_nextRow (oF []) (oF []) (oF [(mX12_turn N)])) {r : Int32 × Wd} (hr : RTZ X cX12_nextRow r) (a1 : Int32) : ∀ (n : Nat) (v4 : Int32) (v5 : Int32) (w : Wd), fX12_nextRow_50 N n v4 v5 w = some r → WW X (pcAt tX12_nextRow 50) [some (.inr (.inr (16, 0))), some (.inl a1), none, none, some (.inl v4), some (.inl v5)] [] w := by
  intro n
  induction n with
  | zero => intro v4 v5 w h; cases h
  | succ n ih =>
    intro v4 v5 w h
    refine run_sound (r := r) (X := X) (cc := cX12_nextRow) (own := RX12) (tab := tX12_nextRow) G (by rw [hn]; exact kX12_nextRow) (oI := (oF [])) (oL := (oF [])) (oV := (oF [(mX12_turn N)])) (rI := retZ) (rL := (fun _ _ => none)) (rV := (fun _ => none))
      (K := (fun j ls st w => if j = 50 then (lgI ls 4 fun v4 => lgI ls 5 fun v5 => st0 st (callW (fX12_nextRow_50 N n v4 v5) w)) else none)) hr (fun _ _ _ _ hx => by cases hx) (fun _ _ _ hx => by cases hx) hC (fun ls => lsb [some (.inr (.inr (16, 0))), some (.inl a1), none, none, none, none] 0 ls) (keepsP_of rfl) ?_ 64 50 [some (.inr (.inr (16, 0))), some (.inl a1), none, none, some (.inl v4), some (.inl v5)] [] w ?_ h
    · intro j ls st w hfx h
      obtain ⟨e0, e1, -⟩ : _ = _ ∧ _ = _ ∧ True := hfx
      try dsimp only at h
      by_cases hj : j = 50
      · subst hj
        rw [if_pos rfl] at h
        obtain ⟨v4, e4, h_1⟩ := lgI_some h
        obtain ⟨v5, e5, h_2⟩ := lgI_some h_1
        obtain ⟨rfl, h_3⟩ := st0_some h_2
        clear h h_1 h_2
        have h := h_3
        try rw [callW_eq] at h
        exact WW.le (a := [some (.inr (.inr (16, 0))), some (.inl a1), none, none, some (.inl v4), some (.inl v5)]) (by rw [hn]; rfl) (show _ = _ ∧ _ = _ ∧ _ = _ ∧ _ = _ ∧ True from ⟨e0, e1, e4, e5, trivial⟩) (ih v4 v5 w h)
      rw [if_neg hj] at h
      cases h
    · exact (show _ = _ ∧ _ = _ ∧ True from ⟨rfl, rfl, trivial⟩)
set_option maxRecDepth 100000 in
set_option maxHeartbeats 4000000 in
theorem sX12_nextRow_38 {N : Nat} {X : XT} (G : GX X cX12_nextRow RX12) (hn : xnL X = 6) (hC : CRs X tX12_nextRow (oF []) (oF []) (oF [(mX12_turn N)])) {r : Int32 × Wd} (hr : RTZ X cX12_nextRow r) (a1 : Int32) : ∀ (v2 : Int32) (v3 : Int32) (w : Wd), fX12_nextRow_38 N a1 v2 v3 w = some r → WW X (pcAt tX12_nextRow 38) [some (.inr (.inr (16, 0))), some (.inl a1), some (.inl v2), some (.inl v3), none, none] [] w := by
  intro v2 v3 w h
  refine run_sound (r := r) (X := X) (cc := cX12_nextRow) (own := RX12) (tab := tX12_nextRow) G (by rw [hn]; exact kX12_nextRow) (oI := (oF [])) (oL := (oF [])) (oV := (oF [(mX12_turn N)])) (rI := retZ) (rL := (fun _ _ => none)) (rV := (fun _ => none))
    (K := (fun j ls st w => if j = 50 then (lgI ls 4 fun v4 => lgI ls 5 fun v5 => st0 st (callW (fX12_nextRow_50 N N v4 v5) w)) else none)) hr (fun _ _ _ _ hx => by cases hx) (fun _ _ _ hx => by cases hx) hC (fun ls => lsb [some (.inr (.inr (16, 0))), some (.inl a1), none, none, none, none] 0 ls) (keepsP_of rfl) ?_ 64 38 [some (.inr (.inr (16, 0))), some (.inl a1), some (.inl v2), some (.inl v3), none, none] [] w ?_ h
  · intro j ls st w hfx h
    obtain ⟨e0, e1, -⟩ : _ = _ ∧ _ = _ ∧ True := hfx
    try dsimp only at h
    by_cases hj : j = 50
    · subst hj
      rw [if_pos rfl] at h
      obtain ⟨v4, e4, h_1⟩ := lgI_some h
      obtain ⟨v5, e5, h_2⟩ := lgI_some h_1
      obtain ⟨rfl, h_3⟩ := st0_some h_2
      clear h h_1 h_2
      have h := h_3
      try rw [callW_eq] at h
      exact WW.le (a := [some (.inr (.inr (16, 0))), some (.inl a1), none, none, some (.inl v4), some (.inl v5)]) (by rw [hn]; rfl) (show _ = _ ∧ _ = _ ∧ _ = _ ∧ _ = _ ∧ True from ⟨e0, e1, e4, e5, trivial⟩) (sX12_nextRow_50 G hn hC hr a1 N v4 v5 w h)
    rw [if_neg hj] at h
    cases h
  · exact (show _ = _ ∧ _ = _ ∧ True from ⟨rfl, rfl, trivial⟩)
set_option maxRecDepth 100000 in
set_option maxHeartbeats 4000000 in
theorem sX12_nextRow_27 {N : Nat} {X : XT} (G : GX X cX12_nextRow RX12) (hn : xnL X = 6) (hC : CRs X tX12_nextRow (oF []) (oF []) (oF [(mX12_turn N)])) {r : Int32 × Wd} (hr : RTZ X cX12_nextRow r) (a1 : Int32) : ∀ (n : Nat) (k38 : Int32 → Int32 → Wd → Option (Int32 × Wd)) (v2 : Int32) (v3 : Int32) (w : Wd), fX12_nextRow_27 N a1 n k38 v2 v3 w = some r → (∀ (v2 : Int32) (v3 : Int32) (w : Wd), k38 v2 v3 w = some r → WW X (pcAt tX12_nextRow 38) [some (.inr (.inr (16, 0))), some (.inl a1), some (.inl v2), some (.inl v3), none, none] [] w) → WW X (pcAt tX12_nextRow 27) [some (.inr (.inr (16, 0))), some (.inl a1), some (.inl v2), some (.inl v3), none, none] [] w := by
  intro n
  induction n with
  | zero => intro k38 v2 v3 w h h38; cases h
  | succ n ih =>
    intro k38 v2 v3 w h h38
    refine run_sound (r := r) (X := X) (cc := cX12_nextRow) (own := RX12) (tab := tX12_nextRow) G (by rw [hn]; exact kX12_nextRow) (oI := (oF [])) (oL := (oF [])) (oV := (oF [(mX12_turn N)])) (rI := retZ) (rL := (fun _ _ => none)) (rV := (fun _ => none))
      (K := (fun j ls st w => if j = 27 then (lgI ls 2 fun v2 => lgI ls 3 fun v3 => st0 st (callW (fX12_nextRow_27 N a1 n k38 v2 v3) w)) else if j = 38 then (lgI ls 2 fun v2 => lgI ls 3 fun v3 => st0 st (k38 v2 v3 w)) else none)) hr (fun _ _ _ _ hx => by cases hx) (fun _ _ _ hx => by cases hx) hC (fun ls => lsb [some (.inr (.inr (16, 0))), some (.inl a1), none, none, none, none] 0 ls) (keepsP_of rfl) ?_ 64 27 [some (.inr (.inr (16, 0))), some (.inl a1), some (.inl v2), some (.inl v3), none, none] [] w ?_ h
    · intro j ls st w hfx h
      obtain ⟨e0, e1, -⟩ : _ = _ ∧ _ = _ ∧ True := hfx
      try dsimp only at h
      by_cases hj : j = 27
      · subst hj
        rw [if_pos rfl] at h
        obtain ⟨v2, e2, h_1⟩ := lgI_some h
        obtain ⟨v3, e3, h_2⟩ := lgI_some h_1
        obtain ⟨rfl, h_3⟩ := st0_some h_2
        clear h h_1 h_2
        have h := h_3
        try rw [callW_eq] at h
        exact WW.le (a := [some (.inr (.inr (16, 0))), some (.inl a1), some (.inl v2), some (.inl v3), none, none]) (by rw [hn]; rfl) (show _ = _ ∧ _ = _ ∧ _ = _ ∧ _ = _ ∧ True from ⟨e0, e1, e2, e3, trivial⟩) (ih k38 v2 v3 w h h38)
      rw [if_neg hj] at h
      by_cases hj : j = 38
      · subst hj
        rw [if_pos rfl] at h
        obtain ⟨v2, e2, h_1⟩ := lgI_some h
        obtain ⟨v3, e3, h_2⟩ := lgI_some h_1
        obtain ⟨rfl, h_3⟩ := st0_some h_2
        clear h h_1 h_2
        have h := h_3
        try rw [callW_eq] at h
        exact WW.le (a := [some (.inr (.inr (16, 0))), some (.inl a1), some (.inl v2), some (.inl v3), none, none]) (by rw [hn]; rfl) (show _ = _ ∧ _ = _ ∧ _ = _ ∧ _ = _ ∧ True from ⟨e0, e1, e2, e3, trivial⟩) (h38 v2 v3 w h)
      rw [if_neg hj] at h
      cases h
    · exact (show _ = _ ∧ _ = _ ∧ True from ⟨rfl, rfl, trivial⟩)
set_option maxRecDepth 100000 in
set_option maxHeartbeats 4000000 in
theorem sX12_nextRow_19 {N : Nat} {X : XT} (G : GX X cX12_nextRow RX12) (hn : xnL X = 6) (hC : CRs X tX12_nextRow (oF []) (oF []) (oF [(mX12_turn N)])) {r : Int32 × Wd} (hr : RTZ X cX12_nextRow r) (a1 : Int32) : ∀ (v2 : Int32) (w : Wd), fX12_nextRow_19 N a1 v2 w = some r → WW X (pcAt tX12_nextRow 19) [some (.inr (.inr (16, 0))), some (.inl a1), some (.inl v2), none, none, none] [] w := by
  intro v2 w h
  refine run_sound (r := r) (X := X) (cc := cX12_nextRow) (own := RX12) (tab := tX12_nextRow) G (by rw [hn]; exact kX12_nextRow) (oI := (oF [])) (oL := (oF [])) (oV := (oF [(mX12_turn N)])) (rI := retZ) (rL := (fun _ _ => none)) (rV := (fun _ => none))
    (K := (fun j ls st w => if j = 27 then (lgI ls 2 fun v2 => lgI ls 3 fun v3 => st0 st (callW (fX12_nextRow_27 N a1 N (fX12_nextRow_38 N a1) v2 v3) w)) else none)) hr (fun _ _ _ _ hx => by cases hx) (fun _ _ _ hx => by cases hx) hC (fun ls => lsb [some (.inr (.inr (16, 0))), some (.inl a1), none, none, none, none] 0 ls) (keepsP_of rfl) ?_ 64 19 [some (.inr (.inr (16, 0))), some (.inl a1), some (.inl v2), none, none, none] [] w ?_ h
  · intro j ls st w hfx h
    obtain ⟨e0, e1, -⟩ : _ = _ ∧ _ = _ ∧ True := hfx
    try dsimp only at h
    by_cases hj : j = 27
    · subst hj
      rw [if_pos rfl] at h
      obtain ⟨v2, e2, h_1⟩ := lgI_some h
      obtain ⟨v3, e3, h_2⟩ := lgI_some h_1
      obtain ⟨rfl, h_3⟩ := st0_some h_2
      clear h h_1 h_2
      have h := h_3
      try rw [callW_eq] at h
      exact WW.le (a := [some (.inr (.inr (16, 0))), some (.inl a1), some (.inl v2), some (.inl v3), none, none]) (by rw [hn]; rfl) (show _ = _ ∧ _ = _ ∧ _ = _ ∧ _ = _ ∧ True from ⟨e0, e1, e2, e3, trivial⟩) (sX12_nextRow_27 G hn hC hr a1 N (fX12_nextRow_38 N a1) v2 v3 w h (fun v2 v3 w h => (sX12_nextRow_38 G hn hC hr a1 v2 v3 w h)))
    rw [if_neg hj] at h
    cases h
  · exact (show _ = _ ∧ _ = _ ∧ True from ⟨rfl, rfl, trivial⟩)
set_option maxRecDepth 100000 in
set_option maxHeartbeats 4000000 in
theorem sX12_nextRow_4 {N : Nat} {X : XT} (G : GX X cX12_nextRow RX12) (hn : xnL X = 6) (hC : CRs X tX12_nextRow (oF []) (oF []) (oF [(mX12_turn N)])) {r : Int32 × Wd} (hr : RTZ X cX12_nextRow r) (a1 : Int32) : ∀ (n : Nat) (k19 : Int32 → Wd → Option (Int32 × Wd)) (v2 : Int32) (w : Wd), fX12_nextRow_4 N a1 n k19 v2 w = some r → (∀ (v2 : Int32) (w : Wd), k19 v2 w = some r → WW X (pcAt tX12_nextRow 19) [some (.inr (.inr (16, 0))), some (.inl a1), some (.inl v2), none, none, none] [] w) → WW X (pcAt tX12_nextRow 4) [some (.inr (.inr (16, 0))), some (.inl a1), some (.inl v2), none, none, none] [] w := by
  intro n
  induction n with
  | zero => intro k19 v2 w h h19; cases h
  | succ n ih =>
    intro k19 v2 w h h19
    refine run_sound (r := r) (X := X) (cc := cX12_nextRow) (own := RX12) (tab := tX12_nextRow) G (by rw [hn]; exact kX12_nextRow) (oI := (oF [])) (oL := (oF [])) (oV := (oF [(mX12_turn N)])) (rI := retZ) (rL := (fun _ _ => none)) (rV := (fun _ => none))
      (K := (fun j ls st w => if j = 4 then (lgI ls 2 fun v2 => st0 st (callW (fX12_nextRow_4 N a1 n k19 v2) w)) else if j = 19 then (lgI ls 2 fun v2 => st0 st (k19 v2 w)) else none)) hr (fun _ _ _ _ hx => by cases hx) (fun _ _ _ hx => by cases hx) hC (fun ls => lsb [some (.inr (.inr (16, 0))), some (.inl a1), none, none, none, none] 0 ls) (keepsP_of rfl) ?_ 64 4 [some (.inr (.inr (16, 0))), some (.inl a1), some (.inl v2), none, none, none] [] w ?_ h
    · intro j ls st w hfx h
      obtain ⟨e0, e1, -⟩ : _ = _ ∧ _ = _ ∧ True := hfx
      try dsimp only at h
      by_cases hj : j = 4
      · subst hj
        rw [if_pos rfl] at h
        obtain ⟨v2, e2, h_1⟩ := lgI_some h
        obtain ⟨rfl, h_2⟩ := st0_some h_1
        clear h h_1
        have h := h_2
        try rw [callW_eq] at h
        exact WW.le (a := [some (.inr (.inr (16, 0))), some (.inl a1), some (.inl v2), none, none, none]) (by rw [hn]; rfl) (show _ = _ ∧ _ = _ ∧ _ = _ ∧ True from ⟨e0, e1, e2, trivial⟩) (ih k19 v2 w h h19)
      rw [if_neg hj] at h
      by_cases hj : j = 19
      · subst hj
        rw [if_pos rfl] at h
        obtain ⟨v2, e2, h_1⟩ := lgI_some h
        obtain ⟨rfl, h_2⟩ := st0_some h_1
        clear h h_1
        have h := h_2
        try rw [callW_eq] at h
        exact WW.le (a := [some (.inr (.inr (16, 0))), some (.inl a1), some (.inl v2), none, none, none]) (by rw [hn]; rfl) (show _ = _ ∧ _ = _ ∧ _ = _ ∧ True from ⟨e0, e1, e2, trivial⟩) (h19 v2 w h)
      rw [if_neg hj] at h
      cases h
    · exact (show _ = _ ∧ _ = _ ∧ True from ⟨rfl, rfl, trivial⟩)
set_option maxRecDepth 100000 in
set_option maxHeartbeats 4000000 in
theorem crX12_nextRow {N : Nat} {X : XT} (G : GX X cX12_nextRow RX12) (hR : xR X = rmL 2) : CRs X tX12_nextRow (oF []) (oF []) (oF [(mX12_turn N)]) := by
  have hl : tX12_nextRow.filter isInv = [(65, .invokevirtual 576, 0, 0, 3, 0, 0, [(0, 0), (0, 0)]), (90, .invokevirtual 576, 0, 0, 3, 0, 0, [(0, 0), (0, 0)])] := rfl
  intro e he
  rw [hl] at he
  simp only [List.mem_cons, List.not_mem_nil, or_false] at he
  rcases he with rfl | rfl
  · exact crV_V (idx := 576) G (by decide +kernel) (MX12_turn N) (cw_of (ps := [2298, 2300, 141, 164, 2301]) (by decide +kernel) (by decide +kernel)) ⟨by decide +kernel, by decide +kernel, by decide +kernel⟩ (by unfold rmOk; rw [hR]; exact ⟨by decide, by decide⟩)
  · exact crV_V (idx := 576) G (by decide +kernel) (MX12_turn N) (cw_of (ps := [2298, 2300, 141, 164, 2301]) (by decide +kernel) (by decide +kernel)) ⟨by decide +kernel, by decide +kernel, by decide +kernel⟩ (by unfold rmOk; rw [hR]; exact ⟨by decide, by decide⟩)
set_option maxRecDepth 100000 in
set_option maxHeartbeats 4000000 in
theorem MX12_nextRow (N : Nat) : SndI yX12_nextRow cX12_nextRow 6 (some .boolean) 2 2 true (mX12_nextRow N) := by
  refine SndI.ofZ tX12_nextRow (by decide +kernel) rfl rfl ?_ ?_
  · intro as w x h
    obtain ⟨t1, rfl, h_1⟩ := xS1_some h
    obtain ⟨a1, t2, rfl, h_2⟩ := xI1_some h_1
    obtain ⟨rfl, h_3⟩ := xN1_some h_2
    clear h h_1 h_2
    have h := h_3
    rw [callW_eq] at h
    exact ⟨fun _ => ⟨_, _, _, rfl, rfl, _, rfl, rfl⟩, rfl, Nat.le_of_ble_eq_true rfl⟩
  · intro X G hn hR as w r h hr
    have hC := crX12_nextRow (N := N) G hR
    obtain ⟨t1, rfl, h_1⟩ := xS1_some h
    obtain ⟨a1, t2, rfl, h_2⟩ := xI1_some h_1
    obtain ⟨rfl, h_3⟩ := xN1_some h_2
    clear h h_1 h_2
    have h := h_3
    rw [callW_eq] at h
    refine run_sound (r := r) (X := X) (cc := cX12_nextRow) (own := RX12) (tab := tX12_nextRow) G (by rw [hn]; exact kX12_nextRow) (oI := (oF [])) (oL := (oF [])) (oV := (oF [(mX12_turn N)])) (rI := retZ) (rL := (fun _ _ => none)) (rV := (fun _ => none))
      (K := (fun j ls st w => if j = 4 then (lgI ls 2 fun v2 => st0 st (callW (fX12_nextRow_4 N a1 N (fX12_nextRow_19 N a1) v2) w)) else none)) hr (fun _ _ _ _ hx => by cases hx) (fun _ _ _ hx => by cases hx) hC (fun ls => lsb [some (.inr (.inr (16, 0))), some (.inl a1), none, none, none, none] 0 ls) (keepsP_of rfl) ?_ 64 0 [some (.inr (.inr (16, 0))), some (.inl a1), none, none, none, none] [] w ?_ h
    · intro j ls st w hfx h
      obtain ⟨e0, e1, -⟩ : _ = _ ∧ _ = _ ∧ True := hfx
      try dsimp only at h
      by_cases hj : j = 4
      · subst hj
        rw [if_pos rfl] at h
        obtain ⟨v2, e2, h_1⟩ := lgI_some h
        obtain ⟨rfl, h_2⟩ := st0_some h_1
        clear h h_1
        have h := h_2
        try rw [callW_eq] at h
        exact WW.le (a := [some (.inr (.inr (16, 0))), some (.inl a1), some (.inl v2), none, none, none]) (by rw [hn]; rfl) (show _ = _ ∧ _ = _ ∧ _ = _ ∧ True from ⟨e0, e1, e2, trivial⟩) (sX12_nextRow_4 G hn hC hr a1 N (fX12_nextRow_19 N a1) v2 w h (fun v2 w h => (sX12_nextRow_19 G hn hC hr a1 v2 w h)))
      rw [if_neg hj] at h
      cases h
    · exact (show _ = _ ∧ _ = _ ∧ True from ⟨rfl, rfl, trivial⟩)
-- MoorGuidesModel.upOf(I)J
def tX12_upOf : List EN := [
  (0, .aload_n 0, 0, 0, 0, 0, 0, []), (1, .invokevirtual 579, 0, 0, 1, 0, 0, [(0, 0), (0, 0)]), (4, .lconst 1, 0, 0, 0, 0, 1, []), (5, .lstore_n 2, 0, 0, 0, 0, 0, []),
  (6, .iconst 0, 0, 0, 0, 0, 0, []), (7, .istore 4, 0, 0, 0, 0, 0, []), (9, .iload 4, 7, 0, 0, 0, 0, []), (11, .aload_n 0, 0, 0, 0, 0, 0, []),
  (12, .getfield 582, 0, 12, 87, 0, 0, []), (15, .if_icmp .ge 94, 0, 69, 0, 0, 0, []), (18, .lload_n 2, 0, 0, 0, 0, 0, []), (19, .aload_n 0, 0, 0, 0, 0, 0, []),
  (20, .iconst 1, 0, 0, 0, 1, 0, []), (21, .iload_n 1, 0, 0, 0, 0, 0, []), (22, .aload_n 0, 0, 0, 0, 0, 0, []), (23, .getfield 154, 0, 12, 88, 0, 0, []),
  (26, .iload 4, 0, 0, 0, 0, 0, []), (28, .iaload, 0, 0, 0, 0, 0, []), (29, .aload_n 0, 0, 0, 0, 0, 0, []), (30, .getfield 438, 0, 12, 64, 0, 0, []),
  (33, .iload 4, 0, 0, 0, 0, 0, []), (35, .iadd, 0, 0, 0, 0, 0, []), (36, .invokevirtual 498, 0, 0, 5, 0, 0, []), (39, .i2l, 0, 0, 0, 0, 0, []),
  (40, .lmul, 0, 0, 0, 0, 0, []), (41, .lstore_n 2, 0, 0, 0, 0, 0, []), (42, .aload_n 0, 0, 0, 0, 0, 0, []), (43, .getfield 100, 0, 12, 66, 0, 0, []),
  (46, .bipush 48, 0, 0, 0, 48, 0, []), (48, .bipush 8, 0, 0, 0, 8, 0, []), (50, .iload_n 1, 0, 0, 0, 0, 0, []), (51, .imul, 0, 0, 0, 0, 0, []),
  (52, .iadd, 0, 0, 0, 0, 0, []), (53, .aload_n 0, 0, 0, 0, 0, 0, []), (54, .getfield 154, 0, 12, 88, 0, 0, []), (57, .iload 4, 0, 0, 0, 0, 0, []),
  (59, .iaload, 0, 0, 0, 0, 0, []), (60, .iadd, 0, 0, 0, 0, 0, []), (61, .aload_n 0, 0, 0, 0, 0, 0, []), (62, .getfield 438, 0, 12, 64, 0, 0, []),
  (65, .iload 4, 0, 0, 0, 0, 0, []), (67, .iadd, 0, 0, 0, 0, 0, []), (68, .iastore, 0, 0, 0, 0, 0, []), (69, .aload_n 0, 0, 0, 0, 0, 0, []),
  (70, .getfield 103, 0, 12, 67, 0, 0, []), (73, .bipush 48, 0, 0, 0, 48, 0, []), (75, .bipush 8, 0, 0, 0, 8, 0, []), (77, .iload_n 1, 0, 0, 0, 0, 0, []),
  (78, .imul, 0, 0, 0, 0, 0, []), (79, .iadd, 0, 0, 0, 0, 0, []), (80, .aload_n 0, 0, 0, 0, 0, 0, []), (81, .getfield 154, 0, 12, 88, 0, 0, []),
  (84, .iload 4, 0, 0, 0, 0, 0, []), (86, .iaload, 0, 0, 0, 0, 0, []), (87, .iadd, 0, 0, 0, 0, 0, []), (88, .iconst 0, 0, 0, 0, 0, 0, []),
  (89, .bastore, 0, 0, 0, 0, 0, []), (90, .aload_n 0, 0, 0, 0, 0, 0, []), (91, .getfield 109, 0, 12, 69, 0, 0, []), (94, .bipush 6, 0, 0, 0, 6, 0, []),
  (96, .iload_n 1, 0, 0, 0, 0, 0, []), (97, .iadd, 0, 0, 0, 0, 0, []), (98, .dup2, 0, 0, 0, 0, 0, []), (99, .iaload, 0, 0, 0, 0, 0, []),
  (100, .iconst 1, 0, 0, 0, 1, 0, []), (101, .iadd, 0, 0, 0, 0, 0, []), (102, .iastore, 0, 0, 0, 0, 0, []), (103, .iinc 4 1, 0, 0, 0, 1, 0, []),
  (106, .goto (-97), 0, 6, 0, 0, 0, []), (109, .lload_n 2, 0, 0, 0, 0, 0, []), (110, .lreturn, 0, 0, 0, 0, 0, [])]
noncomputable def fX12_upOf_6 (N : Nat) (a1 : Int32) : Nat → Int64 → Int32 → Wd → Option (Int64 × Wd)
  | 0, _, _, _ => none
  | n + 1, v2, v4, w =>
    if v4 < (gI w 16 0 87) then
      (ldI w 119 0 v4 8).bind fun x1 =>
      (callW (pX12_chanceOf N (1 : Int32) a1 x1 ((gI w 16 0 64) + v4)) w).bind fun r2 =>
      (ldI r2.2 119 0 v4 8).bind fun x3 =>
      (stI r2.2 101 0 (((48 : Int32) + ((8 : Int32) * a1)) + x3) 96 ((gI r2.2 16 0 64) + v4)).bind fun w4 =>
      (ldI w4 119 0 v4 8).bind fun x5 =>
      (stI w4 102 0 (((48 : Int32) + ((8 : Int32) * a1)) + x5) 96 ((0 : Int32) &&& 1)).bind fun w6 =>
      (ldI w6 104 0 ((6 : Int32) + a1) 12).bind fun x7 =>
      (stI w6 104 0 ((6 : Int32) + a1) 12 (x7 + (1 : Int32))).bind fun w8 =>
      callW (fX12_upOf_6 N a1 n (v2 * r2.1.toInt64) (v4 + (1 : Int32))) w8
    else
    some (v2, w)
noncomputable def pX12_upOf (N : Nat) (a1 : Int32) (w : Wd) : Option (Int64 × Wd) :=
  (callW (pX12_layTried N) w).bind fun w1 =>
  callW (fX12_upOf_6 N a1 N (1 : Int64) (0 : Int32)) w1
noncomputable def mX12_upOf (N : Nat) (as : List AV) (w : Wd) : Option (Int64 × Wd) := xS1 16 as fun t => xI1 t fun a1 t => xN1 t (callW (pX12_upOf N a1) w)
set_option maxRecDepth 100000 in
set_option maxHeartbeats 4000000 in
theorem kX12_upOf : TK cX12_upOf RX12 5 tX12_upOf := ⟨by decide +kernel, wok_of [1687, 1688, 1664, 1666, 1688, 1664, 1667, 1688, 1669] (by decide +kernel) (by decide +kernel)⟩
set_option maxRecDepth 100000 in
set_option maxHeartbeats 4000000 in
theorem sX12_upOf_6 {N : Nat} {X : XT} (G : GX X cX12_upOf RX12) (hn : xnL X = 5) (hC : CRs X tX12_upOf (oF [(mX12_chanceOf N)]) (oF []) (oF [(mX12_layTried N)])) {r : Int64 × Wd} (hr : RTL X cX12_upOf r) (a1 : Int32) : ∀ (n : Nat) (v2 : Int64) (v4 : Int32) (w : Wd), fX12_upOf_6 N a1 n v2 v4 w = some r → WW X (pcAt tX12_upOf 6) [some (.inr (.inr (16, 0))), some (.inl a1), some (.inr (.inl v2)), none, some (.inl v4)] [] w := by
  intro n
  induction n with
  | zero => intro v2 v4 w h; cases h
  | succ n ih =>
    intro v2 v4 w h
    refine run_sound (r := r) (X := X) (cc := cX12_upOf) (own := RX12) (tab := tX12_upOf) G (by rw [hn]; exact kX12_upOf) (oI := (oF [(mX12_chanceOf N)])) (oL := (oF [])) (oV := (oF [(mX12_layTried N)])) (rI := (fun _ _ => none)) (rL := (fun x w => some (x, w))) (rV := (fun _ => none))
      (K := (fun j ls st w => if j = 6 then (lgL ls 2 fun v2 => lgI ls 4 fun v4 => st0 st (callW (fX12_upOf_6 N a1 n v2 v4) w)) else none)) (fun _ _ _ _ hx => by cases hx) (fun x w pc ls hx hd => hr x w pc ls (Option.some.inj hx) hd) (fun _ _ _ hx => by cases hx) hC (fun ls => lsb [some (.inr (.inr (16, 0))), some (.inl a1), none, none, none] 0 ls) (keepsP_of rfl) ?_ 73 6 [some (.inr (.inr (16, 0))), some (.inl a1), some (.inr (.inl v2)), none, some (.inl v4)] [] w ?_ h
    · intro j ls st w hfx h
      obtain ⟨e0, e1, -⟩ : _ = _ ∧ _ = _ ∧ True := hfx
      try dsimp only at h
      by_cases hj : j = 6
      · subst hj
        rw [if_pos rfl] at h
        obtain ⟨v2, e2, h_1⟩ := lgL_some h
        obtain ⟨v4, e4, h_2⟩ := lgI_some h_1
        obtain ⟨rfl, h_3⟩ := st0_some h_2
        clear h h_1 h_2
        have h := h_3
        try rw [callW_eq] at h
        exact WW.le (a := [some (.inr (.inr (16, 0))), some (.inl a1), some (.inr (.inl v2)), none, some (.inl v4)]) (by rw [hn]; rfl) (show _ = _ ∧ _ = _ ∧ _ = _ ∧ _ = _ ∧ True from ⟨e0, e1, e2, e4, trivial⟩) (ih v2 v4 w h)
      rw [if_neg hj] at h
      cases h
    · exact (show _ = _ ∧ _ = _ ∧ True from ⟨rfl, rfl, trivial⟩)
set_option maxRecDepth 100000 in
set_option maxHeartbeats 4000000 in
theorem crX12_upOf {N : Nat} {X : XT} (G : GX X cX12_upOf RX12) (hR : xR X = rmL 6) : CRs X tX12_upOf (oF [(mX12_chanceOf N)]) (oF []) (oF [(mX12_layTried N)]) := by
  have hl : tX12_upOf.filter isInv = [(1, .invokevirtual 579, 0, 0, 1, 0, 0, [(0, 0), (0, 0)]), (36, .invokevirtual 498, 0, 0, 5, 0, 0, [])] := rfl
  intro e he
  rw [hl] at he
  simp only [List.mem_cons, List.not_mem_nil, or_false] at he
  rcases he with rfl | rfl
  · exact crV_V (idx := 579) G (by decide +kernel) (MX12_layTried N) (cw_of (ps := [2290, 2292, 139, 164, 2293]) (by decide +kernel) (by decide +kernel)) ⟨by decide +kernel, by decide +kernel, by decide +kernel⟩ (by unfold rmOk; rw [hR]; exact ⟨by decide, by decide⟩)
  · exact crI_V (idx := 498) G (by decide +kernel) (MX12_chanceOf N) (cw_of (ps := [2127, 2129, 113, 164, 2130]) (by decide +kernel) (by decide +kernel)) ⟨by decide +kernel, by decide +kernel, by decide +kernel⟩ (by unfold rmOk; rw [hR]; exact ⟨by decide, by decide⟩)
set_option maxRecDepth 100000 in
set_option maxHeartbeats 4000000 in
theorem MX12_upOf (N : Nat) : SndL yX12_upOf cX12_upOf 5 (some .long) 6 2 true (mX12_upOf N) := by
  refine SndL.of tX12_upOf (by decide +kernel) rfl rfl ?_ ?_
  · intro as w x h
    obtain ⟨t1, rfl, h_1⟩ := xS1_some h
    obtain ⟨a1, t2, rfl, h_2⟩ := xI1_some h_1
    obtain ⟨rfl, h_3⟩ := xN1_some h_2
    clear h h_1 h_2
    have h := h_3
    rw [callW_eq] at h
    exact ⟨fun _ => ⟨_, _, _, rfl, rfl, _, rfl, rfl⟩, rfl, Nat.le_of_ble_eq_true rfl⟩
  · intro X G hn hR as w r h hr
    have hC := crX12_upOf (N := N) G hR
    obtain ⟨t1, rfl, h_1⟩ := xS1_some h
    obtain ⟨a1, t2, rfl, h_2⟩ := xI1_some h_1
    obtain ⟨rfl, h_3⟩ := xN1_some h_2
    clear h h_1 h_2
    have h := h_3
    rw [callW_eq] at h
    refine run_sound (r := r) (X := X) (cc := cX12_upOf) (own := RX12) (tab := tX12_upOf) G (by rw [hn]; exact kX12_upOf) (oI := (oF [(mX12_chanceOf N)])) (oL := (oF [])) (oV := (oF [(mX12_layTried N)])) (rI := (fun _ _ => none)) (rL := (fun x w => some (x, w))) (rV := (fun _ => none))
      (K := (fun j ls st w => if j = 6 then (lgL ls 2 fun v2 => lgI ls 4 fun v4 => st0 st (callW (fX12_upOf_6 N a1 N v2 v4) w)) else none)) (fun _ _ _ _ hx => by cases hx) (fun x w pc ls hx hd => hr x w pc ls (Option.some.inj hx) hd) (fun _ _ _ hx => by cases hx) hC (fun ls => lsb [some (.inr (.inr (16, 0))), some (.inl a1), none, none, none] 0 ls) (keepsP_of rfl) ?_ 73 0 [some (.inr (.inr (16, 0))), some (.inl a1), none, none, none] [] w ?_ h
    · intro j ls st w hfx h
      obtain ⟨e0, e1, -⟩ : _ = _ ∧ _ = _ ∧ True := hfx
      try dsimp only at h
      by_cases hj : j = 6
      · subst hj
        rw [if_pos rfl] at h
        obtain ⟨v2, e2, h_1⟩ := lgL_some h
        obtain ⟨v4, e4, h_2⟩ := lgI_some h_1
        obtain ⟨rfl, h_3⟩ := st0_some h_2
        clear h h_1 h_2
        have h := h_3
        try rw [callW_eq] at h
        exact WW.le (a := [some (.inr (.inr (16, 0))), some (.inl a1), some (.inr (.inl v2)), none, some (.inl v4)]) (by rw [hn]; rfl) (show _ = _ ∧ _ = _ ∧ _ = _ ∧ _ = _ ∧ True from ⟨e0, e1, e2, e4, trivial⟩) (sX12_upOf_6 G hn hC hr a1 N v2 v4 w h)
      rw [if_neg hj] at h
      cases h
    · exact (show _ = _ ∧ _ = _ ∧ True from ⟨rfl, rfl, trivial⟩)
-- MoorGuidesModel.layOrder(II)Z
def tX12_layOrder : List EN := [
  (0, .aload_n 0, 0, 0, 0, 0, 0, []), (1, .iload_n 1, 0, 0, 0, 0, 0, []), (2, .invokevirtual 463, 0, 0, 2, 0, 0, []), (5, .ifCond .eq 16, 0, 11, 0, 0, 0, []),
  (8, .iload_n 2, 0, 0, 0, 0, 0, []), (9, .iconst 1, 0, 0, 0, 1, 0, []), (10, .if_icmp .lt 11, 0, 11, 0, 0, 0, []), (13, .aload_n 0, 0, 0, 0, 0, 0, []),
  (14, .iload_n 2, 0, 0, 0, 0, 0, []), (15, .invokevirtual 567, 0, 1, 2, 0, 0, []), (18, .ifCond .ne 5, 0, 13, 0, 0, 0, []), (21, .iconst 0, 0, 0, 0, 0, 0, []),
  (22, .ireturn, 0, 0, 0, 0, 0, []), (23, .aload_n 0, 0, 0, 0, 0, 0, []), (24, .iconst 0, 0, 0, 0, 0, 0, []), (25, .putfield 582, 0, 12, 87, 0, 0, []),
  (28, .iconst 0, 0, 0, 0, 0, 0, []), (29, .istore_n 3, 0, 0, 0, 0, 0, []), (30, .iload_n 3, 19, 0, 0, 0, 0, []), (31, .aload_n 0, 0, 0, 0, 0, 0, []),
  (32, .getfield 295, 0, 12, 12, 0, 0, []), (35, .if_icmp .ge 60, 0, 53, 0, 0, 0, []), (38, .iload_n 2, 0, 0, 0, 0, 0, []), (39, .iload_n 3, 0, 0, 0, 0, 0, []),
  (40, .invokestatic 341, 0, 2, 2, 0, 0, []), (43, .ifCond .ne 6, 0, 27, 0, 0, 0, []), (46, .goto 43, 0, 51, 0, 0, 0, []), (49, .aload_n 0, 0, 0, 0, 0, 0, []),
  (50, .iconst 0, 0, 0, 0, 0, 0, []), (51, .iload_n 1, 0, 0, 0, 0, 0, []), (52, .aload_n 0, 0, 0, 0, 0, 0, []), (53, .getfield 438, 0, 12, 64, 0, 0, []),
  (56, .aload_n 0, 0, 0, 0, 0, 0, []), (57, .getfield 582, 0, 12, 87, 0, 0, []), (60, .iadd, 0, 0, 0, 0, 0, []), (61, .invokevirtual 456, 0, 3, 4, 0, 0, []),
  (64, .ifCond .ne 5, 0, 39, 0, 0, 0, []), (67, .iconst 0, 0, 0, 0, 0, 0, []), (68, .ireturn, 0, 0, 0, 0, 0, []), (69, .aload_n 0, 0, 0, 0, 0, 0, []),
  (70, .getfield 154, 0, 12, 88, 0, 0, []), (73, .aload_n 0, 0, 0, 0, 0, 0, []), (74, .getfield 582, 0, 12, 87, 0, 0, []), (77, .iload_n 3, 0, 0, 0, 0, 0, []),
  (78, .iastore, 0, 0, 0, 0, 0, []), (79, .aload_n 0, 0, 0, 0, 0, 0, []), (80, .dup, 0, 0, 0, 0, 0, []), (81, .getfield 582, 0, 12, 87, 0, 0, []),
  (84, .iconst 1, 0, 0, 0, 1, 0, []), (85, .iadd, 0, 0, 0, 0, 0, []), (86, .putfield 582, 0, 12, 87, 0, 0, []), (89, .iinc 3 1, 0, 0, 0, 1, 0, []),
  (92, .goto (-62), 0, 18, 0, 0, 0, []), (95, .aload_n 0, 54, 0, 0, 0, 0, []), (96, .ldc2_w 585, 0, 0, 0, 0, (-1), []), (99, .putfield 587, 0, 12, 90, 0, 0, []),
  (102, .iconst 1, 0, 0, 0, 1, 0, []), (103, .istore_n 3, 0, 0, 0, 0, 0, []), (104, .iload_n 3, 59, 0, 0, 0, 0, []), (105, .ifCond .eq 70, 0, 94, 0, 0, 0, []),
  (108, .aload_n 0, 0, 0, 0, 0, 0, []), (109, .iload_n 1, 0, 0, 0, 0, 0, []), (110, .invokevirtual 591, 0, 0, 2, 0, 0, [(0, 0)]), (113, .lstore 4, 0, 0, 0, 0, 0, []),
  (115, .lload 4, 0, 0, 0, 0, 0, []), (117, .aload_n 0, 0, 0, 0, 0, 0, []), (118, .getfield 587, 0, 12, 90, 0, 0, []), (121, .lcmp, 0, 0, 0, 0, 0, []),
  (122, .ifCond .le 41, 0, 88, 0, 0, 0, []), (125, .aload_n 0, 0, 0, 0, 0, 0, []), (126, .lload 4, 0, 0, 0, 0, 0, []), (128, .putfield 587, 0, 12, 90, 0, 0, []),
  (131, .iconst 0, 0, 0, 0, 0, 0, []), (132, .istore 6, 0, 0, 0, 0, 0, []), (134, .iload 6, 75, 0, 0, 0, 0, []), (136, .aload_n 0, 0, 0, 0, 0, 0, []),
  (137, .getfield 582, 0, 12, 87, 0, 0, []), (140, .if_icmp .ge 23, 0, 88, 0, 0, 0, []), (143, .aload_n 0, 0, 0, 0, 0, 0, []), (144, .getfield 157, 0, 12, 89, 0, 0, []),
  (147, .iload 6, 0, 0, 0, 0, 0, []), (149, .aload_n 0, 0, 0, 0, 0, 0, []), (150, .getfield 154, 0, 12, 88, 0, 0, []), (153, .iload 6, 0, 0, 0, 0, 0, []),
  (155, .iaload, 0, 0, 0, 0, 0, []), (156, .iastore, 0, 0, 0, 0, 0, []), (157, .iinc 6 1, 0, 0, 0, 1, 0, []), (160, .goto (-26), 0, 74, 0, 0, 0, []),
  (163, .aload_n 0, 89, 0, 0, 0, 0, []), (164, .aload_n 0, 0, 0, 0, 0, 0, []), (165, .getfield 582, 0, 12, 87, 0, 0, []), (168, .invokevirtual 594, 0, 4, 2, 0, 0, []),
  (171, .istore_n 3, 0, 0, 0, 0, 0, []), (172, .goto (-68), 0, 58, 0, 0, 0, []), (175, .iconst 1, 0, 0, 0, 1, 0, []), (176, .ireturn, 0, 0, 0, 0, 0, [])]
noncomputable def fX12_layOrder_88 (N : Nat) (a1 : Int32) (k58 : Int32 → Wd → Option (Int32 × Wd)) (w : Wd) : Option (Int32 × Wd) :=
  (callW (pX12_nextRow N (gI w 16 0 87)) w).bind fun r1 =>
  k58 r1.1 r1.2
noncomputable def fX12_layOrder_74 (N : Nat) (a1 : Int32) : Nat → (Wd → Option (Int32 × Wd)) → Int32 → Wd → Option (Int32 × Wd)
  | 0, _, _, _ => none
  | n + 1, k88, v6, w =>
    if v6 < (gI w 16 0 87) then
      (ldI w 119 0 v6 8).bind fun x1 =>
      (stI w 120 0 v6 8 x1).bind fun w2 =>
      callW (fX12_layOrder_74 N a1 n k88 (v6 + (1 : Int32))) w2
    else
    k88 w
noncomputable def fX12_layOrder_58 (N : Nat) (a1 : Int32) : Nat → Int32 → Wd → Option (Int32 × Wd)
  | 0, _, _ => none
  | n + 1, v3, w =>
    if v3 = 0 then some ((1 : Int32), w) else
    (callW (pX12_upOf N a1) w).bind fun r1 =>
    if 0 < (lg_cmp r1.1 (gL r1.2 16 0 90)) then
      callW (fX12_layOrder_74 N a1 N (fX12_layOrder_88 N a1 (fX12_layOrder_58 N a1 n)) (0 : Int32)) (setL r1.2 16 0 90 r1.1)
    else
    callW (fX12_layOrder_88 N a1 (fX12_layOrder_58 N a1 n)) r1.2
noncomputable def fX12_layOrder_53 (N : Nat) (a1 : Int32) (w : Wd) : Option (Int32 × Wd) :=
  callW (fX12_layOrder_58 N a1 N (1 : Int32)) (setL w 16 0 90 (-1 : Int64))
noncomputable def fX12_layOrder_18 (N : Nat) (a1 : Int32) (a2 : Int32) : Nat → (Wd → Option (Int32 × Wd)) → Int32 → Wd → Option (Int32 × Wd)
  | 0, _, _, _ => none
  | n + 1, k53, v3, w =>
    if v3 < (gI w 16 0 12) then
      (callW (pX12_isOf N a2 v3) w).bind fun r1 =>
      if r1.1 = 0 then callW (fX12_layOrder_18 N a1 a2 n k53 (v3 + (1 : Int32))) r1.2 else
      (callW (pX12_isThere N (0 : Int32) a1 ((gI r1.2 16 0 64) + (gI r1.2 16 0 87))) r1.2).bind fun r2 =>
      if r2.1 = 0 then some ((0 : Int32), r2.2) else
      (stI r2.2 119 0 (gI r2.2 16 0 87) 8 v3).bind fun w3 =>
      callW (fX12_layOrder_18 N a1 a2 n k53 (v3 + (1 : Int32))) (setI w3 16 0 87 ((gI w3 16 0 87) + (1 : Int32)))
    else
    k53 w
noncomputable def pX12_layOrder (N : Nat) (a1 : Int32) (a2 : Int32) (w : Wd) : Option (Int32 × Wd) :=
  (callW (pX12_isPerson N a1) w).bind fun r1 =>
  if r1.1 = 0 then some ((0 : Int32), r1.2) else
  if a2 < (1 : Int32) then some ((0 : Int32), r1.2) else
  (callW (pX12_areParts N a2) r1.2).bind fun r2 =>
  if r2.1 = 0 then some ((0 : Int32), r2.2) else
  callW (fX12_layOrder_18 N a1 a2 N (fX12_layOrder_53 N a1) (0 : Int32)) (setI r2.2 16 0 87 (0 : Int32))
noncomputable def mX12_layOrder (N : Nat) (as : List AV) (w : Wd) : Option (Int32 × Wd) := xS1 16 as fun t => xI1 t fun a1 t => xI1 t fun a2 t => xN1 t (callW (pX12_layOrder N a1 a2) w)
set_option maxRecDepth 100000 in
set_option maxHeartbeats 4000000 in
theorem kX12_layOrder : TK cX12_layOrder RX12 7 tX12_layOrder := ⟨by decide +kernel, wok_of [1687, 1612, 1664, 1687, 1688, 1687, 1687, 1687, 2285, 1690, 1690, 1690, 1687, 1689, 1688, 1687] (by decide +kernel) (by decide +kernel)⟩
set_option maxRecDepth 100000 in
set_option maxHeartbeats 4000000 in
theorem sX12_layOrder_88 {N : Nat} {X : XT} (G : GX X cX12_layOrder RX12) (hn : xnL X = 7) (hC : CRs X tX12_layOrder (oF [(mX12_isPerson N), (mX12_areParts N), (mX12_isOf N), (mX12_isThere N), (mX12_nextRow N)]) (oF [(mX12_upOf N)]) (oF [])) {r : Int32 × Wd} (hr : RTZ X cX12_layOrder r) (a1 : Int32) (a2 : Int32) : ∀ (k58 : Int32 → Wd → Option (Int32 × Wd)) (w : Wd), fX12_layOrder_88 N a1 k58 w = some r → (∀ (v3 : Int32) (w : Wd), k58 v3 w = some r → WW X (pcAt tX12_layOrder 58) [some (.inr (.inr (16, 0))), some (.inl a1), some (.inl a2), some (.inl v3), none, none, none] [] w) → WW X (pcAt tX12_layOrder 88) [some (.inr (.inr (16, 0))), some (.inl a1), some (.inl a2), none, none, none, none] [] w := by
  intro k58 w h h58
  refine run_sound (r := r) (X := X) (cc := cX12_layOrder) (own := RX12) (tab := tX12_layOrder) G (by rw [hn]; exact kX12_layOrder) (oI := (oF [(mX12_isPerson N), (mX12_areParts N), (mX12_isOf N), (mX12_isThere N), (mX12_nextRow N)])) (oL := (oF [(mX12_upOf N)])) (oV := (oF [])) (rI := retZ) (rL := (fun _ _ => none)) (rV := (fun _ => none))
    (K := (fun j ls st w => if j = 58 then (lgI ls 3 fun v3 => st0 st (k58 v3 w)) else none)) hr (fun _ _ _ _ hx => by cases hx) (fun _ _ _ hx => by cases hx) hC (fun ls => lsb [some (.inr (.inr (16, 0))), some (.inl a1), some (.inl a2), none, none, none, none] 0 ls) (keepsP_of rfl) ?_ 98 88 [some (.inr (.inr (16, 0))), some (.inl a1), some (.inl a2), none, none, none, none] [] w ?_ h
  · intro j ls st w hfx h
    obtain ⟨e0, e1, e2, -⟩ : _ = _ ∧ _ = _ ∧ _ = _ ∧ True := hfx
    try dsimp only at h
    by_cases hj : j = 58
    · subst hj
      rw [if_pos rfl] at h
      obtain ⟨v3, e3, h_1⟩ := lgI_some h
      obtain ⟨rfl, h_2⟩ := st0_some h_1
      clear h h_1
      have h := h_2
      try rw [callW_eq] at h
      exact WW.le (a := [some (.inr (.inr (16, 0))), some (.inl a1), some (.inl a2), some (.inl v3), none, none, none]) (by rw [hn]; rfl) (show _ = _ ∧ _ = _ ∧ _ = _ ∧ _ = _ ∧ True from ⟨e0, e1, e2, e3, trivial⟩) (h58 v3 w h)
    rw [if_neg hj] at h
    cases h
  · exact (show _ = _ ∧ _ = _ ∧ _ = _ ∧ True from ⟨rfl, rfl, rfl, trivial⟩)
set_option maxRecDepth 100000 in
set_option maxHeartbeats 4000000 in
theorem sX12_layOrder_74 {N : Nat} {X : XT} (G : GX X cX12_layOrder RX12) (hn : xnL X = 7) (hC : CRs X tX12_layOrder (oF [(mX12_isPerson N), (mX12_areParts N), (mX12_isOf N), (mX12_isThere N), (mX12_nextRow N)]) (oF [(mX12_upOf N)]) (oF [])) {r : Int32 × Wd} (hr : RTZ X cX12_layOrder r) (a1 : Int32) (a2 : Int32) : ∀ (n : Nat) (k88 : Wd → Option (Int32 × Wd)) (v6 : Int32) (w : Wd), fX12_layOrder_74 N a1 n k88 v6 w = some r → (∀ (w : Wd), k88 w = some r → WW X (pcAt tX12_layOrder 88) [some (.inr (.inr (16, 0))), some (.inl a1), some (.inl a2), none, none, none, none] [] w) → WW X (pcAt tX12_layOrder 74) [some (.inr (.inr (16, 0))), some (.inl a1), some (.inl a2), none, none, none, some (.inl v6)] [] w := by
  intro n
  induction n with
  | zero => intro k88 v6 w h h88; cases h
  | succ n ih =>
    intro k88 v6 w h h88
    refine run_sound (r := r) (X := X) (cc := cX12_layOrder) (own := RX12) (tab := tX12_layOrder) G (by rw [hn]; exact kX12_layOrder) (oI := (oF [(mX12_isPerson N), (mX12_areParts N), (mX12_isOf N), (mX12_isThere N), (mX12_nextRow N)])) (oL := (oF [(mX12_upOf N)])) (oV := (oF [])) (rI := retZ) (rL := (fun _ _ => none)) (rV := (fun _ => none))
      (K := (fun j ls st w => if j = 74 then (lgI ls 6 fun v6 => st0 st (callW (fX12_layOrder_74 N a1 n k88 v6) w)) else if j = 88 then (st0 st (k88 w)) else none)) hr (fun _ _ _ _ hx => by cases hx) (fun _ _ _ hx => by cases hx) hC (fun ls => lsb [some (.inr (.inr (16, 0))), some (.inl a1), some (.inl a2), none, none, none, none] 0 ls) (keepsP_of rfl) ?_ 98 74 [some (.inr (.inr (16, 0))), some (.inl a1), some (.inl a2), none, none, none, some (.inl v6)] [] w ?_ h
    · intro j ls st w hfx h
      obtain ⟨e0, e1, e2, -⟩ : _ = _ ∧ _ = _ ∧ _ = _ ∧ True := hfx
      try dsimp only at h
      by_cases hj : j = 74
      · subst hj
        rw [if_pos rfl] at h
        obtain ⟨v6, e6, h_1⟩ := lgI_some h
        obtain ⟨rfl, h_2⟩ := st0_some h_1
        clear h h_1
        have h := h_2
        try rw [callW_eq] at h
        exact WW.le (a := [some (.inr (.inr (16, 0))), some (.inl a1), some (.inl a2), none, none, none, some (.inl v6)]) (by rw [hn]; rfl) (show _ = _ ∧ _ = _ ∧ _ = _ ∧ _ = _ ∧ True from ⟨e0, e1, e2, e6, trivial⟩) (ih k88 v6 w h h88)
      rw [if_neg hj] at h
      by_cases hj : j = 88
      · subst hj
        rw [if_pos rfl] at h
        obtain ⟨rfl, h_1⟩ := st0_some h
        clear h
        have h := h_1
        try rw [callW_eq] at h
        exact WW.le (a := [some (.inr (.inr (16, 0))), some (.inl a1), some (.inl a2), none, none, none, none]) (by rw [hn]; rfl) (show _ = _ ∧ _ = _ ∧ _ = _ ∧ True from ⟨e0, e1, e2, trivial⟩) (h88 w h)
      rw [if_neg hj] at h
      cases h
    · exact (show _ = _ ∧ _ = _ ∧ _ = _ ∧ True from ⟨rfl, rfl, rfl, trivial⟩)
set_option maxRecDepth 100000 in
set_option maxHeartbeats 4000000 in
theorem sX12_layOrder_58 {N : Nat} {X : XT} (G : GX X cX12_layOrder RX12) (hn : xnL X = 7) (hC : CRs X tX12_layOrder (oF [(mX12_isPerson N), (mX12_areParts N), (mX12_isOf N), (mX12_isThere N), (mX12_nextRow N)]) (oF [(mX12_upOf N)]) (oF [])) {r : Int32 × Wd} (hr : RTZ X cX12_layOrder r) (a1 : Int32) (a2 : Int32) : ∀ (n : Nat) (v3 : Int32) (w : Wd), fX12_layOrder_58 N a1 n v3 w = some r → WW X (pcAt tX12_layOrder 58) [some (.inr (.inr (16, 0))), some (.inl a1), some (.inl a2), some (.inl v3), none, none, none] [] w := by
  intro n
  induction n with
  | zero => intro v3 w h; cases h
  | succ n ih =>
    intro v3 w h
    refine run_sound (r := r) (X := X) (cc := cX12_layOrder) (own := RX12) (tab := tX12_layOrder) G (by rw [hn]; exact kX12_layOrder) (oI := (oF [(mX12_isPerson N), (mX12_areParts N), (mX12_isOf N), (mX12_isThere N), (mX12_nextRow N)])) (oL := (oF [(mX12_upOf N)])) (oV := (oF [])) (rI := retZ) (rL := (fun _ _ => none)) (rV := (fun _ => none))
      (K := (fun j ls st w => if j = 74 then (lgI ls 6 fun v6 => st0 st (callW (fX12_layOrder_74 N a1 N (fX12_layOrder_88 N a1 (fX12_layOrder_58 N a1 n)) v6) w)) else if j = 88 then (st0 st (callW (fX12_layOrder_88 N a1 (fX12_layOrder_58 N a1 n)) w)) else none)) hr (fun _ _ _ _ hx => by cases hx) (fun _ _ _ hx => by cases hx) hC (fun ls => lsb [some (.inr (.inr (16, 0))), some (.inl a1), some (.inl a2), none, none, none, none] 0 ls) (keepsP_of rfl) ?_ 98 58 [some (.inr (.inr (16, 0))), some (.inl a1), some (.inl a2), some (.inl v3), none, none, none] [] w ?_ h
    · intro j ls st w hfx h
      obtain ⟨e0, e1, e2, -⟩ : _ = _ ∧ _ = _ ∧ _ = _ ∧ True := hfx
      try dsimp only at h
      by_cases hj : j = 74
      · subst hj
        rw [if_pos rfl] at h
        obtain ⟨v6, e6, h_1⟩ := lgI_some h
        obtain ⟨rfl, h_2⟩ := st0_some h_1
        clear h h_1
        have h := h_2
        try rw [callW_eq] at h
        exact WW.le (a := [some (.inr (.inr (16, 0))), some (.inl a1), some (.inl a2), none, none, none, some (.inl v6)]) (by rw [hn]; rfl) (show _ = _ ∧ _ = _ ∧ _ = _ ∧ _ = _ ∧ True from ⟨e0, e1, e2, e6, trivial⟩) (sX12_layOrder_74 G hn hC hr a1 a2 N (fX12_layOrder_88 N a1 (fX12_layOrder_58 N a1 n)) v6 w h (fun w h => (sX12_layOrder_88 G hn hC hr a1 a2 (fX12_layOrder_58 N a1 n) w h (fun v3 w h => (ih v3 w h)))))
      rw [if_neg hj] at h
      by_cases hj : j = 88
      · subst hj
        rw [if_pos rfl] at h
        obtain ⟨rfl, h_1⟩ := st0_some h
        clear h
        have h := h_1
        try rw [callW_eq] at h
        exact WW.le (a := [some (.inr (.inr (16, 0))), some (.inl a1), some (.inl a2), none, none, none, none]) (by rw [hn]; rfl) (show _ = _ ∧ _ = _ ∧ _ = _ ∧ True from ⟨e0, e1, e2, trivial⟩) (sX12_layOrder_88 G hn hC hr a1 a2 (fX12_layOrder_58 N a1 n) w h (fun v3 w h => (ih v3 w h)))
      rw [if_neg hj] at h
      cases h
    · exact (show _ = _ ∧ _ = _ ∧ _ = _ ∧ True from ⟨rfl, rfl, rfl, trivial⟩)
set_option maxRecDepth 100000 in
set_option maxHeartbeats 4000000 in
theorem sX12_layOrder_53 {N : Nat} {X : XT} (G : GX X cX12_layOrder RX12) (hn : xnL X = 7) (hC : CRs X tX12_layOrder (oF [(mX12_isPerson N), (mX12_areParts N), (mX12_isOf N), (mX12_isThere N), (mX12_nextRow N)]) (oF [(mX12_upOf N)]) (oF [])) {r : Int32 × Wd} (hr : RTZ X cX12_layOrder r) (a1 : Int32) (a2 : Int32) : ∀ (w : Wd), fX12_layOrder_53 N a1 w = some r → WW X (pcAt tX12_layOrder 53) [some (.inr (.inr (16, 0))), some (.inl a1), some (.inl a2), none, none, none, none] [] w := by
  intro w h
  refine run_sound (r := r) (X := X) (cc := cX12_layOrder) (own := RX12) (tab := tX12_layOrder) G (by rw [hn]; exact kX12_layOrder) (oI := (oF [(mX12_isPerson N), (mX12_areParts N), (mX12_isOf N), (mX12_isThere N), (mX12_nextRow N)])) (oL := (oF [(mX12_upOf N)])) (oV := (oF [])) (rI := retZ) (rL := (fun _ _ => none)) (rV := (fun _ => none))
    (K := (fun j ls st w => if j = 58 then (lgI ls 3 fun v3 => st0 st (callW (fX12_layOrder_58 N a1 N v3) w)) else none)) hr (fun _ _ _ _ hx => by cases hx) (fun _ _ _ hx => by cases hx) hC (fun ls => lsb [some (.inr (.inr (16, 0))), some (.inl a1), some (.inl a2), none, none, none, none] 0 ls) (keepsP_of rfl) ?_ 98 53 [some (.inr (.inr (16, 0))), some (.inl a1), some (.inl a2), none, none, none, none] [] w ?_ h
  · intro j ls st w hfx h
    obtain ⟨e0, e1, e2, -⟩ : _ = _ ∧ _ = _ ∧ _ = _ ∧ True := hfx
    try dsimp only at h
    by_cases hj : j = 58
    · subst hj
      rw [if_pos rfl] at h
      obtain ⟨v3, e3, h_1⟩ := lgI_some h
      obtain ⟨rfl, h_2⟩ := st0_some h_1
      clear h h_1
      have h := h_2
      try rw [callW_eq] at h
      exact WW.le (a := [some (.inr (.inr (16, 0))), some (.inl a1), some (.inl a2), some (.inl v3), none, none, none]) (by rw [hn]; rfl) (show _ = _ ∧ _ = _ ∧ _ = _ ∧ _ = _ ∧ True from ⟨e0, e1, e2, e3, trivial⟩) (sX12_layOrder_58 G hn hC hr a1 a2 N v3 w h)
    rw [if_neg hj] at h
    cases h
  · exact (show _ = _ ∧ _ = _ ∧ _ = _ ∧ True from ⟨rfl, rfl, rfl, trivial⟩)
set_option maxRecDepth 100000 in
set_option maxHeartbeats 4000000 in
theorem sX12_layOrder_18 {N : Nat} {X : XT} (G : GX X cX12_layOrder RX12) (hn : xnL X = 7) (hC : CRs X tX12_layOrder (oF [(mX12_isPerson N), (mX12_areParts N), (mX12_isOf N), (mX12_isThere N), (mX12_nextRow N)]) (oF [(mX12_upOf N)]) (oF [])) {r : Int32 × Wd} (hr : RTZ X cX12_layOrder r) (a1 : Int32) (a2 : Int32) : ∀ (n : Nat) (k53 : Wd → Option (Int32 × Wd)) (v3 : Int32) (w : Wd), fX12_layOrder_18 N a1 a2 n k53 v3 w = some r → (∀ (w : Wd), k53 w = some r → WW X (pcAt tX12_layOrder 53) [some (.inr (.inr (16, 0))), some (.inl a1), some (.inl a2), none, none, none, none] [] w) → WW X (pcAt tX12_layOrder 18) [some (.inr (.inr (16, 0))), some (.inl a1), some (.inl a2), some (.inl v3), none, none, none] [] w := by
  intro n
  induction n with
  | zero => intro k53 v3 w h h53; cases h
  | succ n ih =>
    intro k53 v3 w h h53
    refine run_sound (r := r) (X := X) (cc := cX12_layOrder) (own := RX12) (tab := tX12_layOrder) G (by rw [hn]; exact kX12_layOrder) (oI := (oF [(mX12_isPerson N), (mX12_areParts N), (mX12_isOf N), (mX12_isThere N), (mX12_nextRow N)])) (oL := (oF [(mX12_upOf N)])) (oV := (oF [])) (rI := retZ) (rL := (fun _ _ => none)) (rV := (fun _ => none))
      (K := (fun j ls st w => if j = 18 then (lgI ls 3 fun v3 => st0 st (callW (fX12_layOrder_18 N a1 a2 n k53 v3) w)) else if j = 53 then (st0 st (k53 w)) else none)) hr (fun _ _ _ _ hx => by cases hx) (fun _ _ _ hx => by cases hx) hC (fun ls => lsb [some (.inr (.inr (16, 0))), some (.inl a1), some (.inl a2), none, none, none, none] 0 ls) (keepsP_of rfl) ?_ 98 18 [some (.inr (.inr (16, 0))), some (.inl a1), some (.inl a2), some (.inl v3), none, none, none] [] w ?_ h
    · intro j ls st w hfx h
      obtain ⟨e0, e1, e2, -⟩ : _ = _ ∧ _ = _ ∧ _ = _ ∧ True := hfx
      try dsimp only at h
      by_cases hj : j = 18
      · subst hj
        rw [if_pos rfl] at h
        obtain ⟨v3, e3, h_1⟩ := lgI_some h
        obtain ⟨rfl, h_2⟩ := st0_some h_1
        clear h h_1
        have h := h_2
        try rw [callW_eq] at h
        exact WW.le (a := [some (.inr (.inr (16, 0))), some (.inl a1), some (.inl a2), some (.inl v3), none, none, none]) (by rw [hn]; rfl) (show _ = _ ∧ _ = _ ∧ _ = _ ∧ _ = _ ∧ True from ⟨e0, e1, e2, e3, trivial⟩) (ih k53 v3 w h h53)
      rw [if_neg hj] at h
      by_cases hj : j = 53
      · subst hj
        rw [if_pos rfl] at h
        obtain ⟨rfl, h_1⟩ := st0_some h
        clear h
        have h := h_1
        try rw [callW_eq] at h
        exact WW.le (a := [some (.inr (.inr (16, 0))), some (.inl a1), some (.inl a2), none, none, none, none]) (by rw [hn]; rfl) (show _ = _ ∧ _ = _ ∧ _ = _ ∧ True from ⟨e0, e1, e2, trivial⟩) (h53 w h)
      rw [if_neg hj] at h
      cases h
    · exact (show _ = _ ∧ _ = _ ∧ _ = _ ∧ True from ⟨rfl, rfl, rfl, trivial⟩)
set_option maxRecDepth 100000 in
set_option maxHeartbeats 4000000 in
theorem crX12_layOrder {N : Nat} {X : XT} (G : GX X cX12_layOrder RX12) (hR : xR X = rmL 7) : CRs X tX12_layOrder (oF [(mX12_isPerson N), (mX12_areParts N), (mX12_isOf N), (mX12_isThere N), (mX12_nextRow N)]) (oF [(mX12_upOf N)]) (oF []) := by
  have hl : tX12_layOrder.filter isInv = [(2, .invokevirtual 463, 0, 0, 2, 0, 0, []), (15, .invokevirtual 567, 0, 1, 2, 0, 0, []), (40, .invokestatic 341, 0, 2, 2, 0, 0, []), (61, .invokevirtual 456, 0, 3, 4, 0, 0, []), (110, .invokevirtual 591, 0, 0, 2, 0, 0, [(0, 0)]), (168, .invokevirtual 594, 0, 4, 2, 0, 0, [])] := rfl
  intro e he
  rw [hl] at he
  simp only [List.mem_cons, List.not_mem_nil, or_false] at he
  rcases he with rfl | rfl | rfl | rfl | rfl | rfl
  · exact crI_V (idx := 463) G (by decide +kernel) (MX12_isPerson N) (cw_of (ps := [2080, 2082, 106, 164, 2083]) (by decide +kernel) (by decide +kernel)) ⟨by decide +kernel, by decide +kernel, by decide +kernel⟩ (by unfold rmOk; rw [hR]; exact ⟨by decide, by decide⟩)
  · exact crI_V (idx := 567) G (by decide +kernel) (MX12_areParts N) (cw_of (ps := [2257, 2259, 133, 164, 2260]) (by decide +kernel) (by decide +kernel)) ⟨by decide +kernel, by decide +kernel, by decide +kernel⟩ (by unfold rmOk; rw [hR]; exact ⟨by decide, by decide⟩)
  · exact crI_S (idx := 341) G (by decide +kernel) (MX12_isOf N) (cw_of (ps := [1589, 1590, 164, 1591]) (by decide +kernel) (by decide +kernel)) ⟨by decide +kernel, by decide +kernel, by decide +kernel⟩ (by unfold rmOk; rw [hR]; exact ⟨by decide, by decide⟩)
  · exact crI_V (idx := 456) G (by decide +kernel) (MX12_isThere N) (cw_of (ps := [2088, 2090, 108, 164, 2091]) (by decide +kernel) (by decide +kernel)) ⟨by decide +kernel, by decide +kernel, by decide +kernel⟩ (by unfold rmOk; rw [hR]; exact ⟨by decide, by decide⟩)
  · exact crL_V (idx := 591) G (by decide +kernel) (MX12_upOf N) (cw_of (ps := [2286, 2288, 138, 164, 2289]) (by decide +kernel) (by decide +kernel)) ⟨by decide +kernel, by decide +kernel, by decide +kernel⟩ (by unfold rmOk; rw [hR]; exact ⟨by decide, by decide⟩)
  · exact crI_V (idx := 594) G (by decide +kernel) (MX12_nextRow N) (cw_of (ps := [2294, 2296, 140, 164, 2297]) (by decide +kernel) (by decide +kernel)) ⟨by decide +kernel, by decide +kernel, by decide +kernel⟩ (by unfold rmOk; rw [hR]; exact ⟨by decide, by decide⟩)
set_option maxRecDepth 100000 in
set_option maxHeartbeats 4000000 in
theorem MX12_layOrder (N : Nat) : SndI yX12_layOrder cX12_layOrder 7 (some .boolean) 7 3 true (mX12_layOrder N) := by
  refine SndI.ofZ tX12_layOrder (by decide +kernel) rfl rfl ?_ ?_
  · intro as w x h
    obtain ⟨t1, rfl, h_1⟩ := xS1_some h
    obtain ⟨a1, t2, rfl, h_2⟩ := xI1_some h_1
    obtain ⟨a2, t3, rfl, h_3⟩ := xI1_some h_2
    obtain ⟨rfl, h_4⟩ := xN1_some h_3
    clear h h_1 h_2 h_3
    have h := h_4
    rw [callW_eq] at h
    exact ⟨fun _ => ⟨_, _, _, rfl, rfl, _, rfl, rfl⟩, rfl, Nat.le_of_ble_eq_true rfl⟩
  · intro X G hn hR as w r h hr
    have hC := crX12_layOrder (N := N) G hR
    obtain ⟨t1, rfl, h_1⟩ := xS1_some h
    obtain ⟨a1, t2, rfl, h_2⟩ := xI1_some h_1
    obtain ⟨a2, t3, rfl, h_3⟩ := xI1_some h_2
    obtain ⟨rfl, h_4⟩ := xN1_some h_3
    clear h h_1 h_2 h_3
    have h := h_4
    rw [callW_eq] at h
    refine run_sound (r := r) (X := X) (cc := cX12_layOrder) (own := RX12) (tab := tX12_layOrder) G (by rw [hn]; exact kX12_layOrder) (oI := (oF [(mX12_isPerson N), (mX12_areParts N), (mX12_isOf N), (mX12_isThere N), (mX12_nextRow N)])) (oL := (oF [(mX12_upOf N)])) (oV := (oF [])) (rI := retZ) (rL := (fun _ _ => none)) (rV := (fun _ => none))
      (K := (fun j ls st w => if j = 18 then (lgI ls 3 fun v3 => st0 st (callW (fX12_layOrder_18 N a1 a2 N (fX12_layOrder_53 N a1) v3) w)) else none)) hr (fun _ _ _ _ hx => by cases hx) (fun _ _ _ hx => by cases hx) hC (fun ls => lsb [some (.inr (.inr (16, 0))), some (.inl a1), some (.inl a2), none, none, none, none] 0 ls) (keepsP_of rfl) ?_ 98 0 [some (.inr (.inr (16, 0))), some (.inl a1), some (.inl a2), none, none, none, none] [] w ?_ h
    · intro j ls st w hfx h
      obtain ⟨e0, e1, e2, -⟩ : _ = _ ∧ _ = _ ∧ _ = _ ∧ True := hfx
      try dsimp only at h
      by_cases hj : j = 18
      · subst hj
        rw [if_pos rfl] at h
        obtain ⟨v3, e3, h_1⟩ := lgI_some h
        obtain ⟨rfl, h_2⟩ := st0_some h_1
        clear h h_1
        have h := h_2
        try rw [callW_eq] at h
        exact WW.le (a := [some (.inr (.inr (16, 0))), some (.inl a1), some (.inl a2), some (.inl v3), none, none, none]) (by rw [hn]; rfl) (show _ = _ ∧ _ = _ ∧ _ = _ ∧ _ = _ ∧ True from ⟨e0, e1, e2, e3, trivial⟩) (sX12_layOrder_18 G hn hC hr a1 a2 N (fX12_layOrder_53 N a1) v3 w h (fun w h => (sX12_layOrder_53 G hn hC hr a1 a2 w h)))
      rw [if_neg hj] at h
      cases h
    · exact (show _ = _ ∧ _ = _ ∧ _ = _ ∧ True from ⟨rfl, rfl, rfl, trivial⟩)
-- MoorGuidesModel.order(III)J
def tX12_order : List EN := [
  (0, .aload_n 0, 0, 0, 0, 0, 0, []), (1, .iconst 0, 0, 0, 0, 0, 0, []), (2, .putfield 196, 0, 12, 2, 0, 0, []), (5, .iload_n 3, 0, 0, 0, 0, 0, []),
  (6, .iconst 0, 0, 0, 0, 0, 0, []), (7, .iconst 1, 0, 0, 0, 1, 0, []), (8, .invokestatic 241, 0, 0, 3, 0, 0, []), (11, .ifCond .eq 12, 0, 13, 0, 0, 0, []),
  (14, .aload_n 0, 0, 0, 0, 0, 0, []), (15, .iload_n 1, 0, 0, 0, 0, 0, []), (16, .iload_n 2, 0, 0, 0, 0, 0, []), (17, .invokevirtual 597, 0, 1, 3, 0, 0, []),
  (20, .ifCond .ne 7, 0, 15, 0, 0, 0, []), (23, .ldc2_w 585, 0, 0, 0, 0, (-1), []), (26, .lreturn, 0, 0, 0, 0, 0, []), (27, .lconst 1, 0, 0, 0, 0, 1, []),
  (28, .lstore 4, 0, 0, 0, 0, 0, []), (30, .iconst 0, 0, 0, 0, 0, 0, []), (31, .istore 6, 0, 0, 0, 0, 0, []), (33, .iload 6, 20, 0, 0, 0, 0, []),
  (35, .aload_n 0, 0, 0, 0, 0, 0, []), (36, .getfield 582, 0, 12, 87, 0, 0, []), (39, .if_icmp .ge 17, 0, 29, 0, 0, 0, []), (42, .lload 4, 0, 0, 0, 0, 0, []),
  (44, .ldc2_w 496, 0, 0, 0, 0, 100, []), (47, .lmul, 0, 0, 0, 0, 0, []), (48, .lstore 4, 0, 0, 0, 0, 0, []), (50, .iinc 6 1, 0, 0, 0, 1, 0, []),
  (53, .goto (-20), 0, 19, 0, 0, 0, []), (56, .aload_n 0, 30, 0, 0, 0, 0, []), (57, .getfield 587, 0, 12, 90, 0, 0, []), (60, .lstore 6, 0, 0, 0, 0, 0, []),
  (62, .lload 4, 0, 0, 0, 0, 0, []), (64, .lstore 8, 0, 0, 0, 0, 0, []), (66, .lload 8, 35, 0, 0, 0, 0, []), (68, .lconst 0, 0, 0, 0, 0, 0, []),
  (69, .lcmp, 0, 0, 0, 0, 0, []), (70, .ifCond .eq 21, 0, 47, 0, 0, 0, []), (73, .lload 6, 0, 0, 0, 0, 0, []), (75, .lload 8, 0, 0, 0, 0, 0, []),
  (77, .lrem, 0, 0, 0, 0, 0, []), (78, .lstore 10, 0, 0, 0, 0, 0, []), (80, .lload 8, 0, 0, 0, 0, 0, []), (82, .lstore 6, 0, 0, 0, 0, 0, []),
  (84, .lload 10, 0, 0, 0, 0, 0, []), (86, .lstore 8, 0, 0, 0, 0, 0, []), (88, .goto (-22), 0, 34, 0, 0, 0, []), (91, .iload_n 3, 48, 0, 0, 0, 0, []),
  (92, .ifCond .ne 13, 0, 54, 0, 0, 0, []), (95, .aload_n 0, 0, 0, 0, 0, 0, []), (96, .getfield 587, 0, 12, 90, 0, 0, []), (99, .lload 6, 0, 0, 0, 0, 0, []),
  (101, .ldiv, 0, 0, 0, 0, 0, []), (102, .goto 8, 0, 57, 0, 0, 0, []), (105, .lload 4, 0, 0, 0, 0, 0, []), (107, .lload 6, 0, 0, 0, 0, 0, []),
  (109, .ldiv, 0, 0, 0, 0, 0, []), (110, .lreturn, 0, 0, 0, 0, 0, [])]
noncomputable def fX12_order_47 (N : Nat) (a3 : Int32) (v4 : Int64) (v6 : Int64) (w : Wd) : Option (Int64 × Wd) :=
  if a3 = 0 then
    if v6 = 0 then none else
    some (((gL w 16 0 90) / v6), w)
  else
  if v6 = 0 then none else
  some ((v4 / v6), w)
noncomputable def fX12_order_34 (N : Nat) (a3 : Int32) : Nat → (Int64 → Int64 → Wd → Option (Int64 × Wd)) → Int64 → Int64 → Int64 → Wd → Option (Int64 × Wd)
  | 0, _, _, _, _, _ => none
  | n + 1, k47, v4, v6, v8, w =>
    if (lg_cmp v8 (0 : Int64)) = 0 then k47 v4 v6 w else
    if v8 = 0 then none else
    callW (fX12_order_34 N a3 n k47 v4 v8 (v6 - v6 / v8 * v8)) w
noncomputable def fX12_order_29 (N : Nat) (a3 : Int32) (v4 : Int64) (w : Wd) : Option (Int64 × Wd) :=
  callW (fX12_order_34 N a3 N (fX12_order_47 N a3) v4 (gL w 16 0 90) v4) w
noncomputable def fX12_order_19 (N : Nat) (a3 : Int32) : Nat → (Int64 → Wd → Option (Int64 × Wd)) → Int64 → Int32 → Wd → Option (Int64 × Wd)
  | 0, _, _, _, _ => none
  | n + 1, k29, v4, v6, w =>
    if v6 < (gI w 16 0 87) then callW (fX12_order_19 N a3 n k29 (v4 * (100 : Int64)) (v6 + (1 : Int32))) w else
    k29 v4 w
noncomputable def pX12_order (N : Nat) (a1 : Int32) (a2 : Int32) (a3 : Int32) (w : Wd) : Option (Int64 × Wd) :=
  (callW (pX12_isIn N a3 (0 : Int32) (1 : Int32)) (setI w 16 0 2 (0 : Int32))).bind fun r1 =>
  if r1.1 = 0 then some ((-1 : Int64), r1.2) else
  (callW (pX12_layOrder N a1 a2) r1.2).bind fun r2 =>
  if r2.1 = 0 then some ((-1 : Int64), r2.2) else
  callW (fX12_order_19 N a3 N (fX12_order_29 N a3) (1 : Int64) (0 : Int32)) r2.2
noncomputable def mX12_order (N : Nat) (as : List AV) (w : Wd) : Option (Int64 × Wd) := xS1 16 as fun t => xI1 t fun a1 t => xI1 t fun a2 t => xI1 t fun a3 t => xN1 t (callW (pX12_order N a1 a2 a3) w)
set_option maxRecDepth 100000 in
set_option maxHeartbeats 4000000 in
theorem kX12_order : TK cX12_order RX12 12 tX12_order := ⟨by decide +kernel, wok_of [1602, 2285, 1687, 2155, 1690, 1690] (by decide +kernel) (by decide +kernel)⟩
set_option maxRecDepth 100000 in
set_option maxHeartbeats 4000000 in
theorem sX12_order_47 {N : Nat} {X : XT} (G : GX X cX12_order RX12) (hn : xnL X = 12) (hC : CRs X tX12_order (oF [(mX12_isIn N), (mX12_layOrder N)]) (oF []) (oF [])) {r : Int64 × Wd} (hr : RTL X cX12_order r) (a1 : Int32) (a2 : Int32) (a3 : Int32) : ∀ (v4 : Int64) (v6 : Int64) (w : Wd), fX12_order_47 N a3 v4 v6 w = some r → WW X (pcAt tX12_order 47) [some (.inr (.inr (16, 0))), some (.inl a1), some (.inl a2), some (.inl a3), some (.inr (.inl v4)), none, some (.inr (.inl v6)), none, none, none, none, none] [] w := by
  intro v4 v6 w h
  refine run_sound (r := r) (X := X) (cc := cX12_order) (own := RX12) (tab := tX12_order) G (by rw [hn]; exact kX12_order) (oI := (oF [(mX12_isIn N), (mX12_layOrder N)])) (oL := (oF [])) (oV := (oF [])) (rI := (fun _ _ => none)) (rL := (fun x w => some (x, w))) (rV := (fun _ => none))
    (K := (fun j ls st w => none)) (fun _ _ _ _ hx => by cases hx) (fun x w pc ls hx hd => hr x w pc ls (Option.some.inj hx) hd) (fun _ _ _ hx => by cases hx) hC (fun ls => lsb [some (.inr (.inr (16, 0))), some (.inl a1), some (.inl a2), some (.inl a3), none, none, none, none, none, none, none, none] 0 ls) (keepsP_of rfl) ?_ 60 47 [some (.inr (.inr (16, 0))), some (.inl a1), some (.inl a2), some (.inl a3), some (.inr (.inl v4)), none, some (.inr (.inl v6)), none, none, none, none, none] [] w ?_ h
  · intro j ls st w hfx h
    obtain ⟨e0, e1, e2, e3, -⟩ : _ = _ ∧ _ = _ ∧ _ = _ ∧ _ = _ ∧ True := hfx
    try dsimp only at h
    cases h
  · exact (show _ = _ ∧ _ = _ ∧ _ = _ ∧ _ = _ ∧ True from ⟨rfl, rfl, rfl, rfl, trivial⟩)
set_option maxRecDepth 100000 in
set_option maxHeartbeats 4000000 in
theorem sX12_order_34 {N : Nat} {X : XT} (G : GX X cX12_order RX12) (hn : xnL X = 12) (hC : CRs X tX12_order (oF [(mX12_isIn N), (mX12_layOrder N)]) (oF []) (oF [])) {r : Int64 × Wd} (hr : RTL X cX12_order r) (a1 : Int32) (a2 : Int32) (a3 : Int32) : ∀ (n : Nat) (k47 : Int64 → Int64 → Wd → Option (Int64 × Wd)) (v4 : Int64) (v6 : Int64) (v8 : Int64) (w : Wd), fX12_order_34 N a3 n k47 v4 v6 v8 w = some r → (∀ (v4 : Int64) (v6 : Int64) (w : Wd), k47 v4 v6 w = some r → WW X (pcAt tX12_order 47) [some (.inr (.inr (16, 0))), some (.inl a1), some (.inl a2), some (.inl a3), some (.inr (.inl v4)), none, some (.inr (.inl v6)), none, none, none, none, none] [] w) → WW X (pcAt tX12_order 34) [some (.inr (.inr (16, 0))), some (.inl a1), some (.inl a2), some (.inl a3), some (.inr (.inl v4)), none, some (.inr (.inl v6)), none, some (.inr (.inl v8)), none, none, none] [] w := by
  intro n
  induction n with
  | zero => intro k47 v4 v6 v8 w h h47; cases h
  | succ n ih =>
    intro k47 v4 v6 v8 w h h47
    refine run_sound (r := r) (X := X) (cc := cX12_order) (own := RX12) (tab := tX12_order) G (by rw [hn]; exact kX12_order) (oI := (oF [(mX12_isIn N), (mX12_layOrder N)])) (oL := (oF [])) (oV := (oF [])) (rI := (fun _ _ => none)) (rL := (fun x w => some (x, w))) (rV := (fun _ => none))
      (K := (fun j ls st w => if j = 34 then (lgL ls 4 fun v4 => lgL ls 6 fun v6 => lgL ls 8 fun v8 => st0 st (callW (fX12_order_34 N a3 n k47 v4 v6 v8) w)) else if j = 47 then (lgL ls 4 fun v4 => lgL ls 6 fun v6 => st0 st (k47 v4 v6 w)) else none)) (fun _ _ _ _ hx => by cases hx) (fun x w pc ls hx hd => hr x w pc ls (Option.some.inj hx) hd) (fun _ _ _ hx => by cases hx) hC (fun ls => lsb [some (.inr (.inr (16, 0))), some (.inl a1), some (.inl a2), some (.inl a3), none, none, none, none, none, none, none, none] 0 ls) (keepsP_of rfl) ?_ 60 34 [some (.inr (.inr (16, 0))), some (.inl a1), some (.inl a2), some (.inl a3), some (.inr (.inl v4)), none, some (.inr (.inl v6)), none, some (.inr (.inl v8)), none, none, none] [] w ?_ h
    · intro j ls st w hfx h
      obtain ⟨e0, e1, e2, e3, -⟩ : _ = _ ∧ _ = _ ∧ _ = _ ∧ _ = _ ∧ True := hfx
      try dsimp only at h
      by_cases hj : j = 34
      · subst hj
        rw [if_pos rfl] at h
        obtain ⟨v4, e4, h_1⟩ := lgL_some h
        obtain ⟨v6, e6, h_2⟩ := lgL_some h_1
        obtain ⟨v8, e8, h_3⟩ := lgL_some h_2
        obtain ⟨rfl, h_4⟩ := st0_some h_3
        clear h h_1 h_2 h_3
        have h := h_4
        try rw [callW_eq] at h
        exact WW.le (a := [some (.inr (.inr (16, 0))), some (.inl a1), some (.inl a2), some (.inl a3), some (.inr (.inl v4)), none, some (.inr (.inl v6)), none, some (.inr (.inl v8)), none, none, none]) (by rw [hn]; rfl) (show _ = _ ∧ _ = _ ∧ _ = _ ∧ _ = _ ∧ _ = _ ∧ _ = _ ∧ _ = _ ∧ True from ⟨e0, e1, e2, e3, e4, e6, e8, trivial⟩) (ih k47 v4 v6 v8 w h h47)
      rw [if_neg hj] at h
      by_cases hj : j = 47
      · subst hj
        rw [if_pos rfl] at h
        obtain ⟨v4, e4, h_1⟩ := lgL_some h
        obtain ⟨v6, e6, h_2⟩ := lgL_some h_1
        obtain ⟨rfl, h_3⟩ := st0_some h_2
        clear h h_1 h_2
        have h := h_3
        try rw [callW_eq] at h
        exact WW.le (a := [some (.inr (.inr (16, 0))), some (.inl a1), some (.inl a2), some (.inl a3), some (.inr (.inl v4)), none, some (.inr (.inl v6)), none, none, none, none, none]) (by rw [hn]; rfl) (show _ = _ ∧ _ = _ ∧ _ = _ ∧ _ = _ ∧ _ = _ ∧ _ = _ ∧ True from ⟨e0, e1, e2, e3, e4, e6, trivial⟩) (h47 v4 v6 w h)
      rw [if_neg hj] at h
      cases h
    · exact (show _ = _ ∧ _ = _ ∧ _ = _ ∧ _ = _ ∧ True from ⟨rfl, rfl, rfl, rfl, trivial⟩)
set_option maxRecDepth 100000 in
set_option maxHeartbeats 4000000 in
theorem sX12_order_29 {N : Nat} {X : XT} (G : GX X cX12_order RX12) (hn : xnL X = 12) (hC : CRs X tX12_order (oF [(mX12_isIn N), (mX12_layOrder N)]) (oF []) (oF [])) {r : Int64 × Wd} (hr : RTL X cX12_order r) (a1 : Int32) (a2 : Int32) (a3 : Int32) : ∀ (v4 : Int64) (w : Wd), fX12_order_29 N a3 v4 w = some r → WW X (pcAt tX12_order 29) [some (.inr (.inr (16, 0))), some (.inl a1), some (.inl a2), some (.inl a3), some (.inr (.inl v4)), none, none, none, none, none, none, none] [] w := by
  intro v4 w h
  refine run_sound (r := r) (X := X) (cc := cX12_order) (own := RX12) (tab := tX12_order) G (by rw [hn]; exact kX12_order) (oI := (oF [(mX12_isIn N), (mX12_layOrder N)])) (oL := (oF [])) (oV := (oF [])) (rI := (fun _ _ => none)) (rL := (fun x w => some (x, w))) (rV := (fun _ => none))
    (K := (fun j ls st w => if j = 34 then (lgL ls 4 fun v4 => lgL ls 6 fun v6 => lgL ls 8 fun v8 => st0 st (callW (fX12_order_34 N a3 N (fX12_order_47 N a3) v4 v6 v8) w)) else none)) (fun _ _ _ _ hx => by cases hx) (fun x w pc ls hx hd => hr x w pc ls (Option.some.inj hx) hd) (fun _ _ _ hx => by cases hx) hC (fun ls => lsb [some (.inr (.inr (16, 0))), some (.inl a1), some (.inl a2), some (.inl a3), none, none, none, none, none, none, none, none] 0 ls) (keepsP_of rfl) ?_ 60 29 [some (.inr (.inr (16, 0))), some (.inl a1), some (.inl a2), some (.inl a3), some (.inr (.inl v4)), none, none, none, none, none, none, none] [] w ?_ h
  · intro j ls st w hfx h
    obtain ⟨e0, e1, e2, e3, -⟩ : _ = _ ∧ _ = _ ∧ _ = _ ∧ _ = _ ∧ True := hfx
    try dsimp only at h
    by_cases hj : j = 34
    · subst hj
      rw [if_pos rfl] at h
      obtain ⟨v4, e4, h_1⟩ := lgL_some h
      obtain ⟨v6, e6, h_2⟩ := lgL_some h_1
      obtain ⟨v8, e8, h_3⟩ := lgL_some h_2
      obtain ⟨rfl, h_4⟩ := st0_some h_3
      clear h h_1 h_2 h_3
      have h := h_4
      try rw [callW_eq] at h
      exact WW.le (a := [some (.inr (.inr (16, 0))), some (.inl a1), some (.inl a2), some (.inl a3), some (.inr (.inl v4)), none, some (.inr (.inl v6)), none, some (.inr (.inl v8)), none, none, none]) (by rw [hn]; rfl) (show _ = _ ∧ _ = _ ∧ _ = _ ∧ _ = _ ∧ _ = _ ∧ _ = _ ∧ _ = _ ∧ True from ⟨e0, e1, e2, e3, e4, e6, e8, trivial⟩) (sX12_order_34 G hn hC hr a1 a2 a3 N (fX12_order_47 N a3) v4 v6 v8 w h (fun v4 v6 w h => (sX12_order_47 G hn hC hr a1 a2 a3 v4 v6 w h)))
    rw [if_neg hj] at h
    cases h
  · exact (show _ = _ ∧ _ = _ ∧ _ = _ ∧ _ = _ ∧ True from ⟨rfl, rfl, rfl, rfl, trivial⟩)
set_option maxRecDepth 100000 in
set_option maxHeartbeats 4000000 in
theorem sX12_order_19 {N : Nat} {X : XT} (G : GX X cX12_order RX12) (hn : xnL X = 12) (hC : CRs X tX12_order (oF [(mX12_isIn N), (mX12_layOrder N)]) (oF []) (oF [])) {r : Int64 × Wd} (hr : RTL X cX12_order r) (a1 : Int32) (a2 : Int32) (a3 : Int32) : ∀ (n : Nat) (k29 : Int64 → Wd → Option (Int64 × Wd)) (v4 : Int64) (v6 : Int32) (w : Wd), fX12_order_19 N a3 n k29 v4 v6 w = some r → (∀ (v4 : Int64) (w : Wd), k29 v4 w = some r → WW X (pcAt tX12_order 29) [some (.inr (.inr (16, 0))), some (.inl a1), some (.inl a2), some (.inl a3), some (.inr (.inl v4)), none, none, none, none, none, none, none] [] w) → WW X (pcAt tX12_order 19) [some (.inr (.inr (16, 0))), some (.inl a1), some (.inl a2), some (.inl a3), some (.inr (.inl v4)), none, some (.inl v6), none, none, none, none, none] [] w := by
  intro n
  induction n with
  | zero => intro k29 v4 v6 w h h29; cases h
  | succ n ih =>
    intro k29 v4 v6 w h h29
    refine run_sound (r := r) (X := X) (cc := cX12_order) (own := RX12) (tab := tX12_order) G (by rw [hn]; exact kX12_order) (oI := (oF [(mX12_isIn N), (mX12_layOrder N)])) (oL := (oF [])) (oV := (oF [])) (rI := (fun _ _ => none)) (rL := (fun x w => some (x, w))) (rV := (fun _ => none))
      (K := (fun j ls st w => if j = 19 then (lgL ls 4 fun v4 => lgI ls 6 fun v6 => st0 st (callW (fX12_order_19 N a3 n k29 v4 v6) w)) else if j = 29 then (lgL ls 4 fun v4 => st0 st (k29 v4 w)) else none)) (fun _ _ _ _ hx => by cases hx) (fun x w pc ls hx hd => hr x w pc ls (Option.some.inj hx) hd) (fun _ _ _ hx => by cases hx) hC (fun ls => lsb [some (.inr (.inr (16, 0))), some (.inl a1), some (.inl a2), some (.inl a3), none, none, none, none, none, none, none, none] 0 ls) (keepsP_of rfl) ?_ 60 19 [some (.inr (.inr (16, 0))), some (.inl a1), some (.inl a2), some (.inl a3), some (.inr (.inl v4)), none, some (.inl v6), none, none, none, none, none] [] w ?_ h
    · intro j ls st w hfx h
      obtain ⟨e0, e1, e2, e3, -⟩ : _ = _ ∧ _ = _ ∧ _ = _ ∧ _ = _ ∧ True := hfx
      try dsimp only at h
      by_cases hj : j = 19
      · subst hj
        rw [if_pos rfl] at h
        obtain ⟨v4, e4, h_1⟩ := lgL_some h
        obtain ⟨v6, e6, h_2⟩ := lgI_some h_1
        obtain ⟨rfl, h_3⟩ := st0_some h_2
        clear h h_1 h_2
        have h := h_3
        try rw [callW_eq] at h
        exact WW.le (a := [some (.inr (.inr (16, 0))), some (.inl a1), some (.inl a2), some (.inl a3), some (.inr (.inl v4)), none, some (.inl v6), none, none, none, none, none]) (by rw [hn]; rfl) (show _ = _ ∧ _ = _ ∧ _ = _ ∧ _ = _ ∧ _ = _ ∧ _ = _ ∧ True from ⟨e0, e1, e2, e3, e4, e6, trivial⟩) (ih k29 v4 v6 w h h29)
      rw [if_neg hj] at h
      by_cases hj : j = 29
      · subst hj
        rw [if_pos rfl] at h
        obtain ⟨v4, e4, h_1⟩ := lgL_some h
        obtain ⟨rfl, h_2⟩ := st0_some h_1
        clear h h_1
        have h := h_2
        try rw [callW_eq] at h
        exact WW.le (a := [some (.inr (.inr (16, 0))), some (.inl a1), some (.inl a2), some (.inl a3), some (.inr (.inl v4)), none, none, none, none, none, none, none]) (by rw [hn]; rfl) (show _ = _ ∧ _ = _ ∧ _ = _ ∧ _ = _ ∧ _ = _ ∧ True from ⟨e0, e1, e2, e3, e4, trivial⟩) (h29 v4 w h)
      rw [if_neg hj] at h
      cases h
    · exact (show _ = _ ∧ _ = _ ∧ _ = _ ∧ _ = _ ∧ True from ⟨rfl, rfl, rfl, rfl, trivial⟩)
set_option maxRecDepth 100000 in
set_option maxHeartbeats 4000000 in
theorem crX12_order {N : Nat} {X : XT} (G : GX X cX12_order RX12) (hR : xR X = rmL 8) : CRs X tX12_order (oF [(mX12_isIn N), (mX12_layOrder N)]) (oF []) (oF []) := by
  have hl : tX12_order.filter isInv = [(8, .invokestatic 241, 0, 0, 3, 0, 0, []), (17, .invokevirtual 597, 0, 1, 3, 0, 0, [])] := rfl
  intro e he
  rw [hl] at he
  simp only [List.mem_cons, List.not_mem_nil, or_false] at he
  rcases he with rfl | rfl
  · exact crI_S (idx := 241) G (by decide +kernel) (MX12_isIn N) (cw_of (ps := [1986, 1987, 164, 1988]) (by decide +kernel) (by decide +kernel)) ⟨by decide +kernel, by decide +kernel, by decide +kernel⟩ (by unfold rmOk; rw [hR]; exact ⟨by decide, by decide⟩)
  · exact crI_V (idx := 597) G (by decide +kernel) (MX12_layOrder N) (cw_of (ps := [2281, 2283, 137, 164, 2284]) (by decide +kernel) (by decide +kernel)) ⟨by decide +kernel, by decide +kernel, by decide +kernel⟩ (by unfold rmOk; rw [hR]; exact ⟨by decide, by decide⟩)
set_option maxRecDepth 100000 in
set_option maxHeartbeats 4000000 in
theorem MX12_order (N : Nat) : SndL yX12_order cX12_order 12 (some .long) 8 4 true (mX12_order N) := by
  refine SndL.of tX12_order (by decide +kernel) rfl rfl ?_ ?_
  · intro as w x h
    obtain ⟨t1, rfl, h_1⟩ := xS1_some h
    obtain ⟨a1, t2, rfl, h_2⟩ := xI1_some h_1
    obtain ⟨a2, t3, rfl, h_3⟩ := xI1_some h_2
    obtain ⟨a3, t4, rfl, h_4⟩ := xI1_some h_3
    obtain ⟨rfl, h_5⟩ := xN1_some h_4
    clear h h_1 h_2 h_3 h_4
    have h := h_5
    rw [callW_eq] at h
    exact ⟨fun _ => ⟨_, _, _, rfl, rfl, _, rfl, rfl⟩, rfl, Nat.le_of_ble_eq_true rfl⟩
  · intro X G hn hR as w r h hr
    have hC := crX12_order (N := N) G hR
    obtain ⟨t1, rfl, h_1⟩ := xS1_some h
    obtain ⟨a1, t2, rfl, h_2⟩ := xI1_some h_1
    obtain ⟨a2, t3, rfl, h_3⟩ := xI1_some h_2
    obtain ⟨a3, t4, rfl, h_4⟩ := xI1_some h_3
    obtain ⟨rfl, h_5⟩ := xN1_some h_4
    clear h h_1 h_2 h_3 h_4
    have h := h_5
    rw [callW_eq] at h
    refine run_sound (r := r) (X := X) (cc := cX12_order) (own := RX12) (tab := tX12_order) G (by rw [hn]; exact kX12_order) (oI := (oF [(mX12_isIn N), (mX12_layOrder N)])) (oL := (oF [])) (oV := (oF [])) (rI := (fun _ _ => none)) (rL := (fun x w => some (x, w))) (rV := (fun _ => none))
      (K := (fun j ls st w => if j = 19 then (lgL ls 4 fun v4 => lgI ls 6 fun v6 => st0 st (callW (fX12_order_19 N a3 N (fX12_order_29 N a3) v4 v6) w)) else none)) (fun _ _ _ _ hx => by cases hx) (fun x w pc ls hx hd => hr x w pc ls (Option.some.inj hx) hd) (fun _ _ _ hx => by cases hx) hC (fun ls => lsb [some (.inr (.inr (16, 0))), some (.inl a1), some (.inl a2), some (.inl a3), none, none, none, none, none, none, none, none] 0 ls) (keepsP_of rfl) ?_ 60 0 [some (.inr (.inr (16, 0))), some (.inl a1), some (.inl a2), some (.inl a3), none, none, none, none, none, none, none, none] [] w ?_ h
    · intro j ls st w hfx h
      obtain ⟨e0, e1, e2, e3, -⟩ : _ = _ ∧ _ = _ ∧ _ = _ ∧ _ = _ ∧ True := hfx
      try dsimp only at h
      by_cases hj : j = 19
      · subst hj
        rw [if_pos rfl] at h
        obtain ⟨v4, e4, h_1⟩ := lgL_some h
        obtain ⟨v6, e6, h_2⟩ := lgI_some h_1
        obtain ⟨rfl, h_3⟩ := st0_some h_2
        clear h h_1 h_2
        have h := h_3
        try rw [callW_eq] at h
        exact WW.le (a := [some (.inr (.inr (16, 0))), some (.inl a1), some (.inl a2), some (.inl a3), some (.inr (.inl v4)), none, some (.inl v6), none, none, none, none, none]) (by rw [hn]; rfl) (show _ = _ ∧ _ = _ ∧ _ = _ ∧ _ = _ ∧ _ = _ ∧ _ = _ ∧ True from ⟨e0, e1, e2, e3, e4, e6, trivial⟩) (sX12_order_19 G hn hC hr a1 a2 a3 N (fX12_order_29 N a3) v4 v6 w h (fun v4 w h => (sX12_order_29 G hn hC hr a1 a2 a3 v4 w h)))
      rw [if_neg hj] at h
      cases h
    · exact (show _ = _ ∧ _ = _ ∧ _ = _ ∧ _ = _ ∧ True from ⟨rfl, rfl, rfl, rfl, trivial⟩)
-- MoorGuidesModel.ordered(III)I
def tX12_ordered : List EN := [
  (0, .aload_n 0, 0, 0, 0, 0, 0, []), (1, .iconst 0, 0, 0, 0, 0, 0, []), (2, .putfield 196, 0, 12, 2, 0, 0, []), (5, .iload_n 3, 0, 0, 0, 0, 0, []),
  (6, .ifCond .lt 12, 0, 10, 0, 0, 0, []), (9, .aload_n 0, 0, 0, 0, 0, 0, []), (10, .iload_n 1, 0, 0, 0, 0, 0, []), (11, .iload_n 2, 0, 0, 0, 0, 0, []),
  (12, .invokevirtual 597, 0, 0, 3, 0, 0, []), (15, .ifCond .ne 5, 0, 12, 0, 0, 0, []), (18, .iconst (-1), 0, 0, 0, (-1), 0, []), (19, .ireturn, 0, 0, 0, 0, 0, []),
  (20, .iload_n 3, 0, 0, 0, 0, 0, []), (21, .aload_n 0, 0, 0, 0, 0, 0, []), (22, .getfield 582, 0, 12, 87, 0, 0, []), (25, .if_icmp .ge 12, 0, 21, 0, 0, 0, []),
  (28, .aload_n 0, 0, 0, 0, 0, 0, []), (29, .getfield 157, 0, 12, 89, 0, 0, []), (32, .iload_n 3, 0, 0, 0, 0, 0, []), (33, .iaload, 0, 0, 0, 0, 0, []),
  (34, .goto 5, 0, 22, 0, 0, 0, []), (37, .bipush (-2), 0, 0, 0, (-2), 0, []), (39, .ireturn, 0, 0, 0, 0, 0, [])]
noncomputable def pX12_ordered (N : Nat) (a1 : Int32) (a2 : Int32) (a3 : Int32) (w : Wd) : Option (Int32 × Wd) :=
  if a3 < 0 then some ((-1 : Int32), (setI w 16 0 2 (0 : Int32))) else
  (callW (pX12_layOrder N a1 a2) (setI w 16 0 2 (0 : Int32))).bind fun r1 =>
  if r1.1 = 0 then some ((-1 : Int32), r1.2) else
  if a3 < (gI r1.2 16 0 87) then
    (ldI r1.2 120 0 a3 8).bind fun x2 =>
    some (x2, r1.2)
  else
  some ((-2 : Int32), r1.2)
noncomputable def mX12_ordered (N : Nat) (as : List AV) (w : Wd) : Option (Int32 × Wd) := xS1 16 as fun t => xI1 t fun a1 t => xI1 t fun a2 t => xI1 t fun a3 t => xN1 t (callW (pX12_ordered N a1 a2 a3) w)
set_option maxRecDepth 100000 in
set_option maxHeartbeats 4000000 in
theorem kX12_ordered : TK cX12_ordered RX12 4 tX12_ordered := ⟨by decide +kernel, wok_of [1602, 1687, 1689] (by decide +kernel) (by decide +kernel)⟩
set_option maxRecDepth 100000 in
set_option maxHeartbeats 4000000 in
theorem crX12_ordered {N : Nat} {X : XT} (G : GX X cX12_ordered RX12) (hR : xR X = rmL 8) : CRs X tX12_ordered (oF [(mX12_layOrder N)]) (oF []) (oF []) := by
  have hl : tX12_ordered.filter isInv = [(12, .invokevirtual 597, 0, 0, 3, 0, 0, [])] := rfl
  intro e he
  rw [hl] at he
  simp only [List.mem_cons, List.not_mem_nil, or_false] at he
  rcases he with rfl
  · exact crI_V (idx := 597) G (by decide +kernel) (MX12_layOrder N) (cw_of (ps := [2281, 2283, 137, 164, 2284]) (by decide +kernel) (by decide +kernel)) ⟨by decide +kernel, by decide +kernel, by decide +kernel⟩ (by unfold rmOk; rw [hR]; exact ⟨by decide, by decide⟩)
set_option maxRecDepth 100000 in
set_option maxHeartbeats 4000000 in
theorem MX12_ordered (N : Nat) : SndI yX12_ordered cX12_ordered 4 (some .int) 8 4 true (mX12_ordered N) := by
  refine SndI.of tX12_ordered (by decide +kernel) rfl rfl ?_ ?_
  · intro as w x h
    obtain ⟨t1, rfl, h_1⟩ := xS1_some h
    obtain ⟨a1, t2, rfl, h_2⟩ := xI1_some h_1
    obtain ⟨a2, t3, rfl, h_3⟩ := xI1_some h_2
    obtain ⟨a3, t4, rfl, h_4⟩ := xI1_some h_3
    obtain ⟨rfl, h_5⟩ := xN1_some h_4
    clear h h_1 h_2 h_3 h_4
    have h := h_5
    rw [callW_eq] at h
    exact ⟨fun _ => ⟨_, _, _, rfl, rfl, _, rfl, rfl⟩, rfl, Nat.le_of_ble_eq_true rfl⟩
  · intro X G hn hR as w r h hr
    have hC := crX12_ordered (N := N) G hR
    obtain ⟨t1, rfl, h_1⟩ := xS1_some h
    obtain ⟨a1, t2, rfl, h_2⟩ := xI1_some h_1
    obtain ⟨a2, t3, rfl, h_3⟩ := xI1_some h_2
    obtain ⟨a3, t4, rfl, h_4⟩ := xI1_some h_3
    obtain ⟨rfl, h_5⟩ := xN1_some h_4
    clear h h_1 h_2 h_3 h_4
    have h := h_5
    rw [callW_eq] at h
    refine run_sound (r := r) (X := X) (cc := cX12_ordered) (own := RX12) (tab := tX12_ordered) G (by rw [hn]; exact kX12_ordered) (oI := (oF [(mX12_layOrder N)])) (oL := (oF [])) (oV := (oF [])) (rI := (fun x w => some (x, w))) (rL := (fun _ _ => none)) (rV := (fun _ => none))
      (K := (fun j ls st w => none)) (fun x w pc ls hx hd => hr x w pc ls (Option.some.inj hx) hd) (fun _ _ _ _ hx => by cases hx) (fun _ _ _ hx => by cases hx) hC (fun ls => lsb [some (.inr (.inr (16, 0))), some (.inl a1), some (.inl a2), some (.inl a3)] 0 ls) (keepsP_of rfl) ?_ 25 0 [some (.inr (.inr (16, 0))), some (.inl a1), some (.inl a2), some (.inl a3)] [] w ?_ h
    · intro j ls st w hfx h
      obtain ⟨e0, e1, e2, e3, -⟩ : _ = _ ∧ _ = _ ∧ _ = _ ∧ _ = _ ∧ True := hfx
      try dsimp only at h
      cases h
    · exact (show _ = _ ∧ _ = _ ∧ _ = _ ∧ _ = _ ∧ True from ⟨rfl, rfl, rfl, rfl, trivial⟩)
-- MoorGuidesModel.pullOf(IIIII)J
def tX12_pullOf : List EN := [
  (0, .iload_n 1, 0, 0, 0, 0, 0, []), (1, .tableswitch 74 0 2 #[27, 52, 62], 0, 31, 27, 0, 0, [(0, 2), (1, 17), (2, 23)]), (28, .aload_n 0, 0, 0, 0, 0, 0, []), (29, .iload_n 2, 0, 0, 0, 0, 0, []),
  (30, .iload_n 3, 0, 0, 0, 0, 0, []), (31, .iload 5, 0, 0, 0, 0, 0, []), (33, .invokevirtual 469, 0, 0, 4, 0, 0, []), (36, .aload_n 0, 0, 0, 0, 0, 0, []),
  (37, .getfield 26, 0, 12, 33, 0, 0, []), (40, .iload 4, 0, 0, 0, 0, 0, []), (42, .iaload, 0, 0, 0, 0, 0, []), (43, .iand, 0, 0, 0, 0, 0, []),
  (44, .ifCond .eq 7, 0, 15, 0, 0, 0, []), (47, .lconst 1, 0, 0, 0, 0, 1, []), (48, .goto 4, 0, 16, 0, 0, 0, []), (51, .lconst 0, 0, 0, 0, 0, 0, []),
  (52, .lreturn, 0, 0, 0, 0, 0, []), (53, .aload_n 0, 0, 0, 0, 0, 0, []), (54, .iload 4, 0, 0, 0, 0, 0, []), (56, .iload 5, 0, 0, 0, 0, 0, []),
  (58, .invokevirtual 476, 0, 1, 3, 0, 0, []), (61, .i2l, 0, 0, 0, 0, 0, []), (62, .lreturn, 0, 0, 0, 0, 0, []), (63, .aload_n 0, 0, 0, 0, 0, 0, []),
  (64, .iload_n 2, 0, 0, 0, 0, 0, []), (65, .iload_n 3, 0, 0, 0, 0, 0, []), (66, .iload 4, 0, 0, 0, 0, 0, []), (68, .iload 5, 0, 0, 0, 0, 0, []),
  (70, .invokevirtual 498, 0, 2, 5, 0, 0, []), (73, .i2l, 0, 0, 0, 0, 0, []), (74, .lreturn, 0, 0, 0, 0, 0, []), (75, .aload_n 0, 0, 0, 0, 0, 0, []),
  (76, .getfield 68, 0, 12, 47, 0, 0, []), (79, .iconst 1, 0, 0, 0, 1, 0, []), (80, .baload, 0, 0, 0, 0, 0, []), (81, .ifCond .ne 5, 0, 38, 0, 0, 0, []),
  (84, .lconst 0, 0, 0, 0, 0, 0, []), (85, .lreturn, 0, 0, 0, 0, 0, []), (86, .aload_n 0, 0, 0, 0, 0, 0, []), (87, .iconst 1, 0, 0, 0, 1, 0, []),
  (88, .iload_n 2, 0, 0, 0, 0, 0, []), (89, .iload_n 3, 0, 0, 0, 0, 0, []), (90, .iload 4, 0, 0, 0, 0, 0, []), (92, .iload 5, 0, 0, 0, 0, 0, []),
  (94, .invokevirtual 492, 0, 0, 6, 0, 0, [(0, 0)]), (97, .lstore 6, 0, 0, 0, 0, 0, []), (99, .aload_n 0, 0, 0, 0, 0, 0, []), (100, .getfield 420, 0, 12, 63, 0, 0, []),
  (103, .ifCond .eq 7, 0, 51, 0, 0, 0, []), (106, .lconst 0, 0, 0, 0, 0, 0, []), (107, .goto 5, 0, 52, 0, 0, 0, []), (110, .lload 6, 0, 0, 0, 0, 0, []),
  (112, .lreturn, 0, 0, 0, 0, 0, [])]
noncomputable def pX12_pullOf (N : Nat) (a1 : Int32) (a2 : Int32) (a3 : Int32) (a4 : Int32) (a5 : Int32) (w : Wd) : Option (Int64 × Wd) :=
  if a1 = (0 : Int32) then
    (callW (pX12_knownBy N a2 a3 a5) w).bind fun r1 =>
    (ldI r1.2 77 0 a4 16).bind fun x2 =>
    if (r1.1 &&& x2) = 0 then some ((0 : Int64), r1.2) else
    some ((1 : Int64), r1.2)
  else
  if a1 = (1 : Int32) then
    (callW (pX12_wantedOf N a4 a5) w).bind fun r3 =>
    some (r3.1.toInt64, r3.2)
  else
  if a1 = (2 : Int32) then
    (callW (pX12_chanceOf N a2 a3 a4 a5) w).bind fun r4 =>
    some (r4.1.toInt64, r4.2)
  else
  (ldI w 91 0 (1 : Int32) 4).bind fun x5 =>
  if x5 = 0 then some ((0 : Int64), w) else
  (callW (pX12_lawOf N (1 : Int32) a2 a3 a4 a5) w).bind fun r6 =>
  if (gI r6.2 16 0 63) = 0 then some (r6.1, r6.2) else
  some ((0 : Int64), r6.2)
noncomputable def mX12_pullOf (N : Nat) (as : List AV) (w : Wd) : Option (Int64 × Wd) := xS1 16 as fun t => xI1 t fun a1 t => xI1 t fun a2 t => xI1 t fun a3 t => xI1 t fun a4 t => xI1 t fun a5 t => xN1 t (callW (pX12_pullOf N a1 a2 a3 a4 a5) w)
set_option maxRecDepth 100000 in
set_option maxHeartbeats 4000000 in
theorem kX12_pullOf : TK cX12_pullOf RX12 8 tX12_pullOf := ⟨by decide +kernel, wok_of [1633, 1647, 1663] (by decide +kernel) (by decide +kernel)⟩
set_option maxRecDepth 100000 in
set_option maxHeartbeats 4000000 in
theorem crX12_pullOf {N : Nat} {X : XT} (G : GX X cX12_pullOf RX12) (hR : xR X = rmL 6) : CRs X tX12_pullOf (oF [(mX12_knownBy N), (mX12_wantedOf N), (mX12_chanceOf N)]) (oF [(mX12_lawOf N)]) (oF []) := by
  have hl : tX12_pullOf.filter isInv = [(33, .invokevirtual 469, 0, 0, 4, 0, 0, []), (58, .invokevirtual 476, 0, 1, 3, 0, 0, []), (70, .invokevirtual 498, 0, 2, 5, 0, 0, []), (94, .invokevirtual 492, 0, 0, 6, 0, 0, [(0, 0)])] := rfl
  intro e he
  rw [hl] at he
  simp only [List.mem_cons, List.not_mem_nil, or_false] at he
  rcases he with rfl | rfl | rfl | rfl
  · exact crI_V (idx := 469) G (by decide +kernel) (MX12_knownBy N) (cw_of (ps := [2092, 2094, 109, 164, 2095]) (by decide +kernel) (by decide +kernel)) ⟨by decide +kernel, by decide +kernel, by decide +kernel⟩ (by unfold rmOk; rw [hR]; exact ⟨by decide, by decide⟩)
  · exact crI_V (idx := 476) G (by decide +kernel) (MX12_wantedOf N) (cw_of (ps := [2108, 2110, 112, 164, 2111]) (by decide +kernel) (by decide +kernel)) ⟨by decide +kernel, by decide +kernel, by decide +kernel⟩ (by unfold rmOk; rw [hR]; exact ⟨by decide, by decide⟩)
  · exact crI_V (idx := 498) G (by decide +kernel) (MX12_chanceOf N) (cw_of (ps := [2127, 2129, 113, 164, 2130]) (by decide +kernel) (by decide +kernel)) ⟨by decide +kernel, by decide +kernel, by decide +kernel⟩ (by unfold rmOk; rw [hR]; exact ⟨by decide, by decide⟩)
  · exact crL_V (idx := 492) G (by decide +kernel) (MX12_lawOf N) (cw_of (ps := [2131, 2133, 114, 164, 2134]) (by decide +kernel) (by decide +kernel)) ⟨by decide +kernel, by decide +kernel, by decide +kernel⟩ (by unfold rmOk; rw [hR]; exact ⟨by decide, by decide⟩)
set_option maxRecDepth 100000 in
set_option maxHeartbeats 4000000 in
theorem MX12_pullOf (N : Nat) : SndL yX12_pullOf cX12_pullOf 8 (some .long) 6 6 true (mX12_pullOf N) := by
  refine SndL.of tX12_pullOf (by decide +kernel) rfl rfl ?_ ?_
  · intro as w x h
    obtain ⟨t1, rfl, h_1⟩ := xS1_some h
    obtain ⟨a1, t2, rfl, h_2⟩ := xI1_some h_1
    obtain ⟨a2, t3, rfl, h_3⟩ := xI1_some h_2
    obtain ⟨a3, t4, rfl, h_4⟩ := xI1_some h_3
    obtain ⟨a4, t5, rfl, h_5⟩ := xI1_some h_4
    obtain ⟨a5, t6, rfl, h_6⟩ := xI1_some h_5
    obtain ⟨rfl, h_7⟩ := xN1_some h_6
    clear h h_1 h_2 h_3 h_4 h_5 h_6
    have h := h_7
    rw [callW_eq] at h
    exact ⟨fun _ => ⟨_, _, _, rfl, rfl, _, rfl, rfl⟩, rfl, Nat.le_of_ble_eq_true rfl⟩
  · intro X G hn hR as w r h hr
    have hC := crX12_pullOf (N := N) G hR
    obtain ⟨t1, rfl, h_1⟩ := xS1_some h
    obtain ⟨a1, t2, rfl, h_2⟩ := xI1_some h_1
    obtain ⟨a2, t3, rfl, h_3⟩ := xI1_some h_2
    obtain ⟨a3, t4, rfl, h_4⟩ := xI1_some h_3
    obtain ⟨a4, t5, rfl, h_5⟩ := xI1_some h_4
    obtain ⟨a5, t6, rfl, h_6⟩ := xI1_some h_5
    obtain ⟨rfl, h_7⟩ := xN1_some h_6
    clear h h_1 h_2 h_3 h_4 h_5 h_6
    have h := h_7
    rw [callW_eq] at h
    refine run_sound (r := r) (X := X) (cc := cX12_pullOf) (own := RX12) (tab := tX12_pullOf) G (by rw [hn]; exact kX12_pullOf) (oI := (oF [(mX12_knownBy N), (mX12_wantedOf N), (mX12_chanceOf N)])) (oL := (oF [(mX12_lawOf N)])) (oV := (oF [])) (rI := (fun _ _ => none)) (rL := (fun x w => some (x, w))) (rV := (fun _ => none))
      (K := (fun j ls st w => none)) (fun _ _ _ _ hx => by cases hx) (fun x w pc ls hx hd => hr x w pc ls (Option.some.inj hx) hd) (fun _ _ _ hx => by cases hx) hC (fun ls => lsb [some (.inr (.inr (16, 0))), some (.inl a1), some (.inl a2), some (.inl a3), some (.inl a4), some (.inl a5), none, none] 0 ls) (keepsP_of rfl) ?_ 55 0 [some (.inr (.inr (16, 0))), some (.inl a1), some (.inl a2), some (.inl a3), some (.inl a4), some (.inl a5), none, none] [] w ?_ h
    · intro j ls st w hfx h
      obtain ⟨e0, e1, e2, e3, e4, e5, -⟩ : _ = _ ∧ _ = _ ∧ _ = _ ∧ _ = _ ∧ _ = _ ∧ _ = _ ∧ True := hfx
      try dsimp only at h
      cases h
    · exact (show _ = _ ∧ _ = _ ∧ _ = _ ∧ _ = _ ∧ _ = _ ∧ _ = _ ∧ True from ⟨rfl, rfl, rfl, rfl, rfl, rfl, trivial⟩)
-- MoorGuidesModel.pickOf(III)V
def tX12_pickOf : List EN := [
  (0, .aload_n 0, 0, 0, 0, 0, 0, []), (1, .iconst (-1), 0, 0, 0, (-1), 0, []), (2, .putfield 600, 0, 12, 91, 0, 0, []), (5, .aload_n 0, 0, 0, 0, 0, 0, []),
  (6, .iconst (-1), 0, 0, 0, (-1), 0, []), (7, .putfield 603, 0, 12, 92, 0, 0, []), (10, .lconst 0, 0, 0, 0, 0, 0, []), (11, .lstore 4, 0, 0, 0, 0, 0, []),
  (13, .iconst 0, 0, 0, 0, 0, 0, []), (14, .istore 6, 0, 0, 0, 0, 0, []), (16, .iload 6, 11, 0, 0, 0, 0, []), (18, .aload_n 0, 0, 0, 0, 0, 0, []),
  (19, .getfield 298, 0, 12, 13, 0, 0, []), (22, .if_icmp .ge 104, 0, 63, 0, 0, 0, []), (25, .aload_n 0, 0, 0, 0, 0, 0, []), (26, .iload_n 2, 0, 0, 0, 0, 0, []),
  (27, .iload 6, 0, 0, 0, 0, 0, []), (29, .iload_n 3, 0, 0, 0, 0, 0, []), (30, .invokevirtual 456, 0, 0, 4, 0, 0, []), (33, .ifCond .ne 6, 0, 21, 0, 0, 0, []),
  (36, .goto 84, 0, 61, 0, 0, 0, []), (39, .iconst 0, 0, 0, 0, 0, 0, []), (40, .istore 7, 0, 0, 0, 0, 0, []), (42, .iload 7, 24, 0, 0, 0, 0, []),
  (44, .aload_n 0, 0, 0, 0, 0, 0, []), (45, .getfield 295, 0, 12, 12, 0, 0, []), (48, .if_icmp .ge 72, 0, 61, 0, 0, 0, []), (51, .aload_n 0, 0, 0, 0, 0, 0, []),
  (52, .iload_n 2, 0, 0, 0, 0, 0, []), (53, .iload 6, 0, 0, 0, 0, 0, []), (55, .iload 7, 0, 0, 0, 0, 0, []), (57, .iload_n 3, 0, 0, 0, 0, 0, []),
  (58, .invokevirtual 459, 0, 1, 5, 0, 0, []), (61, .ifCond .eq 6, 0, 35, 0, 0, 0, []), (64, .goto 50, 0, 59, 0, 0, 0, []), (67, .aload_n 0, 0, 0, 0, 0, 0, []),
  (68, .iload_n 1, 0, 0, 0, 0, 0, []), (69, .iload_n 2, 0, 0, 0, 0, 0, []), (70, .iload 6, 0, 0, 0, 0, 0, []), (72, .iload 7, 0, 0, 0, 0, 0, []),
  (74, .iload_n 3, 0, 0, 0, 0, 0, []), (75, .invokevirtual 606, 0, 0, 6, 0, 0, [(0, 0)]), (78, .lstore 8, 0, 0, 0, 0, 0, []), (80, .aload_n 0, 0, 0, 0, 0, 0, []),
  (81, .getfield 600, 0, 12, 91, 0, 0, []), (84, .ifCond .lt 14, 0, 51, 0, 0, 0, []), (87, .lload 8, 0, 0, 0, 0, 0, []), (89, .lload 4, 0, 0, 0, 0, 0, []),
  (91, .lcmp, 0, 0, 0, 0, 0, []), (92, .ifCond .gt 6, 0, 51, 0, 0, 0, []), (95, .goto 19, 0, 59, 0, 0, 0, []), (98, .aload_n 0, 52, 0, 0, 0, 0, []),
  (99, .iload 6, 0, 0, 0, 0, 0, []), (101, .putfield 600, 0, 12, 91, 0, 0, []), (104, .aload_n 0, 0, 0, 0, 0, 0, []), (105, .iload 7, 0, 0, 0, 0, 0, []),
  (107, .putfield 603, 0, 12, 92, 0, 0, []), (110, .lload 8, 0, 0, 0, 0, 0, []), (112, .lstore 4, 0, 0, 0, 0, 0, []), (114, .iinc 7 1, 0, 0, 0, 1, 0, []),
  (117, .goto (-75), 0, 23, 0, 0, 0, []), (120, .iinc 6 1, 62, 0, 0, 1, 0, []), (123, .goto (-107), 0, 10, 0, 0, 0, []), (126, .return_, 0, 0, 0, 0, 0, [])]
noncomputable def fX12_pickOf_61 (N : Nat) (a1 : Int32) (a2 : Int32) (a3 : Int32) (k10 : Int64 → Int32 → Wd → Option (Wd)) (v4 : Int64) (v6 : Int32) (w : Wd) : Option (Wd) :=
  k10 v4 (v6 + (1 : Int32)) w
noncomputable def fX12_pickOf_51 (N : Nat) (a1 : Int32) (a2 : Int32) (a3 : Int32) (k23 : Int64 → Int32 → Int32 → Wd → Option (Wd)) (v6 : Int32) (v7 : Int32) (v8 : Int64) (w : Wd) : Option (Wd) :=
  k23 v8 v6 (v7 + (1 : Int32)) (setI (setI w 16 0 91 v6) 16 0 92 v7)
noncomputable def fX12_pickOf_23 (N : Nat) (a1 : Int32) (a2 : Int32) (a3 : Int32) : Nat → (Int64 → Int32 → Wd → Option (Wd)) → Int64 → Int32 → Int32 → Wd → Option (Wd)
  | 0, _, _, _, _, _ => none
  | n + 1, k61, v4, v6, v7, w =>
    if v7 < (gI w 16 0 12) then
      (callW (pX12_hasKnown N a2 v6 v7 a3) w).bind fun r1 =>
      if r1.1 = 0 then
        (callW (pX12_pullOf N a1 a2 v6 v7 a3) r1.2).bind fun r2 =>
        if (gI r2.2 16 0 91) < 0 then callW (fX12_pickOf_51 N a1 a2 a3 (fX12_pickOf_23 N a1 a2 a3 n k61) v6 v7 r2.1) r2.2 else
        if 0 < (lg_cmp r2.1 v4) then callW (fX12_pickOf_51 N a1 a2 a3 (fX12_pickOf_23 N a1 a2 a3 n k61) v6 v7 r2.1) r2.2 else
        callW (fX12_pickOf_23 N a1 a2 a3 n k61 v4 v6 (v7 + (1 : Int32))) r2.2
      else
      callW (fX12_pickOf_23 N a1 a2 a3 n k61 v4 v6 (v7 + (1 : Int32))) r1.2
    else
    k61 v4 v6 w
noncomputable def fX12_pickOf_10 (N : Nat) (a1 : Int32) (a2 : Int32) (a3 : Int32) : Nat → Int64 → Int32 → Wd → Option (Wd)
  | 0, _, _, _ => none
  | n + 1, v4, v6, w =>
    if v6 < (gI w 16 0 13) then
      (callW (pX12_isThere N a2 v6 a3) w).bind fun r1 =>
      if r1.1 = 0 then callW (fX12_pickOf_61 N a1 a2 a3 (fX12_pickOf_10 N a1 a2 a3 n) v4 v6) r1.2 else
      callW (fX12_pickOf_23 N a1 a2 a3 N (fX12_pickOf_61 N a1 a2 a3 (fX12_pickOf_10 N a1 a2 a3 n)) v4 v6 (0 : Int32)) r1.2
    else
    some w
noncomputable def pX12_pickOf (N : Nat) (a1 : Int32) (a2 : Int32) (a3 : Int32) (w : Wd) : Option (Wd) :=
  callW (fX12_pickOf_10 N a1 a2 a3 N (0 : Int64) (0 : Int32)) (setI (setI w 16 0 91 (-1 : Int32)) 16 0 92 (-1 : Int32))
noncomputable def mX12_pickOf (N : Nat) (as : List AV) (w : Wd) : Option (Wd) := xS1 16 as fun t => xI1 t fun a1 t => xI1 t fun a2 t => xI1 t fun a3 t => xN1 t (callW (pX12_pickOf N a1 a2 a3) w)
set_option maxRecDepth 100000 in
set_option maxHeartbeats 4000000 in
theorem kX12_pickOf : TK cX12_pickOf RX12 10 tX12_pickOf := ⟨by decide +kernel, wok_of [1691, 1692, 1613, 1612, 1691, 1691, 1692] (by decide +kernel) (by decide +kernel)⟩
set_option maxRecDepth 100000 in
set_option maxHeartbeats 4000000 in
theorem sX12_pickOf_61 {N : Nat} {X : XT} (G : GX X cX12_pickOf RX12) (hn : xnL X = 10) (hC : CRs X tX12_pickOf (oF [(mX12_isThere N), (mX12_hasKnown N)]) (oF [(mX12_pullOf N)]) (oF [])) {r : Wd} (hr : RTV X cX12_pickOf r) (a1 : Int32) (a2 : Int32) (a3 : Int32) : ∀ (k10 : Int64 → Int32 → Wd → Option (Wd)) (v4 : Int64) (v6 : Int32) (w : Wd), fX12_pickOf_61 N a1 a2 a3 k10 v4 v6 w = some r → (∀ (v4 : Int64) (v6 : Int32) (w : Wd), k10 v4 v6 w = some r → WW X (pcAt tX12_pickOf 10) [some (.inr (.inr (16, 0))), some (.inl a1), some (.inl a2), some (.inl a3), some (.inr (.inl v4)), none, some (.inl v6), none, none, none] [] w) → WW X (pcAt tX12_pickOf 61) [some (.inr (.inr (16, 0))), some (.inl a1), some (.inl a2), some (.inl a3), some (.inr (.inl v4)), none, some (.inl v6), none, none, none] [] w := by
  intro k10 v4 v6 w h h10
  refine run_sound (r := r) (X := X) (cc := cX12_pickOf) (own := RX12) (tab := tX12_pickOf) G (by rw [hn]; exact kX12_pickOf) (oI := (oF [(mX12_isThere N), (mX12_hasKnown N)])) (oL := (oF [(mX12_pullOf N)])) (oV := (oF [])) (rI := (fun _ _ => none)) (rL := (fun _ _ => none)) (rV := (fun w => some w))
    (K := (fun j ls st w => if j = 10 then (lgL ls 4 fun v4 => lgI ls 6 fun v6 => st0 st (k10 v4 v6 w)) else none)) (fun _ _ _ _ hx => by cases hx) (fun _ _ _ _ hx => by cases hx) (fun w pc ls hx hd => hr w pc ls (Option.some.inj hx) hd) hC (fun ls => lsb [some (.inr (.inr (16, 0))), some (.inl a1), some (.inl a2), some (.inl a3), none, none, none, none, none, none] 0 ls) (keepsP_of rfl) ?_ 66 61 [some (.inr (.inr (16, 0))), some (.inl a1), some (.inl a2), some (.inl a3), some (.inr (.inl v4)), none, some (.inl v6), none, none, none] [] w ?_ h
  · intro j ls st w hfx h
    obtain ⟨e0, e1, e2, e3, -⟩ : _ = _ ∧ _ = _ ∧ _ = _ ∧ _ = _ ∧ True := hfx
    try dsimp only at h
    by_cases hj : j = 10
    · subst hj
      rw [if_pos rfl] at h
      obtain ⟨v4, e4, h_1⟩ := lgL_some h
      obtain ⟨v6, e6, h_2⟩ := lgI_some h_1
      obtain ⟨rfl, h_3⟩ := st0_some h_2
      clear h h_1 h_2
      have h := h_3
      try rw [callW_eq] at h
      exact WW.le (a := [some (.inr (.inr (16, 0))), some (.inl a1), some (.inl a2), some (.inl a3), some (.inr (.inl v4)), none, some (.inl v6), none, none, none]) (by rw [hn]; rfl) (show _ = _ ∧ _ = _ ∧ _ = _ ∧ _ = _ ∧ _ = _ ∧ _ = _ ∧ True from ⟨e0, e1, e2, e3, e4, e6, trivial⟩) (h10 v4 v6 w h)
    rw [if_neg hj] at h
    cases h
  · exact (show _ = _ ∧ _ = _ ∧ _ = _ ∧ _ = _ ∧ True from ⟨rfl, rfl, rfl, rfl, trivial⟩)
set_option maxRecDepth 100000 in
set_option maxHeartbeats 4000000 in
theorem sX12_pickOf_51 {N : Nat} {X : XT} (G : GX X cX12_pickOf RX12) (hn : xnL X = 10) (hC : CRs X tX12_pickOf (oF [(mX12_isThere N), (mX12_hasKnown N)]) (oF [(mX12_pullOf N)]) (oF [])) {r : Wd} (hr : RTV X cX12_pickOf r) (a1 : Int32) (a2 : Int32) (a3 : Int32) : ∀ (k23 : Int64 → Int32 → Int32 → Wd → Option (Wd)) (v6 : Int32) (v7 : Int32) (v8 : Int64) (w : Wd), fX12_pickOf_51 N a1 a2 a3 k23 v6 v7 v8 w = some r → (∀ (v4 : Int64) (v6 : Int32) (v7 : Int32) (w : Wd), k23 v4 v6 v7 w = some r → WW X (pcAt tX12_pickOf 23) [some (.inr (.inr (16, 0))), some (.inl a1), some (.inl a2), some (.inl a3), some (.inr (.inl v4)), none, some (.inl v6), some (.inl v7), none, none] [] w) → WW X (pcAt tX12_pickOf 51) [some (.inr (.inr (16, 0))), some (.inl a1), some (.inl a2), some (.inl a3), none, none, some (.inl v6), some (.inl v7), some (.inr (.inl v8)), none] [] w := by
  intro k23 v6 v7 v8 w h h23
  refine run_sound (r := r) (X := X) (cc := cX12_pickOf) (own := RX12) (tab := tX12_pickOf) G (by rw [hn]; exact kX12_pickOf) (oI := (oF [(mX12_isThere N), (mX12_hasKnown N)])) (oL := (oF [(mX12_pullOf N)])) (oV := (oF [])) (rI := (fun _ _ => none)) (rL := (fun _ _ => none)) (rV := (fun w => some w))
    (K := (fun j ls st w => if j = 23 then (lgL ls 4 fun v4 => lgI ls 6 fun v6 => lgI ls 7 fun v7 => st0 st (k23 v4 v6 v7 w)) else none)) (fun _ _ _ _ hx => by cases hx) (fun _ _ _ _ hx => by cases hx) (fun w pc ls hx hd => hr w pc ls (Option.some.inj hx) hd) hC (fun ls => lsb [some (.inr (.inr (16, 0))), some (.inl a1), some (.inl a2), some (.inl a3), none, none, none, none, none, none] 0 ls) (keepsP_of rfl) ?_ 66 51 [some (.inr (.inr (16, 0))), some (.inl a1), some (.inl a2), some (.inl a3), none, none, some (.inl v6), some (.inl v7), some (.inr (.inl v8)), none] [] w ?_ h
  · intro j ls st w hfx h
    obtain ⟨e0, e1, e2, e3, -⟩ : _ = _ ∧ _ = _ ∧ _ = _ ∧ _ = _ ∧ True := hfx
    try dsimp only at h
    by_cases hj : j = 23
    · subst hj
      rw [if_pos rfl] at h
      obtain ⟨v4, e4, h_1⟩ := lgL_some h
      obtain ⟨v6, e6, h_2⟩ := lgI_some h_1
      obtain ⟨v7, e7, h_3⟩ := lgI_some h_2
      obtain ⟨rfl, h_4⟩ := st0_some h_3
      clear h h_1 h_2 h_3
      have h := h_4
      try rw [callW_eq] at h
      exact WW.le (a := [some (.inr (.inr (16, 0))), some (.inl a1), some (.inl a2), some (.inl a3), some (.inr (.inl v4)), none, some (.inl v6), some (.inl v7), none, none]) (by rw [hn]; rfl) (show _ = _ ∧ _ = _ ∧ _ = _ ∧ _ = _ ∧ _ = _ ∧ _ = _ ∧ _ = _ ∧ True from ⟨e0, e1, e2, e3, e4, e6, e7, trivial⟩) (h23 v4 v6 v7 w h)
    rw [if_neg hj] at h
    cases h
  · exact (show _ = _ ∧ _ = _ ∧ _ = _ ∧ _ = _ ∧ True from ⟨rfl, rfl, rfl, rfl, trivial⟩)
set_option maxRecDepth 100000 in
set_option maxHeartbeats 4000000 in
theorem sX12_pickOf_23 {N : Nat} {X : XT} (G : GX X cX12_pickOf RX12) (hn : xnL X = 10) (hC : CRs X tX12_pickOf (oF [(mX12_isThere N), (mX12_hasKnown N)]) (oF [(mX12_pullOf N)]) (oF [])) {r : Wd} (hr : RTV X cX12_pickOf r) (a1 : Int32) (a2 : Int32) (a3 : Int32) : ∀ (n : Nat) (k61 : Int64 → Int32 → Wd → Option (Wd)) (v4 : Int64) (v6 : Int32) (v7 : Int32) (w : Wd), fX12_pickOf_23 N a1 a2 a3 n k61 v4 v6 v7 w = some r → (∀ (v4 : Int64) (v6 : Int32) (w : Wd), k61 v4 v6 w = some r → WW X (pcAt tX12_pickOf 61) [some (.inr (.inr (16, 0))), some (.inl a1), some (.inl a2), some (.inl a3), some (.inr (.inl v4)), none, some (.inl v6), none, none, none] [] w) → WW X (pcAt tX12_pickOf 23) [some (.inr (.inr (16, 0))), some (.inl a1), some (.inl a2), some (.inl a3), some (.inr (.inl v4)), none, some (.inl v6), some (.inl v7), none, none] [] w := by
  intro n
  induction n with
  | zero => intro k61 v4 v6 v7 w h h61; cases h
  | succ n ih =>
    intro k61 v4 v6 v7 w h h61
    refine run_sound (r := r) (X := X) (cc := cX12_pickOf) (own := RX12) (tab := tX12_pickOf) G (by rw [hn]; exact kX12_pickOf) (oI := (oF [(mX12_isThere N), (mX12_hasKnown N)])) (oL := (oF [(mX12_pullOf N)])) (oV := (oF [])) (rI := (fun _ _ => none)) (rL := (fun _ _ => none)) (rV := (fun w => some w))
      (K := (fun j ls st w => if j = 23 then (lgL ls 4 fun v4 => lgI ls 6 fun v6 => lgI ls 7 fun v7 => st0 st (callW (fX12_pickOf_23 N a1 a2 a3 n k61 v4 v6 v7) w)) else if j = 51 then (lgI ls 6 fun v6 => lgI ls 7 fun v7 => lgL ls 8 fun v8 => st0 st (callW (fX12_pickOf_51 N a1 a2 a3 (fX12_pickOf_23 N a1 a2 a3 n k61) v6 v7 v8) w)) else if j = 61 then (lgL ls 4 fun v4 => lgI ls 6 fun v6 => st0 st (k61 v4 v6 w)) else none)) (fun _ _ _ _ hx => by cases hx) (fun _ _ _ _ hx => by cases hx) (fun w pc ls hx hd => hr w pc ls (Option.some.inj hx) hd) hC (fun ls => lsb [some (.inr (.inr (16, 0))), some (.inl a1), some (.inl a2), some (.inl a3), none, none, none, none, none, none] 0 ls) (keepsP_of rfl) ?_ 66 23 [some (.inr (.inr (16, 0))), some (.inl a1), some (.inl a2), some (.inl a3), some (.inr (.inl v4)), none, some (.inl v6), some (.inl v7), none, none] [] w ?_ h
    · intro j ls st w hfx h
      obtain ⟨e0, e1, e2, e3, -⟩ : _ = _ ∧ _ = _ ∧ _ = _ ∧ _ = _ ∧ True := hfx
      try dsimp only at h
      by_cases hj : j = 23
      · subst hj
        rw [if_pos rfl] at h
        obtain ⟨v4, e4, h_1⟩ := lgL_some h
        obtain ⟨v6, e6, h_2⟩ := lgI_some h_1
        obtain ⟨v7, e7, h_3⟩ := lgI_some h_2
        obtain ⟨rfl, h_4⟩ := st0_some h_3
        clear h h_1 h_2 h_3
        have h := h_4
        try rw [callW_eq] at h
        exact WW.le (a := [some (.inr (.inr (16, 0))), some (.inl a1), some (.inl a2), some (.inl a3), some (.inr (.inl v4)), none, some (.inl v6), some (.inl v7), none, none]) (by rw [hn]; rfl) (show _ = _ ∧ _ = _ ∧ _ = _ ∧ _ = _ ∧ _ = _ ∧ _ = _ ∧ _ = _ ∧ True from ⟨e0, e1, e2, e3, e4, e6, e7, trivial⟩) (ih k61 v4 v6 v7 w h h61)
      rw [if_neg hj] at h
      by_cases hj : j = 51
      · subst hj
        rw [if_pos rfl] at h
        obtain ⟨v6, e6, h_1⟩ := lgI_some h
        obtain ⟨v7, e7, h_2⟩ := lgI_some h_1
        obtain ⟨v8, e8, h_3⟩ := lgL_some h_2
        obtain ⟨rfl, h_4⟩ := st0_some h_3
        clear h h_1 h_2 h_3
        have h := h_4
        try rw [callW_eq] at h
        exact WW.le (a := [some (.inr (.inr (16, 0))), some (.inl a1), some (.inl a2), some (.inl a3), none, none, some (.inl v6), some (.inl v7), some (.inr (.inl v8)), none]) (by rw [hn]; rfl) (show _ = _ ∧ _ = _ ∧ _ = _ ∧ _ = _ ∧ _ = _ ∧ _ = _ ∧ _ = _ ∧ True from ⟨e0, e1, e2, e3, e6, e7, e8, trivial⟩) (sX12_pickOf_51 G hn hC hr a1 a2 a3 (fX12_pickOf_23 N a1 a2 a3 n k61) v6 v7 v8 w h (fun v4 v6 v7 w h => (ih k61 v4 v6 v7 w h h61)))
      rw [if_neg hj] at h
      by_cases hj : j = 61
      · subst hj
        rw [if_pos rfl] at h
        obtain ⟨v4, e4, h_1⟩ := lgL_some h
        obtain ⟨v6, e6, h_2⟩ := lgI_some h_1
        obtain ⟨rfl, h_3⟩ := st0_some h_2
        clear h h_1 h_2
        have h := h_3
        try rw [callW_eq] at h
        exact WW.le (a := [some (.inr (.inr (16, 0))), some (.inl a1), some (.inl a2), some (.inl a3), some (.inr (.inl v4)), none, some (.inl v6), none, none, none]) (by rw [hn]; rfl) (show _ = _ ∧ _ = _ ∧ _ = _ ∧ _ = _ ∧ _ = _ ∧ _ = _ ∧ True from ⟨e0, e1, e2, e3, e4, e6, trivial⟩) (h61 v4 v6 w h)
      rw [if_neg hj] at h
      cases h
    · exact (show _ = _ ∧ _ = _ ∧ _ = _ ∧ _ = _ ∧ True from ⟨rfl, rfl, rfl, rfl, trivial⟩)
set_option maxRecDepth 100000 in
set_option maxHeartbeats 4000000 in
theorem sX12_pickOf_10 {N : Nat} {X : XT} (G : GX X cX12_pickOf RX12) (hn : xnL X = 10) (hC : CRs X tX12_pickOf (oF [(mX12_isThere N), (mX12_hasKnown N)]) (oF [(mX12_pullOf N)]) (oF [])) {r : Wd} (hr : RTV X cX12_pickOf r) (a1 : Int32) (a2 : Int32) (a3 : Int32) : ∀ (n : Nat) (v4 : Int64) (v6 : Int32) (w : Wd), fX12_pickOf_10 N a1 a2 a3 n v4 v6 w = some r → WW X (pcAt tX12_pickOf 10) [some (.inr (.inr (16, 0))), some (.inl a1), some (.inl a2), some (.inl a3), some (.inr (.inl v4)), none, some (.inl v6), none, none, none] [] w := by
  intro n
  induction n with
  | zero => intro v4 v6 w h; cases h
  | succ n ih =>
    intro v4 v6 w h
    refine run_sound (r := r) (X := X) (cc := cX12_pickOf) (own := RX12) (tab := tX12_pickOf) G (by rw [hn]; exact kX12_pickOf) (oI := (oF [(mX12_isThere N), (mX12_hasKnown N)])) (oL := (oF [(mX12_pullOf N)])) (oV := (oF [])) (rI := (fun _ _ => none)) (rL := (fun _ _ => none)) (rV := (fun w => some w))
      (K := (fun j ls st w => if j = 23 then (lgL ls 4 fun v4 => lgI ls 6 fun v6 => lgI ls 7 fun v7 => st0 st (callW (fX12_pickOf_23 N a1 a2 a3 N (fX12_pickOf_61 N a1 a2 a3 (fX12_pickOf_10 N a1 a2 a3 n)) v4 v6 v7) w)) else if j = 61 then (lgL ls 4 fun v4 => lgI ls 6 fun v6 => st0 st (callW (fX12_pickOf_61 N a1 a2 a3 (fX12_pickOf_10 N a1 a2 a3 n) v4 v6) w)) else none)) (fun _ _ _ _ hx => by cases hx) (fun _ _ _ _ hx => by cases hx) (fun w pc ls hx hd => hr w pc ls (Option.some.inj hx) hd) hC (fun ls => lsb [some (.inr (.inr (16, 0))), some (.inl a1), some (.inl a2), some (.inl a3), none, none, none, none, none, none] 0 ls) (keepsP_of rfl) ?_ 66 10 [some (.inr (.inr (16, 0))), some (.inl a1), some (.inl a2), some (.inl a3), some (.inr (.inl v4)), none, some (.inl v6), none, none, none] [] w ?_ h
    · intro j ls st w hfx h
      obtain ⟨e0, e1, e2, e3, -⟩ : _ = _ ∧ _ = _ ∧ _ = _ ∧ _ = _ ∧ True := hfx
      try dsimp only at h
      by_cases hj : j = 23
      · subst hj
        rw [if_pos rfl] at h
        obtain ⟨v4, e4, h_1⟩ := lgL_some h
        obtain ⟨v6, e6, h_2⟩ := lgI_some h_1
        obtain ⟨v7, e7, h_3⟩ := lgI_some h_2
        obtain ⟨rfl, h_4⟩ := st0_some h_3
        clear h h_1 h_2 h_3
        have h := h_4
        try rw [callW_eq] at h
        exact WW.le (a := [some (.inr (.inr (16, 0))), some (.inl a1), some (.inl a2), some (.inl a3), some (.inr (.inl v4)), none, some (.inl v6), some (.inl v7), none, none]) (by rw [hn]; rfl) (show _ = _ ∧ _ = _ ∧ _ = _ ∧ _ = _ ∧ _ = _ ∧ _ = _ ∧ _ = _ ∧ True from ⟨e0, e1, e2, e3, e4, e6, e7, trivial⟩) (sX12_pickOf_23 G hn hC hr a1 a2 a3 N (fX12_pickOf_61 N a1 a2 a3 (fX12_pickOf_10 N a1 a2 a3 n)) v4 v6 v7 w h (fun v4 v6 w h => (sX12_pickOf_61 G hn hC hr a1 a2 a3 (fX12_pickOf_10 N a1 a2 a3 n) v4 v6 w h (fun v4 v6 w h => (ih v4 v6 w h)))))
      rw [if_neg hj] at h
      by_cases hj : j = 61
      · subst hj
        rw [if_pos rfl] at h
        obtain ⟨v4, e4, h_1⟩ := lgL_some h
        obtain ⟨v6, e6, h_2⟩ := lgI_some h_1
        obtain ⟨rfl, h_3⟩ := st0_some h_2
        clear h h_1 h_2
        have h := h_3
        try rw [callW_eq] at h
        exact WW.le (a := [some (.inr (.inr (16, 0))), some (.inl a1), some (.inl a2), some (.inl a3), some (.inr (.inl v4)), none, some (.inl v6), none, none, none]) (by rw [hn]; rfl) (show _ = _ ∧ _ = _ ∧ _ = _ ∧ _ = _ ∧ _ = _ ∧ _ = _ ∧ True from ⟨e0, e1, e2, e3, e4, e6, trivial⟩) (sX12_pickOf_61 G hn hC hr a1 a2 a3 (fX12_pickOf_10 N a1 a2 a3 n) v4 v6 w h (fun v4 v6 w h => (ih v4 v6 w h)))
      rw [if_neg hj] at h
      cases h
    · exact (show _ = _ ∧ _ = _ ∧ _ = _ ∧ _ = _ ∧ True from ⟨rfl, rfl, rfl, rfl, trivial⟩)
set_option maxRecDepth 100000 in
set_option maxHeartbeats 4000000 in
theorem crX12_pickOf {N : Nat} {X : XT} (G : GX X cX12_pickOf RX12) (hR : xR X = rmL 7) : CRs X tX12_pickOf (oF [(mX12_isThere N), (mX12_hasKnown N)]) (oF [(mX12_pullOf N)]) (oF []) := by
  have hl : tX12_pickOf.filter isInv = [(30, .invokevirtual 456, 0, 0, 4, 0, 0, []), (58, .invokevirtual 459, 0, 1, 5, 0, 0, []), (75, .invokevirtual 606, 0, 0, 6, 0, 0, [(0, 0)])] := rfl
  intro e he
  rw [hl] at he
  simp only [List.mem_cons, List.not_mem_nil, or_false] at he
  rcases he with rfl | rfl | rfl
  · exact crI_V (idx := 456) G (by decide +kernel) (MX12_isThere N) (cw_of (ps := [2088, 2090, 108, 164, 2091]) (by decide +kernel) (by decide +kernel)) ⟨by decide +kernel, by decide +kernel, by decide +kernel⟩ (by unfold rmOk; rw [hR]; exact ⟨by decide, by decide⟩)
  · exact crI_V (idx := 459) G (by decide +kernel) (MX12_hasKnown N) (cw_of (ps := [2096, 2098, 110, 164, 2099]) (by decide +kernel) (by decide +kernel)) ⟨by decide +kernel, by decide +kernel, by decide +kernel⟩ (by unfold rmOk; rw [hR]; exact ⟨by decide, by decide⟩)
  · exact crL_V (idx := 606) G (by decide +kernel) (MX12_pullOf N) (cw_of (ps := [2317, 2319, 143, 164, 2320]) (by decide +kernel) (by decide +kernel)) ⟨by decide +kernel, by decide +kernel, by decide +kernel⟩ (by unfold rmOk; rw [hR]; exact ⟨by decide, by decide⟩)
set_option maxRecDepth 100000 in
set_option maxHeartbeats 4000000 in
theorem MX12_pickOf (N : Nat) : SndV yX12_pickOf cX12_pickOf 10 none 7 4 true (mX12_pickOf N) := by
  refine SndV.of tX12_pickOf (by decide +kernel) rfl rfl ?_ ?_
  · intro as w x h
    obtain ⟨t1, rfl, h_1⟩ := xS1_some h
    obtain ⟨a1, t2, rfl, h_2⟩ := xI1_some h_1
    obtain ⟨a2, t3, rfl, h_3⟩ := xI1_some h_2
    obtain ⟨a3, t4, rfl, h_4⟩ := xI1_some h_3
    obtain ⟨rfl, h_5⟩ := xN1_some h_4
    clear h h_1 h_2 h_3 h_4
    have h := h_5
    rw [callW_eq] at h
    exact ⟨fun _ => ⟨_, _, _, rfl, rfl, _, rfl, rfl⟩, rfl, Nat.le_of_ble_eq_true rfl⟩
  · intro X G hn hR as w r h hr
    have hC := crX12_pickOf (N := N) G hR
    obtain ⟨t1, rfl, h_1⟩ := xS1_some h
    obtain ⟨a1, t2, rfl, h_2⟩ := xI1_some h_1
    obtain ⟨a2, t3, rfl, h_3⟩ := xI1_some h_2
    obtain ⟨a3, t4, rfl, h_4⟩ := xI1_some h_3
    obtain ⟨rfl, h_5⟩ := xN1_some h_4
    clear h h_1 h_2 h_3 h_4
    have h := h_5
    rw [callW_eq] at h
    refine run_sound (r := r) (X := X) (cc := cX12_pickOf) (own := RX12) (tab := tX12_pickOf) G (by rw [hn]; exact kX12_pickOf) (oI := (oF [(mX12_isThere N), (mX12_hasKnown N)])) (oL := (oF [(mX12_pullOf N)])) (oV := (oF [])) (rI := (fun _ _ => none)) (rL := (fun _ _ => none)) (rV := (fun w => some w))
      (K := (fun j ls st w => if j = 10 then (lgL ls 4 fun v4 => lgI ls 6 fun v6 => st0 st (callW (fX12_pickOf_10 N a1 a2 a3 N v4 v6) w)) else none)) (fun _ _ _ _ hx => by cases hx) (fun _ _ _ _ hx => by cases hx) (fun w pc ls hx hd => hr w pc ls (Option.some.inj hx) hd) hC (fun ls => lsb [some (.inr (.inr (16, 0))), some (.inl a1), some (.inl a2), some (.inl a3), none, none, none, none, none, none] 0 ls) (keepsP_of rfl) ?_ 66 0 [some (.inr (.inr (16, 0))), some (.inl a1), some (.inl a2), some (.inl a3), none, none, none, none, none, none] [] w ?_ h
    · intro j ls st w hfx h
      obtain ⟨e0, e1, e2, e3, -⟩ : _ = _ ∧ _ = _ ∧ _ = _ ∧ _ = _ ∧ True := hfx
      try dsimp only at h
      by_cases hj : j = 10
      · subst hj
        rw [if_pos rfl] at h
        obtain ⟨v4, e4, h_1⟩ := lgL_some h
        obtain ⟨v6, e6, h_2⟩ := lgI_some h_1
        obtain ⟨rfl, h_3⟩ := st0_some h_2
        clear h h_1 h_2
        have h := h_3
        try rw [callW_eq] at h
        exact WW.le (a := [some (.inr (.inr (16, 0))), some (.inl a1), some (.inl a2), some (.inl a3), some (.inr (.inl v4)), none, some (.inl v6), none, none, none]) (by rw [hn]; rfl) (show _ = _ ∧ _ = _ ∧ _ = _ ∧ _ = _ ∧ _ = _ ∧ _ = _ ∧ True from ⟨e0, e1, e2, e3, e4, e6, trivial⟩) (sX12_pickOf_10 G hn hC hr a1 a2 a3 N v4 v6 w h)
      rw [if_neg hj] at h
      cases h
    · exact (show _ = _ ∧ _ = _ ∧ _ = _ ∧ _ = _ ∧ True from ⟨rfl, rfl, rfl, rfl, trivial⟩)
-- MoorGuidesModel.isMaster(I)Z
def tX12_isMaster : List EN := [
  (0, .iload_n 0, 0, 0, 0, 0, 0, []), (1, .iconst 0, 0, 0, 0, 0, 0, []), (2, .iconst 3, 0, 0, 0, 3, 0, []), (3, .invokestatic 241, 0, 0, 3, 0, 0, []),
  (6, .ireturn, 0, 0, 0, 0, 0, [])]
noncomputable def pX12_isMaster (N : Nat) (a0 : Int32) (w : Wd) : Option (Int32 × Wd) :=
  (callW (pX12_isIn N a0 (0 : Int32) (3 : Int32)) w).bind fun r1 =>
  retZ r1.1 r1.2
noncomputable def mX12_isMaster (N : Nat) (as : List AV) (w : Wd) : Option (Int32 × Wd) := xI1 as fun a0 t => xN1 t (callW (pX12_isMaster N a0) w)
set_option maxRecDepth 100000 in
set_option maxHeartbeats 4000000 in
theorem kX12_isMaster : TK cX12_isMaster RX12 1 tX12_isMaster := ⟨by decide +kernel, wok_of [] (by decide +kernel) (by decide +kernel)⟩
set_option maxRecDepth 100000 in
set_option maxHeartbeats 4000000 in
theorem crX12_isMaster {N : Nat} {X : XT} (G : GX X cX12_isMaster RX12) (hR : xR X = rmL 2) : CRs X tX12_isMaster (oF [(mX12_isIn N)]) (oF []) (oF []) := by
  have hl : tX12_isMaster.filter isInv = [(3, .invokestatic 241, 0, 0, 3, 0, 0, [])] := rfl
  intro e he
  rw [hl] at he
  simp only [List.mem_cons, List.not_mem_nil, or_false] at he
  rcases he with rfl
  · exact crI_S (idx := 241) G (by decide +kernel) (MX12_isIn N) (cw_of (ps := [1986, 1987, 164, 1988]) (by decide +kernel) (by decide +kernel)) ⟨by decide +kernel, by decide +kernel, by decide +kernel⟩ (by unfold rmOk; rw [hR]; exact ⟨by decide, by decide⟩)
set_option maxRecDepth 100000 in
set_option maxHeartbeats 4000000 in
theorem MX12_isMaster (N : Nat) : SndI yX12_isMaster cX12_isMaster 1 (some .boolean) 2 1 false (mX12_isMaster N) := by
  refine SndI.ofZ tX12_isMaster (by decide +kernel) rfl rfl ?_ ?_
  · intro as w x h
    obtain ⟨a0, t1, rfl, h_1⟩ := xI1_some h
    obtain ⟨rfl, h_2⟩ := xN1_some h_1
    clear h h_1
    have h := h_2
    rw [callW_eq] at h
    exact ⟨(fun z => by cases z), rfl, Nat.le_of_ble_eq_true rfl⟩
  · intro X G hn hR as w r h hr
    have hC := crX12_isMaster (N := N) G hR
    obtain ⟨a0, t1, rfl, h_1⟩ := xI1_some h
    obtain ⟨rfl, h_2⟩ := xN1_some h_1
    clear h h_1
    have h := h_2
    rw [callW_eq] at h
    refine run_sound (r := r) (X := X) (cc := cX12_isMaster) (own := RX12) (tab := tX12_isMaster) G (by rw [hn]; exact kX12_isMaster) (oI := (oF [(mX12_isIn N)])) (oL := (oF [])) (oV := (oF [])) (rI := retZ) (rL := (fun _ _ => none)) (rV := (fun _ => none))
      (K := (fun j ls st w => none)) hr (fun _ _ _ _ hx => by cases hx) (fun _ _ _ hx => by cases hx) hC (fun ls => lsb [some (.inl a0)] 0 ls) (keepsP_of rfl) ?_ 7 0 [some (.inl a0)] [] w ?_ h
    · intro j ls st w hfx h
      obtain ⟨e0, -⟩ : _ = _ ∧ True := hfx
      try dsimp only at h
      cases h
    · exact (show _ = _ ∧ True from ⟨rfl, trivial⟩)
-- MoorGuidesModel.pick(II)I
def tX12_pick : List EN := [
  (0, .aload_n 0, 0, 0, 0, 0, 0, []), (1, .iconst 0, 0, 0, 0, 0, 0, []), (2, .putfield 196, 0, 12, 2, 0, 0, []), (5, .iload_n 1, 0, 0, 0, 0, 0, []),
  (6, .invokestatic 609, 0, 0, 1, 0, 0, []), (9, .ifCond .eq 12, 0, 11, 0, 0, 0, []), (12, .iload_n 2, 0, 0, 0, 0, 0, []), (13, .iconst 0, 0, 0, 0, 0, 0, []),
  (14, .iconst 1, 0, 0, 0, 1, 0, []), (15, .invokestatic 241, 0, 1, 3, 0, 0, []), (18, .ifCond .ne 5, 0, 13, 0, 0, 0, []), (21, .iconst (-1), 0, 0, 0, (-1), 0, []),
  (22, .ireturn, 0, 0, 0, 0, 0, []), (23, .aload_n 0, 0, 0, 0, 0, 0, []), (24, .iload_n 1, 0, 0, 0, 0, 0, []), (25, .iconst 0, 0, 0, 0, 0, 0, []),
  (26, .aload_n 0, 0, 0, 0, 0, 0, []), (27, .getfield 438, 0, 12, 64, 0, 0, []), (30, .invokevirtual 612, 0, 0, 4, 0, 0, [(0, 0), (0, 0)]), (33, .aload_n 0, 0, 0, 0, 0, 0, []),
  (34, .getfield 600, 0, 12, 91, 0, 0, []), (37, .ifCond .ge 8, 0, 24, 0, 0, 0, []), (40, .bipush (-2), 0, 0, 0, (-2), 0, []), (42, .goto 18, 0, 31, 0, 0, 0, []),
  (45, .iload_n 2, 0, 0, 0, 0, 0, []), (46, .ifCond .ne 10, 0, 29, 0, 0, 0, []), (49, .aload_n 0, 0, 0, 0, 0, 0, []), (50, .getfield 600, 0, 12, 91, 0, 0, []),
  (53, .goto 7, 0, 31, 0, 0, 0, []), (56, .aload_n 0, 0, 0, 0, 0, 0, []), (57, .getfield 603, 0, 12, 92, 0, 0, []), (60, .ireturn, 0, 0, 0, 0, 0, [])]
noncomputable def pX12_pick (N : Nat) (a1 : Int32) (a2 : Int32) (w : Wd) : Option (Int32 × Wd) :=
  (callW (pX12_isMaster N a1) (setI w 16 0 2 (0 : Int32))).bind fun r1 =>
  if r1.1 = 0 then some ((-1 : Int32), r1.2) else
  (callW (pX12_isIn N a2 (0 : Int32) (1 : Int32)) r1.2).bind fun r2 =>
  if r2.1 = 0 then some ((-1 : Int32), r2.2) else
  (callW (pX12_pickOf N a1 (0 : Int32) (gI r2.2 16 0 64)) r2.2).bind fun w3 =>
  if (gI w3 16 0 91) < 0 then some ((-2 : Int32), w3) else
  if a2 = 0 then some ((gI w3 16 0 91), w3) else
  some ((gI w3 16 0 92), w3)
noncomputable def mX12_pick (N : Nat) (as : List AV) (w : Wd) : Option (Int32 × Wd) := xS1 16 as fun t => xI1 t fun a1 t => xI1 t fun a2 t => xN1 t (callW (pX12_pick N a1 a2) w)
set_option maxRecDepth 100000 in
set_option maxHeartbeats 4000000 in
theorem kX12_pick : TK cX12_pick RX12 3 tX12_pick := ⟨by decide +kernel, wok_of [1602, 1664, 1691, 1691, 1692] (by decide +kernel) (by decide +kernel)⟩
set_option maxRecDepth 100000 in
set_option maxHeartbeats 4000000 in
theorem crX12_pick {N : Nat} {X : XT} (G : GX X cX12_pick RX12) (hR : xR X = rmL 8) : CRs X tX12_pick (oF [(mX12_isMaster N), (mX12_isIn N)]) (oF []) (oF [(mX12_pickOf N)]) := by
  have hl : tX12_pick.filter isInv = [(6, .invokestatic 609, 0, 0, 1, 0, 0, []), (15, .invokestatic 241, 0, 1, 3, 0, 0, []), (30, .invokevirtual 612, 0, 0, 4, 0, 0, [(0, 0), (0, 0)])] := rfl
  intro e he
  rw [hl] at he
  simp only [List.mem_cons, List.not_mem_nil, or_false] at he
  rcases he with rfl | rfl | rfl
  · exact crI_S (idx := 609) G (by decide +kernel) (MX12_isMaster N) (cw_of (ps := [2310, 2311, 164, 2312]) (by decide +kernel) (by decide +kernel)) ⟨by decide +kernel, by decide +kernel, by decide +kernel⟩ (by unfold rmOk; rw [hR]; exact ⟨by decide, by decide⟩)
  · exact crI_S (idx := 241) G (by decide +kernel) (MX12_isIn N) (cw_of (ps := [1986, 1987, 164, 1988]) (by decide +kernel) (by decide +kernel)) ⟨by decide +kernel, by decide +kernel, by decide +kernel⟩ (by unfold rmOk; rw [hR]; exact ⟨by decide, by decide⟩)
  · exact crV_V (idx := 612) G (by decide +kernel) (MX12_pickOf N) (cw_of (ps := [2313, 2315, 142, 164, 2316]) (by decide +kernel) (by decide +kernel)) ⟨by decide +kernel, by decide +kernel, by decide +kernel⟩ (by unfold rmOk; rw [hR]; exact ⟨by decide, by decide⟩)
set_option maxRecDepth 100000 in
set_option maxHeartbeats 4000000 in
theorem MX12_pick (N : Nat) : SndI yX12_pick cX12_pick 3 (some .int) 8 3 true (mX12_pick N) := by
  refine SndI.of tX12_pick (by decide +kernel) rfl rfl ?_ ?_
  · intro as w x h
    obtain ⟨t1, rfl, h_1⟩ := xS1_some h
    obtain ⟨a1, t2, rfl, h_2⟩ := xI1_some h_1
    obtain ⟨a2, t3, rfl, h_3⟩ := xI1_some h_2
    obtain ⟨rfl, h_4⟩ := xN1_some h_3
    clear h h_1 h_2 h_3
    have h := h_4
    rw [callW_eq] at h
    exact ⟨fun _ => ⟨_, _, _, rfl, rfl, _, rfl, rfl⟩, rfl, Nat.le_of_ble_eq_true rfl⟩
  · intro X G hn hR as w r h hr
    have hC := crX12_pick (N := N) G hR
    obtain ⟨t1, rfl, h_1⟩ := xS1_some h
    obtain ⟨a1, t2, rfl, h_2⟩ := xI1_some h_1
    obtain ⟨a2, t3, rfl, h_3⟩ := xI1_some h_2
    obtain ⟨rfl, h_4⟩ := xN1_some h_3
    clear h h_1 h_2 h_3
    have h := h_4
    rw [callW_eq] at h
    refine run_sound (r := r) (X := X) (cc := cX12_pick) (own := RX12) (tab := tX12_pick) G (by rw [hn]; exact kX12_pick) (oI := (oF [(mX12_isMaster N), (mX12_isIn N)])) (oL := (oF [])) (oV := (oF [(mX12_pickOf N)])) (rI := (fun x w => some (x, w))) (rL := (fun _ _ => none)) (rV := (fun _ => none))
      (K := (fun j ls st w => none)) (fun x w pc ls hx hd => hr x w pc ls (Option.some.inj hx) hd) (fun _ _ _ _ hx => by cases hx) (fun _ _ _ hx => by cases hx) hC (fun ls => lsb [some (.inr (.inr (16, 0))), some (.inl a1), some (.inl a2)] 0 ls) (keepsP_of rfl) ?_ 34 0 [some (.inr (.inr (16, 0))), some (.inl a1), some (.inl a2)] [] w ?_ h
    · intro j ls st w hfx h
      obtain ⟨e0, e1, e2, -⟩ : _ = _ ∧ _ = _ ∧ _ = _ ∧ True := hfx
      try dsimp only at h
      cases h
    · exact (show _ = _ ∧ _ = _ ∧ _ = _ ∧ True from ⟨rfl, rfl, rfl, trivial⟩)

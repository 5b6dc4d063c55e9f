/-! ===== constructors: the loop of Tokens ===== -/
-- MoorGuides$Tokens.<init>()V
def tX10_init : List EN := [
  (46, .iconst 0, 0, 0, 0, 0, 0, []), (47, .istore_n 1, 0, 0, 0, 0, 0, []), (48, .iconst 0, 0, 0, 0, 0, 0, []), (49, .istore_n 2, 0, 0, 0, 0, 0, []),
  (50, .iload_n 2, 5, 0, 0, 0, 0, []), (51, .ldc 29, 0, 2, 0, 0, 0, []), (53, .invokevirtual 31, 0, 0, 1, 0, 0, []), (56, .if_icmp .ge 59, 0, 39, 0, 0, 0, []),
  (59, .iload_n 1, 0, 0, 0, 0, 0, []), (60, .bipush 24, 0, 0, 0, 24, 0, []), (62, .if_icmp .ge 53, 0, 39, 0, 0, 0, []), (65, .ldc 29, 0, 2, 0, 0, 0, []),
  (67, .iload_n 2, 0, 0, 0, 0, 0, []), (68, .invokevirtual 37, 0, 1, 2, 0, 0, []), (71, .bipush 32, 0, 0, 0, 32, 0, []), (73, .if_icmp .ne 9, 0, 18, 0, 0, 0, []),
  (76, .iinc 1 1, 0, 0, 0, 1, 0, []), (79, .goto 30, 0, 37, 0, 0, 0, []), (82, .aload_n 0, 0, 0, 0, 0, 0, []), (83, .getfield 11, 0, 10, 0, 0, 0, []),
  (86, .iload_n 1, 0, 0, 0, 0, 0, []), (87, .aload_n 0, 0, 0, 0, 0, 0, []), (88, .getfield 11, 0, 10, 0, 0, 0, []), (91, .iload_n 1, 0, 0, 0, 0, 0, []),
  (92, .laload, 0, 0, 0, 0, 0, []), (93, .iconst 5, 0, 0, 0, 5, 0, []), (94, .lshl, 0, 0, 0, 0, 0, []), (95, .ldc 29, 0, 2, 0, 0, 0, []),
  (97, .iload_n 2, 0, 0, 0, 0, 0, []), (98, .invokevirtual 37, 0, 1, 2, 0, 0, []), (101, .bipush 97, 0, 0, 0, 97, 0, []), (103, .isub, 0, 0, 0, 0, 0, []),
  (104, .iconst 1, 0, 0, 0, 1, 0, []), (105, .iadd, 0, 0, 0, 0, 0, []), (106, .i2l, 0, 0, 0, 0, 0, []), (107, .lor, 0, 0, 0, 0, 0, []),
  (108, .lastore, 0, 0, 0, 0, 0, []), (109, .iinc 2 1, 0, 0, 0, 1, 0, []), (112, .goto (-62), 0, 4, 0, 0, 0, []), (115, .return_, 0, 0, 0, 0, 0, [])]
noncomputable def fX10_init_4 (N : Nat) : Nat → Int32 → Int32 → Wd → Option (Wd)
  | 0, _, _, _ => none
  | n + 1, v1, v2, w =>
    (callW (pJ0_length N 1) w).bind fun r1 =>
    if v2 < r1.1 then
      if v1 < (24 : Int32) then
        (callW (pJ0_charAt N 1 v2) r1.2).bind fun r2 =>
        if r2.1 = (32 : Int32) then callW (fX10_init_4 N n (v1 + (1 : Int32)) (v2 + (1 : Int32))) r2.2 else
        (ldL r2.2 67 0 v1 24).bind fun x3 =>
        (callW (pJ0_charAt N 1 v2) r2.2).bind fun r4 =>
        (stL r4.2 67 0 v1 24 ((x3 <<< ((5 : Int32).toInt64 &&& (63 : Int64))) ||| ((r4.1 - (97 : Int32)) + (1 : Int32)).toInt64)).bind fun w5 =>
        callW (fX10_init_4 N n v1 (v2 + (1 : Int32))) w5
      else
      some r1.2
    else
    some r1.2
noncomputable def pX10_init (N : Nat) (w : Wd) : Option (Wd) :=
  callW (fX10_init_4 N N (0 : Int32) (0 : Int32)) w
noncomputable def mX10_init (N : Nat) (as : List AV) (w : Wd) : Option (Wd) := xS1 14 as fun t => xN1 t (callW (pX10_init N) w)
set_option maxRecDepth 100000 in
set_option maxHeartbeats 4000000 in
theorem kX10_init : TK cX10_init RX10 3 tX10_init := ⟨by decide +kernel, wok_of [429, 429] (by decide +kernel) (by decide +kernel)⟩
set_option maxRecDepth 100000 in
set_option maxHeartbeats 4000000 in
theorem sX10_init_4 {N : Nat} {X : XT} (G : GX X cX10_init RX10) (hn : xnL X = 3) (hC : CRs X tX10_init (oF [(mJ0_length_8abf5 N), (mJ0_charAt_5068e N)]) (oF []) (oF [])) {r : Wd} (hr : RTV X cX10_init r)  : ∀ (n : Nat) (v1 : Int32) (v2 : Int32) (w : Wd), fX10_init_4 N n v1 v2 w = some r → WW X (pcAt tX10_init 4) [some (.inr (.inr (14, 0))), some (.inl v1), some (.inl v2)] [] w := by
  intro n
  induction n with
  | zero => intro v1 v2 w h; cases h
  | succ n ih =>
    intro v1 v2 w h
    refine run_sound (r := r) (X := X) (cc := cX10_init) (own := RX10) (tab := tX10_init) G (by rw [hn]; exact kX10_init) (oI := (oF [(mJ0_length_8abf5 N), (mJ0_charAt_5068e N)])) (oL := (oF [])) (oV := (oF [])) (rI := (fun _ _ => none)) (rL := (fun _ _ => none)) (rV := (fun w => some w))
      (K := (fun j ls st w => if j = 4 then (lgI ls 1 fun v1 => lgI ls 2 fun v2 => st0 st (callW (fX10_init_4 N n v1 v2) w)) else none)) (fun _ _ _ _ hx => by cases hx) (fun _ _ _ _ hx => by cases hx) (fun w pc ls hx hd => hr w pc ls (Option.some.inj hx) hd) hC (fun ls => lsb [some (.inr (.inr (14, 0))), none, none] 0 ls) (keepsP_of rfl) ?_ 42 4 [some (.inr (.inr (14, 0))), some (.inl v1), some (.inl v2)] [] w ?_ h
    · intro j ls st w hfx h
      obtain ⟨e0, -⟩ : _ = _ ∧ True := hfx
      try dsimp only at h
      by_cases hj : j = 4
      · subst hj
        rw [if_pos rfl] at h
        obtain ⟨v1, e1, h_1⟩ := lgI_some h
        obtain ⟨v2, e2, h_2⟩ := lgI_some h_1
        obtain ⟨rfl, h_3⟩ := st0_some h_2
        clear h h_1 h_2
        have h := h_3
        try rw [callW_eq] at h
        exact WW.le (a := [some (.inr (.inr (14, 0))), some (.inl v1), some (.inl v2)]) (by rw [hn]; rfl) (show _ = _ ∧ _ = _ ∧ _ = _ ∧ True from ⟨e0, e1, e2, trivial⟩) (ih v1 v2 w h)
      rw [if_neg hj] at h
      cases h
    · exact (show _ = _ ∧ True from ⟨rfl, trivial⟩)
set_option maxRecDepth 100000 in
set_option maxHeartbeats 4000000 in
theorem crX10_init {N : Nat} {X : XT} {mc ms : Nat} (G : GX X cX10_init RX10) (hR : xR X = rmC 6 mc ms) : CRs X tX10_init (oF [(mJ0_length_8abf5 N), (mJ0_charAt_5068e N)]) (oF []) (oF []) := by
  have hl : tX10_init.filter isInv = [(53, .invokevirtual 31, 0, 0, 1, 0, 0, []), (68, .invokevirtual 37, 0, 1, 2, 0, 0, []), (98, .invokevirtual 37, 0, 1, 2, 0, 0, [])] := rfl
  intro e he
  rw [hl] at he
  simp only [List.mem_cons, List.not_mem_nil, or_false] at he
  rcases he with rfl | rfl | rfl
  · exact crJ0_length_8abf5 (idx := 31) G (by decide +kernel) (cw_of (ps := [381, 382, 383, 154, 384]) (by decide +kernel) (by decide +kernel)) (by rw [hR]; exact ⟨Nat.le_of_ble_eq_true rfl, Nat.le_of_ble_eq_true rfl⟩)
  · exact crJ0_charAt_5068e (idx := 37) G (by decide +kernel) (cw_of (ps := [391, 392, 393, 154, 394]) (by decide +kernel) (by decide +kernel)) (by rw [hR]; exact ⟨Nat.le_of_ble_eq_true rfl, Nat.le_of_ble_eq_true rfl⟩)
  · exact crJ0_charAt_5068e (idx := 37) G (by decide +kernel) (cw_of (ps := [391, 392, 393, 154, 394]) (by decide +kernel) (by decide +kernel)) (by rw [hR]; exact ⟨Nat.le_of_ble_eq_true rfl, Nat.le_of_ble_eq_true rfl⟩)
set_option maxRecDepth 100000 in
set_option maxHeartbeats 4000000 in
theorem wX10_init {N : Nat} {X : XT} {mc ms : Nat} (G : GX X cX10_init RX10) (hn : xnL X = 3) (hR : xR X = rmC 6 mc ms) {r : Wd} (hr : RTV X cX10_init r) (w : Wd) (h : pX10_init N w = some r) : WW X (pcAt tX10_init 0) [some (.inr (.inr (14, 0))), none, none] [] w := by
  have hC := crX10_init (N := N) G hR
  refine run_sound (r := r) (X := X) (cc := cX10_init) (own := RX10) (tab := tX10_init) G (by rw [hn]; exact kX10_init) (oI := (oF [(mJ0_length_8abf5 N), (mJ0_charAt_5068e N)])) (oL := (oF [])) (oV := (oF [])) (rI := (fun _ _ => none)) (rL := (fun _ _ => none)) (rV := (fun w => some w))
    (K := (fun j ls st w => if j = 4 then (lgI ls 1 fun v1 => lgI ls 2 fun v2 => st0 st (callW (fX10_init_4 N N v1 v2) w)) else none)) (fun _ _ _ _ hx => by cases hx) (fun _ _ _ _ hx => by cases hx) (fun w pc ls hx hd => hr w pc ls (Option.some.inj hx) hd) hC (fun ls => lsb [some (.inr (.inr (14, 0))), none, none] 0 ls) (keepsP_of rfl) ?_ 42 0 [some (.inr (.inr (14, 0))), none, none] [] w ?_ h
  · intro j ls st w hfx h
    obtain ⟨e0, -⟩ : _ = _ ∧ True := hfx
    try dsimp only at h
    by_cases hj : j = 4
    · subst hj
      rw [if_pos rfl] at h
      obtain ⟨v1, e1, h_1⟩ := lgI_some h
      obtain ⟨v2, e2, h_2⟩ := lgI_some h_1
      obtain ⟨rfl, h_3⟩ := st0_some h_2
      clear h h_1 h_2
      have h := h_3
      try rw [callW_eq] at h
      exact WW.le (a := [some (.inr (.inr (14, 0))), some (.inl v1), some (.inl v2)]) (by rw [hn]; rfl) (show _ = _ ∧ _ = _ ∧ _ = _ ∧ True from ⟨e0, e1, e2, trivial⟩) (sX10_init_4 G hn hC hr N v1 v2 w h)
    rw [if_neg hj] at h
    cases h
  · exact (show _ = _ ∧ True from ⟨rfl, trivial⟩)

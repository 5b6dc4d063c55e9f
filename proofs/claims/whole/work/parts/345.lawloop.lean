/-! ===== the law: look, a turn of the loop, the loop ===== -/
theorem and31 (x : Int32) : ∃ k, k < 32 ∧ x &&& (31 : Int32) = nI k := by
  refine ⟨(x &&& (31 : Int32)).toBitVec.toNat, ?_, ?_⟩
  · rw [Int32.toBitVec_and, BitVec.toNat_and]
    exact Nat.lt_of_le_of_lt Nat.and_le_right (by decide)
  · refine Int32.toBitVec_inj.mp ?_
    show _ = BitVec.ofNat 32 _
    rw [BitVec.ofNat_toNat, BitVec.setWidth_eq]
set_option maxRecDepth 100000 in
set_option maxHeartbeats 4000000 in
theorem lc_tail {N n L : Nat} {xs : Nat → Int32} {X : XT} {w w3 : Wd} {k r : Int32} (G : GX X cL_law RL) (hnL : xnL X = 7) (hR : xR X = room_1) (C : ScrX X L xs) (hn : n + 5 < L) (hL : L < 2 ^ 31) (e2 : pX12_look N (xs (n + (0 + 1))) (xs (n + (1 + 1))) w = some (r, w3)) (e3 : gI w3 16 0 2 = k) (e4 : k = 0 → gL w3 1 0 0 = r.toInt64) (kk : WW X 1324 (lsL n) [] w3) : WW X 357 (lsL n) [.inl k] w := by
  refine ww_istore (i := 5) G (by decide +kernel) (by rw [hnL]; decide) ?_
  refine ww_aload (i := 2) (k := 16) (q := 0) G (by decide +kernel) rfl ?_
  refine ww_args G C hn hL rfl rfl 2 (by decide) (by decide +kernel) ?_
  have q1 := crI_V (e := (372, .return_, 0, 0, 0, 0, 0, [])) (idx := 44) G (by decide +kernel) (MX12_look N) (cw_of (ps := [2076, 2077, 2078, 164, 2079]) (by decide +kernel) (by decide +kernel)) ⟨by decide +kernel, by decide +kernel, by decide +kernel⟩ (by unfold rmOk; rw [hR]; exact ⟨by decide, by decide⟩) (.inr (.inr (16, 0)) :: vals xs n 2) [] w (r, w3) (lset (lsL n) 5 (some (.inl k))) (show callW (pX12_look N (xs (n + (0 + 1))) (xs (n + (1 + 1)))) w = some (r, w3) by rw [callW_eq]; exact e2) (by decide)
  rw [List.reverse_cons, List.append_nil] at q1
  refine q1 ?_
  refine ww_istore (i := 6) G (by decide +kernel) (by rw [hnL]; decide) ?_
  refine ww_aload (i := 2) (k := 16) (q := 0) G (by decide +kernel) rfl ?_
  have q2 := crI_V (e := (378, .return_, 0, 0, 0, 0, 0, [])) (idx := 45) G (by decide +kernel) (MX12_thrown N) (cw_of (ps := [1926, 1927, 1928, 164, 1929]) (by decide +kernel) (by decide +kernel)) ⟨by decide +kernel, by decide +kernel, by decide +kernel⟩ (by unfold rmOk; rw [hR]; exact ⟨by decide, by decide⟩) [.inr (.inr (16, 0))] [] w3 (gI w3 16 0 2, w3) (lset (lset (lsL n) 5 (some (.inl k))) 6 (some (.inl r))) (show callW (pX12_thrown N) w3 = some (gI w3 16 0 2, w3) by rw [callW_eq]; rfl) (by decide)
  refine q2 ?_
  have fin : WW X 405 (lset (lset (lsL n) 5 (some (.inl k))) 6 (some (.inl r))) [] w3 := ww_goto (off := 919) (t := 1324) G (by decide +kernel) (by decide) (WW.le (a := lsL n) (by rw [hnL]; rfl) (show _ = _ ∧ _ = _ ∧ _ = _ ∧ _ = _ ∧ _ = _ ∧ True from ⟨rfl, rfl, rfl, rfl, rfl, trivial⟩) kk)
  refine ww_iload (i := 5) (x := k) G (by decide +kernel) rfl ?_
  refine ww_icmpeq (off := 5) (t := 388) G (by decide +kernel) (by decide) (fun _ => ?_) (fun q => absurd e3 q)
  refine ww_iload (i := 5) (x := k) G (by decide +kernel) rfl ?_
  refine ww_ifne (off := 15) (t := 405) G (by decide +kernel) (by decide) (fun _ => fin) (fun k0 => ?_)
  refine ww_aload (i := 3) (k := 1) (q := 0) G (by decide +kernel) rfl ?_
  refine ww_iconst (n := 0) (x := 0) G (by decide +kernel) rfl ?_
  refine ww_lald (k := 1) (i := 0) (j := 0) G (by decide +kernel) rfl (by decide) ?_
  refine ww_iload (i := 6) (x := r) G (by decide +kernel) rfl ?_
  refine ww_i2l G (by decide +kernel) ?_
  refine ww_lcmp G (by decide +kernel) ?_
  refine ww_ifeq (off := 5) (t := 405) G (by decide +kernel) (by decide) (fun _ => fin) (fun q => absurd ((lg_cmp_eq _ _).mpr ?_) q)
  rw [show (0 : Int32).toNatClampNeg = 0 by decide]
  exact e4 k0
section
variable {p : Program} {l : Launch} {e : Env} {s : State} {m : MethodId} {args : Array Value} {below : List Frame} {meth : Method} {c : Code} {cells slots : Nat} {Q : State → Prop} {cs : List (Nat × Nat)} {ρ : Nat → Nat → Nat} {D : va_G} {aC : Nat → ClassId} {A : Nat → Prop} {w : Wd} {v : Vw} {a b : Int32} {N n L : Nat} {xs : Nat → Int32}
set_option maxRecDepth 100000 in
set_option maxHeartbeats 4000000 in
theorem ll_call {x : Int32 × Wd} {ls : LV} (G : GX (p, l, e, room_1, s, m, args, below, meth, c, cells, slots, Q, cs, ρ, D, aC, A, 7) cL_law RL) (hel : exL A s) (hc1 : cells + 1 ≤ 601024) (hs1 : slots + 6 ≤ 7293034) (M : cloR cs w → ∀ sz, llM l cs ρ D aC sz w a b x)
    (k : WW (p, l, e, room_1, s, m, args, below, meth, c, cells + 1, slots + 6, Q, cs, ρ, D, aC, A, 7) 357 ls [.inl x.1] x.2) : WW (p, l, e, room_1, s, m, args, below, meth, c, cells, slots, Q, cs, ρ, D, aC, A, 7) 354 ls (llA a b).reverse w := by
  intro H locs la hl hv hs hP hD hS hR
  obtain ⟨hex, hx, hb, hml, hown, hts, hK, hnd, hcl, hA, hcc, hcsl, hfr, hloc⟩ := G
  have hFc := pic_free hD hS hA
  have cw := vx_cwSW (R := room_1) (s := s) (args := args) (own := RL) (index := 39) (y := yL_look) (bytes := cL_look) (maxL := 5) (ret := some .int) (hh := hhL) (ws := wsK) (rm := rmC 14 1 6) (mc := 1) (ms := 6) 4 hts (lwg_GoodIn (fun w hw1 => by
    unfold va_wsS wsK at hw1
    rcases List.mem_append.mp hw1 with h1 | h1
    · refine ll_c w ?_
      unfold llC
      simp at h1 ⊢
      rcases h1 with h1 | h1 | h1 <;> simp [h1]
    · rcases List.mem_cons.mp h1 with h2 | h2
      · exact ll_c w (by unfold llC; simp [h2])
      · exact h2)) rfl rfl rfl ⟨by decide +kernel, by decide +kernel, by decide +kernel⟩ ⟨by decide, by decide⟩
  have run := vx_runSX (hh := hhL) (rest := []) (As := (llA a b).map (trv ρ)) (H := H) (locs := locs) (cells := cells) (slots := slots) (below := below) (meth := meth) (e := e) (g := F0 m 354 la ((llA a b).reverse.map (trv ρ))) ⟨hx, hb, hml, hown, hts⟩ (M hR H.size) cw ⟨PcL.blind, fun U hU hW => ⟨rfl, ⟨by rw [hU], by rw [hU]; exact hP, va_K.moved hW.alike hK, hD.weaken (fun _ _ _ _ => trivial), hex.on hW hU hS hFc⟩, hel.on hW hU hS hFc⟩⟩ rfl rfl hl.2.1 rfl (lv_room (by decide)) (show decode cL_law 354 = .ok (.invokestatic 39, 3) by decide +kernel) ⟨hc1, hs1⟩
  exact vx_calli run hS (fun q _ h => hFc q h) hFc (fun q _ h => hFc q h) (fun E ce q9 u t H1 locs1 _ _ hpx => hpx.elim) (fun r u t1 H1 locs1 ht hvm hw1 hB _ _ hS1 => by
    obtain ⟨hP1, hK1, hD1, hR1⟩ := hB
    rw [ht] at hP1
    have e1 : r = x.1 := congrArg Prod.fst hw1
    have e2 : u = x.2 := congrArg Prod.snd hw1
    subst e1 e2
    exact k H1 locs1 la hl hv (vc trivial (fun v hv => by cases hv)) hP1 (hD1.weaken (fun _ q _ hq => hFc _ hq)) hS1 hR1)
set_option maxRecDepth 100000 in
set_option maxHeartbeats 4000000 in
theorem lc_look (hN : 2 ^ 60 ≤ N) (hl0 : l.stackTraces = false) (hel : exL A s) (G : GX (p, l, e, room_1, s, m, args, below, meth, c, cells, slots, Q, cs, ρ, D, aC, A, 7) cL_law RL) (C : ScrX (p, l, e, room_1, s, m, args, below, meth, c, cells, slots, Q, cs, ρ, D, aC, A, 7) L xs) (hn : n + 5 < L) (hL : L < 2 ^ 31) (h15 : (15, 0) ∈ cs) (h1 : (1, 0) ∈ cs) (hc1 : cells + 1 ≤ 601024) (hs1 : slots + 6 ≤ 7293034) (I : Iv w v) (kk : ∀ w2 v2, Iv w2 v2 → WW (p, l, e, room_1, s, m, args, below, meth, c, cells + 1, slots + 6, Q, cs, ρ, D, aC, A, 7) 1324 (lsL n) [] w2) : WW (p, l, e, room_1, s, m, args, below, meth, c, cells, slots, Q, cs, ρ, D, aC, A, 7) 340 (lsL n) [] w := by
  have G0 := G
  obtain ⟨g1, g2, g3, g4, g5, g6, g7, hnd, hcl, g10, g11, g12, g13, g14⟩ := G0
  have G1 : GX (p, l, e, room_1, s, m, args, below, meth, c, cells + 1, slots + 6, Q, cs, ρ, D, aC, A, 7) cL_law RL := ⟨g1, g2, g3, g4, g5, g6, g7, hnd, hcl, g10, hc1, hs1, g13, g14⟩
  have C1 : ScrX (p, l, e, room_1, s, m, args, below, meth, c, cells + 1, slots + 6, Q, cs, ρ, D, aC, A, 7) L xs := C
  refine ww_aload (i := 1) (k := 15) (q := 0) G (by decide +kernel) rfl ?_
  refine ww_args G C hn hL rfl rfl 2 (by decide) (by decide +kernel) ?_
  refine ww_aload (i := 3) (k := 1) (q := 0) G (by decide +kernel) rfl ?_
  have gw := c_gWho (N := N) I.1 (xs (n + (0 + 1)))
  have h100 : 100 ≤ N := Nat.le_trans (by decide) hN
  cases hi : isI (xs (n + (0 + 1))) (v 0 1) with
  | false =>
    rw [hi] at gw
    have e2 := m_look1 (N := N) I.1 (xs (n + (0 + 1))) (xs (n + (1 + 1))) hi
    exact ll_call (a := xs (n + (0 + 1))) (b := xs (n + (1 + 1))) G hel hc1 hs1 (fun hR sz => ML_look1 (N := N) hl0 hnd hcl hR h15 h1 gw rfl) (lc_tail G1 rfl rfl C1 hn hL e2 (by rw [gg_I, if_pos ⟨rfl, rfl, rfl⟩]) (fun z => absurd z (show ¬ (1 : Int32) = 0 by decide)) (kk _ _ (Iv_look I 1)))
  | true =>
    rw [hi] at gw
    by_cases hb : is6 (xs (n + (1 + 1)))
    · obtain ⟨r, hr⟩ := k_lookU (N := N) I.1 h100 (xs (n + (0 + 1))) (xs (n + (1 + 1))) hi hb
      obtain ⟨e1, -⟩ := hr w I.1
      have f1 : Fr [2000] w (setL w 1 0 0 r.toInt64) := Fr_setL (Fr_refl _ _) rfl
      have I1 : Iv (setL w 1 0 0 r.toInt64) v := Iv_fr f1 I
      obtain ⟨-, e2⟩ := hr _ I1.1
      exact ll_call (a := xs (n + (0 + 1))) (b := xs (n + (1 + 1))) G hel hc1 hs1 (fun hR sz => ML_look0 (N := N) hnd hcl hR h15 h1 gw (by decide) hb e1) (lc_tail G1 rfl rfl C1 hn hL e2 (by rw [gg_I, if_pos ⟨rfl, rfl, rfl⟩]) (fun _ => by rw [gg_LI, gg_L, if_pos ⟨rfl, rfl, rfl⟩]) (kk _ _ (Iv_look0 I1)))
    · have e2 := m_look2 (N := N) I.1 (xs (n + (0 + 1))) (xs (n + (1 + 1))) hi hb
      exact ll_call (a := xs (n + (0 + 1))) (b := xs (n + (1 + 1))) G hel hc1 hs1 (fun hR sz => ML_look2 (N := N) hl0 hnd hcl hR h15 h1 gw (by decide) hb) (lc_tail G1 rfl rfl C1 hn hL e2 (by rw [gg_I, if_pos ⟨rfl, rfl, rfl⟩]) (fun z => absurd z (show ¬ (2 : Int32) = 0 by decide)) (kk _ _ (Iv_look I 2)))
theorem lX_widen {pc : Nat} {ls : LV} {st : List AV} (h : WW (p, l, e, room_1, s, m, args, below, meth, c, cells + 1, slots + 6, Q, cs, ρ, D, aC, A, 7) pc ls st w) : WW (p, l, e, room_1, s, m, args, below, meth, c, cells, slots, Q, cs, ρ, D, aC, A, 7) pc ls st w := fun H locs la hl hv hs hP hD hS hR => W.widen (Nat.le_succ _) (by omega) (h H locs la hl hv hs hP hD hS hR)
set_option maxRecDepth 100000 in
set_option maxHeartbeats 4000000 in
theorem law_turn (hN : 2 ^ 60 ≤ N) (hl0 : l.stackTraces = false) (hel : exL A s) (G : GX (p, l, e, room_1, s, m, args, below, meth, c, cells, slots, Q, cs, ρ, D, aC, A, 7) cL_law RL) (C : ScrX (p, l, e, room_1, s, m, args, below, meth, c, cells, slots, Q, cs, ρ, D, aC, A, 7) L xs) (hn : n + 5 < L) (hL : L < 2 ^ 31) (h15 : (15, 0) ∈ cs) (h1 : (1, 0) ∈ cs) (hc1 : cells + 1 ≤ 601024) (hs1 : slots + 6 ≤ 7293034) (I : Iv w v) (kk : ∀ w2 v2, Iv w2 v2 → WW (p, l, e, room_1, s, m, args, below, meth, c, cells + 1, slots + 6, Q, cs, ρ, D, aC, A, 7) 1324 (lsL n) [] w2) : WW (p, l, e, room_1, s, m, args, below, meth, c, cells, slots, Q, cs, ρ, D, aC, A, 7) 33 (lsL n) [] w := by
  have d40 : decode cL_law 40 = .ok (.tableswitch 1284 0 30 #[140, 213, 238, 263, 300, 368, 405, 454, 491, 528, 578, 615, 640, 677, 726, 763, 800, 837, 874, 911, 961, 1010, 1047, 1108, 1157, 1170, 1195, 1220, 1233, 1246, 1259], 140) := by decide +kernel
  have kx : ∀ w2 v2, Iv w2 v2 → WW (p, l, e, room_1, s, m, args, below, meth, c, cells, slots, Q, cs, ρ, D, aC, A, 7) 1324 (lsL n) [] w2 := fun w2 v2 I2 => lX_widen (kk w2 v2 I2)
  refine ww_aload (i := 0) (k := 2) (q := 7) G (by decide +kernel) rfl ?_
  refine ww_iload (i := 4) (x := nI n) G (by decide +kernel) rfl ?_
  refine ww_sld G C (by decide +kernel) (by omega) hL ?_
  refine ww_bipush (n := 31) (x := 31) G (by decide +kernel) rfl ?_
  refine ww_iand G (by decide +kernel) ?_
  obtain ⟨k, hk, e9⟩ := and31 (xs n)
  rw [e9]
  have hc : k = 0 ∨ k = 1 ∨ k = 2 ∨ k = 3 ∨ k = 4 ∨ k = 5 ∨ k = 6 ∨ k = 7 ∨ k = 8 ∨ k = 9 ∨ k = 10 ∨ k = 11 ∨ k = 12 ∨ k = 13 ∨ k = 14 ∨ k = 15 ∨ k = 16 ∨ k = 17 ∨ k = 18 ∨ k = 19 ∨ k = 20 ∨ k = 21 ∨ k = 22 ∨ k = 23 ∨ k = 24 ∨ k = 25 ∨ k = 26 ∨ k = 27 ∨ k = 28 ∨ k = 29 ∨ k = 30 ∨ k = 31 := by omega
  rcases hc with rfl | rfl | rfl | rfl | rfl | rfl | rfl | rfl | rfl | rfl | rfl | rfl | rfl | rfl | rfl | rfl | rfl | rfl | rfl | rfl | rfl | rfl | rfl | rfl | rfl | rfl | rfl | rfl | rfl | rfl | rfl | rfl
  · exact ww_tab (k := 0) (off := 140) (t := 180) G d40 (by decide) (by decide) rfl (by decide) (by decide) (lc_feed (N := N) hN G rfl C hn hL I kx)
  · exact ww_tab (k := 1) (off := 213) (t := 253) G d40 (by decide) (by decide) rfl (by decide) (by decide) (lc_text (N := N) hN G rfl C hn hL I kx)
  · exact ww_tab (k := 2) (off := 238) (t := 278) G d40 (by decide) (by decide) rfl (by decide) (by decide) (lc_fault (N := N) hN G rfl C hn hL I kx)
  · exact ww_tab (k := 3) (off := 263) (t := 303) G d40 (by decide) (by decide) rfl (by decide) (by decide) (lc_named (N := N) hN G rfl C hn hL I kx)
  · exact ww_tab (k := 4) (off := 300) (t := 340) G d40 (by decide) (by decide) rfl (by decide) (by decide) (lc_look (N := N) hN hl0 hel G C hn hL h15 h1 hc1 hs1 I kk)
  · exact ww_tab (k := 5) (off := 368) (t := 408) G d40 (by decide) (by decide) rfl (by decide) (by decide) (lc_part (N := N) hN G rfl C hn hL I kx)
  · exact ww_tab (k := 6) (off := 405) (t := 445) G d40 (by decide) (by decide) rfl (by decide) (by decide) (lc_knows (N := N) hN G rfl C hn hL I kx)
  · exact ww_tab (k := 7) (off := 454) (t := 494) G d40 (by decide) (by decide) rfl (by decide) (by decide) (lc_steps (N := N) hN G rfl C hn hL I kx)
  · exact ww_tab (k := 8) (off := 491) (t := 531) G d40 (by decide) (by decide) rfl (by decide) (by decide) (lc_chance (N := N) hN G rfl C hn hL I kx)
  · exact ww_tab (k := 9) (off := 528) (t := 568) G d40 (by decide) (by decide) rfl (by decide) (by decide) (lc_law (N := N) hN G rfl C hn hL I kx)
  · exact ww_tab (k := 10) (off := 578) (t := 618) G d40 (by decide) (by decide) rfl (by decide) (by decide) (lc_lose (N := N) hN G rfl C hn hL I kx)
  · exact ww_tab (k := 11) (off := 615) (t := 655) G d40 (by decide) (by decide) rfl (by decide) (by decide) (lc_nights (N := N) hN G rfl C hn hL I kx)
  · exact ww_tab (k := 12) (off := 640) (t := 680) G d40 (by decide) (by decide) rfl (by decide) (by decide) (lc_led (N := N) hN G rfl C hn hL I kx)
  · exact ww_tab (k := 13) (off := 677) (t := 717) G d40 (by decide) (by decide) rfl (by decide) (by decide) (lc_way (N := N) hN G rfl C hn hL I kx)
  · exact ww_tab (k := 14) (off := 726) (t := 766) G d40 (by decide) (by decide) rfl (by decide) (by decide) (lc_round (N := N) hN G rfl C hn hL I kx)
  · exact ww_tab (k := 15) (off := 763) (t := 803) G d40 (by decide) (by decide) rfl (by decide) (by decide) (lc_share (N := N) hN G rfl C hn hL I kx)
  · exact ww_tab (k := 16) (off := 800) (t := 840) G d40 (by decide) (by decide) rfl (by decide) (by decide) (lc_worth (N := N) hN G rfl C hn hL I kx)
  · exact ww_tab (k := 17) (off := 837) (t := 877) G d40 (by decide) (by decide) rfl (by decide) (by decide) (lc_stranger (N := N) hN G rfl C hn hL I kx)
  · exact ww_tab (k := 18) (off := 874) (t := 914) G d40 (by decide) (by decide) rfl (by decide) (by decide) (lc_fewest (N := N) hN G rfl C hn hL I kx)
  · exact ww_tab (k := 19) (off := 911) (t := 951) G d40 (by decide) (by decide) rfl (by decide) (by decide) (lc_order (N := N) hN G rfl C hn hL I kx)
  · exact ww_tab (k := 20) (off := 961) (t := 1001) G d40 (by decide) (by decide) rfl (by decide) (by decide) (lc_ordered (N := N) hN G rfl C hn hL I kx)
  · exact ww_tab (k := 21) (off := 1010) (t := 1050) G d40 (by decide) (by decide) rfl (by decide) (by decide) (lc_pick (N := N) hN G rfl C hn hL I kx)
  · exact ww_tab (k := 22) (off := 1047) (t := 1087) G d40 (by decide) (by decide) rfl (by decide) (by decide) (lc_season (N := N) hN G rfl C hn hL I kx)
  · exact ww_tab (k := 23) (off := 1108) (t := 1148) G d40 (by decide) (by decide) rfl (by decide) (by decide) (lc_claim (N := N) hN G rfl C hn hL I kx)
  · exact ww_tab (k := 24) (off := 1157) (t := 1197) G d40 (by decide) (by decide) rfl (by decide) (by decide) (lc_wrongly (N := N) hN G rfl C hn hL I kx)
  · exact ww_tab (k := 25) (off := 1170) (t := 1210) G d40 (by decide) (by decide) rfl (by decide) (by decide) (lc_against (N := N) hN G rfl C hn hL I kx)
  · exact ww_tab (k := 26) (off := 1195) (t := 1235) G d40 (by decide) (by decide) rfl (by decide) (by decide) (lc_slide (N := N) hN G rfl C hn hL I kx)
  · exact ww_tab (k := 27) (off := 1220) (t := 1260) G d40 (by decide) (by decide) rfl (by decide) (by decide) (lc_undo (N := N) hN G rfl C hn hL I kx)
  · exact ww_tab (k := 28) (off := 1233) (t := 1273) G d40 (by decide) (by decide) rfl (by decide) (by decide) (lc_keep (N := N) hN G rfl C hn hL I kx)
  · exact ww_tab (k := 29) (off := 1246) (t := 1286) G d40 (by decide) (by decide) rfl (by decide) (by decide) (lc_back (N := N) hN G rfl C hn hL I kx)
  · exact ww_tab (k := 30) (off := 1259) (t := 1299) G d40 (by decide) (by decide) rfl (by decide) (by decide) (lc_count (N := N) hN G rfl C hn hL I kx)
  · exact ww_tabOut (k := 31) (t := 1324) G d40 (by decide) (by decide) (by decide) (kx w v I)
theorem not_gt {L n : Nat} (hL : L ≤ 3072) (hn : n ≤ 3072) (h : ¬ (nI L - (6 : Int32)) < nI n) : n + 6 ≤ L := by
  rcases Nat.lt_or_ge L 6 with y | y
  · exfalso
    have e : ∀ q, q < 6 → (nI q - (6 : Int32)) < nI 0 := by decide
    refine h ?_
    have e1 := Int32.lt_iff_toInt_lt.mp (e L y)
    refine Int32.lt_iff_toInt_lt.mpr ?_
    rw [nI_toInt (by omega)] at e1 ⊢
    omega
  · have e1 : nI L - (6 : Int32) = nI (L - 6) := nI_sb (b := 6) y
    rw [e1] at h
    rcases Nat.lt_or_ge (L - 6) n with z | z
    · exact absurd ((nI_ltI (a := L - 6) (b := n) (by omega) (by omega)).mpr z) h
    · omega
set_option maxRecDepth 100000 in
set_option maxHeartbeats 4000000 in
theorem law_loop (hN : 2 ^ 60 ≤ N) (hl0 : l.stackTraces = false) (hel : exL A s) (G0 : GX (p, l, e, room_1, s, m, args, below, meth, c, 210, 10089, Q, cs, ρ, D, aC, A, 7) cL_law RL) (C0 : ScrX (p, l, e, room_1, s, m, args, below, meth, c, 210, 10089, Q, cs, ρ, D, aC, A, 7) L xs) (hL : L ≤ 3072) (h15 : (15, 0) ∈ cs) (h1 : (1, 0) ∈ cs) (hend : ∀ i, 6 * i ≤ 3072 → ∀ ls w, WW (p, l, e, room_1, s, m, args, below, meth, c, 210 + i, 10089 + 6 * i, Q, cs, ρ, D, aC, A, 7) 1330 ls [] w) :
    ∀ (k i : Nat) (w : Wd) (v : Vw), 6 * i ≤ L → L ≤ 6 * i + 6 * k → Iv w v → WW (p, l, e, room_1, s, m, args, below, meth, c, 210 + i, 10089 + 6 * i, Q, cs, ρ, D, aC, A, 7) 23 (lsL (6 * i)) [] w := by
  intro k
  induction k with
  | zero =>
    intro i w v h2 h3 I
    obtain ⟨g1, g2, g3, g4, g5, g6, g7, hnd, hcl, g10, -, -, g13, g14⟩ := G0
    have G : GX (p, l, e, room_1, s, m, args, below, meth, c, 210 + i, 10089 + 6 * i, Q, cs, ρ, D, aC, A, 7) cL_law RL := ⟨g1, g2, g3, g4, g5, g6, g7, hnd, hcl, g10, (show 210 + i ≤ 601024 by omega), (show 10089 + 6 * i ≤ 7293034 by omega), g13, g14⟩
    have C : ScrX (p, l, e, room_1, s, m, args, below, meth, c, 210 + i, 10089 + 6 * i, Q, cs, ρ, D, aC, A, 7) L xs := C0
    refine ww_iload (i := 4) (x := nI (6 * i)) G (by decide +kernel) rfl ?_
    refine ww_aload (i := 0) (k := 2) (q := 7) G (by decide +kernel) rfl ?_
    refine ww_slen G C (by decide +kernel) ?_
    refine ww_bipush (n := 6) (x := 6) G (by decide +kernel) rfl ?_
    refine ww_isub G (by decide +kernel) ?_
    exact ww_icmpgt (off := 1300) (t := 1330) G (by decide +kernel) (by decide) (fun _ => hend i (by omega) _ _) (fun q => absurd (not_gt (by omega) (by omega) q) (by omega))
  | succ k ih =>
    intro i w v h2 h3 I
    have G0' := G0
    obtain ⟨g1, g2, g3, g4, g5, g6, g7, hnd, hcl, g10, -, -, g13, g14⟩ := G0'
    have G : GX (p, l, e, room_1, s, m, args, below, meth, c, 210 + i, 10089 + 6 * i, Q, cs, ρ, D, aC, A, 7) cL_law RL := ⟨g1, g2, g3, g4, g5, g6, g7, hnd, hcl, g10, (show 210 + i ≤ 601024 by omega), (show 10089 + 6 * i ≤ 7293034 by omega), g13, g14⟩
    have C : ScrX (p, l, e, room_1, s, m, args, below, meth, c, 210 + i, 10089 + 6 * i, Q, cs, ρ, D, aC, A, 7) L xs := C0
    refine ww_iload (i := 4) (x := nI (6 * i)) G (by decide +kernel) rfl ?_
    refine ww_aload (i := 0) (k := 2) (q := 7) G (by decide +kernel) rfl ?_
    refine ww_slen G C (by decide +kernel) ?_
    refine ww_bipush (n := 6) (x := 6) G (by decide +kernel) rfl ?_
    refine ww_isub G (by decide +kernel) ?_
    refine ww_icmpgt (off := 1300) (t := 1330) G (by decide +kernel) (by decide) (fun _ => hend i (by omega) _ _) (fun q => ?_)
    have hn := not_gt (by omega) (by omega) q
    refine law_turn (N := N) (n := 6 * i) hN hl0 hel G C (by omega) (by omega) h15 h1 (by omega) (by omega) I (fun w2 v2 I2 => ?_)
    have G1 : GX (p, l, e, room_1, s, m, args, below, meth, c, 210 + (i + 1), 10089 + 6 * (i + 1), Q, cs, ρ, D, aC, A, 7) cL_law RL := ⟨g1, g2, g3, g4, g5, g6, g7, hnd, hcl, g10, (show 210 + (i + 1) ≤ 601024 by omega), (show 10089 + 6 * (i + 1) ≤ 7293034 by omega), g13, g14⟩
    have k9 : WW (p, l, e, room_1, s, m, args, below, meth, c, 210 + (i + 1), 10089 + 6 * (i + 1), Q, cs, ρ, D, aC, A, 7) 1324 (lsL (6 * i)) [] w2 := by
      refine ww_iinc (i := 4) (x := nI (6 * i)) (y := 6) (n := 6) G1 (by decide +kernel) rfl rfl ?_
      refine ww_goto (off := -1304) (t := 23) G1 (by decide +kernel) (by decide) ?_
      have e6 : nI (6 * i) + (6 : Int32) = nI (6 * (i + 1)) := nI_add (6 * i) 6
      have el : lset (lsL (6 * i)) 4 (some (.inl (nI (6 * i) + (6 : Int32)))) = lsL (6 * (i + 1)) := by
        rw [e6]
        rfl
      rw [el]
      exact ih (i + 1) w2 v2 (by omega) (by omega) I2
    exact k9
end

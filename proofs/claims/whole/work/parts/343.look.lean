/-! ===== look of the class, at the machine ===== -/
def ioE : String := "java/lang/IndexOutOfBoundsException"
def nsE : String := "java/util/NoSuchElementException"
def chE : List String := ["java/lang/RuntimeException", "java/lang/Exception"]
/-- words that calls don't keep by themselves -/
def exWL : List Cond := [.declares (Bundle.initS "java/lang/RuntimeException"), .declares (Bundle.initS "java/lang/Exception"), .declares (Bundle.initS Bundle.tN), .castable ioE ioE, .castable nsE nsE]
def exL (A : Nat → Prop) (U : State) : Prop := (∀ w ∈ exWL, va_Nw w U) ∧ va_Nc nsE ioE U ∧ (∃ a, vk_R RX11 152 "no such person" a U) ∧ (∃ a, vk_R RX11 182 "no such what" a U) ∧ vx_Zq Bundle.tN "UNASSIGNED_STACK" Bundle.steD A U U.heap ∧ vx_Zq Bundle.tN "SUPPRESSED_SENTINEL" Bundle.listD A U U.heap
theorem exWL_t : ∀ w ∈ exWL, w.onTables = true := by
  intro w hw
  simp only [exWL, List.mem_cons, List.not_mem_nil, or_false] at hw
  rcases hw with rfl | rfl | rfl | rfl | rfl <;> rfl
theorem exL.on {A B : Nat → Prop} {s U : State} {H : Heap} {locs : List Loc} (h : exL A s) (hW : s.WarmedH U.vm) (hH : U.heap = H) (hS : va_S A s.heap H locs) (hAB : ∀ q, B q → A q) : exL B U := by
  obtain ⟨h1, h2, ⟨a1, h3⟩, ⟨a2, h4⟩, h5, h6⟩ := h
  refine ⟨fun w hw => ?_, va_Nc.moved hW.alike h2, ⟨a1, vk_R.warm hW h3⟩, ⟨a2, vk_R.warm hW h4⟩, ?_, ?_⟩
  · have h0 := h1 w hw
    simp only [exWL, List.mem_cons, List.not_mem_nil, or_false] at hw
    rcases hw with rfl | rfl | rfl | rfl | rfl
    · exact va_Nw.warmD hW h0
    · exact va_Nw.warmD hW h0
    · exact va_Nw.warmD hW h0
    · exact va_Nw.warmC hW h0
    · exact va_Nw.warmC hW h0
  · rw [hH]
    exact ((h5.kept hS.2.1).moved hW.alike).narrow hAB
  · rw [hH]
    exact ((h6.kept hS.2.1).moved hW.alike).narrow hAB
theorem exL.same {A : Nat → Prop} {u U : State} (hv : U.vm = u.vm) (hH : U.heap = u.heap) (h : exL A u) : exL A U := by
  obtain ⟨h1, h2, ⟨a1, h3⟩, ⟨a2, h4⟩, h5, h6⟩ := h
  have hal : u.vm.Alike U.vm := by rw [hv]; exact Vm.Alike.refl _
  refine ⟨fun w hw => va_Nw.same (exWL_t w hw) hv.symm (h1 w hw), va_Nc.moved hal h2, ⟨a1, vk_R.same hv h3⟩, ⟨a2, vk_R.same hv h4⟩, ?_, ?_⟩
  · rw [hH]; exact vx_Zq.moved hal h5
  · rw [hH]; exact vx_Zq.moved hal h6
def PcL (cs : List (Nat × Nat)) (ρ : Nat → Nat → Nat) (D : va_G) (aC : Nat → ClassId) (sz : Nat) (w : Wd) (U : State) : Prop := PcW cs ρ D aC sz w U ∧ exL (va_A (pic cs ρ aC w) sz) U
theorem PcL.blind {cs : List (Nat × Nat)} {ρ : Nat → Nat → Nat} {D : va_G} {aC : Nat → ClassId} {sz : Nat} {w : Wd} {av : List Value} : FrameBlind (va_Pc av (PcL cs ρ D aC sz w)) := fun a U g mk q => by
  obtain ⟨q0, q1, q2⟩ := q
  exact ⟨q0, (PcW.blind (av := av) a U g mk ⟨q0, q1⟩).2, exL.same (u := U) (U := U.calling g mk a) rfl rfl q2⟩
/-! words of a throw -/
def thL (ik ic : Nat) (E : String) : List Cond := Cond.classLink RX11 ik E :: Cond.initialized E :: vx_atS RX11 ic E chE
def thOK (l : List Cond) : Bool := l.all (fun w => vx_ot w && ((lw_tbl.contains w && goodWord w) || exWL.contains w))
set_option maxRecDepth 100000 in
set_option maxHeartbeats 4000000 in
theorem thL_1 : thOK (thL 150 154 ioE) = true := by decide +kernel
def rx13 : ByteArray := ⟨#[0x2a, 0x2b, 0xb7, 0x00, 0x0d, 0xb1]⟩
def thX (ik ic : Nat) (E : String) : List Cond := Cond.classLink RX11 ik E :: Cond.initialized E :: nx_atS RX11 ic E 13 rx13 chE
set_option maxRecDepth 100000 in
set_option maxHeartbeats 4000000 in
theorem thL_2 : thOK (thX 180 184 nsE) = true := by decide +kernel
theorem thL_s {args : Array Value} {s : State} (hts : ∀ w ∈ lwg, w.before args s = true) (hx : ∀ w ∈ exWL, va_Nw w s) {l : List Cond} (h : thOK l = true) : ∀ w ∈ l, w.before args s = true ∧ vx_ot w = true := fun w hw => by
  have a := List.all_eq_true.mp h w hw
  rw [Bool.and_eq_true, Bool.or_eq_true, Bool.and_eq_true] at a
  refine ⟨?_, a.1⟩
  rcases a.2 with ⟨b, c⟩ | b
  · exact hts w (lwg_in (List.contains_iff_mem.mp b) c)
  · have hm := List.contains_iff_mem.mp b
    exact va_Nw.use (exWL_t w hm) (hx w hm)
section
variable {X : XT} {cc : ByteArray} {own : String} {pc : Nat} {ls : LV} {st : List AV} {w : Wd}
theorem ww_iloadn (G : GX X cc own) {i : Fin 4} {x : Int32} (hd : decode cc pc = .ok (.iload_n i, 1)) (hi : ls.getD i.val none = some (.inl x)) (h : WW X (pc + 1) ls (.inl x :: st) w) : WW X pc ls st w := by
  obtain ⟨p, l, e0, R, s, m, args, below, meth, c, cells, slots, Q, cs, ρ, D, aC, A, nL⟩ := X
  obtain ⟨hex, hx, hb, -⟩ := G
  intro H locs la hl hv hs hP hD hS hR
  exact lv_iload_n hx hb hd rfl (lvr_get hl hi) (h H locs la hl hv (vc trivial hs) hP hD hS hR)
theorem ww_tabX (G : GX X cc own) {d lo hi : Int} {offs : Array Int} {len t : Nat} {x : Int32} (hd : decode cc pc = .ok (.tableswitch d lo hi offs, len)) (h2 : x.toInt < lo ∨ hi < x.toInt) (ht : (pc : Int) + d = (t : Int)) (h : WW X t ls st w) : WW X pc ls (.inl x :: st) w := by
  obtain ⟨p, l, e0, R, s, m, args, below, meth, c, cells, slots, Q, cs, ρ, D, aC, A, nL⟩ := X
  obtain ⟨hex, hx, hb, -⟩ := G
  intro H locs la hl hv hs hP hD hS hR
  exact lv_tableOut hx hb hd h2 ht (h H locs la hl hv (vt hs) hP hD hS hR)
end
theorem not6 {b : Int32} (h : ¬ is6 b) : b.toInt < 0 ∨ 5 < b.toInt := by
  rcases Int.lt_or_le b.toInt 0 with y | y
  · exact Or.inl y
  · rcases Int.lt_or_le 5 b.toInt with z | z
    · exact Or.inr z
    · exfalso
      have e : b = Int32.ofInt b.toInt := (Int32.ofInt_toInt b).symm
      have hc : b.toInt = 0 ∨ b.toInt = 1 ∨ b.toInt = 2 ∨ b.toInt = 3 ∨ b.toInt = 4 ∨ b.toInt = 5 := by omega
      rcases hc with q | q | q | q | q | q <;> rw [q] at e <;> exact h (by rw [e]; unfold is6; decide)
def tX11_look : List EN := [
  (56, .aload_n 0, 0, 0, 0, 0, 0, []), (57, .getfield 35, 0, 11, 5, 0, 0, []), (60, .iload_n 1, 0, 0, 0, 0, 0, []), (61, .aload_n 0, 0, 0, 0, 0, 0, []),
  (62, .getfield 35, 0, 11, 5, 0, 0, []), (65, .getfield 157, 0, 9, 1, 0, 0, []), (68, .invokevirtual 160, 0, 0, 3, 0, 0, []), (71, .ifCond .eq 7, 0, 10, 0, 0, 0, []),
  (74, .iconst 1, 0, 0, 0, 1, 0, []), (75, .goto 4, 0, 11, 0, 0, 0, []), (78, .iconst 0, 0, 0, 0, 0, 0, []), (79, .ireturn, 0, 0, 0, 0, 0, []),
  (80, .aload_n 0, 0, 0, 0, 0, 0, []), (81, .getfield 35, 0, 11, 5, 0, 0, []), (84, .getfield 164, 0, 9, 3, 0, 0, []), (87, .iload_n 1, 0, 0, 0, 0, 0, []),
  (88, .ishr, 0, 0, 0, 0, 0, []), (89, .iconst 1, 0, 0, 0, 1, 0, []), (90, .iand, 0, 0, 0, 0, 0, []), (91, .ireturn, 0, 0, 0, 0, 0, []),
  (92, .aload_n 0, 0, 0, 0, 0, 0, []), (93, .getfield 35, 0, 11, 5, 0, 0, []), (96, .iload_n 1, 0, 0, 0, 0, 0, []), (97, .aload_n 0, 0, 0, 0, 0, 0, []),
  (98, .getfield 35, 0, 11, 5, 0, 0, []), (101, .getfield 157, 0, 9, 1, 0, 0, []), (104, .invokevirtual 167, 0, 1, 3, 0, 0, []), (107, .ireturn, 0, 0, 0, 0, 0, []),
  (108, .aload_n 0, 0, 0, 0, 0, 0, []), (109, .getfield 35, 0, 11, 5, 0, 0, []), (112, .getfield 171, 0, 9, 4, 0, 0, []), (115, .iload_n 1, 0, 0, 0, 0, 0, []),
  (116, .iaload, 0, 0, 0, 0, 0, []), (117, .ireturn, 0, 0, 0, 0, 0, []), (118, .aload_n 0, 0, 0, 0, 0, 0, []), (119, .getfield 16, 0, 11, 2, 0, 0, []),
  (122, .getfield 134, 0, 4, 4, 0, 0, []), (125, .getfield 174, 0, 6, 3, 0, 0, []), (128, .iload_n 1, 0, 0, 0, 0, 0, []), (129, .iaload, 0, 0, 0, 0, 0, []),
  (130, .ireturn, 0, 0, 0, 0, 0, []), (131, .aload_n 0, 0, 0, 0, 0, 0, []), (132, .getfield 35, 0, 11, 5, 0, 0, []), (135, .getfield 177, 0, 9, 6, 0, 0, []),
  (138, .iload_n 1, 0, 0, 0, 0, 0, []), (139, .iaload, 0, 0, 0, 0, 0, []), (140, .ireturn, 0, 0, 0, 0, 0, [])]
set_option maxRecDepth 100000 in
set_option maxHeartbeats 4000000 in
theorem kX11_look : TK cX11_look RX11 3 tX11_look := ⟨by decide +kernel, wok_of [735, 735, 524, 735, 529, 735, 735, 524, 735, 533, 732, 281, 208, 735, 537] (by decide +kernel) (by decide +kernel)⟩
set_option maxRecDepth 100000 in
set_option maxHeartbeats 4000000 in
theorem crX11_look {N : Nat} {X : XT} (G : GX X cX11_look RX11) (hR : xR X = rmC 12 1 6) : CRs X tX11_look (oF [(mX9_isThere N), (mX9_knownBits N)]) (oF []) (oF []) := by
  have hl : tX11_look.filter isInv = [(68, .invokevirtual 160, 0, 0, 3, 0, 0, []), (104, .invokevirtual 167, 0, 1, 3, 0, 0, [])] := rfl
  intro e he
  rw [hl] at he
  simp only [List.mem_cons, List.not_mem_nil, or_false] at he
  rcases he with rfl | rfl
  · exact crI_V (idx := 160) G (by decide +kernel) (MX9_isThere N) (cw_of (ps := [1061, 1026, 1027, 158, 1028]) (by decide +kernel) (by decide +kernel)) ⟨by decide +kernel, by decide +kernel, by decide +kernel⟩ (by unfold rmOk; rw [hR]; exact ⟨by decide, by decide⟩)
  · exact crI_V (idx := 167) G (by decide +kernel) (MX9_knownBits N) (cw_of (ps := [1040, 1022, 1023, 158, 1024]) (by decide +kernel) (by decide +kernel)) ⟨by decide +kernel, by decide +kernel, by decide +kernel⟩ (by unfold rmOk; rw [hR]; exact ⟨by decide, by decide⟩)
def lkL (a b : Int32) : LV := [some (.inr (.inr (15, 0))), some (.inl a), some (.inl b)]
set_option maxRecDepth 100000 in
set_option maxHeartbeats 4000000 in
theorem lk_pre {N : Nat} {X : XT} {w : Wd} {a b x : Int32} (G : GX X cX11_look RX11) (hRm : xR X = rmC 12 1 6) (hp : pX11_isPerson N a w = some (x, w)) (h1 : x ≠ 0 → WW X 18 (lkL a b) [] w) (h2 : x = 0 → WW X 8 (lkL a b) [] w) : WW X 0 (lkL a b) [] w := by
  refine ww_aload (k := 15) (q := 0) (i := 0) G (by decide +kernel) rfl ?_
  refine ww_iloadn (i := 1) (x := a) G (by decide +kernel) rfl ?_
  have q := crI_V (e := (2, .return_, 0, 0, 0, 0, 0, [])) (idx := 146) G (by decide +kernel) (MX11_isPerson N) (cw_of (ps := [1033, 1035, 34, 148, 1036]) (by decide +kernel) (by decide +kernel)) ⟨by decide +kernel, by decide +kernel, by decide +kernel⟩ (by unfold rmOk; rw [hRm]; exact ⟨by decide, by decide⟩)
  have hf : mX11_isPerson N [.inr (.inr (15, 0)), .inl a] w = some (x, w) := by
    show callW (pX11_isPerson N a) w = _
    rw [callW_eq]
    exact hp
  have q2 := q [.inr (.inr (15, 0)), .inl a] [] w (x, w) (lkL a b) hf (by decide)
  refine q2 ?_
  exact ww_ifne (off := 13) (t := 18) G (by decide +kernel) (by decide) h1 h2
set_option maxRecDepth 100000 in
set_option maxHeartbeats 4000000 in
theorem lk_run {N : Nat} {X : XT} {w : Wd} {a b : Int32} {r : Int32 × Wd} (G : GX X cX11_look RX11) (hn : xnL X = 3) (hRm : xR X = rmC 12 1 6) (hr : RTI X cX11_look r) (j : Nat) (h : run (oF [(mX9_isThere N), (mX9_knownBits N)]) (oF []) (oF []) (fun x w => some (x, w)) (fun _ _ => none) (fun _ => none) tX11_look (fun _ _ _ _ => none) 50 (tX11_look.drop j) (lkL a b) [] w = some r) : WW X (pcAt tX11_look j) (lkL a b) [] w := by
  have hC := crX11_look (N := N) G hRm
  refine run_sound (r := r) (X := X) (cc := cX11_look) (own := RX11) (tab := tX11_look) G (by rw [hn]; exact kX11_look) (oI := (oF [(mX9_isThere N), (mX9_knownBits N)])) (oL := (oF [])) (oV := (oF [])) (rI := (fun x w => some (x, w))) (rL := (fun _ _ => none)) (rV := (fun _ => none))
      (K := (fun j ls st w => none)) (fun x w pc ls hx hd => hr x w pc ls (Option.some.inj hx) hd) (fun _ _ _ _ hx => by cases hx) (fun _ _ _ hx => by cases hx) hC (fun ls => lsb (lkL a b) 0 ls) (keepsP_of rfl) (fun j ls st w _ h => by cases h) 50 j (lkL a b) [] w ?_ h
  exact (show _ = _ ∧ _ = _ ∧ _ = _ ∧ True from ⟨rfl, rfl, rfl, trivial⟩)
set_option maxRecDepth 100000 in
set_option maxHeartbeats 4000000 in
theorem lk_six {N : Nat} {X : XT} {w : Wd} {a b : Int32} {r : Int32 × Wd} (G : GX X cX11_look RX11) (hn : xnL X = 3) (hRm : xR X = rmC 12 1 6) (hr : RTI X cX11_look r) (hb : is6 b) (h : lkT N a b w = some r) : WW X 18 (lkL a b) [] w := by
  have d19 : decode cX11_look 19 = .ok (.tableswitch 122 0 5 #[37, 61, 73, 89, 99, 112], 37) := by decide +kernel
  refine ww_iloadn (i := 2) (x := b) G (by decide +kernel) rfl ?_
  unfold lkT at h
  rcases hb with rfl | rfl | rfl | rfl | rfl | rfl
  · rw [if_pos rfl] at h
    exact ww_tab (k := 0) (off := 37) (t := 56) G d19 (by decide) (by decide) rfl (by decide) (by decide) (lk_run (N := N) G hn hRm hr 0 h)
  · rw [if_neg (by decide), if_pos rfl] at h
    exact ww_tab (k := 1) (off := 61) (t := 80) G d19 (by decide) (by decide) rfl (by decide) (by decide) (lk_run (N := N) G hn hRm hr 12 h)
  · rw [if_neg (by decide), if_neg (by decide), if_pos rfl] at h
    exact ww_tab (k := 2) (off := 73) (t := 92) G d19 (by decide) (by decide) rfl (by decide) (by decide) (lk_run (N := N) G hn hRm hr 20 h)
  · rw [if_neg (by decide), if_neg (by decide), if_neg (by decide), if_pos rfl] at h
    exact ww_tab (k := 3) (off := 89) (t := 108) G d19 (by decide) (by decide) rfl (by decide) (by decide) (lk_run (N := N) G hn hRm hr 28 h)
  · rw [if_neg (by decide), if_neg (by decide), if_neg (by decide), if_neg (by decide), if_pos rfl] at h
    exact ww_tab (k := 4) (off := 99) (t := 118) G d19 (by decide) (by decide) rfl (by decide) (by decide) (lk_run (N := N) G hn hRm hr 34 h)
  · rw [if_neg (by decide), if_neg (by decide), if_neg (by decide), if_neg (by decide), if_neg (by decide), if_pos rfl] at h
    exact ww_tab (k := 5) (off := 112) (t := 131) G d19 (by decide) (by decide) rfl (by decide) (by decide) (lk_run (N := N) G hn hRm hr 41 h)
section
variable {p : Program} {l : Launch} {e : Env} {s : State} {m : MethodId} {args : Array Value} {below : List Frame} {meth : Method} {c : Code} {cs : List (Nat × Nat)} {ρ : Nat → Nat → Nat} {D : va_G} {aC : Nat → ClassId} {w w1 w2 : Wd} {Qc : Array Value → State → Outcome → State → Prop} {XC : String → State → State → Prop} {A : Nat → Prop} {a b : Int32} {N sz : Nat}
/-- a throw -/
def xcT (E : String) (cs : List (Nat × Nat)) (ρ : Nat → Nat → Nat) (D : va_G) (aC : Nat → ClassId) (A : Nat → Prop) (w : Wd) : String → State → State → Prop := vx_X (fun _ : Unit => True) (fun E' _ t => E' = E ∧ Bw cs ρ D aC A w t) A
set_option maxRecDepth 100000 in
set_option maxHeartbeats 4000000 in
theorem lk_thr {pc ik is ic sa : Nat} {E tx : String} (hl0 : l.stackTraces = false) (G : GX (p, l, e, rmC 12 1 6, s, m, args, below, meth, c, 0, 0, vx_MQ below Qc (xcT E cs ρ D aC A w) args s 1 6 A, cs, ρ, D, aC, A, 3) cX11_look RX11) (hel : exL A s) (hstr : vk_R RX11 is tx sa s) (hE : Bundle.fit E = true) (hth : thOK (thL ik ic E) = true) (hno : ∀ x ∈ c.exceptionTable.toList, False) (hlocks : meth.locks = false)
    (d0 : decode cX11_look pc = .ok (.new ik, 3)) (d3 : decode cX11_look (pc + 3) = .ok (.dup, 1)) (d4 : decode cX11_look (pc + 4) = .ok (.ldc is, 2)) (d6 : decode cX11_look (pc + 6) = .ok (.invokespecial ic, 3)) (d9 : decode cX11_look (pc + 9) = .ok (.athrow, 1)) {ls : LV} : WW (p, l, e, rmC 12 1 6, s, m, args, below, meth, c, 0, 0, vx_MQ below Qc (xcT E cs ρ D aC A w) args s 1 6 A, cs, ρ, D, aC, A, 3) pc ls [] w := by
  intro H locs la hl hv hs hP hD hS hR
  obtain ⟨hex, hx, hb, hml, hown, hts, hK, hnd, hcl, hA, -⟩ := G
  have wd := thL_s hts hel.1 hth
  exact vx_throwS (A := A) (rest := []) hx hb hl0 (own := RX11) (cls := E) (text := tx) (names := chE) (ik := ik) (is := is) (ic := ic) (sa := sa) hown hE (by decide) (wd _ (by simp [thL])).1 (wd _ (by simp [thL])).1 hstr (fun w hw => (wd w (by unfold thL; exact List.mem_cons_of_mem _ (List.mem_cons_of_mem _ hw))).1) (fun w hw => (wd w hw).2) hel.2.2.2.2.1 hel.2.2.2.2.2 hS (hl.2.1.trans hml.symm) d0 d3 d4 d6 d9 (fun x hx => (hno x hx).elim) (by decide) (by decide) (by decide) (by decide) hlocks
    (fun t hal hsz hk => ⟨(), trivial, ⟨rfl, hP.kept (fun k x hx => hk x.1 ((hP k x hx).lt)), va_K.moved hal hK, hD, hR⟩, ⟨Nat.le_trans hS.1 hsz, fun q h1 h2 => (hk q (Nat.lt_of_lt_of_le h1 hS.1)).trans (hS.2.1 q h1 h2)⟩⟩) hS.2.2 (Nat.le_refl _) (Nat.le_refl _)
set_option maxRecDepth 100000 in
set_option maxHeartbeats 4000000 in
theorem lk_thrX {pc ik is ic sa : Nat} {E tx : String} (hl0 : l.stackTraces = false) (G : GX (p, l, e, rmC 12 1 6, s, m, args, below, meth, c, 0, 0, vx_MQ below Qc (xcT E cs ρ D aC A w) args s 1 6 A, cs, ρ, D, aC, A, 3) cX11_look RX11) (hel : exL A s) (hstr : vk_R RX11 is tx sa s) (hE : Bundle.fit E = true) (hth : thOK (thX ik ic E) = true) (hno : ∀ x ∈ c.exceptionTable.toList, False) (hlocks : meth.locks = false)
    (d0 : decode cX11_look pc = .ok (.new ik, 3)) (d3 : decode cX11_look (pc + 3) = .ok (.dup, 1)) (d4 : decode cX11_look (pc + 4) = .ok (.ldc is, 2)) (d6 : decode cX11_look (pc + 6) = .ok (.invokespecial ic, 3)) (d9 : decode cX11_look (pc + 9) = .ok (.athrow, 1)) {ls : LV} : WW (p, l, e, rmC 12 1 6, s, m, args, below, meth, c, 0, 0, vx_MQ below Qc (xcT E cs ρ D aC A w) args s 1 6 A, cs, ρ, D, aC, A, 3) pc ls [] w := by
  intro H locs la hl hv hs hP hD hS hR
  obtain ⟨hex, hx, hb, hml, hown, hts, hK, hnd, hcl, hA, -⟩ := G
  have wd := thL_s hts hel.1 hth
  exact nx_throwS (ix := 13) (rx := rx13) (A := A) (rest := []) hx hb hl0 (by decide +kernel) (by decide +kernel) (by decide +kernel) (by decide +kernel) (own := RX11) (cls := E) (text := tx) (names := chE) (ik := ik) (is := is) (ic := ic) (sa := sa) hown hE (by decide) (wd _ (by simp [thX])).1 (wd _ (by simp [thX])).1 hstr (fun w hw => (wd w (by unfold thX; exact List.mem_cons_of_mem _ (List.mem_cons_of_mem _ hw))).1) (fun w hw => (wd w hw).2) hel.2.2.2.2.1 hel.2.2.2.2.2 hS (hl.2.1.trans hml.symm) d0 d3 d4 d6 d9 (fun x hx => (hno x hx).elim) (by decide) (by decide) (by decide) (by decide) hlocks
    (fun t hal hsz hk => ⟨(), trivial, ⟨rfl, hP.kept (fun k x hx => hk x.1 ((hP k x hx).lt)), va_K.moved hal hK, hD, hR⟩, ⟨Nat.le_trans hS.1 hsz, fun q h1 h2 => (hk q (Nat.lt_of_lt_of_le h1 hS.1)).trans (hS.2.1 q h1 h2)⟩⟩) hS.2.2 (Nat.le_refl _) (Nat.le_refl _)
def lkA (a b : Int32) : List AV := [.inr (.inr (15, 0)), .inl a, .inl b]
set_option maxRecDepth 100000 in
set_option maxHeartbeats 4000000 in
theorem lk_met (hnd : cs.Nodup) (hcl : cloS cs) (hR : cloR cs w) (h15 : (15, 0) ∈ cs)
    (body : ∀ (p : Program) (e : Env) (s : State) (m : MethodId) (args : Array Value) (below : List Frame) (meth : Method) (c : Code), exL (va_A (pic cs ρ aC w) sz) s → meth.sig.returnType = some .int → meth.locks = false → (∀ x ∈ c.exceptionTable.toList, False) →
      GX (p, l, e, rmC 12 1 6, s, m, args, below, meth, c, 0, 0, vx_MQ below Qc XC args s 1 6 (va_A (pic cs ρ aC w) sz), cs, ρ, D, aC, va_A (pic cs ρ aC w) sz, 3) cX11_look RX11 → WW (p, l, e, rmC 12 1 6, s, m, args, below, meth, c, 0, 0, vx_MQ below Qc XC args s 1 6 (va_A (pic cs ρ aC w) sz), cs, ρ, D, aC, va_A (pic cs ρ aC w) sz, 3) 0 (lkL a b) [] w) :
    vx_Met l yX11_look (wsy yX11_look cX11_look 3 (some .int)) (rmC 12 1 6) (va_Pc ((lkA a b).map (trv ρ)) (PcL cs ρ D aC sz w)) Qc XC 1 6 (va_A (pic cs ρ aC w) sz) := by
  refine vx_ofW (cc := cX11_look) (maxL := 3) (ret := some .int) (by decide +kernel) rfl ?_
  intro p e s m args below meth c s₁ B hml hno hv
  obtain ⟨rfl, ⟨hsz, hP, hK, hD0, hex⟩, hel⟩ := hv
  have hx := B.exec
  have hb := B.bytes
  have hr := B.returns
  have hts := atoms_spec (ws := wsy yX11_look cX11_look 3 (some .int)) B.pre
  have hown : s.vm.findClass yX11_look.cls = some m.cls := findClass_of_methodNamed B.named
  have hlocks := B.notSynchronized
  subst hsz
  have hD := hD0.self (sz := s.heap.size)
  rw [lg_entry_eq]
  have k := body p e s m ((lkA a b).map (trv ρ)).toArray below meth c hel hr hlocks hno ⟨hex, hx, hb, hml, hown, fun w h => hts w (List.mem_cons_of_mem _ h), hK, hnd, hcl, fun q h => Or.inr h, Nat.zero_le _, Nat.zero_le _, (show 1 ≤ 12 by decide), (show 64 ≤ 960 by decide)⟩
  have hvas : ∀ v ∈ lkA a b, vok cs v := fun v hv => by
    simp only [lkA, List.mem_cons, List.not_mem_nil, or_false] at hv
    rcases hv with rfl | rfl | rfl
    · exact Or.inl h15
    · trivial
    · trivial
  exact k s.heap [] _ (ent_lvr ρ (as := lkA a b) (nL := 3) (Nat.le_of_ble_eq_true rfl)) (ent_ok (nL := 3) hvas) (fun _ h => by cases h) hP hD va_S.rf hR
set_option maxRecDepth 100000 in
set_option maxHeartbeats 4000000 in
theorem M_lookR {r : Int32} (hnd : cs.Nodup) (hcl : cloS cs) (hR : cloR cs w) (h15 : (15, 0) ∈ cs) {x : Int32} (hp : pX11_isPerson N a w = some (x, w)) (hx0 : x ≠ 0) (hb : is6 b) (h : lkT N a b w = some (r, w1)) :
    vx_Met l yX11_look (wsy yX11_look cX11_look 3 (some .int)) (rmC 12 1 6) (va_Pc ((lkA a b).map (trv ρ)) (PcL cs ρ D aC sz w)) (va_Qi (fun (r' : Int32) (u : Wd) => (r', u) = (r, w1)) (Bw cs ρ D aC (va_A (pic cs ρ aC w) sz)) (va_A (pic cs ρ aC w) sz)) (vx_X (fun _ : Unit => False) (fun _ _ _ => True) (va_A (pic cs ρ aC w) sz)) 1 6 (va_A (pic cs ρ aC w) sz) := by
  refine lk_met hnd hcl hR h15 (fun p e s m args below meth c hel hret hlocks hno G => ?_)
  refine lk_pre (N := N) G rfl hp (fun _ => lk_six (N := N) (r := (r, w1)) G rfl rfl ?_ hb h) (fun q => absurd q hx0)
  obtain ⟨hex, hx, hb, hml, hown, hts, hK, -⟩ := G
  intro v w2 pc ls hvx hdd H locs la hl hv hs hP hD hS hR
  cases hvx
  refine W.widen (k := 1) (n := 6) (by decide) (by decide) ?_
  exact vx_ret (W.zret (v := r) hx hb hret rfl (fun t ht hW => ⟨⟨r, w1, rfl, rfl, by rw [ht]; exact hP, va_K.moved hW.alike hK, hD, hR⟩, hS.F ht⟩) hS.2.2 hdd hlocks)
set_option maxRecDepth 100000 in
set_option maxHeartbeats 4000000 in
theorem M_look1 (hl0 : l.stackTraces = false) (hnd : cs.Nodup) (hcl : cloS cs) (hR : cloR cs w) (h15 : (15, 0) ∈ cs) {x : Int32} (hp : pX11_isPerson N a w = some (x, w)) (hx0 : x = 0) :
    vx_Met l yX11_look (wsy yX11_look cX11_look 3 (some .int)) (rmC 12 1 6) (va_Pc ((lkA a b).map (trv ρ)) (PcL cs ρ D aC sz w)) (va_Qi (fun (_ : Int32) (_ : Wd) => False) (fun _ _ => True) (va_A (pic cs ρ aC w) sz)) (xcT ioE cs ρ D aC (va_A (pic cs ρ aC w) sz) w) 1 6 (va_A (pic cs ρ aC w) sz) := by
  refine lk_met hnd hcl hR h15 (fun p e s m args below meth c hel hret hlocks hno G => ?_)
  obtain ⟨sa, hstr⟩ := hel.2.2.1
  exact lk_pre (N := N) G rfl hp (fun q => absurd hx0 q) (fun _ => lk_thr (ik := 150) (is := 152) (ic := 154) hl0 G hel hstr (by decide +kernel) thL_1 hno hlocks (by decide +kernel) (by decide +kernel) (by decide +kernel) (by decide +kernel) (by decide +kernel))
set_option maxRecDepth 100000 in
set_option maxHeartbeats 4000000 in
theorem M_look2 (hl0 : l.stackTraces = false) (hnd : cs.Nodup) (hcl : cloS cs) (hR : cloR cs w) (h15 : (15, 0) ∈ cs) {x : Int32} (hp : pX11_isPerson N a w = some (x, w)) (hx0 : x ≠ 0) (hb : ¬ is6 b) :
    vx_Met l yX11_look (wsy yX11_look cX11_look 3 (some .int)) (rmC 12 1 6) (va_Pc ((lkA a b).map (trv ρ)) (PcL cs ρ D aC sz w)) (va_Qi (fun (_ : Int32) (_ : Wd) => False) (fun _ _ => True) (va_A (pic cs ρ aC w) sz)) (xcT nsE cs ρ D aC (va_A (pic cs ρ aC w) sz) w) 1 6 (va_A (pic cs ρ aC w) sz) := by
  refine lk_met hnd hcl hR h15 (fun p e s m args below meth c hel hret hlocks hno G => ?_)
  obtain ⟨sa, hstr⟩ := hel.2.2.2.1
  have d19 : decode cX11_look 19 = .ok (.tableswitch 122 0 5 #[37, 61, 73, 89, 99, 112], 37) := by decide +kernel
  refine lk_pre (N := N) G rfl hp (fun _ => ?_) (fun q => absurd q hx0)
  refine ww_iloadn (i := 2) (x := b) G (by decide +kernel) rfl ?_
  exact ww_tabX (t := 141) G d19 (not6 hb) (by decide) (lk_thrX (ik := 180) (is := 182) (ic := 184) hl0 G hel hstr (by decide +kernel) thL_2 hno hlocks (by decide +kernel) (by decide +kernel) (by decide +kernel) (by decide +kernel) (by decide +kernel))
end

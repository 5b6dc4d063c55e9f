/-! ===== the law: steps ===== -/
/-- the script, outside of the world -/
def ScrX (X : XT) (L : Nat) (xs : Nat → Int32) : Prop := match X with
  | (_, _, _, _, s, _, _, _, _, _, _, _, _, _, ρ, _, _, A, _) => va_X (ρ 2 7) L xs s s.heap ∧ ρ 2 7 < s.heap.size ∧ ¬ A (ρ 2 7)
section
variable {X : XT} {cc : ByteArray} {own : String} {pc : Nat} {ls : LV} {st : List AV} {w : Wd} {L : Nat} {xs : Nat → Int32}
theorem ww_aload (G : GX X cc own) {i : Fin 4} {k q : Nat} (hd : decode cc pc = .ok (.aload_n i, 1)) (hi : ls.getD i.val none = some (.inr (.inr (k, q)))) (h : WW X (pc + 1) ls (.inr (.inr (k, q)) :: st) w) : WW X pc ls st w := by
  obtain ⟨p, l, e0, R, s, m, args, below, meth, c, cells, slots, Q, cs, ρ, D, aC, A, nL⟩ := X
  obtain ⟨hex, hx, hb, -⟩ := G
  intro H locs la hl hv hs hP hD hS hR
  exact lv_aload_n hx hb hd rfl (lvr_get hl hi) (h H locs la hl hv (vc (hv _ _ hi) hs) hP hD hS hR)
theorem ww_iload (G : GX X cc own) {i : Nat} {x : Int32} (hd : decode cc pc = .ok (.iload i, 2)) (hi : ls.getD i none = some (.inl x)) (h : WW X (pc + 2) ls (.inl x :: st) w) : WW X pc ls st w := by
  obtain ⟨p, l, e0, R, s, m, args, below, meth, c, cells, slots, Q, cs, ρ, D, aC, A, nL⟩ := X
  obtain ⟨hex, hx, hb, -⟩ := G
  intro H locs la hl hv hs hP hD hS hR
  exact lv_iload hx hb hd (lvr_get hl hi) (h H locs la hl hv (vc trivial hs) hP hD hS hR)
theorem ww_iconst (G : GX X cc own) {n : Int} {x : Int32} (hd : decode cc pc = .ok (.iconst n, 1)) (hn : Int32.ofInt n = x) (h : WW X (pc + 1) ls (.inl x :: st) w) : WW X pc ls st w := by
  obtain ⟨p, l, e0, R, s, m, args, below, meth, c, cells, slots, Q, cs, ρ, D, aC, A, nL⟩ := X
  obtain ⟨hex, hx, hb, -⟩ := G
  intro H locs la hl hv hs hP hD hS hR
  exact lv_iconst hx hb hd hn (h H locs la hl hv (vc trivial hs) hP hD hS hR)
theorem ww_bipush (G : GX X cc own) {n : Int} {x : Int32} (hd : decode cc pc = .ok (.bipush n, 2)) (hn : (Int8.ofInt n).toInt32 = x) (h : WW X (pc + 2) ls (.inl x :: st) w) : WW X pc ls st w := by
  obtain ⟨p, l, e0, R, s, m, args, below, meth, c, cells, slots, Q, cs, ρ, D, aC, A, nL⟩ := X
  obtain ⟨hex, hx, hb, -⟩ := G
  intro H locs la hl hv hs hP hD hS hR
  exact lv_bipush hx hb hd hn (h H locs la hl hv (vc trivial hs) hP hD hS hR)
theorem ww_iadd (G : GX X cc own) {x y : Int32} (hd : decode cc pc = .ok (.iadd, 1)) (h : WW X (pc + 1) ls (.inl (x + y) :: st) w) : WW X pc ls (.inl y :: .inl x :: st) w := by
  obtain ⟨p, l, e0, R, s, m, args, below, meth, c, cells, slots, Q, cs, ρ, D, aC, A, nL⟩ := X
  obtain ⟨hex, hx, hb, -⟩ := G
  intro H locs la hl hv hs hP hD hS hR
  exact lv_iadd hx hb hd (h H locs la hl hv (vc trivial (vt (vt hs))) hP hD hS hR)
theorem ww_isub (G : GX X cc own) {x y : Int32} (hd : decode cc pc = .ok (.isub, 1)) (h : WW X (pc + 1) ls (.inl (x - y) :: st) w) : WW X pc ls (.inl y :: .inl x :: st) w := by
  obtain ⟨p, l, e0, R, s, m, args, below, meth, c, cells, slots, Q, cs, ρ, D, aC, A, nL⟩ := X
  obtain ⟨hex, hx, hb, -⟩ := G
  intro H locs la hl hv hs hP hD hS hR
  exact lv_isub hx hb hd (h H locs la hl hv (vc trivial (vt (vt hs))) hP hD hS hR)
theorem ww_iand (G : GX X cc own) {x y : Int32} (hd : decode cc pc = .ok (.iand, 1)) (h : WW X (pc + 1) ls (.inl (x &&& y) :: st) w) : WW X pc ls (.inl y :: .inl x :: st) w := by
  obtain ⟨p, l, e0, R, s, m, args, below, meth, c, cells, slots, Q, cs, ρ, D, aC, A, nL⟩ := X
  obtain ⟨hex, hx, hb, -⟩ := G
  intro H locs la hl hv hs hP hD hS hR
  exact lv_iand hx hb hd (h H locs la hl hv (vc trivial (vt (vt hs))) hP hD hS hR)
theorem ww_i2l (G : GX X cc own) {x : Int32} (hd : decode cc pc = .ok (.i2l, 1)) (h : WW X (pc + 1) ls (.inr (.inl x.toInt64) :: st) w) : WW X pc ls (.inl x :: st) w := by
  obtain ⟨p, l, e0, R, s, m, args, below, meth, c, cells, slots, Q, cs, ρ, D, aC, A, nL⟩ := X
  obtain ⟨hex, hx, hb, -⟩ := G
  intro H locs la hl hv hs hP hD hS hR
  exact lv_i2l hx hb hd rfl (h H locs la hl hv (vc trivial (vt hs)) hP hD hS hR)
theorem ww_lcmp (G : GX X cc own) {x y : Int64} (hd : decode cc pc = .ok (.lcmp, 1)) (h : WW X (pc + 1) ls (.inl (lg_cmp x y) :: st) w) : WW X pc ls (.inr (.inl y) :: .inr (.inl x) :: st) w := by
  obtain ⟨p, l, e0, R, s, m, args, below, meth, c, cells, slots, Q, cs, ρ, D, aC, A, nL⟩ := X
  obtain ⟨hex, hx, hb, -⟩ := G
  intro H locs la hl hv hs hP hD hS hR
  exact W.lcmp hx hb hd (h H locs la hl hv (vc trivial (vt (vt hs))) hP hD hS hR)
theorem ww_goto (G : GX X cc own) {off : Int} {t : Nat} (hd : decode cc pc = .ok (.goto off, 3)) (ht : (pc : Int) + off = (t : Int)) (h : WW X t ls st w) : WW X pc ls st w := by
  obtain ⟨p, l, e0, R, s, m, args, below, meth, c, cells, slots, Q, cs, ρ, D, aC, A, nL⟩ := X
  obtain ⟨hex, hx, hb, -⟩ := G
  intro H locs la hl hv hs hP hD hS hR
  exact lv_goto hx hb hd ht (h H locs la hl hv hs hP hD hS hR)
theorem ww_ifeq (G : GX X cc own) {off : Int} {t : Nat} {x : Int32} (hd : decode cc pc = .ok (.ifCond .eq off, 3)) (ht : (pc : Int) + off = (t : Int)) (h1 : x = 0 → WW X t ls st w) (h2 : x ≠ 0 → WW X (pc + 3) ls st w) : WW X pc ls (.inl x :: st) w := by
  obtain ⟨p, l, e0, R, s, m, args, below, meth, c, cells, slots, Q, cs, ρ, D, aC, A, nL⟩ := X
  obtain ⟨hex, hx, hb, -⟩ := G
  intro H locs la hl hv hs hP hD hS hR
  exact lv_if_eq hx hb hd ht (fun q => h1 q H locs la hl hv (vt hs) hP hD hS hR) (fun q => h2 q H locs la hl hv (vt hs) hP hD hS hR)
theorem ww_ifne (G : GX X cc own) {off : Int} {t : Nat} {x : Int32} (hd : decode cc pc = .ok (.ifCond .ne off, 3)) (ht : (pc : Int) + off = (t : Int)) (h1 : x ≠ 0 → WW X t ls st w) (h2 : x = 0 → WW X (pc + 3) ls st w) : WW X pc ls (.inl x :: st) w := by
  obtain ⟨p, l, e0, R, s, m, args, below, meth, c, cells, slots, Q, cs, ρ, D, aC, A, nL⟩ := X
  obtain ⟨hex, hx, hb, -⟩ := G
  intro H locs la hl hv hs hP hD hS hR
  exact lv_if_ne hx hb hd ht (fun q => h1 q H locs la hl hv (vt hs) hP hD hS hR) (fun q => h2 q H locs la hl hv (vt hs) hP hD hS hR)
theorem ww_icmpeq (G : GX X cc own) {off : Int} {t : Nat} {x y : Int32} (hd : decode cc pc = .ok (.if_icmp .eq off, 3)) (ht : (pc : Int) + off = (t : Int)) (h1 : x = y → WW X t ls st w) (h2 : x ≠ y → WW X (pc + 3) ls st w) : WW X pc ls (.inl y :: .inl x :: st) w := by
  obtain ⟨p, l, e0, R, s, m, args, below, meth, c, cells, slots, Q, cs, ρ, D, aC, A, nL⟩ := X
  obtain ⟨hex, hx, hb, -⟩ := G
  intro H locs la hl hv hs hP hD hS hR
  exact lv_icmp_eq hx hb hd ht (fun q => h1 q H locs la hl hv (vt (vt hs)) hP hD hS hR) (fun q => h2 q H locs la hl hv (vt (vt hs)) hP hD hS hR)
theorem ww_icmpgt (G : GX X cc own) {off : Int} {t : Nat} {x y : Int32} (hd : decode cc pc = .ok (.if_icmp .gt off, 3)) (ht : (pc : Int) + off = (t : Int)) (h1 : y < x → WW X t ls st w) (h2 : ¬ y < x → WW X (pc + 3) ls st w) : WW X pc ls (.inl y :: .inl x :: st) w := by
  obtain ⟨p, l, e0, R, s, m, args, below, meth, c, cells, slots, Q, cs, ρ, D, aC, A, nL⟩ := X
  obtain ⟨hex, hx, hb, -⟩ := G
  intro H locs la hl hv hs hP hD hS hR
  exact lv_icmp_gt hx hb hd ht (fun q => h1 q H locs la hl hv (vt (vt hs)) hP hD hS hR) (fun q => h2 q H locs la hl hv (vt (vt hs)) hP hD hS hR)
theorem ww_iinc (G : GX X cc own) {i : Nat} {n : Int} {x y : Int32} (hd : decode cc pc = .ok (.iinc i n, 3)) (hn : Int32.ofInt n = y) (hi : ls.getD i none = some (.inl x)) (h : WW X (pc + 3) (lset ls i (some (.inl (x + y)))) st w) : WW X pc ls st w := by
  obtain ⟨p, l, e0, R, s, m, args, below, meth, c, cells, slots, Q, cs, ρ, D, aC, A, nL⟩ := X
  obtain ⟨hex, hx, hb, -⟩ := G
  intro H locs la hl hv hs hP hD hS hR
  have hmi := lva_mem (ρ := ρ) ls 0 i _ hi
  rw [Nat.zero_add] at hmi
  obtain ⟨kk, hkk⟩ := List.getElem?_of_mem hmi
  exact lv_iinc hx hb hd hl.2 hkk (congrArg (x + ·) hn) (lvr_lt hl hi) rfl (fun la' hl' => h H locs la' (lvr_set hl hl') (lok hv (fun u e => by cases e; trivial)) hs hP hD hS hR)
theorem ww_istore (G : GX X cc own) {i : Nat} {x : Int32} (hd : decode cc pc = .ok (.istore i, 2)) (hi : i < xnL X) (h : WW X (pc + 2) (lset ls i (some (.inl x))) st w) : WW X pc ls (.inl x :: st) w := by
  obtain ⟨p, l, e0, R, s, m, args, below, meth, c, cells, slots, Q, cs, ρ, D, aC, A, nL⟩ := X
  obtain ⟨hex, hx, hb, -⟩ := G
  intro H locs la hl hv hs hP hD hS hR
  exact lv_istore hx hb hd hl.2 hi rfl (fun la' hl' => h H locs la' (lvr_set hl hl') (lok hv (fun u e => by cases e; trivial)) (vt hs) hP hD hS hR)
theorem ww_lald (G : GX X cc own) {k i : Nat} {j : Int32} (hd : decode cc pc = .ok (.laload, 1)) (hk : (kd k).1 = 3) (hin : ¬ (j < 0 ∨ ln k i ≤ j.toNatClampNeg)) (h : WW X (pc + 1) ls (.inr (.inl (gL w k i j.toNatClampNeg)) :: st) w) : WW X pc ls (.inl j :: .inr (.inr (k, i)) :: st) w := by
  obtain ⟨p, l, e0, R, s, m, args, below, meth, c, cells, slots, Q, cs, ρ, D, aC, A, nL⟩ := X
  obtain ⟨hex, hx, hb, hml, hown, hts, hK, -⟩ := G
  intro H locs la hl hv hs hP hD hS hR
  obtain ⟨q0, hq0, hq⟩ := pic_at (ρ := ρ) (aC := aC) (w := w) (vin (vh (vt hs)) hk (by decide))
  have he0 := ent_3 (ρ := ρ) (aC := aC) (w := w) (i := i) hk
  rw [he0] at hq
  exact va_lald hx hb hK hP q0 1 hq rfl hin hd (h H locs la hl hv (vc trivial (vt (vt hs))) hP hD hS hR)
theorem ww_last (G : GX X cc own) {k i : Nat} {j : Int32} {x : Int64} (hd : decode cc pc = .ok (.lastore, 1)) (hk : (kd k).1 = 3) (hin : ¬ (j < 0 ∨ ln k i ≤ j.toNatClampNeg)) (h : WW X (pc + 1) ls st (setL w k i j.toNatClampNeg x)) : WW X pc ls (.inr (.inl x) :: .inl j :: .inr (.inr (k, i)) :: st) w := by
  obtain ⟨p, l, e0, R, s, m, args, below, meth, c, cells, slots, Q, cs, ρ, D, aC, A, nL⟩ := X
  obtain ⟨hex, hx, hb, hml, hown, hts, hK, hnd, -⟩ := G
  intro H locs la hl hv hs hP hD hS hR
  obtain ⟨q0, hq0, hq⟩ := pic_at (ρ := ρ) (aC := aC) (w := w) (vin (vh (vt (vt hs))) hk (by decide))
  have he0 := ent_3 (ρ := ρ) (aC := aC) (w := w) (i := i) hk
  rw [he0] at hq
  have hset := pic_set (ρ := ρ) (aC := aC) (w := w) (w1 := setL w k i j.toNatClampNeg x) hnd hq0 (x := .inl (aC 3, ln k i, .inr (.inl (vp_updL (gL w k i) j.toNatClampNeg x)))) (by rw [ent_3 hk]; exact congrArg (fun z => (Sum.inl (_, ln k i, Sum.inr (Sum.inl z)) : va_E)) (up3_self _ _ _ _ _)) setL_other
  exact va_last hx hb hK hP hD hS q0 1 hq rfl hin hd (fun H1 locs1 hP1 hD1 hS1 => h H1 locs1 la hl hv (vt (vt (vt hs))) (by rw [← hset]; exact hP1) (by rw [← hset]; exact hD1) hS1 (cloR_L hR))
theorem ww_sld (G : GX X cc own) (C : ScrX X L xs) {n : Nat} (hd : decode cc pc = .ok (.iaload, 1)) (hn : n < L) (hL : L < 2 ^ 31) (h : WW X (pc + 1) ls (.inl (xs n) :: st) w) : WW X pc ls (.inl (nI n) :: .inr (.inr (2, 7)) :: st) w := by
  obtain ⟨p, l, e0, R, s, m, args, below, meth, c, cells, slots, Q, cs, ρ, D, aC, A, nL⟩ := X
  obtain ⟨hex, hx, hb, -⟩ := G
  obtain ⟨c1, c2, c3⟩ := C
  intro H locs la hl hv hs hP hD hS hR
  refine va_sld hx hb c1 c2 c3 hS (nI_in hn hL) hd ?_
  rw [nI_clamp (by omega)]
  exact h H locs la hl hv (vc trivial (vt (vt hs))) hP hD hS hR
theorem ww_slen (G : GX X cc own) (C : ScrX X L xs) (hd : decode cc pc = .ok (.arraylength, 1)) (h : WW X (pc + 1) ls (.inl (nI L) :: st) w) : WW X pc ls (.inr (.inr (2, 7)) :: st) w := by
  obtain ⟨p, l, e0, R, s, m, args, below, meth, c, cells, slots, Q, cs, ρ, D, aC, A, nL⟩ := X
  obtain ⟨hex, hx, hb, -⟩ := G
  obtain ⟨c1, c2, c3⟩ := C
  intro H locs la hl hv hs hP hD hS hR
  exact va_slen hx hb c1 c2 c3 hS hd (h H locs la hl hv (vc trivial (vt hs)) hP hD hS hR)
theorem ww_tab (G : GX X cc own) {d lo hi : Int} {offs : Array Int} {len k t : Nat} {off : Int} (hd : decode cc pc = .ok (.tableswitch d lo hi offs, len)) (h1 : lo ≤ (k : Int)) (h2 : (k : Int) ≤ hi) (h3 : offs[((k : Int) - lo).toNat]? = some off) (hk : k < 2 ^ 31) (ht : (pc : Int) + off = (t : Int)) (h : WW X t ls st w) : WW X pc ls (.inl (nI k) :: st) w := by
  obtain ⟨p, l, e0, R, s, m, args, below, meth, c, cells, slots, Q, cs, ρ, D, aC, A, nL⟩ := X
  obtain ⟨hex, hx, hb, -⟩ := G
  have e := nI_toInt hk
  intro H locs la hl hv hs hP hD hS hR
  exact lv_tableIn hx hb hd (by rw [e]; omega) (by rw [e]; omega) (by rw [e]; exact h3) ht (h H locs la hl hv (vt hs) hP hD hS hR)
theorem ww_tabOut (G : GX X cc own) {d lo hi : Int} {offs : Array Int} {len k t : Nat} (hd : decode cc pc = .ok (.tableswitch d lo hi offs, len)) (h2 : hi < (k : Int)) (hk : k < 2 ^ 31) (ht : (pc : Int) + d = (t : Int)) (h : WW X t ls st w) : WW X pc ls (.inl (nI k) :: st) w := by
  obtain ⟨p, l, e0, R, s, m, args, below, meth, c, cells, slots, Q, cs, ρ, D, aC, A, nL⟩ := X
  obtain ⟨hex, hx, hb, -⟩ := G
  have e := nI_toInt hk
  intro H locs la hl hv hs hP hD hS hR
  exact lv_tableOut hx hb hd (by rw [e]; omega) ht (h H locs la hl hv (vt hs) hP hD hS hR)
/-! the arguments of a call -/
def aOK (cc : ByteArray) (pc j : Nat) : Bool := decide (decode cc pc = .ok (.aload_n 0, 1)) && (decide (decode cc (pc + 1) = .ok (.iload 4, 2)) && (decide (decode cc (pc + 3) = .ok (.iconst (j : Int), 1)) && (decide (decode cc (pc + 4) = .ok (.iadd, 1)) && decide (decode cc (pc + 5) = .ok (.iaload, 1)))))
theorem icn : ∀ j : Nat, j ≤ 5 → Int32.ofInt (j : Int) = nI j := by decide +kernel
theorem ww_arg (G : GX X cc own) (C : ScrX X L xs) {n j : Nat} (ha : aOK cc pc j = true) (hj : j ≤ 5) (hn : n + 5 < L) (hL : L < 2 ^ 31) (h0 : ls.getD 0 none = some (.inr (.inr (2, 7)))) (h4 : ls.getD 4 none = some (.inl (nI n))) (h : WW X (pc + 6) ls (.inl (xs (n + j)) :: st) w) : WW X pc ls st w := by
  unfold aOK at ha
  simp only [Bool.and_eq_true, decide_eq_true_eq] at ha
  obtain ⟨d0, d1, d3, d4, d5⟩ := ha
  refine ww_aload G d0 h0 ?_
  refine ww_iload G d1 h4 ?_
  refine ww_iconst G d3 (icn j hj) ?_
  refine ww_iadd G d4 ?_
  rw [nI_add]
  exact ww_sld G C d5 (by omega) hL h
def asOK (cc : ByteArray) (pc : Nat) : Nat → Bool
  | 0 => true
  | k + 1 => asOK cc pc k && aOK cc (pc + 6 * k) (k + 1)
def vals (xs : Nat → Int32) (n k : Nat) : List AV := (List.range k).map (fun j => .inl (xs (n + (j + 1))))
theorem ww_args (G : GX X cc own) (C : ScrX X L xs) {n : Nat} (hn : n + 5 < L) (hL : L < 2 ^ 31) (h0 : ls.getD 0 none = some (.inr (.inr (2, 7)))) (h4 : ls.getD 4 none = some (.inl (nI n))) : ∀ k, k ≤ 5 → asOK cc pc k = true → WW X (pc + 6 * k) ls ((vals xs n k).reverse ++ st) w → WW X pc ls st w
  | 0, _, _, h => h
  | k + 1, hk, ho, h => by
    unfold asOK at ho
    rw [Bool.and_eq_true] at ho
    refine ww_args G C hn hL h0 h4 k (by omega) ho.1 ?_
    refine ww_arg G C ho.2 (by omega) hn hL h0 h4 ?_
    have e : vals xs n (k + 1) = vals xs n k ++ [.inl (xs (n + (k + 1)))] := by
      unfold vals
      rw [List.range_succ, List.map_append]
      rfl
    rw [e, List.reverse_append] at h
    exact h
/-- a case of the law: the same call of both, answers compared -/
def lcOK (cc : ByteArray) (pc k i1 i2 : Nat) : Bool := decide (decode cc pc = .ok (.aload_n 1, 1)) && (asOK cc (pc + 1) k && (decide (decode cc (pc + 1 + 6 * k) = .ok (.invokevirtual i1, 3)) && (decide (decode cc (pc + 1 + 6 * k + 3) = .ok (.aload_n 2, 1)) && (asOK cc (pc + 1 + 6 * k + 3 + 1) k && decide (decode cc (pc + 1 + 6 * k + 3 + 1 + 6 * k) = .ok (.invokevirtual i2, 3))))))
theorem lw_two (G : GX X cc own) (C : ScrX X L xs) {n k i1 i2 : Nat} {α : Type} {tag : α → AV} (hn : n + 5 < L) (hL : L < 2 ^ 31) (h0 : ls.getD 0 none = some (.inr (.inr (2, 7)))) (h1 : ls.getD 1 none = some (.inr (.inr (15, 0)))) (h2 : ls.getD 2 none = some (.inr (.inr (16, 0)))) (h4 : ls.getD 4 none = some (.inl (nI n))) (hk : k ≤ 5) (ok : lcOK cc pc k i1 i2 = true) {f1 f2 : List AV → Wd → Option (α × Wd)} {r1 r2 : α} {w1 w2 : Wd}
    (c1 : ∀ pc, decode cc pc = .ok (.invokevirtual i1, 3) → ∀ as rest w (x : α × Wd) ls, f1 as w = some x → catS rest ≤ 8 → WW X (pc + 3) ls (tag x.1 :: rest) x.2 → WW X pc ls (as.reverse ++ rest) w)
    (c2 : ∀ pc, decode cc pc = .ok (.invokevirtual i2, 3) → ∀ as rest w (x : α × Wd) ls, f2 as w = some x → catS rest ≤ 8 → WW X (pc + 3) ls (tag x.1 :: rest) x.2 → WW X pc ls (as.reverse ++ rest) w)
    (hc : ∀ r, catS [tag r] ≤ 8) (e1 : f1 (.inr (.inr (15, 0)) :: vals xs n k) w = some (r1, w1)) (e2 : f2 (.inr (.inr (16, 0)) :: vals xs n k) w1 = some (r2, w2)) (kk : WW X (pc + 1 + 6 * k + 3 + 1 + 6 * k + 3) ls [tag r2, tag r1] w2) : WW X pc ls [] w := by
  unfold lcOK at ok
  simp only [Bool.and_eq_true, decide_eq_true_eq] at ok
  obtain ⟨d0, a1, d1, d2, a2, d3⟩ := ok
  refine ww_aload G d0 h1 ?_
  refine ww_args G C hn hL h0 h4 k hk a1 ?_
  have q1 := c1 _ d1 (.inr (.inr (15, 0)) :: vals xs n k) [] w (r1, w1) ls e1 (by decide)
  rw [List.reverse_cons, List.append_nil] at q1
  refine q1 ?_
  refine ww_aload G d2 h2 ?_
  refine ww_args G C hn hL h0 h4 k hk a2 ?_
  have q2 := c2 _ d3 (.inr (.inr (16, 0)) :: vals xs n k) [tag r1] w1 (r2, w2) ls e2 (hc r1)
  rw [List.reverse_cons, List.append_assoc] at q2
  exact q2 kk
theorem lw_caseI (G : GX X cc own) (C : ScrX X L xs) {n k i1 i2 : Nat} (hn : n + 5 < L) (hL : L < 2 ^ 31) (h0 : ls.getD 0 none = some (.inr (.inr (2, 7)))) (h1 : ls.getD 1 none = some (.inr (.inr (15, 0)))) (h2 : ls.getD 2 none = some (.inr (.inr (16, 0)))) (h4 : ls.getD 4 none = some (.inl (nI n))) (hk : k ≤ 5) (ok : lcOK cc pc k i1 i2 = true) {off : Int} {t : Nat} (hd : decode cc (pc + 1 + 6 * k + 3 + 1 + 6 * k + 3) = .ok (.if_icmp .eq off, 3)) (ht : ((pc + 1 + 6 * k + 3 + 1 + 6 * k + 3 : Nat) : Int) + off = (t : Int)) {f1 f2 : List AV → Wd → Option (Int32 × Wd)} {r : Int32} {w1 w2 : Wd}
    (c1 : ∀ e : EN, decode cc e.1 = .ok (.invokevirtual i1, 3) → CRI X e f1) (c2 : ∀ e : EN, decode cc e.1 = .ok (.invokevirtual i2, 3) → CRI X e f2) (e1 : f1 (.inr (.inr (15, 0)) :: vals xs n k) w = some (r, w1)) (e2 : f2 (.inr (.inr (16, 0)) :: vals xs n k) w1 = some (r, w2)) (kk : WW X t ls [] w2) : WW X pc ls [] w :=
  lw_two G C (tag := fun x => .inl x) hn hL h0 h1 h2 h4 hk ok (fun p hp => c1 (p, .return_, 0, 0, 0, 0, 0, []) hp) (fun p hp => c2 (p, .return_, 0, 0, 0, 0, 0, []) hp) (fun r => by show 1 + 0 ≤ 8; omega) e1 e2 (ww_icmpeq G hd ht (fun _ => kk) (fun q => absurd rfl q))
theorem lw_caseL (G : GX X cc own) (C : ScrX X L xs) {n k i1 i2 : Nat} (hn : n + 5 < L) (hL : L < 2 ^ 31) (h0 : ls.getD 0 none = some (.inr (.inr (2, 7)))) (h1 : ls.getD 1 none = some (.inr (.inr (15, 0)))) (h2 : ls.getD 2 none = some (.inr (.inr (16, 0)))) (h4 : ls.getD 4 none = some (.inl (nI n))) (hk : k ≤ 5) (ok : lcOK cc pc k i1 i2 = true) {off : Int} {t : Nat} (hd0 : decode cc (pc + 1 + 6 * k + 3 + 1 + 6 * k + 3) = .ok (.lcmp, 1)) (hd : decode cc (pc + 1 + 6 * k + 3 + 1 + 6 * k + 3 + 1) = .ok (.ifCond .eq off, 3)) (ht : ((pc + 1 + 6 * k + 3 + 1 + 6 * k + 3 + 1 : Nat) : Int) + off = (t : Int)) {f1 f2 : List AV → Wd → Option (Int64 × Wd)} {r : Int64} {w1 w2 : Wd}
    (c1 : ∀ e : EN, decode cc e.1 = .ok (.invokevirtual i1, 3) → CRL X e f1) (c2 : ∀ e : EN, decode cc e.1 = .ok (.invokevirtual i2, 3) → CRL X e f2) (e1 : f1 (.inr (.inr (15, 0)) :: vals xs n k) w = some (r, w1)) (e2 : f2 (.inr (.inr (16, 0)) :: vals xs n k) w1 = some (r, w2)) (kk : WW X t ls [] w2) : WW X pc ls [] w :=
  lw_two G C (tag := fun x => .inr (.inl x)) hn hL h0 h1 h2 h4 hk ok (fun p hp => c1 (p, .return_, 0, 0, 0, 0, 0, []) hp) (fun p hp => c2 (p, .return_, 0, 0, 0, 0, 0, []) hp) (fun r => by show 2 + 0 ≤ 8; omega) e1 e2 (ww_lcmp G hd0 (ww_ifeq G hd ht (fun _ => kk) (fun q => absurd ((lg_cmp_eq r r).mpr rfl) q)))
end

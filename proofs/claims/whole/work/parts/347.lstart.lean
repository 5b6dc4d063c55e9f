/-! ===== the law's start: both objects are made ===== -/
section
variable {X : XT} {cc : ByteArray} {own : String} {ext : List (Nat × Nat)} {pc : Nat} {ls : LV} {st : List AV} {S : CS} {w : Wd}
theorem cs_astore (G : GC0 X cc own) {i : Fin 4} {k q : Nat} (hd : decode cc pc = .ok (.astore_n i, 1)) (hi : i.val < xnL X) (h : CW X ext (pc + 1) (lset ls i.val (some (.inr (.inr (k, q))))) st S w) : CW X ext pc ls (.inr (.inr (k, q)) :: st) S w := by
  obtain ⟨p, l, e0, R, s, m, args, below, meth, c, mc, ms, Q, cs0, ρ0, D, aC, A, nL⟩ := X
  obtain ⟨hex, hen, hx, hb, -⟩ := G
  intro ρ H locs la hle hρ hl hI hP hD hS
  exact lv_astore_n hx hb hd rfl hl.2 hi rfl (fun la' hl' => h ρ H locs la' hle hρ (lvr_set hl hl') hI hP hD hS)
theorem cs_istore (G : GC0 X cc own) {i : Nat} {x : Int32} (hd : decode cc pc = .ok (.istore i, 2)) (hi : i < xnL X) (h : CW X ext (pc + 2) (lset ls i (some (.inl x))) st S w) : CW X ext pc ls (.inl x :: st) S w := by
  obtain ⟨p, l, e0, R, s, m, args, below, meth, c, mc, ms, Q, cs0, ρ0, D, aC, A, nL⟩ := X
  obtain ⟨hex, hen, hx, hb, -⟩ := G
  intro ρ H locs la hle hρ hl hI hP hD hS
  exact lv_istore hx hb hd hl.2 hi rfl (fun la' hl' => h ρ H locs la' hle hρ (lvr_set hl hl') hI hP hD hS)
end
def lsA : LV := [some (.inr (.inr (2, 7))), none, none, none, none, none, none]
def lsB : LV := [some (.inr (.inr (2, 7))), some (.inr (.inr (15, 0))), none, none, none, none, none]
def lsC : LV := [some (.inr (.inr (2, 7))), some (.inr (.inr (15, 0))), some (.inr (.inr (16, 0))), none, none, none, none]
def S1L : CS := ([(15, 0)], [], [], 1, 16)
def lxW : List Cond := newW RL 8 (kd 15).2.1 ++ (newW RL 18 (kd 16).2.1 ++ [.arrayClass .long])
theorem lx_w : ∀ x ∈ lxW, x ∈ lwg := wds_of (by decide +kernel)
theorem lx_c : ∀ x ∈ ciW RL 17 yX11_init cX11_init 1 false, x ∈ lwg := cw_of (ps := [175, 176, 148, 177]) (by decide +kernel) (by decide +kernel)
set_option maxRecDepth 100000 in
set_option maxHeartbeats 4000000 in
theorem lx_mc : lw_tbl[1572]? = some (Cond.code yX12_init cX12_init 1 none) := rfl
set_option maxRecDepth 100000 in
set_option maxHeartbeats 4000000 in
theorem lx_m0 : ∀ x ∈ [Cond.methodLink RL 20 yX12_init, .instanceMethod yX12_init, .initialized yX12_init.cls], x ∈ lwg := cw_of (ps := [1570, 1571, 164]) (by decide +kernel) (by decide +kernel)
theorem lx_m : ∀ x ∈ ciW RL 20 yX12_init cX12_init 1 false, x ∈ lwg := fun x hx => by
  have h : x ∈ [Cond.methodLink RL 20 yX12_init, .instanceMethod yX12_init, .initialized yX12_init.cls, .code yX12_init cX12_init 1 none] := hx
  simp only [List.mem_cons, List.not_mem_nil, or_false] at h
  rcases h with rfl | rfl | rfl | rfl
  · exact lx_m0 _ (by simp)
  · exact lx_m0 _ (by simp)
  · exact lx_m0 _ (by simp)
  · exact lwg_in (List.mem_of_getElem? lx_mc) rfl
/-- what the first call of a constructor leaves is free for the second, and for the law's own row -/
def frO (S : CS) (c : Nat × Nat) (ls : LV) (n : Nat) : Bool := (!S.1.contains c && nrfL c.1 c.2 ls) && (decide (S.2.2.2.1 + 1 ≤ 601024) && decide (S.2.2.2.2 + n ≤ 7293034))
def kpO (S T : CS) (c : Nat × Nat) (ls : LV) : Bool := [(.inr (.inr c) : AV)].all (nrs (T.1.drop S.1.length)) && nrsL (T.1.drop S.1.length) ls
def nxC (S : CS) (c : Nat × Nat) (n : Nat) : CS := (S.1 ++ [c], S.2.1, S.2.2.1, S.2.2.2.1 + 1, S.2.2.2.2 + n)
set_option maxRecDepth 100000 in
set_option maxHeartbeats 4000000 in
theorem law_cw {X : XT} {N : Nat} {S2 S4 : CS} {o1 o2 : List WO} {w w1 w2 : Wd} (G : GC X cL_law RL) (hnL : xnL X = 7) (hR : xR X = room_1) (hmc : X.2.2.2.2.2.2.2.2.2.2.1 = 601024) (hms : X.2.2.2.2.2.2.2.2.2.2.2.1 = 7293034)
    (h1 : oN Lc 601024 7293034 [] 15 1 0 149 6665 sb1 xt0 rX11 asC S1L = some (S2, o1)) (W1 : wops (Fc N) o1 (zrow w 15 0) = some w1) (k1 : kpO S1L S2 (15, 0) lsA = true) (f2 : frO S2 (16, 0) lsB 108 = true)
    (h2 : oN Lc 601024 7293034 [] 16 1 0 58 3299 sb1 xt0 rX12 asM (nxC S2 (16, 0) 108) = some (S4, o2)) (W2 : wops (Fc N) o2 (zrow w1 16 0) = some w2) (k2 : kpO (nxC S2 (16, 0) 108) S4 (16, 0) lsB = true) (f4 : frO S4 (1, 0) lsC 1 = true)
    (k : CW X [] 23 (lsL 0) [] (nxC S4 (1, 0) 1) (zrow w2 1 0)) : CW X [] 0 lsA [] ([], [], [], 0, 0) w := by
  unfold kpO at k1 k2
  unfold frO at f2 f4
  simp only [Bool.and_eq_true, decide_eq_true_eq, Bool.not_eq_true'] at k1 k2 f2 f4
  obtain ⟨k11, k12⟩ := k1
  obtain ⟨k21, k22⟩ := k2
  obtain ⟨⟨f21, f22⟩, f23, f24⟩ := f2
  obtain ⟨⟨f41, f42⟩, f43, f44⟩ := f4
  have n2 : (16, 0) ∉ S2.1 ++ [] := fun h => by
    rw [List.append_nil] at h
    rw [List.contains_iff_mem.mpr h] at f21
    cases f21
  have n4 : (1, 0) ∉ S4.1 ++ [] := fun h => by
    rw [List.append_nil] at h
    rw [List.contains_iff_mem.mpr h] at f41
    cases f41
  refine cs_new (k := 15) (i := 0) (idx := 8) G (by decide +kernel) rfl (fun x hx => lx_w x (by unfold lxW; exact List.mem_append_left _ hx)) (by decide) rfl (by decide) (by rw [hmc]; decide) (by rw [hms]; decide) ?_
  refine cs_dup G (by decide +kernel) rfl ?_
  have c1 := crc_N (nest := false) (e := (4, .invokespecial 17, 11, 1, 0)) (idx := 17) (y := yX11_init) (L := Lc) (sub := sb1) (ext1 := xt0) (ext := []) G (Fc_ag N) hmc hms (by decide +kernel) lx_c (fun z => by cases z) rfl ⟨by decide +kernel, by decide +kernel, by decide +kernel⟩ (by rw [hR]; exact ⟨by decide, by decide⟩) (RSX11 N)
  have q1 := c1 asC [.inr (.inr (15, 0))] S1L S2 o1 (zrow w 15 0) w1 lsA h1 W1 (by decide) k11 k12
  refine q1 ?_
  refine cs_astore (i := 1) G.g0 (by decide +kernel) (by rw [hnL]; decide) ?_
  refine cs_new (k := 16) (i := 0) (idx := 18) G (by decide +kernel) rfl (fun x hx => lx_w x (by unfold lxW; exact List.mem_append_right _ (List.mem_append_left _ hx))) n2 rfl f22 (by rw [hmc]; exact f23) (by rw [hms]; exact f24) ?_
  refine cs_dup G (by decide +kernel) rfl ?_
  have c2 := crc_N (nest := false) (e := (12, .invokespecial 20, 12, 1, 0)) (idx := 20) (y := yX12_init) (L := Lc) (sub := sb1) (ext1 := xt0) (ext := []) G (Fc_ag N) hmc hms (by decide +kernel) lx_m (fun z => by cases z) rfl ⟨by decide +kernel, by decide +kernel, by decide +kernel⟩ (by rw [hR]; exact ⟨by decide, by decide⟩) (RSX12 N)
  have q2 := c2 asM [.inr (.inr (16, 0))] (nxC S2 (16, 0) 108) S4 o2 (zrow w1 16 0) w2 lsB h2 W2 (by decide) k21 k22
  refine q2 ?_
  refine cs_astore (i := 2) G.g0 (by decide +kernel) (by rw [hnL]; decide) ?_
  refine cs_iconst (n := 1) (x := 1) G (by decide +kernel) rfl ?_
  refine cs_newJ (k := 1) (i := 0) G (by decide +kernel) rfl (lx_w _ (by unfold lxW; simp)) n4 rfl f42 (by decide) (by decide) (by decide) (by rw [hmc]; exact f43) (by rw [hms]; exact f44) ?_
  refine cs_astore (i := 3) G.g0 (by decide +kernel) (by rw [hnL]; decide) ?_
  refine cs_iconst (n := 0) (x := 0) G (by decide +kernel) rfl ?_
  refine cs_istore (i := 4) G.g0 (by decide +kernel) (by rw [hnL]; decide) ?_
  exact k

/-! ===== call: text ===== -/
section
variable {N : Nat} {w w' w0 w1 wc wm : Wd} {b : Nat → Nat} {n m d e k i : Nat} {u u' v : Vw}
theorem TC_keep (h : ∀ k i j, mK k = true → iMo k i ≠ d → j < 100 → gI w' k i j = gI w k i j) (he : e ≠ d) (hF : WF v) (T : TC w e v) : TC w' e v := by
  have i0 : ∀ k, k ≠ 5 → k ≠ 21 → iMo k e ≠ d := fun k h5 h21 => by unfold iMo; rw [if_neg (by omega)]; exact he
  have i5 : ∀ a, a < 2 → iMo 5 (2 * e + a) ≠ d := fun a ha => by rw [iM5 ha]; exact he
  have i21 : ∀ a, a < 2 → iMo 21 (2 * e + a) ≠ d := fun a ha => by rw [iM21 ha]; exact he
  have h1 := WF_parts hF
  have h2 := WF_people hF
  have h3 := WF_parties hF
  have h4 := WF_weathers hF
  obtain ⟨t1, t2, t3, t4, t5, t6, r1, r2, r3, r4, r5, r6, r7, r8, r9, r10, r11, r12, r13, l1, l2⟩ := T
  refine ⟨?_, ?_, ?_, ?_, ?_, ?_, fun j hj => ?_, fun j hj => ?_, fun j hj => ?_, fun j hj => ?_, fun j hj => ?_, fun j hj => ?_, fun j hj => ?_, fun j hj => ?_, fun j hj => ?_, fun j hj => ?_, fun j hj => ?_, fun j hj => ?_, fun j hj => ?_, fun a ha => ?_, fun a j ha hj => ?_⟩
  · rw [h 8 e 0 rfl (i0 8 (by omega) (by omega)) (by omega)]; exact t1
  · rw [h 10 e 0 rfl (i0 10 (by omega) (by omega)) (by omega)]; exact t2
  · rw [h 8 e 5 rfl (i0 8 (by omega) (by omega)) (by omega)]; exact t3
  · rw [h 8 e 10 rfl (i0 8 (by omega) (by omega)) (by omega)]; exact t4
  · rw [h 8 e 15 rfl (i0 8 (by omega) (by omega)) (by omega)]; exact t5
  · rw [h 8 e 17 rfl (i0 8 (by omega) (by omega)) (by omega)]; exact t6
  · rw [h 30 e j rfl (i0 30 (by omega) (by omega)) (by omega)]; exact r1 j hj
  · rw [h 31 e j rfl (i0 31 (by omega) (by omega)) (by omega)]; exact r2 j hj
  · rw [h 32 e j rfl (i0 32 (by omega) (by omega)) (by omega)]; exact r3 j hj
  · rw [h 48 e j rfl (i0 48 (by omega) (by omega)) (by omega)]; exact r4 j hj
  · rw [h 50 e j rfl (i0 50 (by omega) (by omega)) (by omega)]; exact r5 j hj
  · rw [h 51 e j rfl (i0 51 (by omega) (by omega)) (by omega)]; exact r6 j hj
  · rw [h 52 e j rfl (i0 52 (by omega) (by omega)) (by omega)]; exact r7 j hj
  · rw [h 53 e j rfl (i0 53 (by omega) (by omega)) (by omega)]; exact r8 j hj
  · rw [h 33 e j rfl (i0 33 (by omega) (by omega)) (by omega)]; exact r9 j hj
  · rw [h 34 e j rfl (i0 34 (by omega) (by omega)) (by omega)]; exact r10 j hj
  · rw [h 35 e j rfl (i0 35 (by omega) (by omega)) (by omega)]; exact r11 j hj
  · rw [h 36 e j rfl (i0 36 (by omega) (by omega)) (by omega)]; exact r12 j hj
  · rw [h 37 e j rfl (i0 37 (by omega) (by omega)) (by omega)]; exact r13 j hj
  · rw [h 5 _ 2 rfl (i5 a ha) (by omega)]; exact l1 a ha
  · have := WF_lsize hF a
    rw [h 21 _ j rfl (i21 a ha) (by omega)]; exact l2 a j ha hj
theorem TM_keep (h : ∀ kk j, 75 ≤ kk → kk ≤ 96 → j < hf kk → gI w' kk 0 j = gI w kk 0 j) (hq : ∀ f, f = 12 ∨ f = 13 ∨ f = 14 ∨ f = 15 ∨ f = 17 ∨ f = 19 ∨ f = 65 → gI w' 16 0 f = gI w 16 0 f) (hF : WF v) (T : TM w v) : TM w' v := by
  have h1 := WF_parts hF
  have h2 := WF_people hF
  have h3 := WF_parties hF
  have h4 := WF_weathers hF
  have h5 := WF_slides hF
  obtain ⟨t1, t2, t3, t4, t5, t6, r1, r2, r3, r4, r5, r6, r7, r8, r9, r10, r11, r12, r13, t7, r14, r15, r16⟩ := T
  refine ⟨?_, ?_, ?_, ?_, ?_, ?_, fun j hj => ?_, fun j hj => ?_, fun j hj => ?_, fun j hj => ?_, fun j hj => ?_, fun j hj => ?_, fun j hj => ?_, fun j hj => ?_, fun j hj => ?_, fun j hj => ?_, fun j hj => ?_, fun j hj => ?_, fun j hj => ?_, ?_, fun j hj => ?_, fun j hj => ?_, fun a ha => ?_⟩
  · rw [hq 12 (by omega)]; exact t1
  · rw [hq 13 (by omega)]; exact t2
  · rw [hq 14 (by omega)]; exact t3
  · rw [hq 15 (by omega)]; exact t4
  · rw [hq 17 (by omega)]; exact t5
  · rw [hq 19 (by omega)]; exact t6
  · rw [h 75 j (by omega) (by omega) (show j < 8 by omega)]; exact r1 j hj
  · rw [h 76 j (by omega) (by omega) (show j < 8 by omega)]; exact r2 j hj
  · rw [h 77 j (by omega) (by omega) (show j < 8 by omega)]; exact r3 j hj
  · rw [h 78 j (by omega) (by omega) (show j < 6 by omega)]; exact r4 j hj
  · rw [h 80 j (by omega) (by omega) (show j < 6 by omega)]; exact r5 j hj
  · rw [h 81 j (by omega) (by omega) (show j < 6 by omega)]; exact r6 j hj
  · rw [h 82 j (by omega) (by omega) (show j < 6 by omega)]; exact r7 j hj
  · rw [h 83 j (by omega) (by omega) (show j < 6 by omega)]; exact r8 j hj
  · rw [h 84 j (by omega) (by omega) (show j < 8 by omega)]; exact r9 j hj
  · rw [h 85 j (by omega) (by omega) (show j < 8 by omega)]; exact r10 j hj
  · rw [h 86 j (by omega) (by omega) (show j < 8 by omega)]; exact r11 j hj
  · rw [h 87 j (by omega) (by omega) (show j < 8 by omega)]; exact r12 j hj
  · rw [h 88 j (by omega) (by omega) (show j < 14 by omega)]; exact r13 j hj
  · rw [hq 65 (by omega)]; exact t7
  · rw [h 89 j (by omega) (by omega) (show j < 12 by omega)]; exact r14 j hj
  · rw [h 90 j (by omega) (by omega) (show j < 12 by omega)]; exact r15 j hj
  · rw [h 91 a (by omega) (by omega) (show a < 2 from ha)]; exact r16 a ha
theorem TL_keep (h : ∀ kk j, 75 ≤ kk → kk ≤ 96 → j < hf kk → gI w' kk 0 j = gI w kk 0 j) (T : TL w v) : TL w' v := fun a ha h0 => by
  obtain ⟨f, f1, f2, f3, f4⟩ := T a ha h0
  refine ⟨f, f1, ?_, ?_, fun j hj => ?_⟩
  · rw [h 92 a (by omega) (by omega) (show a < 2 from ha)]; exact f2
  · rw [h 93 a (by omega) (by omega) (show a < 2 from ha)]; exact f3
  · rw [h 94 (f + j) (by omega) (by omega) (show f + j < 64 by omega), h 95 (f + j) (by omega) (by omega) (show f + j < 64 by omega), h 96 (f + j) (by omega) (by omega) (show f + j < 64 by omega)]
    exact f4 j hj
def kTxc : List Nat := [16001] ++ (kSc ++ kRl)
def kTxm : List Nat := kSm ++ kRm
theorem Fr_app2 {l m : List Nat} {w1 : Wd} (h : Fr l w w1) (h2 : Fr m w1 w') : Fr (l ++ m) w w' := Fr_trans (Fr_appl h) (Fr_appr h2)
/-- no text: both end with the same fault -/
theorem Iv_bad (h : Iv w v) {d : Nat} (hd : gR w 15 0 3 = d) {f : Nat} {p : Int32} {wcF wE : Wd} (Fc : Fr kTxc w wcF) (hk : ∀ k i j, mK k = true → iMo k i ≠ d → j < 100 → gI wcF k i j = gI w k i j) (c1 : gI wcF 15 0 1 = nI 0) (c8 : gI wcF 11 0 8 = nI f) (c9 : gI wcF 11 0 9 = p) (Fm : Fr kTxm wcF wE) (hm : ∀ kk j, 75 ≤ kk → kk ≤ 96 → j < hf kk → gI wE kk 0 j = gI wcF kk 0 j) (m1 : gI wE 16 0 1 = nI 0) (m4 : gI wE 16 0 4 = nI f) (m5 : gI wE 16 0 5 = p) : Iv wE v := by
  obtain ⟨i1, i2, i3, i4, i5, i6, i7, i8, i9, i10⟩ := h
  obtain ⟨⟨R1, R2⟩, ⟨M1, M2, M3, M4⟩, hF, hL, h15, h18, h5, h64⟩ := i1
  have F : Fr (kTxc ++ kTxm) w wE := Fr_app2 Fc Fm
  have D : dis (kTxc ++ kTxm) (kSC ++ kSM ++ [107, 14000, 16002, 17064] ++ kZD ++ kMO ++ kUN ++ kIM ++ kCLc ++ kOC ++ kWD) = true := by decide +kernel
  have hed : gR w 13 0 0 ≠ d := by
    rw [← h15, ← hd]
    have := i3.1
    rw [i3.2]
    omega
  have T1 : TC wcF (gR w 13 0 0) v := TC_keep hk hed hF R1
  have e13 : gR wE 13 0 0 = gR w 13 0 0 := (F 13 0 0 (dis_of D (k := 14000) (by decide +kernel))).2.2
  have fq : ∀ f, f = 12 ∨ f = 13 ∨ f = 14 ∨ f = 15 ∨ f = 17 ∨ f = 19 ∨ f = 65 → gI wE 16 0 f = gI w 16 0 f := fun f hf => (F 16 0 f (by rcases hf with rfl | rfl | rfl | rfl | rfl | rfl | rfl <;> decide +kernel)).1
  have hm' : ∀ kk j, 75 ≤ kk → kk ≤ 96 → j < hf kk → gI wE kk 0 j = gI w kk 0 j := fun kk j h1 h2 h3 => by
    rw [hm kk j h1 h2 h3, (Fc kk 0 j (by
      have e : ky kk j = kk := by unfold ky; rw [if_neg (by omega)]
      rw [e]
      have : ∀ q, q < 22 → kTxc.contains (75 + q) = false := by decide +kernel
      have := this (kk - 75) (by omega)
      rw [show 75 + (kk - 75) = kk by omega] at this
      exact this)).1]
  refine ⟨⟨⟨?_, SC_fr F R2 (dis_sub D (by decide +kernel))⟩, ⟨TM_keep hm' fq hF M1, SM_fr F M2 (dis_sub D (by decide +kernel)), TL_keep hm' M3, ST_fr F M4 (dis_of D (by decide +kernel))⟩, hF, hL, ?_, h18, h5, ?_⟩, ZD_fr F i2 (dis_sub D (by decide +kernel)), MO_fr F i3 (dis_sub D (by decide +kernel)), TP_mk (tl := 0) (by omega) ?_ m1 (fun j hj => absurd hj (Nat.not_lt_zero j)), ⟨?_, ?_⟩, UN_fr F i6 (dis_sub D (by decide +kernel)), IM_fr F i7 (dis_sub D (by decide +kernel)), CL_fr F i8 (dis_sub D (by decide +kernel)), OC_fr F i9 (dis_sub D (by decide +kernel)), WD_fr F i10 (dis_sub D (by decide +kernel))⟩
  · rw [e13]
    exact TC_fr Fm T1 (by decide +kernel)
  · rw [(F 15 0 2 (dis_of D (k := 16002) (by decide +kernel))).2.2, e13]; exact h15
  · rw [(F 16 0 64 (dis_of D (k := 17064) (by decide +kernel))).1]; exact h64
  · rw [(Fm 15 0 1 (by decide +kernel)).1]; exact c1
  · rw [(Fm 11 0 8 (by decide +kernel)).1, c8, m4]
  · rw [(Fm 11 0 9 (by decide +kernel)).1, c9, m5]
def kTgc : List Nat := kTxc ++ ([16002, 16003] ++ kBg ++ [5000, 16007, 16008, 10001])
/-- a text: both begin anew -/
theorem Iv_good (h : Iv w v) {wcF wR wE : Wd} (Fc : Fr kTgc w wcF) (hU : WU u) (T : TC wcF d (vT u)) (S : SC wcF 0 (vT u)) (g13 : gR wcF 13 0 0 = d) (g152 : gR wcF 15 0 2 = d) (hd : d ≤ 1) (g153 : gR wcF 15 0 3 = 1 - d) (gL2 : gL wcF 13 0 2 = (nI (u 26 0)).toInt64) (c1 : gI wcF 15 0 1 = nI 0) (c8 : gI wcF 11 0 8 = nI 0) (c9 : gI wcF 11 0 9 = (-1 : Int32)) (c4 : gI wcF 4 0 0 = nI 0) (c157 : gI wcF 15 0 7 = nI 0) (c158 : gI wcF 15 0 8 = nI 0) (c91 : gI wcF 9 0 1 = (-1 : Int32))
    (Fm : Fr kTxm wcF wR) (m1 : gI wR 16 0 1 = nI 0) (m4 : gI wR 16 0 4 = nI 0) (m5 : gI wR 16 0 5 = (-1 : Int32)) (Fk : Fr kKe wR wE) (hR : RM wE 0 (vT u)) (e64 : gI wE 16 0 64 = nI 0) (e93 : gI wE 16 0 93 = nI 0) (e74 : gI wE 16 0 74 = nI 0) (e97 : gI wE 16 0 97 = nI 0) (e106 : gL wE 106 0 0 = (nI (u 26 0)).toInt64) : Iv wE (vT u) := by
  obtain ⟨i1, i2, i3, i4, i5, i6, i7, i8, i9, i10⟩ := h
  have F2 : Fr (kTxm ++ kKe) wcF wE := Fr_app2 Fm Fk
  have F : Fr (kTgc ++ (kTxm ++ kKe)) w wE := Fr_app2 Fc F2
  have D2 : dis (kTxm ++ kKe) (kTC ++ kSC ++ [14000, 14002, 16002, 16003, 16001, 12008, 12009, 5000, 16007, 16008, 10001]) = true := by decide +kernel
  have q : ∀ kk j, ([14000, 14002, 16002, 16003, 16001, 12008, 12009, 5000, 16007, 16008, 10001] : List Nat).contains (ky kk j) = true → gI wE kk 0 j = gI wcF kk 0 j ∧ gL wE kk 0 j = gL wcF kk 0 j ∧ gR wE kk 0 j = gR wcF kk 0 j := fun kk j hk => F2 kk 0 j (dis_of D2 (by
    have m1 := List.contains_iff_mem.mp hk
    exact List.contains_iff_mem.mpr (List.mem_append_right _ m1)))
  have e13 : gR wE 13 0 0 = d := by rw [(q 13 0 (by decide)).2.2]; exact g13
  refine ⟨⟨⟨?_, SC_fr F2 S (dis_sub D2 (by decide +kernel))⟩, hR, WF_vT hU, WL_vT hU, ?_, fun j => ?_, ?_, ?_⟩, ?_, ⟨?_, ?_⟩, TP_mk (tl := 0) (by omega) ?_ ?_ (fun j hj => absurd hj (Nat.not_lt_zero j)), ⟨?_, ?_⟩, UN_no ?_ e74, ⟨false, ?_, e97, fun z => by cases z⟩, ⟨fun _ _ => 0, ⟨?_, fun c hc => absurd hc (Nat.not_lt_zero c)⟩, ⟨e93, fun c hc => absurd hc (Nat.not_lt_zero c)⟩, ⟨Nat.zero_le _, fun c hc => absurd hc (Nat.not_lt_zero c)⟩⟩, Or.inl ?_, WD_fr F i10 (by decide +kernel)⟩
  · rw [e13]
    exact TC_fr F2 T (dis_sub D2 (by decide +kernel))
  · rw [(q 15 2 (by decide)).2.2, e13]; exact g152
  · rw [vT_17 (by omega)]; omega
  · rw [vT_05]; omega
  · rw [vT_05]; exact e64
  · unfold ZD
    rw [(q 13 2 (by decide)).2.1, gL2, e106]
  · rw [(q 15 2 (by decide)).2.2, g152]; exact hd
  · rw [(q 15 3 (by decide)).2.2, (q 15 2 (by decide)).2.2, g153, g152]
  · rw [(q 15 1 (by decide)).1]; exact c1
  · rw [(Fk 16 0 1 (by decide)).1]; exact m1
  · rw [(q 11 8 (by decide)).1, (Fk 16 0 4 (by decide)).1, c8, m4]
  · rw [(q 11 9 (by decide)).1, (Fk 16 0 5 (by decide)).1, c9, m5]
  · rw [(q 15 8 (by decide)).1]; exact c158
  · rw [(q 15 7 (by decide)).1]; exact c157
  · rw [(q 4 0 (by decide)).1]; exact c4
  · rw [(q 9 1 (by decide)).1]; exact c91
end

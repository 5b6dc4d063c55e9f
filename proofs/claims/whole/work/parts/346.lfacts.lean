/-! ===== the law's start: what is known of the launch ===== -/
theorem clsI_w : ∀ x ∈ classes.map (fun q => Cond.instantiable q.1 q.2.2), x ∈ lwg := wds_of (by decide +kernel)
theorem arrC_w : ∀ x ∈ [Cond.arrayClass .int, Cond.arrayClass .long, Cond.arrayClass .byte, Cond.arrayClass .boolean], x ∈ lwg := wds_of (by decide +kernel)
theorem law_K {args : Array Value} {s : State} (hts : ∀ w ∈ lwg, w.before args s = true) (hov : (Cond.arrayOver (.array .int)).before args s = true) : ∃ (D : va_G) (aC : Nat → ClassId), va_K D classes (atys aC) s := by
  have h0 : ∀ k : Nat, ∃ d : ClassId × (Nat → Nat), ∀ q, classes[k]? = some q → u_Kn s q.1 q.2.1 q.2.2 d.1 d.2 := fun k => by
    cases hq : classes[k]? with
    | none => exact ⟨(0, fun _ => 0), fun q h => by cases h⟩
    | some q =>
      have hi : Cond.instantiable q.1 q.2.2 ∈ lwg := clsI_w _ (List.mem_map.mpr ⟨q, List.mem_of_getElem? hq, rfl⟩)
      obtain ⟨cC, iS, hK⟩ := u_known (C := q.1) (T := q.2.1) (N := q.2.2) (n := q.2.2) hts (cls_ws hq) (hts _ hi)
      exact ⟨(cC, iS), fun q' h => by cases h; exact hK⟩
  obtain ⟨d, hd⟩ := Classical.axiomOfChoice h0
  have ha : ∀ ty, Cond.arrayClass ty ∈ lwg → ∃ cA, ArrOfT s cA ty ∧ s.vm.findClass ("[" ++ ty.toString) = some cA := fun ty h => by
    obtain ⟨c, k, comp, f1, f2, f3⟩ := Cond.arrayClass_spec (hts _ h)
    exact ⟨c, fun n z => ⟨(fun k h => by cases h), k, f2, comp, f3⟩, f1⟩
  obtain ⟨c2, a2, b2⟩ := ha .int (arrC_w _ (by simp))
  obtain ⟨c3, a3, b3⟩ := ha .long (arrC_w _ (by simp))
  obtain ⟨c4, a4, b4⟩ := ha .byte (arrC_w _ (by simp))
  obtain ⟨c5, a5, b5⟩ := ha .boolean (arrC_w _ (by simp))
  obtain ⟨comp, c6, k6, f1, -, f2, f3, f4⟩ := arrayOver_specB hov
  refine ⟨(fun k => (d k).1, fun k => (d k).2), fun k => if k = 2 then c2 else if k = 3 then c3 else if k = 4 then c4 else if k = 5 then c5 else c6, fun c q h => hd c q h, fun k q h => ?_⟩
  match k, h with
  | 0, h => cases h; exact ⟨a2, b2⟩
  | 1, h => cases h; exact ⟨a3, b3⟩
  | 2, h => cases h; exact ⟨a4, b4⟩
  | 3, h => cases h; exact ⟨a5, b5⟩
  | 4, h => cases h; exact ⟨fun n z => ⟨(fun k h => by cases h), k6, f2, comp, f3⟩, f4⟩
  | k + 5, h => cases h
/-! texts -/
def T1 : Cond := Jvm.Cond.and given_1 narrow_1
def tmS : Nat → Term
  | 0 => .string RX10 100
  | _ => .string RX10 29
def elS (i j : Nat) : Cond := .eq (.elem (.field (tmS i) "java/lang/String" "value" "[B") (.int (Int32.ofNat j))) (.int ((strB.getD i []).getD j 0))
set_option maxRecDepth 100000 in
set_option maxHeartbeats 4000000 in
theorem el0 : ∀ j, j < 13 → (flatC T1)[179 + j]? = some (elS 0 j) := by decide +kernel
set_option maxRecDepth 100000 in
set_option maxHeartbeats 4000000 in
theorem el1 : ∀ j, j < 132 → (flatC T1)[43 + j]? = some (elS 1 j) := by decide +kernel
def ndsW : List Cond := nestL ++ (exWL ++ [.methodLinkNest "MoorGuides$Reader" 195 yX11_indexOf "MoorGuides", .arrayOver (.array .int), .stringRef RX10 100 ";()+-*/< =  >", .stringRef RX10 29 "part beside person knows cost from till forget party weather slide near seed law out pick or and not odds around times wanted night ", .stringRef RX11 152 "no such person", .stringRef RX11 182 "no such what", .laysStatic "java/lang/String" "COMPACT_STRINGS" "Z", .initialized "java/lang/String", .laysStatic "jdk/internal/util/Preconditions" "SIOOBE_FORMATTER" "Ljava/util/function/BiFunction;", .initialized "jdk/internal/util/Preconditions", .laysStatic Bundle.tN "UNASSIGNED_STACK" Bundle.steD, .laysStatic Bundle.tN "SUPPRESSED_SENTINEL" Bundle.listD, .initialized Bundle.tN])
set_option maxRecDepth 100000 in
set_option maxHeartbeats 4000000 in
theorem nds_w : ndsW.all (fun x => lw_tbl.contains x) = true := by decide +kernel
set_option maxRecDepth 100000 in
set_option maxHeartbeats 4000000 in
theorem law_ex {b : Nat} {s : State} (hts : ∀ w ∈ lw_tbl, w.before #[Value.ref b] s = true) (hgv : T1.before #[Value.ref b] s = true) : ∃ ρ0 : Nat → Nat → Nat, ρ0 2 7 = b ∧ exS ρ0 (fun q => s.heap.size ≤ q) s ∧ exN s ∧ exL (fun q => s.heap.size ≤ q) s := by
  have hn : ∀ w ∈ ndsW, w.before #[Value.ref b] s = true := fun w hw => hts w (List.contains_iff_mem.mp (List.all_eq_true.mp nds_w w hw))
  have hs := flat_of_before _ hgv
  have at0 : ∀ (k : Nat) (c : Cond), (flatC T1)[k]? = some c → c.before #[Value.ref b] s = true := fun k c h => hs c (List.mem_of_getElem? h)
  have hA : ∀ a : Nat, a < s.heap.size → ¬ s.heap.size ≤ a := fun a h => Nat.not_le.mpr h
  obtain ⟨adK, adV, hS, hev⟩ := vk_Sof (args := #[Value.ref b]) (s := s) (A := fun q : Nat => s.heap.size ≤ q) (tm := tmS) (len := strL) (byt := strB) (N := 2) (by decide)
    (fun i hi => match i, hi with
      | 0, _ => at0 175 _ (by decide +kernel)
      | 1, _ => at0 39 _ (by decide +kernel)
      | k + 2, h => absurd h (by omega))
    (fun i hi => match i, hi with
      | 0, _ => at0 176 _ (by decide +kernel)
      | 1, _ => at0 40 _ (by decide +kernel)
      | k + 2, h => absurd h (by omega))
    (fun i hi => match i, hi with
      | 0, _ => at0 177 _ (by decide +kernel)
      | 1, _ => at0 41 _ (by decide +kernel)
      | k + 2, h => absurd h (by omega))
    (fun i hi => match i, hi with
      | 0, _ => at0 178 _ (by decide +kernel)
      | 1, _ => at0 42 _ (by decide +kernel)
      | k + 2, h => absurd h (by omega))
    (fun i hi j hj => match i, hi, hj with
      | 0, _, hj => at0 (179 + j) _ (el0 j hj)
      | 1, _, hj => at0 (43 + j) _ (el1 j hj)
      | k + 2, h, _ => absurd h (by omega))
    (fun i j hi hj hne => match i, j, hi, hj, hne with
      | 0, 0, _, _, hne => absurd rfl hne
      | 0, 1, _, _, _ => Or.inr (at0 192 _ (by decide +kernel))
      | 1, 0, _, _, _ => Or.inl (at0 192 _ (by decide +kernel))
      | 1, 1, _, _, hne => absurd rfl hne
      | k + 2, _, h, _, _ => absurd h (by omega)
      | 0, k + 2, _, h, _ => absurd h (by omega)
      | 1, k + 2, _, h, _ => absurd h (by omega)) hA
  refine ⟨fun k i => if k = 2 then (if i = 7 then b else adK i) else adV i, rfl, ⟨va_Nw.of rfl (hn _ (by decide +kernel)), vk_R.of (hn _ (by decide +kernel)) (hev 0 (by decide)), vk_R.of (hn _ (by decide +kernel)) (hev 1 (by decide)), ⟨fun i hi => ?_, fun i j hi hj e => ?_⟩, va_Zof (hn _ (by decide +kernel)) (hn _ (by decide +kernel)) (va_eqt (at0 4 _ (by decide +kernel))) hA, va_Zqof (hn _ (by decide +kernel)) (hn _ (by decide +kernel)) (at0 5 _ (by decide +kernel)) hA⟩, ⟨fun x hx => va_Nw.of ?_ (hn x (by unfold ndsW; exact List.mem_append_left _ hx)), hn (.arrayOver (.array .int)) (by decide +kernel)⟩, fun w hw => va_Nw.of (exWL_t w hw) (hn w (by unfold ndsW; exact List.mem_append_right _ (List.mem_append_left _ hw))), va_Nc.of (at0 24 _ (by decide +kernel)), ?_, ?_, vx_Zqof (hn _ (by decide +kernel)) (hn _ (by decide +kernel)) (at0 9 _ (by decide +kernel)) hA, vx_Zqof (hn _ (by decide +kernel)) (hn _ (by decide +kernel)) (at0 10 _ (by decide +kernel)) hA⟩
  · have := hS.1 i hi
    dsimp only
    rw [if_pos rfl, if_neg (show ¬ i = 7 by omega), if_neg (show ¬ (0 : Nat) = 2 by omega)]
    exact this
  · dsimp only at e
    rw [if_pos rfl, if_neg (show ¬ i = 7 by omega), if_pos rfl, if_neg (show ¬ j = 7 by omega)] at e
    exact hS.2 i j hi hj e
  · simp only [nestL, List.mem_cons, List.not_mem_nil, or_false] at hx
    rcases hx with rfl | rfl | rfl | rfl <;> rfl
  · obtain ⟨a, c, cA, kA, q1, -⟩ := Cond.exactly_spec (args := #[Value.ref b]) (first := s) (o := none) (s := s) (idx := []) (t := .string RX11 152) (cls := "java/lang/String") (at0 193 _ (by decide +kernel))
    exact ⟨a, vk_R.of (hn _ (by decide +kernel)) q1⟩
  · obtain ⟨a, c, cA, kA, q1, -⟩ := Cond.exactly_spec (args := #[Value.ref b]) (first := s) (o := none) (s := s) (idx := []) (t := .string RX11 182) (cls := "java/lang/String") (at0 213 _ (by decide +kernel))
    exact ⟨a, vk_R.of (hn _ (by decide +kernel)) q1⟩

/-! ===== constructors: MoorGuidesModel ===== -/
/-- two tables, the second behind the first -/
def jnT (a b : List CE) : Bool := match a.getLast?, b.head? with
  | some l, some e => e.1 == l.1 + ciln l
  | _, _ => true
theorem ctok_app {cc : ByteArray} {own : String} : ∀ (a b : List CE), ctok cc own a = true → ctok cc own b = true → jnT a b = true → ctok cc own (a ++ b) = true
  | [], b, _, h, _ => h
  | [e], b, h1, h2, h3 => by
    unfold ctok at h1
    rw [Bool.and_eq_true, Bool.and_eq_true] at h1
    show ctok cc own (e :: b) = true
    unfold ctok
    rw [h1.1, h1.2.1, h2, Bool.true_and, Bool.true_and, Bool.and_true]
    cases b with
    | nil => rfl
    | cons e' r => exact h3
  | e :: e2 :: r, b, h1, h2, h3 => by
    unfold ctok at h1
    rw [Bool.and_eq_true, Bool.and_eq_true, Bool.and_eq_true] at h1
    have ih := ctok_app (e2 :: r) b h1.2.2.2 h2 (by
      unfold jnT at h3 ⊢
      rw [List.getLast?_cons_cons] at h3
      exact h3)
    show ctok cc own (e :: ((e2 :: r) ++ b)) = true
    unfold ctok
    rw [h1.1, h1.2.1, ih, Bool.true_and, Bool.true_and, Bool.and_true]
    exact h1.2.2.1
def tC12 (_ : Nat) : List CE := tC12_0 ++ (tC12_1 ++ (tC12_2 ++ (tC12_3 ++ (tC12_4 ++ (tC12_5 ++ (tC12_6 ++ (tC12_7 ++ (tC12_8 ++ (tC12_9 ++ (tC12_10 ++ (tC12_11 ++ (tC12_12 ++ (tC12_13 ++ (tC12_14 ++ (tC12_15 ++ (tC12_16))))))))))))))))
def oX12 (as : List AV) (n : Nat) : List AV → CS → Option (CS × List WO) := match n with
  | 100 => oN Lc 58 3299 (xt0 as) 16 1 0 0 0 (fun _ => mmC) (fun _ => []) (rMM 4)
  | 101 => oN Lc 58 3299 (xt0 as) 16 2 0 0 0 (fun _ => mmC) (fun _ => []) (rMM 5)
  | _ => fun _ _ => none
def rX12 : List AV → CS → Option (CS × List WO) := rTab oX12 58 3299 1 xt0 tC12
set_option maxRecDepth 100000 in
set_option maxHeartbeats 4000000 in
theorem tC12_t16 : ctok cX12_init RX12 tC12_16 = true := tC12_16_ok
set_option maxRecDepth 100000 in
set_option maxHeartbeats 4000000 in
theorem tC12_t15 : ctok cX12_init RX12 (tC12_15 ++ (tC12_16)) = true := ctok_app tC12_15 (tC12_16) tC12_15_ok tC12_t16 (by decide +kernel)
set_option maxRecDepth 100000 in
set_option maxHeartbeats 4000000 in
theorem tC12_t14 : ctok cX12_init RX12 (tC12_14 ++ (tC12_15 ++ (tC12_16))) = true := ctok_app tC12_14 (tC12_15 ++ (tC12_16)) tC12_14_ok tC12_t15 (by decide +kernel)
set_option maxRecDepth 100000 in
set_option maxHeartbeats 4000000 in
theorem tC12_t13 : ctok cX12_init RX12 (tC12_13 ++ (tC12_14 ++ (tC12_15 ++ (tC12_16)))) = true := ctok_app tC12_13 (tC12_14 ++ (tC12_15 ++ (tC12_16))) tC12_13_ok tC12_t14 (by decide +kernel)
set_option maxRecDepth 100000 in
set_option maxHeartbeats 4000000 in
theorem tC12_t12 : ctok cX12_init RX12 (tC12_12 ++ (tC12_13 ++ (tC12_14 ++ (tC12_15 ++ (tC12_16))))) = true := ctok_app tC12_12 (tC12_13 ++ (tC12_14 ++ (tC12_15 ++ (tC12_16)))) tC12_12_ok tC12_t13 (by decide +kernel)
set_option maxRecDepth 100000 in
set_option maxHeartbeats 4000000 in
theorem tC12_t11 : ctok cX12_init RX12 (tC12_11 ++ (tC12_12 ++ (tC12_13 ++ (tC12_14 ++ (tC12_15 ++ (tC12_16)))))) = true := ctok_app tC12_11 (tC12_12 ++ (tC12_13 ++ (tC12_14 ++ (tC12_15 ++ (tC12_16))))) tC12_11_ok tC12_t12 (by decide +kernel)
set_option maxRecDepth 100000 in
set_option maxHeartbeats 4000000 in
theorem tC12_t10 : ctok cX12_init RX12 (tC12_10 ++ (tC12_11 ++ (tC12_12 ++ (tC12_13 ++ (tC12_14 ++ (tC12_15 ++ (tC12_16))))))) = true := ctok_app tC12_10 (tC12_11 ++ (tC12_12 ++ (tC12_13 ++ (tC12_14 ++ (tC12_15 ++ (tC12_16)))))) tC12_10_ok tC12_t11 (by decide +kernel)
set_option maxRecDepth 100000 in
set_option maxHeartbeats 4000000 in
theorem tC12_t9 : ctok cX12_init RX12 (tC12_9 ++ (tC12_10 ++ (tC12_11 ++ (tC12_12 ++ (tC12_13 ++ (tC12_14 ++ (tC12_15 ++ (tC12_16)))))))) = true := ctok_app tC12_9 (tC12_10 ++ (tC12_11 ++ (tC12_12 ++ (tC12_13 ++ (tC12_14 ++ (tC12_15 ++ (tC12_16))))))) tC12_9_ok tC12_t10 (by decide +kernel)
set_option maxRecDepth 100000 in
set_option maxHeartbeats 4000000 in
theorem tC12_t8 : ctok cX12_init RX12 (tC12_8 ++ (tC12_9 ++ (tC12_10 ++ (tC12_11 ++ (tC12_12 ++ (tC12_13 ++ (tC12_14 ++ (tC12_15 ++ (tC12_16))))))))) = true := ctok_app tC12_8 (tC12_9 ++ (tC12_10 ++ (tC12_11 ++ (tC12_12 ++ (tC12_13 ++ (tC12_14 ++ (tC12_15 ++ (tC12_16)))))))) tC12_8_ok tC12_t9 (by decide +kernel)
set_option maxRecDepth 100000 in
set_option maxHeartbeats 4000000 in
theorem tC12_t7 : ctok cX12_init RX12 (tC12_7 ++ (tC12_8 ++ (tC12_9 ++ (tC12_10 ++ (tC12_11 ++ (tC12_12 ++ (tC12_13 ++ (tC12_14 ++ (tC12_15 ++ (tC12_16)))))))))) = true := ctok_app tC12_7 (tC12_8 ++ (tC12_9 ++ (tC12_10 ++ (tC12_11 ++ (tC12_12 ++ (tC12_13 ++ (tC12_14 ++ (tC12_15 ++ (tC12_16))))))))) tC12_7_ok tC12_t8 (by decide +kernel)
set_option maxRecDepth 100000 in
set_option maxHeartbeats 4000000 in
theorem tC12_t6 : ctok cX12_init RX12 (tC12_6 ++ (tC12_7 ++ (tC12_8 ++ (tC12_9 ++ (tC12_10 ++ (tC12_11 ++ (tC12_12 ++ (tC12_13 ++ (tC12_14 ++ (tC12_15 ++ (tC12_16))))))))))) = true := ctok_app tC12_6 (tC12_7 ++ (tC12_8 ++ (tC12_9 ++ (tC12_10 ++ (tC12_11 ++ (tC12_12 ++ (tC12_13 ++ (tC12_14 ++ (tC12_15 ++ (tC12_16)))))))))) tC12_6_ok tC12_t7 (by decide +kernel)
set_option maxRecDepth 100000 in
set_option maxHeartbeats 4000000 in
theorem tC12_t5 : ctok cX12_init RX12 (tC12_5 ++ (tC12_6 ++ (tC12_7 ++ (tC12_8 ++ (tC12_9 ++ (tC12_10 ++ (tC12_11 ++ (tC12_12 ++ (tC12_13 ++ (tC12_14 ++ (tC12_15 ++ (tC12_16)))))))))))) = true := ctok_app tC12_5 (tC12_6 ++ (tC12_7 ++ (tC12_8 ++ (tC12_9 ++ (tC12_10 ++ (tC12_11 ++ (tC12_12 ++ (tC12_13 ++ (tC12_14 ++ (tC12_15 ++ (tC12_16))))))))))) tC12_5_ok tC12_t6 (by decide +kernel)
set_option maxRecDepth 100000 in
set_option maxHeartbeats 4000000 in
theorem tC12_t4 : ctok cX12_init RX12 (tC12_4 ++ (tC12_5 ++ (tC12_6 ++ (tC12_7 ++ (tC12_8 ++ (tC12_9 ++ (tC12_10 ++ (tC12_11 ++ (tC12_12 ++ (tC12_13 ++ (tC12_14 ++ (tC12_15 ++ (tC12_16))))))))))))) = true := ctok_app tC12_4 (tC12_5 ++ (tC12_6 ++ (tC12_7 ++ (tC12_8 ++ (tC12_9 ++ (tC12_10 ++ (tC12_11 ++ (tC12_12 ++ (tC12_13 ++ (tC12_14 ++ (tC12_15 ++ (tC12_16)))))))))))) tC12_4_ok tC12_t5 (by decide +kernel)
set_option maxRecDepth 100000 in
set_option maxHeartbeats 4000000 in
theorem tC12_t3 : ctok cX12_init RX12 (tC12_3 ++ (tC12_4 ++ (tC12_5 ++ (tC12_6 ++ (tC12_7 ++ (tC12_8 ++ (tC12_9 ++ (tC12_10 ++ (tC12_11 ++ (tC12_12 ++ (tC12_13 ++ (tC12_14 ++ (tC12_15 ++ (tC12_16)))))))))))))) = true := ctok_app tC12_3 (tC12_4 ++ (tC12_5 ++ (tC12_6 ++ (tC12_7 ++ (tC12_8 ++ (tC12_9 ++ (tC12_10 ++ (tC12_11 ++ (tC12_12 ++ (tC12_13 ++ (tC12_14 ++ (tC12_15 ++ (tC12_16))))))))))))) tC12_3_ok tC12_t4 (by decide +kernel)
set_option maxRecDepth 100000 in
set_option maxHeartbeats 4000000 in
theorem tC12_t2 : ctok cX12_init RX12 (tC12_2 ++ (tC12_3 ++ (tC12_4 ++ (tC12_5 ++ (tC12_6 ++ (tC12_7 ++ (tC12_8 ++ (tC12_9 ++ (tC12_10 ++ (tC12_11 ++ (tC12_12 ++ (tC12_13 ++ (tC12_14 ++ (tC12_15 ++ (tC12_16))))))))))))))) = true := ctok_app tC12_2 (tC12_3 ++ (tC12_4 ++ (tC12_5 ++ (tC12_6 ++ (tC12_7 ++ (tC12_8 ++ (tC12_9 ++ (tC12_10 ++ (tC12_11 ++ (tC12_12 ++ (tC12_13 ++ (tC12_14 ++ (tC12_15 ++ (tC12_16)))))))))))))) tC12_2_ok tC12_t3 (by decide +kernel)
set_option maxRecDepth 100000 in
set_option maxHeartbeats 4000000 in
theorem tC12_t1 : ctok cX12_init RX12 (tC12_1 ++ (tC12_2 ++ (tC12_3 ++ (tC12_4 ++ (tC12_5 ++ (tC12_6 ++ (tC12_7 ++ (tC12_8 ++ (tC12_9 ++ (tC12_10 ++ (tC12_11 ++ (tC12_12 ++ (tC12_13 ++ (tC12_14 ++ (tC12_15 ++ (tC12_16)))))))))))))))) = true := ctok_app tC12_1 (tC12_2 ++ (tC12_3 ++ (tC12_4 ++ (tC12_5 ++ (tC12_6 ++ (tC12_7 ++ (tC12_8 ++ (tC12_9 ++ (tC12_10 ++ (tC12_11 ++ (tC12_12 ++ (tC12_13 ++ (tC12_14 ++ (tC12_15 ++ (tC12_16))))))))))))))) tC12_1_ok tC12_t2 (by decide +kernel)
set_option maxRecDepth 100000 in
set_option maxHeartbeats 4000000 in
theorem tC12_t0 : ctok cX12_init RX12 (tC12_0 ++ (tC12_1 ++ (tC12_2 ++ (tC12_3 ++ (tC12_4 ++ (tC12_5 ++ (tC12_6 ++ (tC12_7 ++ (tC12_8 ++ (tC12_9 ++ (tC12_10 ++ (tC12_11 ++ (tC12_12 ++ (tC12_13 ++ (tC12_14 ++ (tC12_15 ++ (tC12_16))))))))))))))))) = true := ctok_app tC12_0 (tC12_1 ++ (tC12_2 ++ (tC12_3 ++ (tC12_4 ++ (tC12_5 ++ (tC12_6 ++ (tC12_7 ++ (tC12_8 ++ (tC12_9 ++ (tC12_10 ++ (tC12_11 ++ (tC12_12 ++ (tC12_13 ++ (tC12_14 ++ (tC12_15 ++ (tC12_16)))))))))))))))) tC12_0_ok tC12_t1 (by decide +kernel)
theorem tC12_ok (i : Nat) : ctok cX12_init RX12 (tC12 i) = true := tC12_t0
theorem tC12_w (i : Nat) : ∀ e ∈ tC12 i, ∀ x ∈ cwd RX12 e, x ∈ lwg := by
  intro e he x hx
  unfold tC12 at he
  rcases List.mem_append.mp he with he | he
  · exact tC12_0_w x (List.mem_flatMap.mpr ⟨e, he, hx⟩)
  rcases List.mem_append.mp he with he | he
  · exact tC12_1_w x (List.mem_flatMap.mpr ⟨e, he, hx⟩)
  rcases List.mem_append.mp he with he | he
  · exact tC12_2_w x (List.mem_flatMap.mpr ⟨e, he, hx⟩)
  rcases List.mem_append.mp he with he | he
  · exact tC12_3_w x (List.mem_flatMap.mpr ⟨e, he, hx⟩)
  rcases List.mem_append.mp he with he | he
  · exact tC12_4_w x (List.mem_flatMap.mpr ⟨e, he, hx⟩)
  rcases List.mem_append.mp he with he | he
  · exact tC12_5_w x (List.mem_flatMap.mpr ⟨e, he, hx⟩)
  rcases List.mem_append.mp he with he | he
  · exact tC12_6_w x (List.mem_flatMap.mpr ⟨e, he, hx⟩)
  rcases List.mem_append.mp he with he | he
  · exact tC12_7_w x (List.mem_flatMap.mpr ⟨e, he, hx⟩)
  rcases List.mem_append.mp he with he | he
  · exact tC12_8_w x (List.mem_flatMap.mpr ⟨e, he, hx⟩)
  rcases List.mem_append.mp he with he | he
  · exact tC12_9_w x (List.mem_flatMap.mpr ⟨e, he, hx⟩)
  rcases List.mem_append.mp he with he | he
  · exact tC12_10_w x (List.mem_flatMap.mpr ⟨e, he, hx⟩)
  rcases List.mem_append.mp he with he | he
  · exact tC12_11_w x (List.mem_flatMap.mpr ⟨e, he, hx⟩)
  rcases List.mem_append.mp he with he | he
  · exact tC12_12_w x (List.mem_flatMap.mpr ⟨e, he, hx⟩)
  rcases List.mem_append.mp he with he | he
  · exact tC12_13_w x (List.mem_flatMap.mpr ⟨e, he, hx⟩)
  rcases List.mem_append.mp he with he | he
  · exact tC12_14_w x (List.mem_flatMap.mpr ⟨e, he, hx⟩)
  rcases List.mem_append.mp he with he | he
  · exact tC12_15_w x (List.mem_flatMap.mpr ⟨e, he, hx⟩)
  exact tC12_16_w x (List.mem_flatMap.mpr ⟨e, he, hx⟩)
theorem RSX12 (N : Nat) : RS (Fc N) yX12_init cX12_init 1 6 58 3299 16 0 xt0 rX12 := by
  refine RS_run (lev := 5) (by decide +kernel) rfl (fun i => ⟨_, _, rfl, rfl⟩) tC12_ok tC12_w (fun i t X G hmc hms hR e he => ?_)
  have hl : (tC12 i).filter cCall = [(1266, .invokevirtual 190, 100, 1, 0), (1270, .invokevirtual 193, 101, 1, 0)] := by
    show (tC12 0).filter cCall = _
    decide +kernel
  rw [hl] at he
  simp only [List.mem_cons, List.not_mem_nil, or_false] at he
  rcases he with rfl | rfl
  · exact crc_M (idx := 190) (y := yX12_plain) G (Fc_ag N) hmc hms (by decide +kernel) (cw_of (ps := [1574, 1576, 71, 164, 1577]) (by decide +kernel) (by decide +kernel)) ⟨by decide +kernel, by decide +kernel, by decide +kernel⟩ (by rw [hR]; exact ⟨by decide, by decide⟩) ⟨rfl, _, rfl, rfl⟩ (RSX12_plain N)
  · exact crc_M (idx := 193) (y := yX12_keepText) G (Fc_ag N) hmc hms (by decide +kernel) (cw_of (ps := [1578, 1580, 72, 164, 1581]) (by decide +kernel) (by decide +kernel)) ⟨by decide +kernel, by decide +kernel, by decide +kernel⟩ (by rw [hR]; exact ⟨by decide, by decide⟩) ⟨rfl, _, rfl, rfl⟩ (RSX12_keepText N)

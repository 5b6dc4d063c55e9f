/-! ===== constructors: Law ===== -/
def tC1 (i : Nat) : List CE := [(0, .aload_n 0, 0, 0, 0), (1, .invokespecial 5, 0, 1, 0), (4, .aload_n 0, 0, 0, 0), (5, .bipush 64, 0, 0, 64), (7, .newarray .int, 21, i, 0), (9, .putfield 11, 1, 0, 0), (12, .aload_n 0, 0, 0, 0), (13, .bipush 64, 0, 0, 64), (15, .newarray .long, 22, i, 0), (17, .putfield 17, 1, 1, 0), (20, .return_, 0, 0, 0)]
theorem tC1_ok (i : Nat) : ctok cX1_init RX1 (tC1 i) = true := by
  show ctok cX1_init RX1 (tC1 0) = true
  decide +kernel
theorem tC1_w (i : Nat) : ∀ e ∈ tC1 i, ∀ x ∈ cwd RX1 e, x ∈ lwg := by
  have h : (tC1 i).flatMap (cwd RX1) = (tC1 0).flatMap (cwd RX1) := rfl
  have h1 : ((tC1 0).flatMap (cwd RX1)).all (fun x => lw_tbl.contains x && goodWord x) = true := by decide +kernel
  intro e he x hx
  have hm : x ∈ (tC1 0).flatMap (cwd RX1) := by rw [← h]; exact List.mem_flatMap.mpr ⟨e, he, hx⟩
  have h2 := List.all_eq_true.mp h1 x hm
  rw [Bool.and_eq_true] at h2
  exact lwg_in (List.contains_iff_mem.mp h2.1) h2.2
theorem tC1_run0 : (crun (fun _ _ _ => none) 2 128 [] (entL 1 [.inr (.inr (5, 0))]) (tC1 0) [] ([(5, 0)], [], [], 0, 0)).isSome = true := by decide +kernel

-- MoorGuidesModel.count(I)I
def tX12_count : List EN := [
  (0, .aload_n 0, 0, 0, 0, 0, 0, []), (1, .iconst 0, 0, 0, 0, 0, 0, []), (2, .putfield 196, 0, 12, 2, 0, 0, []), (5, .iload_n 1, 0, 0, 0, 0, 0, []),
  (6, .tableswitch 104 0 9 #[54, 59, 64, 69, 74, 79, 84, 89, 94, 99], 0, 35, 54, 0, 0, [(0, 5), (1, 8), (2, 11), (3, 14), (4, 17), (5, 20), (6, 23), (7, 26), (8, 29), (9, 32)]), (60, .aload_n 0, 0, 0, 0, 0, 0, []), (61, .getfield 295, 0, 12, 12, 0, 0, []), (64, .ireturn, 0, 0, 0, 0, 0, []),
  (65, .aload_n 0, 0, 0, 0, 0, 0, []), (66, .getfield 298, 0, 12, 13, 0, 0, []), (69, .ireturn, 0, 0, 0, 0, 0, []), (70, .aload_n 0, 0, 0, 0, 0, 0, []),
  (71, .getfield 301, 0, 12, 14, 0, 0, []), (74, .ireturn, 0, 0, 0, 0, 0, []), (75, .aload_n 0, 0, 0, 0, 0, 0, []), (76, .getfield 441, 0, 12, 65, 0, 0, []),
  (79, .ireturn, 0, 0, 0, 0, 0, []), (80, .aload_n 0, 0, 0, 0, 0, 0, []), (81, .getfield 316, 0, 12, 19, 0, 0, []), (84, .ireturn, 0, 0, 0, 0, 0, []),
  (85, .aload_n 0, 0, 0, 0, 0, 0, []), (86, .getfield 438, 0, 12, 64, 0, 0, []), (89, .ireturn, 0, 0, 0, 0, 0, []), (90, .aload_n 0, 0, 0, 0, 0, 0, []),
  (91, .getfield 444, 0, 12, 93, 0, 0, []), (94, .ireturn, 0, 0, 0, 0, 0, []), (95, .aload_n 0, 0, 0, 0, 0, 0, []), (96, .invokevirtual 631, 0, 0, 1, 0, 0, []),
  (99, .ireturn, 0, 0, 0, 0, 0, []), (100, .aload_n 0, 0, 0, 0, 0, 0, []), (101, .getfield 447, 0, 12, 74, 0, 0, []), (104, .ireturn, 0, 0, 0, 0, 0, []),
  (105, .aload_n 0, 0, 0, 0, 0, 0, []), (106, .getfield 310, 0, 12, 17, 0, 0, []), (109, .ireturn, 0, 0, 0, 0, 0, []), (110, .iconst (-1), 0, 0, 0, (-1), 0, []),
  (111, .ireturn, 0, 0, 0, 0, 0, [])]
noncomputable def pX12_count (N : Nat) (a1 : Int32) (w : Wd) : Option (Int32 × Wd) :=
  if a1 = (0 : Int32) then some ((gI (setI w 16 0 2 (0 : Int32)) 16 0 12), (setI w 16 0 2 (0 : Int32))) else
  if a1 = (1 : Int32) then some ((gI (setI w 16 0 2 (0 : Int32)) 16 0 13), (setI w 16 0 2 (0 : Int32))) else
  if a1 = (2 : Int32) then some ((gI (setI w 16 0 2 (0 : Int32)) 16 0 14), (setI w 16 0 2 (0 : Int32))) else
  if a1 = (3 : Int32) then some ((gI (setI w 16 0 2 (0 : Int32)) 16 0 65), (setI w 16 0 2 (0 : Int32))) else
  if a1 = (4 : Int32) then some ((gI (setI w 16 0 2 (0 : Int32)) 16 0 19), (setI w 16 0 2 (0 : Int32))) else
  if a1 = (5 : Int32) then some ((gI (setI w 16 0 2 (0 : Int32)) 16 0 64), (setI w 16 0 2 (0 : Int32))) else
  if a1 = (6 : Int32) then some ((gI (setI w 16 0 2 (0 : Int32)) 16 0 93), (setI w 16 0 2 (0 : Int32))) else
  if a1 = (7 : Int32) then
    (callW (pX12_manyGone N) (setI w 16 0 2 (0 : Int32))).bind fun r1 =>
    some (r1.1, r1.2)
  else
  if a1 = (8 : Int32) then some ((gI (setI w 16 0 2 (0 : Int32)) 16 0 74), (setI w 16 0 2 (0 : Int32))) else
  if a1 = (9 : Int32) then some ((gI (setI w 16 0 2 (0 : Int32)) 16 0 17), (setI w 16 0 2 (0 : Int32))) else
  some ((-1 : Int32), (setI w 16 0 2 (0 : Int32)))
noncomputable def mX12_count (N : Nat) (as : List AV) (w : Wd) : Option (Int32 × Wd) := xS1 16 as fun t => xI1 t fun a1 t => xN1 t (callW (pX12_count N a1) w)
set_option maxRecDepth 100000 in
set_option maxHeartbeats 4000000 in
theorem kX12_count : TK cX12_count RX12 2 tX12_count := ⟨by decide +kernel, wok_of [1602, 1612, 1613, 1614, 1665, 1619, 1664, 1693, 1674, 1617] (by decide +kernel) (by decide +kernel)⟩
set_option maxRecDepth 100000 in
set_option maxHeartbeats 4000000 in
theorem crX12_count {N : Nat} {X : XT} (G : GX X cX12_count RX12) (hR : xR X = rmL 2) : CRs X tX12_count (oF [(mX12_manyGone N)]) (oF []) (oF []) := by
  have hl : tX12_count.filter isInv = [(96, .invokevirtual 631, 0, 0, 1, 0, 0, [])] := rfl
  intro e he
  rw [hl] at he
  simp only [List.mem_cons, List.not_mem_nil, or_false] at he
  rcases he with rfl
  · exact crI_V (idx := 631) G (by decide +kernel) (MX12_manyGone N) (cw_of (ps := [2366, 2368, 146, 164, 2369]) (by decide +kernel) (by decide +kernel)) ⟨by decide +kernel, by decide +kernel, by decide +kernel⟩ (by unfold rmOk; rw [hR]; exact ⟨by decide, by decide⟩)
set_option maxRecDepth 100000 in
set_option maxHeartbeats 4000000 in
theorem MX12_count (N : Nat) : SndI yX12_count cX12_count 2 (some .int) 2 2 true (mX12_count N) := by
  refine SndI.of tX12_count (by decide +kernel) rfl rfl ?_ ?_
  · intro as w x h
    obtain ⟨t1, rfl, h_1⟩ := xS1_some h
    obtain ⟨a1, t2, rfl, h_2⟩ := xI1_some h_1
    obtain ⟨rfl, h_3⟩ := xN1_some h_2
    clear h h_1 h_2
    have h := h_3
    rw [callW_eq] at h
    exact ⟨fun _ => ⟨_, _, _, rfl, rfl, _, rfl, rfl⟩, rfl, Nat.le_of_ble_eq_true rfl⟩
  · intro X G hn hR as w r h hr
    have hC := crX12_count (N := N) G hR
    obtain ⟨t1, rfl, h_1⟩ := xS1_some h
    obtain ⟨a1, t2, rfl, h_2⟩ := xI1_some h_1
    obtain ⟨rfl, h_3⟩ := xN1_some h_2
    clear h h_1 h_2
    have h := h_3
    rw [callW_eq] at h
    refine run_sound (r := r) (X := X) (cc := cX12_count) (own := RX12) (tab := tX12_count) G (by rw [hn]; exact kX12_count) (oI := (oF [(mX12_manyGone N)])) (oL := (oF [])) (oV := (oF [])) (rI := (fun x w => some (x, w))) (rL := (fun _ _ => none)) (rV := (fun _ => none))
      (K := (fun j ls st w => none)) (fun x w pc ls hx hd => hr x w pc ls (Option.some.inj hx) hd) (fun _ _ _ _ hx => by cases hx) (fun _ _ _ hx => by cases hx) hC (fun ls => lsb [some (.inr (.inr (16, 0))), some (.inl a1)] 0 ls) (keepsP_of rfl) ?_ 39 0 [some (.inr (.inr (16, 0))), some (.inl a1)] [] w ?_ h
    · intro j ls st w hfx h
      obtain ⟨e0, e1, -⟩ : _ = _ ∧ _ = _ ∧ True := hfx
      try dsimp only at h
      cases h
    · exact (show _ = _ ∧ _ = _ ∧ True from ⟨rfl, rfl, trivial⟩)

/-! ===== the reference keeps a text ===== -/
section
variable {N : Nat} {w w' w0 w1 wc wm : Wd} {b : Nat → Nat} {n m d k i : Nat} {u u' : Vw}
/-- rows that are copied from their second half -/
def CPy (L : List Nat) (w0 w : Wd) : Prop := ∀ kk, 75 ≤ kk → kk ≤ 96 → (L.contains kk = true → (∀ j, j < hf kk → gI w kk 0 j = gI w0 kk 0 (hf kk + j)) ∧ (∀ j, hf kk ≤ j → gI w kk 0 j = gI w0 kk 0 j)) ∧ (L.contains kk = false → ∀ j, gI w kk 0 j = gI w0 kk 0 j)
theorem CPy_0 : CPy [] w w := fun kk _ _ => ⟨fun h => absurd h (by simp), fun _ _ => rfl⟩
theorem m_copy2 {kk h : Nat} (hln : ln kk 0 = 2 * h) (hh : h ≤ 64) (h17 : 16 < kk) : ∀ r c fuel w, c + r = h → r < fuel → Fr [kk] w0 w → (∀ j, j < c → gI w kk 0 j = gI w0 kk 0 (h + j)) → (∀ j, c ≤ j → gI w kk 0 j = gI w0 kk 0 j) → Ok (fX12_copies_2 N kk 0 (nI h) fuel (nI c) w) (fun w' => Fr [kk] w0 w' ∧ (∀ j, j < h → gI w' kk 0 j = gI w0 kk 0 (h + j)) ∧ (∀ j, h ≤ j → gI w' kk 0 j = gI w0 kk 0 j)) := by
  have hky : ∀ j, [kk].contains (ky kk j) = true := fun j => by
    unfold ky
    rw [if_neg (by omega)]
    simp
  intro r
  induction r with
  | zero =>
    intro c fuel w hc hf f h1 h2
    obtain ⟨z, rfl⟩ : ∃ z, fuel = z + 1 := ⟨fuel - 1, by omega⟩
    have e : c = h := by omega
    subst e
    have lt : (nI c < nI c) = False := eq_false (fun q => by
      have := (nI_ltI (by omega) (by omega)).mp q
      omega)
    simp only [fX12_copies_2, ↓lt, ↓reduceIte]
    exact ok_some ⟨f, h1, h2⟩
  | succ r ih =>
    intro c fuel w hc hf f h1 h2
    obtain ⟨z, rfl⟩ : ∃ z, fuel = z + 1 := ⟨fuel - 1, by omega⟩
    have lt : (nI c < nI h) = True := eq_true ((nI_ltI (by omega) (by omega)).mpr (by omega))
    have e1 : nI c + (1 : Int32) = nI (c + 1) := nI_add _ 1
    have l1 : ldI w kk 0 (nI h + nI c) (ln kk 0) = some (gI w0 kk 0 (h + c)) := by rw [nI_add, hln, ldn (by omega) (by omega), h2 _ (by omega)]
    have s1 : stI w kk 0 (nI c) (ln kk 0) (gI w0 kk 0 (h + c)) = some (setI w kk 0 c (gI w0 kk 0 (h + c))) := by rw [hln]; exact stn (by omega) (by omega)
    simp only [fX12_copies_2, ↓lt, ↓bnd l1, ↓bnd s1, ↓e1, ↓reduceIte, callW_eq]
    refine ih (c + 1) z _ (by omega) (by omega) (Fr_setI f (hky c)) (fun j hj => ?_) (fun j hj => ?_)
    · by_cases y : j = c
      · subst y
        rw [gg_I, if_pos ⟨rfl, rfl, rfl⟩]
      · rw [gg_I, if_neg (fun q => y q.2.2)]
        exact h1 j (by omega)
    · rw [gg_I, if_neg (by omega)]
      exact h2 j (by omega)
theorem m_copies {L : List Nat} {kk : Nat} (hN : 100 ≤ N) (hk : 75 ≤ kk) (hk2 : kk ≤ 96) (hln : ln kk 0 = 2 * hf kk) (hL : L.contains kk = false) (hc : CPy L w0 w) (hh : hf kk ≤ 64) : Ok (pX12_copies N kk 0 (nI (hf kk)) w) (fun w' => CPy (kk :: L) w0 w' ∧ Fr [kk] w w') := by
  unfold pX12_copies
  rw [callW_eq, li0]
  refine ok_mono (m_copy2 (N := N) (w0 := w) hln hh (by omega) (hf kk) 0 N w (by omega) (by omega) (Fr_refl _ _) (fun j hj => absurd hj (Nat.not_lt_zero j)) (fun _ _ => rfl)) ?_
  rintro w1 ⟨f1, a1, a2⟩
  refine ⟨fun q hq hq2 => ?_, f1⟩
  have hcn : (kk :: L).contains q = (q == kk || L.contains q) := by simp only [List.contains_cons]
  by_cases y : q = kk
  · subst y
    have old := (hc q hq hq2).2 hL
    refine ⟨fun _ => ⟨fun j hj => by rw [a1 j hj, old], fun j hj => by rw [a2 j hj, old]⟩, fun h => ?_⟩
    rw [hcn, beq_self_eq_true, Bool.true_or] at h
    cases h
  · have e : ∀ j, gI w1 q 0 j = gI w q 0 j := fun j => (f1 q 0 j (by
      have : ky q j = q := by unfold ky; rw [if_neg (by omega)]
      rw [this]
      simp [y])).1
    rw [hcn, beq_eq_false_iff_ne.mpr y, Bool.false_or]
    refine ⟨fun h => ⟨fun j hj => by rw [e, ((hc q hq hq2).1 h).1 j hj], fun j hj => by rw [e, ((hc q hq hq2).1 h).2 j hj]⟩, fun h j => by rw [e, (hc q hq hq2).2 h]⟩
/-- the whole but for begin -/
def kKp : List Nat := [17012, 17013, 17014, 17015, 17016, 17017, 17018, 17019, 75, 76, 77, 78, 79, 80, 81, 82, 83, 84, 85, 86, 87, 88, 89, 90, 91, 92, 93, 94, 95, 96]
def kRw : List Nat := [96, 95, 94, 93, 92, 91, 90, 89, 88, 87, 86, 85, 84, 83, 82, 81, 80, 79, 78, 77, 76, 75]
theorem zB_and (x : Bool) : zB x &&& (1 : Int32) = zB x := by cases x <;> decide
theorem m_keep0 (hN : 100 ≤ N) (D : DM w u) : ∃ wK, pX12_keepText N w = (pX12_begin N wK).bind some ∧ Fr kKp w wK ∧ CPy kRw w wK ∧ gI wK 16 0 12 = nI (u 0 0) ∧ gI wK 16 0 13 = nI (u 0 1) ∧ gI wK 16 0 14 = nI (u 0 2) ∧ gI wK 16 0 15 = nI (u 0 3) ∧ gI wK 16 0 16 = nI (u 0 6) ∧ gI wK 16 0 17 = nI (u 0 4) ∧ gI wK 16 0 18 = nI (u 26 0) ∧ gI wK 16 0 19 = nI (u 0 7) := by
  have F : ∀ j c, (16, j, c) ∈ dFm → gI w 16 0 j = nI (u 0 c) := fun j c h => D.2.1 (16, j, c) h
  have e20 := F 20 0 (by decide)
  have e21 := F 21 1 (by decide)
  have e22 := F 22 2 (by decide)
  have e23 := F 23 3 (by decide)
  have e24 := F 24 6 (by decide)
  have e25 := F 25 4 (by decide)
  have e26 := D.2.2.2.1.1
  have e27 := F 27 7 (by decide)
  have g0 : gI w 16 0 20 = (nI (u 0 0)) := by exact e20
  have g1 : gI (setI w 16 0 12 (nI (u 0 0))) 16 0 21 = (nI (u 0 1)) := by rw [gg_I, if_neg (by omega)]; exact e21
  have g2 : gI (setI (setI w 16 0 12 (nI (u 0 0))) 16 0 13 (nI (u 0 1))) 16 0 22 = (nI (u 0 2)) := by rw [gg_I, if_neg (by omega), gg_I, if_neg (by omega)]; exact e22
  have g3 : gI (setI (setI (setI w 16 0 12 (nI (u 0 0))) 16 0 13 (nI (u 0 1))) 16 0 14 (nI (u 0 2))) 16 0 23 = (nI (u 0 3)) := by rw [gg_I, if_neg (by omega), gg_I, if_neg (by omega), gg_I, if_neg (by omega)]; exact e23
  have g4 : gI (setI (setI (setI (setI w 16 0 12 (nI (u 0 0))) 16 0 13 (nI (u 0 1))) 16 0 14 (nI (u 0 2))) 16 0 15 (nI (u 0 3))) 16 0 24 = (nI (u 0 6)) := by rw [gg_I, if_neg (by omega), gg_I, if_neg (by omega), gg_I, if_neg (by omega), gg_I, if_neg (by omega)]; exact e24
  have g5 : gI (setI (setI (setI (setI (setI w 16 0 12 (nI (u 0 0))) 16 0 13 (nI (u 0 1))) 16 0 14 (nI (u 0 2))) 16 0 15 (nI (u 0 3))) 16 0 16 (nI (u 0 6))) 16 0 25 = (nI (u 0 4)) := by rw [gg_I, if_neg (by omega), gg_I, if_neg (by omega), gg_I, if_neg (by omega), gg_I, if_neg (by omega), gg_I, if_neg (by omega)]; exact e25
  have g6 : gI (setI (setI (setI (setI (setI (setI w 16 0 12 (nI (u 0 0))) 16 0 13 (nI (u 0 1))) 16 0 14 (nI (u 0 2))) 16 0 15 (nI (u 0 3))) 16 0 16 (nI (u 0 6))) 16 0 17 (nI (u 0 4))) 16 0 26 = (nI (u 26 0)) := by rw [gg_I, if_neg (by omega), gg_I, if_neg (by omega), gg_I, if_neg (by omega), gg_I, if_neg (by omega), gg_I, if_neg (by omega), gg_I, if_neg (by omega)]; exact e26
  have g7 : gI (setI (setI (setI (setI (setI (setI (setI w 16 0 12 (nI (u 0 0))) 16 0 13 (nI (u 0 1))) 16 0 14 (nI (u 0 2))) 16 0 15 (nI (u 0 3))) 16 0 16 (nI (u 0 6))) 16 0 17 (nI (u 0 4))) 16 0 18 (nI (u 26 0))) 16 0 27 = (nI (u 0 7)) := by rw [gg_I, if_neg (by omega), gg_I, if_neg (by omega), gg_I, if_neg (by omega), gg_I, if_neg (by omega), gg_I, if_neg (by omega), gg_I, if_neg (by omega), gg_I, if_neg (by omega)]; exact e27
  have fF : Fr [17012, 17013, 17014, 17015, 17016, 17017, 17018, 17019] w (setI (setI (setI (setI (setI (setI (setI (setI w 16 0 12 (nI (u 0 0))) 16 0 13 (nI (u 0 1))) 16 0 14 (nI (u 0 2))) 16 0 15 (nI (u 0 3))) 16 0 16 (nI (u 0 6))) 16 0 17 (nI (u 0 4))) 16 0 18 (nI (u 26 0))) 16 0 19 (nI (u 0 7))) := Fr_setI (Fr_setI (Fr_setI (Fr_setI (Fr_setI (Fr_setI (Fr_setI (Fr_setI (Fr_refl _ _) rfl) rfl) rfl) rfl) rfl) rfl) rfl) rfl
  have v0 : gI (setI (setI (setI (setI (setI (setI (setI (setI w 16 0 12 (nI (u 0 0))) 16 0 13 (nI (u 0 1))) 16 0 14 (nI (u 0 2))) 16 0 15 (nI (u 0 3))) 16 0 16 (nI (u 0 6))) 16 0 17 (nI (u 0 4))) 16 0 18 (nI (u 26 0))) 16 0 19 (nI (u 0 7))) 16 0 12 = (nI (u 0 0)) := by rw [gg_I, if_neg (by omega), gg_I, if_neg (by omega), gg_I, if_neg (by omega), gg_I, if_neg (by omega), gg_I, if_neg (by omega), gg_I, if_neg (by omega), gg_I, if_neg (by omega), gg_I, if_pos ⟨rfl, rfl, rfl⟩]
  have v1 : gI (setI (setI (setI (setI (setI (setI (setI (setI w 16 0 12 (nI (u 0 0))) 16 0 13 (nI (u 0 1))) 16 0 14 (nI (u 0 2))) 16 0 15 (nI (u 0 3))) 16 0 16 (nI (u 0 6))) 16 0 17 (nI (u 0 4))) 16 0 18 (nI (u 26 0))) 16 0 19 (nI (u 0 7))) 16 0 13 = (nI (u 0 1)) := by rw [gg_I, if_neg (by omega), gg_I, if_neg (by omega), gg_I, if_neg (by omega), gg_I, if_neg (by omega), gg_I, if_neg (by omega), gg_I, if_neg (by omega), gg_I, if_pos ⟨rfl, rfl, rfl⟩]
  have v2 : gI (setI (setI (setI (setI (setI (setI (setI (setI w 16 0 12 (nI (u 0 0))) 16 0 13 (nI (u 0 1))) 16 0 14 (nI (u 0 2))) 16 0 15 (nI (u 0 3))) 16 0 16 (nI (u 0 6))) 16 0 17 (nI (u 0 4))) 16 0 18 (nI (u 26 0))) 16 0 19 (nI (u 0 7))) 16 0 14 = (nI (u 0 2)) := by rw [gg_I, if_neg (by omega), gg_I, if_neg (by omega), gg_I, if_neg (by omega), gg_I, if_neg (by omega), gg_I, if_neg (by omega), gg_I, if_pos ⟨rfl, rfl, rfl⟩]
  have v3 : gI (setI (setI (setI (setI (setI (setI (setI (setI w 16 0 12 (nI (u 0 0))) 16 0 13 (nI (u 0 1))) 16 0 14 (nI (u 0 2))) 16 0 15 (nI (u 0 3))) 16 0 16 (nI (u 0 6))) 16 0 17 (nI (u 0 4))) 16 0 18 (nI (u 26 0))) 16 0 19 (nI (u 0 7))) 16 0 15 = (nI (u 0 3)) := by rw [gg_I, if_neg (by omega), gg_I, if_neg (by omega), gg_I, if_neg (by omega), gg_I, if_neg (by omega), gg_I, if_pos ⟨rfl, rfl, rfl⟩]
  have v4 : gI (setI (setI (setI (setI (setI (setI (setI (setI w 16 0 12 (nI (u 0 0))) 16 0 13 (nI (u 0 1))) 16 0 14 (nI (u 0 2))) 16 0 15 (nI (u 0 3))) 16 0 16 (nI (u 0 6))) 16 0 17 (nI (u 0 4))) 16 0 18 (nI (u 26 0))) 16 0 19 (nI (u 0 7))) 16 0 16 = (nI (u 0 6)) := by rw [gg_I, if_neg (by omega), gg_I, if_neg (by omega), gg_I, if_neg (by omega), gg_I, if_pos ⟨rfl, rfl, rfl⟩]
  have v5 : gI (setI (setI (setI (setI (setI (setI (setI (setI w 16 0 12 (nI (u 0 0))) 16 0 13 (nI (u 0 1))) 16 0 14 (nI (u 0 2))) 16 0 15 (nI (u 0 3))) 16 0 16 (nI (u 0 6))) 16 0 17 (nI (u 0 4))) 16 0 18 (nI (u 26 0))) 16 0 19 (nI (u 0 7))) 16 0 17 = (nI (u 0 4)) := by rw [gg_I, if_neg (by omega), gg_I, if_neg (by omega), gg_I, if_pos ⟨rfl, rfl, rfl⟩]
  have v6 : gI (setI (setI (setI (setI (setI (setI (setI (setI w 16 0 12 (nI (u 0 0))) 16 0 13 (nI (u 0 1))) 16 0 14 (nI (u 0 2))) 16 0 15 (nI (u 0 3))) 16 0 16 (nI (u 0 6))) 16 0 17 (nI (u 0 4))) 16 0 18 (nI (u 26 0))) 16 0 19 (nI (u 0 7))) 16 0 18 = (nI (u 26 0)) := by rw [gg_I, if_neg (by omega), gg_I, if_pos ⟨rfl, rfl, rfl⟩]
  have v7 : gI (setI (setI (setI (setI (setI (setI (setI (setI w 16 0 12 (nI (u 0 0))) 16 0 13 (nI (u 0 1))) 16 0 14 (nI (u 0 2))) 16 0 15 (nI (u 0 3))) 16 0 16 (nI (u 0 6))) 16 0 17 (nI (u 0 4))) 16 0 18 (nI (u 26 0))) 16 0 19 (nI (u 0 7))) 16 0 19 = (nI (u 0 7)) := by rw [gg_I, if_pos ⟨rfl, rfl, rfl⟩]
  have c0 : CPy [] w (setI (setI (setI (setI (setI (setI (setI (setI w 16 0 12 (nI (u 0 0))) 16 0 13 (nI (u 0 1))) 16 0 14 (nI (u 0 2))) 16 0 15 (nI (u 0 3))) 16 0 16 (nI (u 0 6))) 16 0 17 (nI (u 0 4))) 16 0 18 (nI (u 26 0))) 16 0 19 (nI (u 0 7))) := fun kk h1 h2 => ⟨fun h => absurd h (by simp), fun _ j => by rw [(fF kk 0 j (by
    have : ky kk j = kk := by unfold ky; rw [if_neg (by omega)]
    rw [this]
    simp only [List.contains_cons, List.contains_nil, Bool.or_false, Bool.or_eq_false_iff, beq_eq_false_iff_ne]
    omega)).1]⟩
  generalize hwF : (setI (setI (setI (setI (setI (setI (setI (setI w 16 0 12 (nI (u 0 0))) 16 0 13 (nI (u 0 1))) 16 0 14 (nI (u 0 2))) 16 0 15 (nI (u 0 3))) 16 0 16 (nI (u 0 6))) 16 0 17 (nI (u 0 4))) 16 0 18 (nI (u 26 0))) 16 0 19 (nI (u 0 7))) = wF at fF c0 v0 v1 v2 v3 v4 v5 v6 v7
  obtain ⟨x75, y75, c75, f75⟩ := m_copies (N := N) (kk := 75) hN (by omega) (by omega) rfl (by decide) c0 (by decide)
  have y75 : pX12_copies N 75 0 (8 : Int32) wF = some x75 := y75
  obtain ⟨x76, y76, c76, f76⟩ := m_copies (N := N) (kk := 76) hN (by omega) (by omega) rfl (by decide) c75 (by decide)
  have y76 : pX12_copies N 76 0 (8 : Int32) x75 = some x76 := y76
  obtain ⟨x77, y77, c77, f77⟩ := m_copies (N := N) (kk := 77) hN (by omega) (by omega) rfl (by decide) c76 (by decide)
  have y77 : pX12_copies N 77 0 (8 : Int32) x76 = some x77 := y77
  obtain ⟨x78, y78, c78, f78⟩ := m_copies (N := N) (kk := 78) hN (by omega) (by omega) rfl (by decide) c77 (by decide)
  have y78 : pX12_copies N 78 0 (6 : Int32) x77 = some x78 := y78
  obtain ⟨x79, y79, c79, f79⟩ := m_copies (N := N) (kk := 79) hN (by omega) (by omega) rfl (by decide) c78 (by decide)
  have y79 : pX12_copies N 79 0 (6 : Int32) x78 = some x79 := y79
  obtain ⟨x80, y80, c80, f80⟩ := m_copies (N := N) (kk := 80) hN (by omega) (by omega) rfl (by decide) c79 (by decide)
  have y80 : pX12_copies N 80 0 (6 : Int32) x79 = some x80 := y80
  obtain ⟨x81, y81, c81, f81⟩ := m_copies (N := N) (kk := 81) hN (by omega) (by omega) rfl (by decide) c80 (by decide)
  have y81 : pX12_copies N 81 0 (6 : Int32) x80 = some x81 := y81
  obtain ⟨x82, y82, c82, f82⟩ := m_copies (N := N) (kk := 82) hN (by omega) (by omega) rfl (by decide) c81 (by decide)
  have y82 : pX12_copies N 82 0 (6 : Int32) x81 = some x82 := y82
  obtain ⟨x83, y83, c83, f83⟩ := m_copies (N := N) (kk := 83) hN (by omega) (by omega) rfl (by decide) c82 (by decide)
  have y83 : pX12_copies N 83 0 (6 : Int32) x82 = some x83 := y83
  obtain ⟨x84, y84, c84, f84⟩ := m_copies (N := N) (kk := 84) hN (by omega) (by omega) rfl (by decide) c83 (by decide)
  have y84 : pX12_copies N 84 0 (8 : Int32) x83 = some x84 := y84
  obtain ⟨x85, y85, c85, f85⟩ := m_copies (N := N) (kk := 85) hN (by omega) (by omega) rfl (by decide) c84 (by decide)
  have y85 : pX12_copies N 85 0 (8 : Int32) x84 = some x85 := y85
  obtain ⟨x86, y86, c86, f86⟩ := m_copies (N := N) (kk := 86) hN (by omega) (by omega) rfl (by decide) c85 (by decide)
  have y86 : pX12_copies N 86 0 (8 : Int32) x85 = some x86 := y86
  obtain ⟨x87, y87, c87, f87⟩ := m_copies (N := N) (kk := 87) hN (by omega) (by omega) rfl (by decide) c86 (by decide)
  have y87 : pX12_copies N 87 0 (8 : Int32) x86 = some x87 := y87
  obtain ⟨x88, y88, c88, f88⟩ := m_copies (N := N) (kk := 88) hN (by omega) (by omega) rfl (by decide) c87 (by decide)
  have y88 : pX12_copies N 88 0 (14 : Int32) x87 = some x88 := y88
  obtain ⟨x89, y89, c89, f89⟩ := m_copies (N := N) (kk := 89) hN (by omega) (by omega) rfl (by decide) c88 (by decide)
  have y89 : pX12_copies N 89 0 (12 : Int32) x88 = some x89 := y89
  obtain ⟨x90, y90, c90, f90⟩ := m_copies (N := N) (kk := 90) hN (by omega) (by omega) rfl (by decide) c89 (by decide)
  have y90 : pX12_copies N 90 0 (12 : Int32) x89 = some x90 := y90
  have t91 : ∀ a, a < 2 → gI x90 91 0 (2 + a) = zB (decide (0 < u 20 a)) := fun a ha => by rw [(c90 91 (by omega) (by omega)).2 (by decide)]; exact D.2.2.2.2.1 a ha
  have l0 : ldI x90 91 0 ((2 : Int32) + (0 : Int32)) 4 = some (zB (decide (0 < u 20 0))) := by rw [show (2 : Int32) + (0 : Int32) = nI 2 by decide, ldn (by omega) (by omega), t91 0 (by omega)]
  have s0 : stI x90 91 0 (0 : Int32) 4 (zB (decide (0 < u 20 0)) &&& 1) = some (setI x90 91 0 0 (zB (decide (0 < u 20 0)))) := by rw [zB_and]; exact stn (j := 0) (by omega) (by omega)
  have l1 : ldI (setI x90 91 0 0 (zB (decide (0 < u 20 0)))) 91 0 ((2 : Int32) + (1 : Int32)) 4 = some (zB (decide (0 < u 20 1))) := by rw [show (2 : Int32) + (1 : Int32) = nI 3 by decide, ldn (by omega) (by omega), gg_I, if_neg (by omega)]; exact congrArg some (t91 1 (by omega))
  have s1 : stI (setI x90 91 0 0 (zB (decide (0 < u 20 0)))) 91 0 (1 : Int32) 4 (zB (decide (0 < u 20 1)) &&& 1) = some (setI (setI x90 91 0 0 (zB (decide (0 < u 20 0)))) 91 0 1 (zB (decide (0 < u 20 1)))) := by rw [zB_and]; exact stn (j := 1) (by omega) (by omega)
  have f91 : Fr [91] x90 (setI (setI x90 91 0 0 (zB (decide (0 < u 20 0)))) 91 0 1 (zB (decide (0 < u 20 1)))) := Fr_setI (Fr_setI (Fr_refl _ _) rfl) rfl
  have c91 : CPy [91, 90, 89, 88, 87, 86, 85, 84, 83, 82, 81, 80, 79, 78, 77, 76, 75] w (setI (setI x90 91 0 0 (zB (decide (0 < u 20 0)))) 91 0 1 (zB (decide (0 < u 20 1)))) := fun q h1 h2 => by
    by_cases y : q = 91
    · subst y
      have old := (c90 91 (by omega) (by omega)).2 (by decide)
      refine ⟨fun _ => ⟨fun j hj => ?_, fun j hj => ?_⟩, fun h => absurd h (by decide)⟩
      · have hj2 : j < 2 := hj
        have : j = 0 ∨ j = 1 := by omega
        rcases this with rfl | rfl
        · rw [gg_I, if_neg (by omega), gg_I, if_pos ⟨rfl, rfl, rfl⟩, ← t91 0 (by omega), old]; rfl
        · rw [gg_I, if_pos ⟨rfl, rfl, rfl⟩, ← t91 1 (by omega), old]; rfl
      · have hj2 : 2 ≤ j := hj
        rw [gg_I, if_neg (by omega), gg_I, if_neg (by omega), old]
    · have e : ∀ j, gI (setI (setI x90 91 0 0 (zB (decide (0 < u 20 0)))) 91 0 1 (zB (decide (0 < u 20 1)))) q 0 j = gI x90 q 0 j := fun j => by rw [gg_I, if_neg (fun z => y z.1), gg_I, if_neg (fun z => y z.1)]
      have hcn : ([91, 90, 89, 88, 87, 86, 85, 84, 83, 82, 81, 80, 79, 78, 77, 76, 75] : List Nat).contains q = [90, 89, 88, 87, 86, 85, 84, 83, 82, 81, 80, 79, 78, 77, 76, 75].contains q := by
        rw [List.contains_cons, beq_eq_false_iff_ne.mpr y, Bool.false_or]
      rw [hcn]
      exact ⟨fun h => ⟨fun j hj => by rw [e]; exact ((c90 q h1 h2).1 h).1 j hj, fun j hj => by rw [e]; exact ((c90 q h1 h2).1 h).2 j hj⟩, fun h j => by rw [e]; exact (c90 q h1 h2).2 h j⟩
  have e98 : fX12_keepText_98 N N (fX12_keepText_113 N) (0 : Int32) x90 = fX12_keepText_113 N (setI (setI x90 91 0 0 (zB (decide (0 < u 20 0)))) 91 0 1 (zB (decide (0 < u 20 1)))) := by
    obtain ⟨z, rfl⟩ : ∃ z, N = z + 1 + 1 + 1 := ⟨N - 3, by omega⟩
    have q0 : ((0 : Int32) < (2 : Int32)) = True := eq_true (by decide)
    have q1 : ((1 : Int32) < (2 : Int32)) = True := eq_true (by decide)
    have q2 : ((2 : Int32) < (2 : Int32)) = False := eq_false (by decide)
    have a0 : (0 : Int32) + (1 : Int32) = (1 : Int32) := by decide
    have a1 : (1 : Int32) + (1 : Int32) = (2 : Int32) := by decide
    generalize fX12_keepText_113 (z + 1 + 1 + 1) = KK
    rw [fX12_keepText_98]
    simp only [↓q0, ↓bnd l0, ↓bnd s0, ↓a0, ↓reduceIte, callW_eq]
    rw [fX12_keepText_98]
    simp only [↓q1, ↓bnd l1, ↓bnd s1, ↓a1, ↓reduceIte, callW_eq]
    rw [fX12_keepText_98]
    simp only [↓q2, ↓reduceIte]
  generalize hx91 : setI (setI x90 91 0 0 (zB (decide (0 < u 20 0)))) 91 0 1 (zB (decide (0 < u 20 1))) = x91 at f91 c91 e98
  obtain ⟨x92, y92, c92, f92⟩ := m_copies (N := N) (kk := 92) hN (by omega) (by omega) rfl (by decide) c91 (by decide)
  have y92 : pX12_copies N 92 0 (2 : Int32) x91 = some x92 := y92
  obtain ⟨x93, y93, c93, f93⟩ := m_copies (N := N) (kk := 93) hN (by omega) (by omega) rfl (by decide) c92 (by decide)
  have y93 : pX12_copies N 93 0 (2 : Int32) x92 = some x93 := y93
  obtain ⟨x94, y94, c94, f94⟩ := m_copies (N := N) (kk := 94) hN (by omega) (by omega) rfl (by decide) c93 (by decide)
  have y94 : pX12_copies N 94 0 (64 : Int32) x93 = some x94 := y94
  obtain ⟨x95, y95, c95, f95⟩ := m_copies (N := N) (kk := 95) hN (by omega) (by omega) rfl (by decide) c94 (by decide)
  have y95 : pX12_copies N 95 0 (64 : Int32) x94 = some x95 := y95
  obtain ⟨x96, y96, c96, f96⟩ := m_copies (N := N) (kk := 96) hN (by omega) (by omega) rfl (by decide) c95 (by decide)
  have y96 : pX12_copies N 96 0 (64 : Int32) x95 = some x96 := y96
  have G : Fr kKp w x96 := Fr_trans (Fr_mono fF rfl) (Fr_trans (Fr_mono f75 rfl) (Fr_trans (Fr_mono f76 rfl) (Fr_trans (Fr_mono f77 rfl) (Fr_trans (Fr_mono f78 rfl) (Fr_trans (Fr_mono f79 rfl) (Fr_trans (Fr_mono f80 rfl) (Fr_trans (Fr_mono f81 rfl) (Fr_trans (Fr_mono f82 rfl) (Fr_trans (Fr_mono f83 rfl) (Fr_trans (Fr_mono f84 rfl) (Fr_trans (Fr_mono f85 rfl) (Fr_trans (Fr_mono f86 rfl) (Fr_trans (Fr_mono f87 rfl) (Fr_trans (Fr_mono f88 rfl) (Fr_trans (Fr_mono f89 rfl) (Fr_trans (Fr_mono f90 rfl) (Fr_trans (Fr_mono f91 rfl) (Fr_trans (Fr_mono f92 rfl) (Fr_trans (Fr_mono f93 rfl) (Fr_trans (Fr_mono f94 rfl) (Fr_trans (Fr_mono f95 rfl) (Fr_mono f96 rfl))))))))))))))))))))))
  have H : ∀ j, gI x96 16 0 j = gI wF 16 0 j := fun j => by rw [(f96 16 0 j (by show ([96] : List Nat).contains (17000 + j) = false; simp; omega)).1, (f95 16 0 j (by show ([95] : List Nat).contains (17000 + j) = false; simp; omega)).1, (f94 16 0 j (by show ([94] : List Nat).contains (17000 + j) = false; simp; omega)).1, (f93 16 0 j (by show ([93] : List Nat).contains (17000 + j) = false; simp; omega)).1, (f92 16 0 j (by show ([92] : List Nat).contains (17000 + j) = false; simp; omega)).1, (f91 16 0 j (by show ([91] : List Nat).contains (17000 + j) = false; simp; omega)).1, (f90 16 0 j (by show ([90] : List Nat).contains (17000 + j) = false; simp; omega)).1, (f89 16 0 j (by show ([89] : List Nat).contains (17000 + j) = false; simp; omega)).1, (f88 16 0 j (by show ([88] : List Nat).contains (17000 + j) = false; simp; omega)).1, (f87 16 0 j (by show ([87] : List Nat).contains (17000 + j) = false; simp; omega)).1, (f86 16 0 j (by show ([86] : List Nat).contains (17000 + j) = false; simp; omega)).1, (f85 16 0 j (by show ([85] : List Nat).contains (17000 + j) = false; simp; omega)).1, (f84 16 0 j (by show ([84] : List Nat).contains (17000 + j) = false; simp; omega)).1, (f83 16 0 j (by show ([83] : List Nat).contains (17000 + j) = false; simp; omega)).1, (f82 16 0 j (by show ([82] : List Nat).contains (17000 + j) = false; simp; omega)).1, (f81 16 0 j (by show ([81] : List Nat).contains (17000 + j) = false; simp; omega)).1, (f80 16 0 j (by show ([80] : List Nat).contains (17000 + j) = false; simp; omega)).1, (f79 16 0 j (by show ([79] : List Nat).contains (17000 + j) = false; simp; omega)).1, (f78 16 0 j (by show ([78] : List Nat).contains (17000 + j) = false; simp; omega)).1, (f77 16 0 j (by show ([77] : List Nat).contains (17000 + j) = false; simp; omega)).1, (f76 16 0 j (by show ([76] : List Nat).contains (17000 + j) = false; simp; omega)).1, (f75 16 0 j (by show ([75] : List Nat).contains (17000 + j) = false; simp; omega)).1]
  refine ⟨x96, ?_, G, c96, by rw [H]; exact v0, by rw [H]; exact v1, by rw [H]; exact v2, by rw [H]; exact v3, by rw [H]; exact v4, by rw [H]; exact v5, by rw [H]; exact v6, by rw [H]; exact v7⟩
  simp only [pX12_keepText, g0, g1, g2, g3, g4, g5, g6, g7, hwF]
  simp only [↓cbnd y75, ↓cbnd y76, ↓cbnd y77, ↓cbnd y78, ↓cbnd y79, ↓cbnd y80, ↓cbnd y81, ↓cbnd y82, ↓cbnd y83, ↓cbnd y84, ↓cbnd y85, ↓cbnd y86, ↓cbnd y87, ↓cbnd y88, ↓cbnd y89, ↓cbnd y90]
  rw [callW_eq, e98]
  simp only [fX12_keepText_113, ↓cbnd y92, ↓cbnd y93, ↓cbnd y94, ↓cbnd y95, ↓cbnd y96]
  rw [callW_eq]
end

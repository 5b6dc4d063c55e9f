/-! ===== the start: nothing told ===== -/
def u00 : Vw := fun _ _ => 0
theorem WU_z : WU u00 := ⟨⟨by decide, by decide, by decide, by decide, by decide, by decide, by decide⟩, fun r j _ hj => absurd hj (Nat.not_lt_zero j), ⟨fun j => Nat.two_pow_pos _, fun a c => by show (0 : Nat).testBit c = (0 : Nat).testBit a; simp⟩, ⟨by decide, by decide, by decide⟩, fun a ha => Nat.zero_le _, fun a j ha hj => absurd hj (Nat.not_lt_zero j), fun a ha => ⟨fun j hj => absurd hj (Nat.not_lt_zero j), fun h => absurd h (Nat.lt_irrefl 0)⟩⟩
theorem vT_00 : vT u00 = fun _ _ => 0 := by
  funext r j
  unfold vT u00
  repeat' split
  all_goals first | rfl | (rename_i h; exact absurd h.1 (Nat.not_lt_zero _))
theorem WF_00 : WF (fun _ _ => 0) := vT_00 ▸ WF_vT WU_z
theorem WL_00 : WL (fun _ _ => 0) := vT_00 ▸ WL_vT WU_z
/-! ===== the start: the words of Tokens ===== -/
section
variable {N : Nat} {w w' w0 w1 : Wd} {d i : Nat}
def lWL : List Nat := [112, 97, 114, 116, 32, 98, 101, 115, 105, 100, 101, 32, 112, 101, 114, 115, 111, 110, 32, 107, 110, 111, 119, 115, 32, 99, 111, 115, 116, 32, 102, 114, 111, 109, 32, 116, 105, 108, 108, 32, 102, 111, 114, 103, 101, 116, 32, 112, 97, 114, 116, 121, 32, 119, 101, 97, 116, 104, 101, 114, 32, 115, 108, 105, 100, 101, 32, 110, 101, 97, 114, 32, 115, 101, 101, 100, 32, 108, 97, 119, 32, 111, 117, 116, 32, 112, 105, 99, 107, 32, 111, 114, 32, 97, 110, 100, 32, 110, 111, 116, 32, 111, 100, 100, 115, 32, 97, 114, 111, 117, 110, 100, 32, 116, 105, 109, 101, 115, 32, 119, 97, 110, 116, 101, 100, 32, 110, 105, 103, 104, 116, 32]
def tAL : List Nat := [0, 0, 0, 0, 0, 1, 1, 1, 1, 1, 1, 1, 2, 2, 2, 2, 2, 2, 2, 3, 3, 3, 3, 3, 3, 4, 4, 4, 4, 4, 5, 5, 5, 5, 5, 6, 6, 6, 6, 6, 7, 7, 7, 7, 7, 7, 7, 8, 8, 8, 8, 8, 8, 9, 9, 9, 9, 9, 9, 9, 9, 10, 10, 10, 10, 10, 10, 11, 11, 11, 11, 11, 12, 12, 12, 12, 12, 13, 13, 13, 13, 14, 14, 14, 14, 15, 15, 15, 15, 15, 16, 16, 16, 17, 17, 17, 17, 18, 18, 18, 18, 19, 19, 19, 19, 19, 20, 20, 20, 20, 20, 20, 20, 21, 21, 21, 21, 21, 21, 22, 22, 22, 22, 22, 22, 22, 23, 23, 23, 23, 23, 23, 24]
def tPL : List Nat := [0, 16, 513, 16434, 525908, 0, 2, 69, 2227, 71273, 2280740, 72983685, 0, 16, 517, 16562, 530003, 16960111, 542723566, 0, 11, 366, 11727, 375287, 12009203, 0, 3, 111, 3571, 114292, 0, 6, 210, 6735, 215533, 0, 20, 649, 20780, 664972, 0, 6, 207, 6642, 212551, 6801637, 217652404, 0, 16, 513, 16434, 525908, 16829081, 0, 23, 741, 23713, 758836, 24282760, 777048325, 24865546418, 0, 19, 620, 19849, 635172, 20325509, 0, 14, 453, 14497, 463922, 0, 19, 613, 19621, 627876, 0, 12, 385, 12343, 0, 15, 501, 16052, 0, 16, 521, 16675, 533611, 0, 15, 498, 0, 1, 46, 1476, 0, 14, 463, 14836, 0, 15, 484, 15492, 495763, 0, 1, 50, 1615, 51701, 1654446, 52942276, 0, 20, 649, 20781, 664997, 21279923, 0, 23, 737, 23598, 755156, 24164997, 773279908, 0, 14, 457, 14631, 468200, 14982420, 0]
def tkW (b : Nat) : Nat := lWL.getD b 0
def tkA (b : Nat) : Nat := tAL.getD b 0
def tkP (b : Nat) : Nat := tPL.getD b 0
theorem tk_ok : ∀ b, b < 132 → (tkA b < 24 ∧ tkW b < 128) ∧ (strB.getD 1 []).getD b 0 = nI (tkW b) ∧ (tkW b = 32 → tkA (b + 1) = tkA b + 1 ∧ tkP b = wlL.getD (tkA b) 0 ∧ tkP (b + 1) = 0) ∧ (tkW b ≠ 32 → tkA (b + 1) = tkA b) := by decide +kernel
theorem tk_x : ∀ b, b < 132 → tkW b ≠ 32 → (lN (tkP b) <<< ((5 : Int32).toInt64 &&& (63 : Int64))) ||| ((nI (tkW b) - (97 : Int32)) + (1 : Int32)).toInt64 = lN (tkP (b + 1)) := by decide +kernel
def tkV (b i : Nat) : Nat := if i < tkA b then wlL.getD i 0 else if i = tkA b then tkP b else 0
theorem ca1 {b : Nat} (hb : b < 132) (w : Wd) : pJ0_charAt N 1 (nI b) w = some (nI (tkW b), w) := by
  have e : ¬ (nI b < 0 ∨ strL.getD 1 0 ≤ (nI b).toNatClampNeg) := nI_in (c := b) (N := 132) hb (by decide)
  unfold pJ0_charAt
  rw [if_pos (by decide), if_neg e, nI_clamp (by omega), (tk_ok b hb).2.1]
theorem tok_loop : ∀ r b fuel w, b + r = 132 → r < fuel → (∀ i, i < 24 → gL w 67 0 i = lN (tkV b i)) → Fr [67] w0 w → Ok (fX10_init_4 N fuel (nI (tkA b)) (nI b) w) (fun w' => Fr [67] w0 w' ∧ ∀ j, j < 24 → gL w' 67 0 j = lN (wlL.getD j 0)) := by
  have gl : ∀ w, pJ0_length N 1 w = some (nI 132, w) := fun w => rfl
  intro r
  induction r with
  | zero =>
    intro b fuel w hc hf h f
    obtain ⟨z, rfl⟩ : ∃ z, fuel = z + 1 := ⟨fuel - 1, by omega⟩
    have e : b = 132 := by omega
    subst e
    have lt : (nI 132 < nI 132) = False := eq_false (by decide)
    have g := gl w
    simp only [fX10_init_4, ↓cbnd g, ↓lt, ↓reduceIte]
    refine ok_some ⟨f, fun j hj => ?_⟩
    rw [h j hj]
    unfold tkV
    rw [if_pos (show j < tkA 132 from hj)]
  | succ r ih =>
    intro b fuel w hc hf h f
    obtain ⟨z, rfl⟩ : ∃ z, fuel = z + 1 := ⟨fuel - 1, by omega⟩
    have hb : b < 132 := by omega
    obtain ⟨⟨k1, k2⟩, -, k4, k5⟩ := tk_ok b hb
    have lt : (nI b < nI 132) = True := eq_true ((nI_ltI (b := 132) (by omega) (by omega)).mpr (by omega))
    have lt2 : (nI (tkA b) < (24 : Int32)) = True := eq_true ((nI_ltI (b := 24) (by omega) (by omega)).mpr k1)
    have g := gl w
    have c := ca1 (N := N) hb w
    have e1 : nI (tkA b) + (1 : Int32) = nI (tkA b + 1) := nI_add _ 1
    have e2 : nI b + (1 : Int32) = nI (b + 1) := nI_add _ 1
    by_cases hz : tkW b = 32
    · obtain ⟨q1, q2, q3⟩ := k4 hz
      have q : (nI (tkW b) = (32 : Int32)) = True := eq_true (by rw [hz]; rfl)
      simp only [fX10_init_4, ↓cbnd g, ↓lt, ↓lt2, ↓cbnd c, ↓q, ↓e1, ↓e2, ↓reduceIte, callW_eq]
      rw [← q1]
      refine ih (b + 1) z w (by omega) (by omega) (fun i hi => ?_) f
      rw [h i hi]
      congr 1
      unfold tkV
      rw [q1, q3]
      by_cases y : i < tkA b
      · rw [if_pos y, if_pos (show i < tkA b + 1 by omega)]
      · by_cases y2 : i = tkA b
        · rw [if_neg y, if_pos y2, if_pos (show i < tkA b + 1 by omega), q2, y2]
        · rw [if_neg y, if_neg y2, if_neg (show ¬ i < tkA b + 1 by omega)]
          split <;> rfl
    · have q1 := k5 hz
      have q : (nI (tkW b) = (32 : Int32)) = False := eq_false (fun y => hz (by
        have := (nI_eq (a := tkW b) (b := 32) (by omega) (by omega)).mp y
        exact this))
      have hv : gL w 67 0 (tkA b) = lN (tkP b) := by
        rw [h _ k1]
        unfold tkV
        rw [if_neg (by omega), if_pos rfl]
      have l : ldL w 67 0 (nI (tkA b)) 24 = some (lN (tkP b)) := by rw [ldLn k1 (by omega), hv]
      have s : stL w 67 0 (nI (tkA b)) 24 ((lN (tkP b) <<< ((5 : Int32).toInt64 &&& (63 : Int64))) ||| ((nI (tkW b) - (97 : Int32)) + (1 : Int32)).toInt64) = some (setL w 67 0 (tkA b) (lN (tkP (b + 1)))) := by
        rw [tk_x b hb hz]
        exact stLn k1 (by omega)
      simp only [fX10_init_4, ↓cbnd g, ↓lt, ↓lt2, ↓cbnd c, ↓q, ↓bnd l, ↓bnd s, ↓e2, ↓reduceIte, callW_eq]
      rw [← q1]
      refine ih (b + 1) z _ (by omega) (by omega) (fun i hi => ?_) (Fr_setL f rfl)
      rw [gg_L]
      unfold tkV
      rw [q1]
      by_cases y : i = tkA b
      · rw [if_pos ⟨rfl, rfl, y⟩, if_neg (by omega), if_pos y]
      · rw [if_neg (fun t => y t.2.2), h i hi]
        unfold tkV
        rw [if_neg y, if_neg y]
theorem c_tok (hN : 200 ≤ N) (h : ∀ j, j < 24 → gL w 67 0 j = 0) : Ok (pX10_init N w) (fun w' => Fr [67] w w' ∧ ∀ j, j < 24 → gL w' 67 0 j = lN (wlL.getD j 0)) := by
  unfold pX10_init
  rw [callW_eq, li0]
  refine tok_loop 132 0 N w (by omega) (by omega) (fun i hi => ?_) (Fr_refl _ _)
  rw [h i hi]
  unfold tkV
  rw [if_neg (show ¬ i < tkA 0 from Nat.not_lt_zero i)]
  split <;> rfl
/-! a stand begins on a moor without anything -/
theorem c_zbegin (hN : 100 ≤ N) (hi : i ≤ 2) (h49 : ∀ p, p < 6 → gI w 49 d p = nI 0) (h12 : gI w 8 d 12 = nI 0) (h16 : gI w 8 d 16 = nI 0) : Ok (pX9_begin N i d w) (fun w' => Fr kBg w w' ∧ gR w' 13 i 0 = d ∧ gL w' 13 i 2 = (nI 0).toInt64 ∧ gI w' 13 i 1 = nI 0 ∧ gI w' 13 i 3 = nI 0 ∧ gI w' 13 i 7 = nI 0) := by
  have e16 : gI (setI (setR w 13 i 0 d) 13 i 1 (0 : Int32)) 8 d 16 = nI 0 := by rw [gg_I, if_neg (by omega), gg_IR]; exact h16
  unfold pX9_begin
  rw [callW_eq, e16, li0]
  have f1 : Fr kBg w (setI (setL (setI (setR w 13 i 0 d) 13 i 1 (nI 0)) 13 i 2 (nI 0).toInt64) 13 i 3 (nI 0)) := Fr_setI (Fr_setL (Fr_setI (Fr_setR (Fr_refl _ _) rfl) rfl) rfl) rfl
  have r0 : gR (setI (setL (setI (setR w 13 i 0 d) 13 i 1 (nI 0)) 13 i 2 (nI 0).toInt64) 13 i 3 (nI 0)) 13 i 0 = d := by rw [gg_RI, gg_RL, gg_RI, gg_R, if_pos ⟨rfl, rfl, rfl⟩]
  have l2 : gL (setI (setL (setI (setR w 13 i 0 d) 13 i 1 (nI 0)) 13 i 2 (nI 0).toInt64) 13 i 3 (nI 0)) 13 i 2 = (nI 0).toInt64 := by rw [gg_LI, gg_L, if_pos ⟨rfl, rfl, rfl⟩]
  have i1 : gI (setI (setL (setI (setR w 13 i 0 d) 13 i 1 (nI 0)) 13 i 2 (nI 0).toInt64) 13 i 3 (nI 0)) 13 i 1 = nI 0 := by rw [gg_I, if_neg (by omega), gg_IL, gg_I, if_pos ⟨rfl, rfl, rfl⟩]
  have i3 : gI (setI (setL (setI (setR w 13 i 0 d) 13 i 1 (nI 0)) 13 i 2 (nI 0).toInt64) 13 i 3 (nI 0)) 13 i 3 = nI 0 := by rw [gg_I, if_pos ⟨rfl, rfl, rfl⟩]
  generalize setI (setL (setI (setR w 13 i 0 d) 13 i 1 (nI 0)) 13 i 2 (nI 0).toInt64) 13 i 3 (nI 0) = w1 at f1 r0 l2 i1 i3
  refine c_bg16 (N := N) (w0 := w1) hN WU_z hi _ (fun p hp => ?_) (fun w2 f2 g2 => ?_) 6 0 N w1 (by omega) (by omega) (Fr_refl _ _) (fun p hp => absurd hp (Nat.not_lt_zero p))
  · rw [(f1 49 d p rfl).1, h49 p hp]
    unfold f25
    split <;> rfl
  unfold fX9_begin_57
  rw [callW_eq, li0]
  obtain ⟨z, rfl⟩ : ∃ z, N = z + 1 := ⟨N - 1, by omega⟩
  have e12 : gI (setI w2 13 i 7 (nI 0)) 8 d 12 = nI 0 := by rw [gg_I, if_neg (by omega), (f2 8 d 12 rfl).1, (f1 8 d 12 rfl).1, h12]
  have lt : (nI 0 < gI (setI w2 13 i 7 (nI 0)) 8 d 12) = False := eq_false (by rw [e12]; decide)
  simp only [fX9_begin_62, ↓lt, ↓reduceIte]
  have f3 : Fr [60, 62, 63, 14007] w1 (setI w2 13 i 7 (nI 0)) := Fr_setI (Fr_mono f2 rfl) rfl
  refine ok_some ⟨Fr_trans f1 (Fr_mono f3 rfl), ?_, ?_, ?_, ?_, ?_⟩
  · rw [(f3 13 i 0 rfl).2.2]; exact r0
  · rw [(f3 13 i 2 rfl).2.1]; exact l2
  · rw [(f3 13 i 1 rfl).1]; exact i1
  · rw [(f3 13 i 3 rfl).1]; exact i3
  · rw [gg_I, if_pos ⟨rfl, rfl, rfl⟩]
end

/-! ===== the reference's token, its kinds ===== -/
def sgL : List Nat := [59, 40, 41, 43, 45, 42, 47]
section
variable {N : Nat} {w w' : Wd} {b : Nat → Nat} {n : Nat}
def kdM (w : Wd) (K V : Nat) : Prop := (K < 24 → gI w 16 0 8 = (1 : Int32) ∧ gI w 16 0 9 = nI (wrL.getD K 0)) ∧ (K = 60 → gI w 16 0 8 = (0 : Int32)) ∧ (K = 61 → gI w 16 0 8 = (3 : Int32) ∧ gI w 16 0 9 = nI V) ∧ (K = 62 → gI w 16 0 8 = (2 : Int32) ∧ gI w 16 0 9 = nI V) ∧ (32 ≤ K → K ≤ 38 → gI w 16 0 8 = (4 : Int32) ∧ gI w 16 0 9 = nI (sgL.getD (K - 32) 0)) ∧ (39 ≤ K → K ≤ 44 → gI w 16 0 8 = (5 : Int32) ∧ gI w 16 0 9 = nI (K - 39)) ∧ (K = 50 → gI w 16 0 8 = (6 : Int32) ∨ (gI w 16 0 8 = (4 : Int32) ∧ gI w 16 0 9 = nI 37))
theorem kdM_word {K V : Nat} (h : K < 24) (h8 : gI w 16 0 8 = (1 : Int32)) (h9 : gI w 16 0 9 = nI (wrL.getD K 0)) : kdM w K V := ⟨fun _ => ⟨h8, h9⟩, fun z => by omega, fun z => by omega, fun z => by omega, fun z => by omega, fun z => by omega, fun z => by omega⟩
theorem kdM_end {K V : Nat} (h : K = 60) (h8 : gI w 16 0 8 = (0 : Int32)) : kdM w K V := ⟨fun z => by omega, fun _ => h8, fun z => by omega, fun z => by omega, fun z => by omega, fun z => by omega, fun z => by omega⟩
theorem kdM_num {K V : Nat} (h : K = 61) (h8 : gI w 16 0 8 = (3 : Int32)) (h9 : gI w 16 0 9 = nI V) : kdM w K V := ⟨fun z => by omega, fun z => by omega, fun _ => ⟨h8, h9⟩, fun z => by omega, fun z => by omega, fun z => by omega, fun z => by omega⟩
theorem kdM_name {K V : Nat} (h : K = 62) (h8 : gI w 16 0 8 = (2 : Int32)) (h9 : gI w 16 0 9 = nI V) : kdM w K V := ⟨fun z => by omega, fun z => by omega, fun z => by omega, fun _ => ⟨h8, h9⟩, fun z => by omega, fun z => by omega, fun z => by omega⟩
theorem kdM_sign {K V : Nat} (h : 32 ≤ K) (h' : K ≤ 38) (h8 : gI w 16 0 8 = (4 : Int32)) (h9 : gI w 16 0 9 = nI (sgL.getD (K - 32) 0)) : kdM w K V := ⟨fun z => by omega, fun z => by omega, fun z => by omega, fun z => by omega, fun _ _ => ⟨h8, h9⟩, fun z => by omega, fun z => by omega⟩
theorem kdM_cmp {K V : Nat} (h : 39 ≤ K) (h' : K ≤ 44) (h8 : gI w 16 0 8 = (5 : Int32)) (h9 : gI w 16 0 9 = nI (K - 39)) : kdM w K V := ⟨fun z => by omega, fun z => by omega, fun z => by omega, fun z => by omega, fun z z' => by omega, fun _ _ => ⟨h8, h9⟩, fun z => by omega⟩
theorem kdM_bad {K V : Nat} (h : K = 50) (h8 : gI w 16 0 8 = (6 : Int32) ∨ (gI w 16 0 8 = (4 : Int32) ∧ gI w 16 0 9 = nI 37)) : kdM w K V := ⟨fun z => by omega, fun z => by omega, fun z => by omega, fun z => by omega, fun z z' => by omega, fun z z' => by omega, fun _ => h8⟩
theorem kdM_fr {l : List Nat} {K V : Nat} (f : Fr l w w') (h : kdM w K V) (hl : dis l [17008, 17009] = true := by decide) : kdM w' K V := by
  unfold kdM
  rw [Fr_I f hl (k := 16) (j := 8) (by decide), Fr_I f hl (k := 16) (j := 9) (by decide)]
  exact h
/-- the sign behind -/
def s2 (b : Nat → Nat) (n i : Nat) : Nat := if i + 1 < n then b (i + 1) else 0
def sgE (i K : Nat) : Nat := if K = 40 ∨ K = 42 ∨ K = 43 then i + 2 else i + 1
def kSg : List Nat := [17007, 17008, 17009]

theorem n60_61 : (((60 : Int32)) = (61 : Int32)) = False := eq_false (by decide)
theorem n60_62 : (((60 : Int32)) = (62 : Int32)) = False := eq_false (by decide)
theorem n61_60 : (((61 : Int32)) = (60 : Int32)) = False := eq_false (by decide)
theorem n61_62 : (((61 : Int32)) = (62 : Int32)) = False := eq_false (by decide)
theorem n62_60 : (((62 : Int32)) = (60 : Int32)) = False := eq_false (by decide)
theorem n62_61 : (((62 : Int32)) = (61 : Int32)) = False := eq_false (by decide)
theorem n1_0 : ((1 : Int32) = 0) = False := eq_false (by decide)
theorem n0_0 : ((0 : Int32) = 0) = True := eq_true rfl
theorem n0_61 : ((0 : Int32) = (61 : Int32)) = False := eq_false (by decide)
theorem n0_62 : ((0 : Int32) = (62 : Int32)) = False := eq_false (by decide)
theorem m_sg25 (hM : BM w b n) {i c : Nat} (h7 : gI w 16 0 7 = nI (i + 1)) (hi : i < n) (hc : c = 60 ∨ c = 61 ∨ c = 62) (h9 : gI w 16 0 9 = nI c) : Ok (fX12_signToken_25 N w) (fun w' => Fr kSg w w' ∧ gI w' 16 0 7 = nI (sgE i (sgN c (s2 b n i))) ∧ gI w' 16 0 8 = (5 : Int32) ∧ gI w' 16 0 9 = nI (sgN c (s2 b n i) - 39)) := by
  have hn := hM.2.1
  have hs : s2 b n i < 256 := by
    unfold s2
    split
    · rename_i z; exact (hM.2.2 _ z).1
    · omega
  have e25 : fX12_signToken_25 N w = fX12_signToken_37 N (nI (s2 b n i)) w := by
    by_cases y : i + 1 < n
    · have lt : (gI w 16 0 7 < gI w 16 0 6) = True := eq_true (by rw [h7, hM.1]; exact (nI_ltI (by omega) (by omega)).mpr y)
      have l1 : ldI w 73 0 (gI w 16 0 7) 900 = some (nI (b (i + 1))) := by rw [h7, ldn (by omega) (by omega), (hM.2.2 _ y).2]
      simp only [fX12_signToken_25, ↓lt, ↓bnd l1, ↓reduceIte, callW_eq]
      rw [s2, if_pos y]
    · have lt : (gI w 16 0 7 < gI w 16 0 6) = False := eq_false (fun z => by rw [h7, hM.1] at z; exact y ((nI_ltI (by omega) (by omega)).mp z))
      simp only [fX12_signToken_25, ↓lt, ↓reduceIte, callW_eq]
      rw [s2, if_neg y]
      rfl
  have e7 : gI w 16 0 7 + (1 : Int32) = nI (i + 2) := by rw [h7]; exact nI_add _ 1
  rw [e25]
  generalize s2 b n i = d at hs
  have f70 : ∀ x y : Int32, Fr kSg w (setI (setI w 16 0 8 x) 16 0 9 y) := fun x y => Fr_setI (Fr_setI (Fr_refl _ _) rfl) rfl
  have f71 : ∀ x y z : Int32, Fr kSg w (setI (setI (setI w 16 0 7 z) 16 0 8 x) 16 0 9 y) := fun x y z => Fr_setI (Fr_setI (Fr_setI (Fr_refl _ _) rfl) rfl) rfl
  have a7 : ∀ x y : Int32, gI (setI (setI w 16 0 8 x) 16 0 9 y) 16 0 7 = nI (i + 1) := fun x y => by rw [gg_I, if_neg (by omega), gg_I, if_neg (by omega)]; exact h7
  have a8 : ∀ x y : Int32, gI (setI (setI w 16 0 8 x) 16 0 9 y) 16 0 8 = x := fun x y => by rw [gg_I, if_neg (by omega), gg_I, if_pos ⟨rfl, rfl, rfl⟩]
  have a9 : ∀ x y : Int32, gI (setI (setI w 16 0 8 x) 16 0 9 y) 16 0 9 = y := fun x y => by rw [gg_I, if_pos ⟨rfl, rfl, rfl⟩]
  have b7 : ∀ x y z : Int32, gI (setI (setI (setI w 16 0 7 z) 16 0 8 x) 16 0 9 y) 16 0 7 = z := fun x y z => by rw [gg_I, if_neg (by omega), gg_I, if_neg (by omega), gg_I, if_pos ⟨rfl, rfl, rfl⟩]
  have b8 : ∀ x y z : Int32, gI (setI (setI (setI w 16 0 7 z) 16 0 8 x) 16 0 9 y) 16 0 8 = x := fun x y z => by rw [gg_I, if_neg (by omega), gg_I, if_pos ⟨rfl, rfl, rfl⟩]
  have b9 : ∀ x y z : Int32, gI (setI (setI (setI w 16 0 7 z) 16 0 8 x) 16 0 9 y) 16 0 9 = y := fun x y z => by rw [gg_I, if_pos ⟨rfl, rfl, rfl⟩]
  have d61 : d ≠ 61 → (nI d = (61 : Int32)) = False := fun h => eq_false (fun z => h ((nI_eq (b := 61) (by omega) (by omega)).mp z))
  have d62 : d ≠ 62 → (nI d = (62 : Int32)) = False := fun h => eq_false (fun z => h ((nI_eq (b := 62) (by omega) (by omega)).mp z))
  have t61 : (nI 61 = (61 : Int32)) = True := eq_true rfl
  have t62 : (nI 62 = (62 : Int32)) = True := eq_true rfl
  have o8 : ∀ x : Int32, gI (setI w 16 0 8 x) 16 0 9 = gI w 16 0 9 := fun x => by rw [gg_I, if_neg (by omega)]
  have p8 : ∀ x z : Int32, gI (setI (setI w 16 0 7 z) 16 0 8 x) 16 0 9 = gI w 16 0 9 := fun x z => by rw [gg_I, if_neg (by omega), gg_I, if_neg (by omega)]
  have tt60 : ((60 : Int32) = (60 : Int32)) = True := eq_true rfl
  have tt61 : ((61 : Int32) = (61 : Int32)) = True := eq_true rfl
  have m6162 : (nI 61 = (62 : Int32)) = False := eq_false (by decide)
  have m6261 : (nI 62 = (61 : Int32)) = False := eq_false (by decide)
  rcases hc with rfl | rfl | rfl
  · have h9 : gI w 16 0 9 = (60 : Int32) := h9
    by_cases y1 : d = 61
    · subst y1
      have eK : sgN 60 61 = 40 := by decide
      simp only [fX12_signToken_37, fX12_signToken_48, fX12_signToken_47, fX12_signToken_58, fX12_signToken_59, fX12_signToken_64, fX12_signToken_70, callW_eq, ↓h9, ↓o8, ↓p8, ↓e7, ↓n60_61, ↓n60_62, ↓n61_60, ↓n61_62, ↓n62_60, ↓n62_61, ↓n1_0, ↓n0_0, ↓tt60, ↓tt61, ↓t61, ↓m6162, ↓reduceIte]
      refine ok_some ⟨f71 _ _ _, by rw [b7]; exact congrArg nI (show i + 2 = sgE i _ by rw [eK]; rfl), b8 _ _ _, by rw [b9, eK]; rfl⟩
    · by_cases y2 : d = 62
      · subst y2
        have eK : sgN 60 62 = 42 := by decide
        simp only [fX12_signToken_37, fX12_signToken_48, fX12_signToken_47, fX12_signToken_58, fX12_signToken_59, fX12_signToken_64, fX12_signToken_70, callW_eq, ↓h9, ↓o8, ↓p8, ↓e7, ↓n60_61, ↓n60_62, ↓n61_60, ↓n61_62, ↓n62_60, ↓n62_61, ↓n1_0, ↓n0_0, ↓tt60, ↓tt61, ↓t62, ↓m6261, ↓reduceIte]
        refine ok_some ⟨f71 _ _ _, by rw [b7]; exact congrArg nI (show i + 2 = sgE i _ by rw [eK]; rfl), b8 _ _ _, by rw [b9, eK]; rfl⟩
      · have eK : sgN 60 d = 39 := by
          unfold sgN
          simp [y1, y2]
        simp only [fX12_signToken_37, fX12_signToken_48, fX12_signToken_47, fX12_signToken_58, fX12_signToken_59, fX12_signToken_64, fX12_signToken_70, callW_eq, ↓h9, ↓o8, ↓p8, ↓e7, ↓n60_61, ↓n60_62, ↓n61_60, ↓n61_62, ↓n62_60, ↓n62_61, ↓n1_0, ↓n0_0, ↓tt60, ↓tt61, ↓d61 y1, ↓d62 y2, ↓reduceIte]
        refine ok_some ⟨f70 _ _, by rw [a7]; exact congrArg nI (show i + 1 = sgE i _ by rw [eK]; rfl), a8 _ _, by rw [a9, eK]; rfl⟩
  · have h9 : gI w 16 0 9 = (61 : Int32) := h9
    have eK : sgN 61 d = 41 := by
      unfold sgN
      simp
    simp only [fX12_signToken_37, fX12_signToken_48, fX12_signToken_47, fX12_signToken_58, fX12_signToken_59, fX12_signToken_64, fX12_signToken_70, callW_eq, ↓h9, ↓o8, ↓p8, ↓e7, ↓n60_61, ↓n60_62, ↓n61_60, ↓n61_62, ↓n62_60, ↓n62_61, ↓n1_0, ↓n0_0, ↓tt60, ↓tt61, ↓reduceIte]
    refine ok_some ⟨f70 _ _, by rw [a7]; exact congrArg nI (show i + 1 = sgE i _ by rw [eK]; rfl), a8 _ _, by rw [a9, eK]; rfl⟩
  · have h9 : gI w 16 0 9 = (62 : Int32) := h9
    by_cases y1 : d = 61
    · subst y1
      have eK : sgN 62 61 = 43 := by decide
      simp only [fX12_signToken_37, fX12_signToken_48, fX12_signToken_47, fX12_signToken_58, fX12_signToken_59, fX12_signToken_64, fX12_signToken_70, callW_eq, ↓h9, ↓o8, ↓p8, ↓e7, ↓n60_61, ↓n60_62, ↓n61_60, ↓n61_62, ↓n62_60, ↓n62_61, ↓n1_0, ↓n0_0, ↓tt60, ↓tt61, ↓t61, ↓m6162, ↓reduceIte]
      refine ok_some ⟨f71 _ _ _, by rw [b7]; exact congrArg nI (show i + 2 = sgE i _ by rw [eK]; rfl), b8 _ _ _, by rw [b9, eK]; rfl⟩
    · have eK : sgN 62 d = 44 := by
        unfold sgN
        simp [y1]
      simp only [fX12_signToken_37, fX12_signToken_48, fX12_signToken_47, fX12_signToken_58, fX12_signToken_59, fX12_signToken_64, fX12_signToken_70, callW_eq, ↓h9, ↓o8, ↓p8, ↓e7, ↓n60_61, ↓n60_62, ↓n61_60, ↓n61_62, ↓n62_60, ↓n62_61, ↓n1_0, ↓n0_0, ↓tt60, ↓tt61, ↓d61 y1, ↓reduceIte]
      refine ok_some ⟨f70 _ _, by rw [a7]; exact congrArg nI (show i + 1 = sgE i _ by rw [eK]; rfl), a8 _ _, by rw [a9, eK]; rfl⟩
theorem m_signToken (hM : BM w b n) {i : Nat} (h7 : gI w 16 0 7 = nI i) (hi : i < n) : Ok (pX12_signToken N w) (fun w' => Fr kSg w w' ∧ gI w' 16 0 7 = nI (sgE i (sgN (b i) (s2 b n i))) ∧ kdM w' (sgN (b i) (s2 b n i)) 0) := by
  have hn := hM.2.1
  have hb := (hM.2.2 i hi).1
  have l1 : ldI w 73 0 (gI w 16 0 7) 900 = some (nI (b i)) := by rw [h7, ldn (by omega) (by omega), (hM.2.2 _ hi).2]
  have e7 : gI (setI w 16 0 9 (nI (b i))) 16 0 7 + (1 : Int32) = nI (i + 1) := by rw [gg_I, if_neg (by omega), h7]; exact nI_add _ 1
  have f1 : Fr kSg w (setI (setI w 16 0 9 (nI (b i))) 16 0 7 (nI (i + 1))) := Fr_setI (Fr_setI (Fr_refl _ _) rfl) rfl
  have g7 : gI (setI (setI w 16 0 9 (nI (b i))) 16 0 7 (nI (i + 1))) 16 0 7 = nI (i + 1) := by rw [gg_I, if_pos ⟨rfl, rfl, rfl⟩]
  have g9 : gI (setI (setI w 16 0 9 (nI (b i))) 16 0 7 (nI (i + 1))) 16 0 9 = nI (b i) := by rw [gg_I, if_neg (by omega), gg_I, if_pos ⟨rfl, rfl, rfl⟩]
  simp only [pX12_signToken, ↓bnd l1, ↓e7, callW_eq]
  generalize setI (setI w 16 0 9 (nI (b i))) 16 0 7 (nI (i + 1)) = w1 at f1 g7 g9
  have M1 := BM_fr f1 hM
  have tr : (b i = 60 ∨ b i = 61 ∨ b i = 62) → Ok (fX12_signToken_25 N w1) (fun w' => Fr kSg w w' ∧ gI w' 16 0 7 = nI (sgE i (sgN (b i) (s2 b n i))) ∧ kdM w' (sgN (b i) (s2 b n i)) 0) := fun hc => by
    refine ok_mono (m_sg25 (N := N) M1 g7 hi hc g9) ?_
    rintro w2 ⟨a1, a2, a3, a4⟩
    have hk : 39 ≤ sgN (b i) (s2 b n i) ∧ sgN (b i) (s2 b n i) ≤ 44 := by
      unfold sgN
      rcases hc with h | h | h <;> rw [h] <;> simp <;> (repeat' split) <;> omega
    exact ⟨Fr_trans f1 a1, a2, kdM_cmp hk.1 hk.2 a3 a4⟩
  have q : ∀ c, c < 256 → b i ≠ c → (nI (b i) = nI c) = False := fun c hc h => eq_false (fun z => h ((nI_eq (by omega) (by omega)).mp z))
  have sg : ∀ c K, b i = c → sgN c (s2 b n i) = K → 32 ≤ K → K ≤ 38 → sgL.getD (K - 32) 0 = c → Ok (fX12_signToken_133 N w1) (fun w' => Fr kSg w w' ∧ gI w' 16 0 7 = nI (sgE i (sgN (b i) (s2 b n i))) ∧ kdM w' (sgN (b i) (s2 b n i)) 0) := fun c K hc hK h1 h2 hL => by
    simp only [fX12_signToken_133, fX12_signToken_136, ↓n1_0, ↓reduceIte, callW_eq]
    rw [hc, hK]
    refine ok_some ⟨Fr_setI f1 rfl, ?_, kdM_sign h1 h2 ?_ ?_⟩
    · rw [gg_I, if_neg (by omega), g7, sgE, if_neg (by omega)]
    · rw [gg_I, if_pos ⟨rfl, rfl, rfl⟩]
    · rw [gg_I, if_neg (by omega), g9, hL, hc]
  by_cases y60 : b i = 60
  · have p : (gI w1 16 0 9 = (60 : Int32)) = True := eq_true (by rw [g9, y60]; rfl)
    simp only [↓p, ↓reduceIte]
    exact tr (by omega)
  have r60 : (gI w1 16 0 9 = (60 : Int32)) = False := (congrArg (fun x => x = (60 : Int32)) g9).trans (q 60 (by omega) y60)
  by_cases y62 : b i = 62
  · have p : (gI w1 16 0 9 = (62 : Int32)) = True := eq_true (by rw [g9, y62]; rfl)
    simp only [↓r60, ↓p, ↓reduceIte]
    exact tr (by omega)
  have r62 : (gI w1 16 0 9 = (62 : Int32)) = False := (congrArg (fun x => x = (62 : Int32)) g9).trans (q 62 (by omega) y62)
  by_cases y61 : b i = 61
  · have p : (gI w1 16 0 9 = (61 : Int32)) = True := eq_true (by rw [g9, y61]; rfl)
    simp only [↓r60, ↓r62, ↓p, ↓reduceIte]
    exact tr (by omega)
  have r61 : (gI w1 16 0 9 = (61 : Int32)) = False := (congrArg (fun x => x = (61 : Int32)) g9).trans (q 61 (by omega) y61)
  by_cases y59 : b i = 59
  · have p : (gI w1 16 0 9 = (59 : Int32)) = True := eq_true (by rw [g9, y59]; rfl)
    simp only [↓r60, ↓r62, ↓r61, ↓p, ↓reduceIte]
    exact sg 59 32 y59 (by unfold sgN; simp) (by omega) (by omega) rfl
  have r59 : (gI w1 16 0 9 = (59 : Int32)) = False := (congrArg (fun x => x = (59 : Int32)) g9).trans (q 59 (by omega) y59)
  by_cases y40 : b i = 40
  · have p : (gI w1 16 0 9 = (40 : Int32)) = True := eq_true (by rw [g9, y40]; rfl)
    simp only [↓r60, ↓r62, ↓r61, ↓r59, ↓p, ↓reduceIte]
    exact sg 40 33 y40 (by unfold sgN; simp) (by omega) (by omega) rfl
  have r40 : (gI w1 16 0 9 = (40 : Int32)) = False := (congrArg (fun x => x = (40 : Int32)) g9).trans (q 40 (by omega) y40)
  by_cases y41 : b i = 41
  · have p : (gI w1 16 0 9 = (41 : Int32)) = True := eq_true (by rw [g9, y41]; rfl)
    simp only [↓r60, ↓r62, ↓r61, ↓r59, ↓r40, ↓p, ↓reduceIte]
    exact sg 41 34 y41 (by unfold sgN; simp) (by omega) (by omega) rfl
  have r41 : (gI w1 16 0 9 = (41 : Int32)) = False := (congrArg (fun x => x = (41 : Int32)) g9).trans (q 41 (by omega) y41)
  by_cases y43 : b i = 43
  · have p : (gI w1 16 0 9 = (43 : Int32)) = True := eq_true (by rw [g9, y43]; rfl)
    simp only [↓r60, ↓r62, ↓r61, ↓r59, ↓r40, ↓r41, ↓p, ↓reduceIte]
    exact sg 43 35 y43 (by unfold sgN; simp) (by omega) (by omega) rfl
  have r43 : (gI w1 16 0 9 = (43 : Int32)) = False := (congrArg (fun x => x = (43 : Int32)) g9).trans (q 43 (by omega) y43)
  by_cases y45 : b i = 45
  · have p : (gI w1 16 0 9 = (45 : Int32)) = True := eq_true (by rw [g9, y45]; rfl)
    simp only [↓r60, ↓r62, ↓r61, ↓r59, ↓r40, ↓r41, ↓r43, ↓p, ↓reduceIte]
    exact sg 45 36 y45 (by unfold sgN; simp) (by omega) (by omega) rfl
  have r45 : (gI w1 16 0 9 = (45 : Int32)) = False := (congrArg (fun x => x = (45 : Int32)) g9).trans (q 45 (by omega) y45)
  by_cases y42 : b i = 42
  · have p : (gI w1 16 0 9 = (42 : Int32)) = True := eq_true (by rw [g9, y42]; rfl)
    simp only [↓r60, ↓r62, ↓r61, ↓r59, ↓r40, ↓r41, ↓r43, ↓r45, ↓p, ↓reduceIte]
    exact sg 42 37 y42 (by unfold sgN; simp) (by omega) (by omega) rfl
  have r42 : (gI w1 16 0 9 = (42 : Int32)) = False := (congrArg (fun x => x = (42 : Int32)) g9).trans (q 42 (by omega) y42)
  by_cases y47 : b i = 47
  · have p : (gI w1 16 0 9 = (47 : Int32)) = True := eq_true (by rw [g9, y47]; rfl)
    simp only [↓r60, ↓r62, ↓r61, ↓r59, ↓r40, ↓r41, ↓r43, ↓r45, ↓r42, ↓p, ↓reduceIte]
    exact sg 47 38 y47 (by unfold sgN; simp) (by omega) (by omega) rfl
  have r47 : (gI w1 16 0 9 = (47 : Int32)) = False := (congrArg (fun x => x = (47 : Int32)) g9).trans (q 47 (by omega) y47)
  by_cases y37 : b i = 37
  · have p : (gI w1 16 0 9 = (37 : Int32)) = True := eq_true (by rw [g9, y37]; rfl)
    simp only [↓r60, ↓r62, ↓r61, ↓r59, ↓r40, ↓r41, ↓r43, ↓r45, ↓r42, ↓r47, ↓p, ↓reduceIte]
    have eK : sgN (b i) (s2 b n i) = 50 := by rw [y37]; unfold sgN; simp
    simp only [fX12_signToken_133, fX12_signToken_136, ↓n1_0, ↓reduceIte, callW_eq]
    rw [eK]
    refine ok_some ⟨Fr_setI f1 rfl, ?_, kdM_bad rfl (Or.inr ⟨?_, ?_⟩)⟩
    · rw [gg_I, if_neg (by omega), g7, sgE, if_neg (by omega)]
    · rw [gg_I, if_pos ⟨rfl, rfl, rfl⟩]
    · rw [gg_I, if_neg (by omega), g9, y37]
  have r37 : (gI w1 16 0 9 = (37 : Int32)) = False := (congrArg (fun x => x = (37 : Int32)) g9).trans (q 37 (by omega) y37)
  have eK : sgN (b i) (s2 b n i) = 50 := by unfold sgN; simp [y60, y62, y61, y59, y40, y41, y43, y45, y42, y47, y37]
  simp only [↓r60, ↓r62, ↓r61, ↓r59, ↓r40, ↓r41, ↓r43, ↓r45, ↓r42, ↓r47, ↓r37, fX12_signToken_136, ↓n0_0, ↓reduceIte]
  rw [eK]
  refine ok_some ⟨Fr_setI f1 rfl, ?_, kdM_bad rfl (Or.inl ?_)⟩
  · rw [gg_I, if_neg (by omega), g7, sgE, if_neg (by omega)]
  · rw [gg_I, if_pos ⟨rfl, rfl, rfl⟩]
/-- the token from q on -/
def tkM (w : Wd) (b : Nat → Nat) (n q : Nat) : Prop := gI w 16 0 7 = nI (tkQ b n q).2.2 ∧ gI w 16 0 10 = nI (skB b n q) ∧ kdM w (tkQ b n q).1 (tkQ b n q).2.1
def kTk : List Nat := [17007, 17008, 17009, 17010]
theorem tkM_fr {l : List Nat} {q : Nat} (f : Fr l w w') (h : tkM w b n q) (hl : dis l kTk = true := by decide) : tkM w' b n q := by
  obtain ⟨h1, h2, h3⟩ := h
  exact ⟨by rw [Fr_I f hl (by decide)]; exact h1, by rw [Fr_I f hl (by decide)]; exact h2, kdM_fr f h3 (dis_sub hl (by decide))⟩
/-- blanks -/
theorem m_tok0 {w0 : Wd} (hM0 : BM w0 b n) {Q : Wd → Prop} (K : Wd → Option Wd) {q0 : Nat} (hK : ∀ w, Fr [17007] w0 w → gI w 16 0 7 = nI (skB b n q0) → Ok (K w) Q) :
    ∀ r q fuel w, q + r = n → r < fuel → Fr [17007] w0 w → gI w 16 0 7 = nI q → skB b n q = skB b n q0 → Ok (fX12_token_0 N fuel K w) Q := by
  have hn := hM0.2.1
  intro r
  induction r with
  | zero =>
    intro q fuel w hr hf f0 h7 hs
    obtain ⟨m, rfl⟩ : ∃ m, fuel = m + 1 := ⟨fuel - 1, by omega⟩
    have hM := BM_fr f0 hM0
    have lt : (gI w 16 0 7 < gI w 16 0 6) = False := eq_false (fun z => by
      rw [h7, hM.1] at z
      have := (nI_ltI (by omega) (by omega)).mp z
      omega)
    simp only [fX12_token_0, ↓lt, ↓reduceIte]
    refine hK w f0 ?_
    rw [h7, ← hs, skB, rn_end (by omega)]
  | succ r ih =>
    intro q fuel w hr hf f0 h7 hs
    obtain ⟨m, rfl⟩ : ∃ m, fuel = m + 1 := ⟨fuel - 1, by omega⟩
    have hM := BM_fr f0 hM0
    have hq : q < n := by omega
    have lt : (gI w 16 0 7 < gI w 16 0 6) = True := eq_true (by rw [h7, hM.1]; exact (nI_ltI (by omega) (by omega)).mpr hq)
    have hb := (hM.2.2 q hq).1
    have l1 : ldI w 73 0 (gI w 16 0 7) 900 = some (nI (b q)) := by rw [h7, ldn (by omega) (by omega), (hM.2.2 _ hq).2]
    have e7 : gI w 16 0 7 + (1 : Int32) = nI (q + 1) := by rw [h7]; exact nI_add _ 1
    have go : isBl (b q) = true → Ok (fX12_token_0 N m K (setI w 16 0 7 (nI (q + 1)))) Q := fun hbl => by
      refine ih (q + 1) m (setI w 16 0 7 (nI (q + 1))) (by omega) (by omega) (Fr_setI f0 rfl) (by rw [gg_I, if_pos ⟨rfl, rfl, rfl⟩]) ?_
      rw [← hs]
      unfold skB
      exact (rn_go (P := fun j => isBl (b j)) hq hbl).symm
    by_cases y10 : b q = 10
    · have p : (nI (b q) = (10 : Int32)) = True := eq_true (by rw [y10]; rfl)
      simp only [fX12_token_0, ↓lt, ↓bnd l1, ↓p, ↓e7, ↓reduceIte, callW_eq]
      exact go (by rw [y10]; rfl)
    · have p : (nI (b q) = (10 : Int32)) = False := eq_false (fun z => y10 ((nI_eq (b := 10) (by omega) (by omega)).mp z))
      by_cases y32 : b q = 32
      · have p2 : (nI (b q) = (32 : Int32)) = True := eq_true (by rw [y32]; rfl)
        simp only [fX12_token_0, ↓lt, ↓bnd l1, ↓p, ↓p2, ↓e7, ↓reduceIte, callW_eq]
        exact go (by rw [y32]; rfl)
      · have p2 : (nI (b q) = (32 : Int32)) = False := eq_false (fun z => y32 ((nI_eq (b := 32) (by omega) (by omega)).mp z))
        simp only [fX12_token_0, ↓lt, ↓bnd l1, ↓p, ↓p2, ↓reduceIte]
        refine hK w f0 ?_
        rw [h7, ← hs, skB, rn_no (P := fun j => isBl (b j))]
        unfold isBl
        rw [Bool.or_eq_false_iff, beq_eq_false_iff_ne, beq_eq_false_iff_ne]
        exact ⟨y10, y32⟩
/-- letters -/
theorem m_tok44 {w0 : Wd} (hM0 : BM w0 b n) {Q : Wd → Prop} (K : Wd → Option Wd) {i : Nat} (hK : ∀ w, Fr [17007] w0 w → gI w 16 0 7 = nI (rn (fun j => isL (b j)) n i) → Ok (K w) Q) :
    ∀ r q fuel w, q + r = n → r < fuel → Fr [17007] w0 w → gI w 16 0 7 = nI q → rn (fun j => isL (b j)) n q = rn (fun j => isL (b j)) n i → Ok (fX12_token_44 N fuel K w) Q := by
  have hn := hM0.2.1
  intro r
  induction r with
  | zero =>
    intro q fuel w hr hf f0 h7 hs
    obtain ⟨m, rfl⟩ : ∃ m, fuel = m + 1 := ⟨fuel - 1, by omega⟩
    have hM := BM_fr f0 hM0
    have g := m_isSmall (N := N) hM (i := q) (by omega)
    rw [← h7, show decide (q < n) = false from decide_eq_false (by omega), Bool.false_and] at g
    simp only [fX12_token_44, ↓cbnd g, ↓z2, ↓reduceIte]
    refine hK w f0 ?_
    rw [h7, ← hs, rn_end (by omega)]
  | succ r ih =>
    intro q fuel w hr hf f0 h7 hs
    obtain ⟨m, rfl⟩ : ∃ m, fuel = m + 1 := ⟨fuel - 1, by omega⟩
    have hM := BM_fr f0 hM0
    have hq : q < n := by omega
    have g := m_isSmall (N := N) hM (i := q) (by omega)
    rw [← h7, show decide (q < n) = true from decide_eq_true hq, Bool.true_and] at g
    have e7 : gI w 16 0 7 + (1 : Int32) = nI (q + 1) := by rw [h7]; exact nI_add _ 1
    cases hl : isL (b q) with
    | true =>
      rw [hl] at g
      simp only [fX12_token_44, ↓cbnd g, ↓z1, ↓e7, ↓reduceIte, callW_eq]
      refine ih (q + 1) m (setI w 16 0 7 (nI (q + 1))) (by omega) (by omega) (Fr_setI f0 rfl) (by rw [gg_I, if_pos ⟨rfl, rfl, rfl⟩]) ?_
      rw [← hs]
      exact (rn_go (P := fun j => isL (b j)) hq hl).symm
    | false =>
      rw [hl] at g
      simp only [fX12_token_44, ↓cbnd g, ↓z2, ↓reduceIte]
      refine hK w f0 ?_
      rw [h7, ← hs, rn_no (P := fun j => isL (b j)) hl]
theorem nuG_lt (hb : ∀ j, b j < 256) (i : Nat) : ∀ d, nuG b i d ≤ 1000207 := by
  intro d
  induction d with
  | zero => exact Nat.zero_le _
  | succ d ih =>
    rw [nuG]
    split
    · exact ih
    · have := hb (i + d)
      omega
/-- digits -/
theorem m_tok105 {w0 : Wd} (hM0 : BM w0 b n) {i : Nat} :
    ∀ r d fuel w, i + d + r = n → r < fuel → Fr [17007, 17009] w0 w → gI w 16 0 7 = nI (i + d) → gI w 16 0 9 = nI (nuG b i d) → nuG b i d ≤ 999999 → rn (fun j => isD (b j)) n (i + d) = rn (fun j => isD (b j)) n i →
    Ok (fX12_token_105 N fuel w) (fun w' => Fr [17007, 17009] w0 w' ∧ gI w' 16 0 7 = nI (rn (fun j => isD (b j)) n i) ∧ gI w' 16 0 9 = nI (nuG b i (rn (fun j => isD (b j)) n i - i))) := by
  have hn := hM0.2.1
  intro r
  induction r with
  | zero =>
    intro d fuel w hr hf f0 h7 h9 hle hs
    obtain ⟨m, rfl⟩ : ∃ m, fuel = m + 1 := ⟨fuel - 1, by omega⟩
    have hM := BM_fr f0 hM0
    have g := m_isDigit (N := N) hM (i := i + d) (by omega)
    rw [← h7, show decide (i + d < n) = false from decide_eq_false (by omega), Bool.false_and] at g
    simp only [fX12_token_105, ↓cbnd g, ↓z2, ↓reduceIte]
    rw [rn_end (by omega)] at hs
    refine ok_some ⟨f0, by rw [h7, ← hs], by rw [h9, ← hs, show i + d - i = d by omega]⟩
  | succ r ih =>
    intro d fuel w hr hf f0 h7 h9 hle hs
    obtain ⟨m, rfl⟩ : ∃ m, fuel = m + 1 := ⟨fuel - 1, by omega⟩
    have hM := BM_fr f0 hM0
    have hq : i + d < n := by omega
    have g := m_isDigit (N := N) hM (i := i + d) (by omega)
    rw [← h7, show decide (i + d < n) = true from decide_eq_true hq, Bool.true_and] at g
    cases hl : isD (b (i + d)) with
    | true =>
      rw [hl] at g
      have hdg := hl
      unfold isD at hdg
      rw [Bool.and_eq_true, decide_eq_true_eq, decide_eq_true_eq] at hdg
      have nx : ∀ s0, s0 = nI (nuG b i (d + 1)) → Ok (fX12_token_130 N (fX12_token_105 N m) s0 w) (fun w' => Fr [17007, 17009] w0 w' ∧ gI w' 16 0 7 = nI (rn (fun j => isD (b j)) n i) ∧ gI w' 16 0 9 = nI (nuG b i (rn (fun j => isD (b j)) n i - i))) := fun s0 hs0 => by
        have e7 : gI (setI w 16 0 9 s0) 16 0 7 + (1 : Int32) = nI (i + (d + 1)) := by rw [gg_I, if_neg (by omega), h7]; exact nI_add _ 1
        simp only [fX12_token_130, ↓e7]
        refine ih (d + 1) m _ (by omega) (by omega) (Fr_setI (Fr_setI f0 rfl) rfl) (by rw [gg_I, if_pos ⟨rfl, rfl, rfl⟩]) (by rw [gg_I, if_neg (by omega), gg_I, if_pos ⟨rfl, rfl, rfl⟩]; exact hs0) ?_ ?_
        · rw [nuG]
          split
          · exact hle
          · omega
        · rw [← hs]
          exact (rn_go (P := fun j => isD (b j)) hq hl).symm
      by_cases y : 99999 < nuG b i d
      · have p : ((99999 : Int32) < gI w 16 0 9) = True := eq_true (by rw [h9]; exact (nI_ltI (a := 99999) (by omega) (by omega)).mpr y)
        simp only [fX12_token_105, ↓cbnd g, ↓z1, ↓p, ↓reduceIte, callW_eq]
        exact nx _ (by rw [h9, nuG, if_pos y])
      · have p : ((99999 : Int32) < gI w 16 0 9) = False := eq_false (fun z => by rw [h9] at z; exact y ((nI_ltI (a := 99999) (by omega) (by omega)).mp z))
        have l1 : ldI w 73 0 (gI w 16 0 7) 900 = some (nI (b (i + d))) := by rw [h7, ldn (by omega) (by omega), (hM.2.2 _ hq).2]
        simp only [fX12_token_105, ↓cbnd g, ↓z1, ↓p, ↓bnd l1, ↓reduceIte, callW_eq]
        refine nx _ ?_
        rw [h9, nuG, if_neg y, show (10 : Int32) = nI 10 from rfl, show (48 : Int32) = nI 48 from rfl, pk_mul, nI_add, nI_sb (by omega)]
        congr 1
        omega
    | false =>
      rw [hl] at g
      simp only [fX12_token_105, ↓cbnd g, ↓z2, ↓reduceIte]
      rw [rn_no (P := fun j => isD (b j)) hl] at hs
      refine ok_some ⟨f0, by rw [h7, ← hs], by rw [h9, ← hs, show i + d - i = d by omega]⟩
/-- a word or a name -/
theorem m_tok56 (hM : BM w b n) (hW : WD w) (hN : 200 ≤ N) {i : Nat} (hi : i < n) (hl : isL (b i) = true) (h7 : gI w 16 0 7 = nI (rn (fun j => isL (b j)) n i)) (h10 : gI w 16 0 10 = nI i) : Ok (fX12_token_56 N w) (fun w' => Fr [17008, 17009] w w' ∧ kdM w' (tkN b n i).1 (tkN b n i).2.1) := by
  have hn := hM.2.1
  have hge := rn_ge (fun j => isL (b j)) n i
  have hle := rn_le (fun j => isL (b j)) (n := n) (i := i) (by omega)
  have hin := fun j (h : j < rn (fun j => isL (b j)) n i - i) => (rn_in (fun j => isL (b j)) (n := n) (i := i) (j := i + j) (by omega) (by omega)).2
  have ek : tkN b n i = (if wdN b i (rn (fun j => isL (b j)) n i - i) < 24 then (wdN b i (rn (fun j => isL (b j)) n i - i), 0, rn (fun j => isL (b j)) n i) else if rn (fun j => isL (b j)) n i - i ≤ 6 then (62, pkL b i (rn (fun j => isL (b j)) n i - i) * 32 ^ (6 - (rn (fun j => isL (b j)) n i - i)), rn (fun j => isL (b j)) n i) else (50, 0, rn (fun j => isL (b j)) n i)) := by
    unfold tkN
    rw [if_pos hl]
  obtain ⟨d, hd⟩ : ∃ d, rn (fun j => isL (b j)) n i = i + d := ⟨rn (fun j => isL (b j)) n i - i, by omega⟩
  rw [hd] at h7 hle ek hin
  rw [show i + d - i = d by omega] at ek hin
  have g := m_wordAt (N := N) hW hM hN (i := i) (d := d) hle hin
  rw [← h10, ← h7] at g
  by_cases y : wdN b i d < 24
  · rw [if_pos y] at g ek
    have hwr := (wr_f _ y).1
    have q : (gI (setI w 16 0 9 (nI (wrL.getD (wdN b i d) 0))) 16 0 9 < 0) = False := eq_false (by rw [gg_I, if_pos ⟨rfl, rfl, rfl⟩]; exact nz_ge0 (by omega))
    have q2 : (gI (setI (setI w 16 0 9 (nI (wrL.getD (wdN b i d) 0))) 16 0 8 (1 : Int32)) 16 0 8 = (2 : Int32)) = False := eq_false (by rw [gg_I, if_pos ⟨rfl, rfl, rfl⟩]; decide)
    simp only [fX12_token_56, ↓cbnd g, ↓q, fX12_token_80, ↓q2, ↓reduceIte, callW_eq]
    rw [ek]
    exact ok_some ⟨Fr_setI (Fr_setI (Fr_refl _ _) rfl) rfl, kdM_word y (by rw [gg_I, if_pos ⟨rfl, rfl, rfl⟩]) (by rw [gg_I, if_neg (by omega), gg_I, if_pos ⟨rfl, rfl, rfl⟩])⟩
  · rw [if_neg y] at g ek
    have q : (gI (setI w 16 0 9 (-1 : Int32)) 16 0 9 < 0) = True := eq_true (by rw [gg_I, if_pos ⟨rfl, rfl, rfl⟩]; decide)
    have ed : gI (setI w 16 0 9 (-1 : Int32)) 16 0 7 - gI (setI w 16 0 9 (-1 : Int32)) 16 0 10 = nI d := by
      rw [gg_I, if_neg (by omega), gg_I, if_neg (by omega), h7, h10, nI_sb (by omega)]
      congr 1
      omega
    by_cases y6 : d ≤ 6
    · have p : ((6 : Int32) < gI (setI w 16 0 9 (-1 : Int32)) 16 0 7 - gI (setI w 16 0 9 (-1 : Int32)) 16 0 10) = False := eq_false (fun z => by
        rw [ed] at z
        have := (nI_ltI (a := 6) (by omega) (by omega)).mp z
        omega)
      have q2 : (gI (setI (setI w 16 0 9 (-1 : Int32)) 16 0 8 (2 : Int32)) 16 0 8 = (2 : Int32)) = True := eq_true (by rw [gg_I, if_pos ⟨rfl, rfl, rfl⟩])
      have f2 : Fr [17008, 17009] w (setI (setI w 16 0 9 (-1 : Int32)) 16 0 8 (2 : Int32)) := Fr_setI (Fr_setI (Fr_refl _ _) rfl) rfl
      have g2 := m_packed (N := N) (BM_fr f2 hM) (by omega) (i := i) (d := d) hle y6 hin
      have e10 : gI (setI (setI w 16 0 9 (-1 : Int32)) 16 0 8 (2 : Int32)) 16 0 10 = nI i := by rw [(f2 16 0 10 rfl).1, h10]
      have e7 : gI (setI (setI w 16 0 9 (-1 : Int32)) 16 0 8 (2 : Int32)) 16 0 7 = nI (i + d) := by rw [(f2 16 0 7 rfl).1, h7]
      rw [← e10, ← e7] at g2
      simp only [fX12_token_56, ↓cbnd g, ↓q, ↓p, fX12_token_80, ↓q2, ↓cbnd g2, ↓reduceIte, callW_eq]
      rw [if_pos y6] at ek
      rw [ek]
      exact ok_some ⟨Fr_setI f2 rfl, kdM_name rfl (by rw [gg_I, if_neg (by omega), gg_I, if_pos ⟨rfl, rfl, rfl⟩]) (by rw [gg_I, if_pos ⟨rfl, rfl, rfl⟩])⟩
    · have p : ((6 : Int32) < gI (setI w 16 0 9 (-1 : Int32)) 16 0 7 - gI (setI w 16 0 9 (-1 : Int32)) 16 0 10) = True := eq_true (by
        rw [ed]
        exact (nI_ltI (a := 6) (by omega) (by omega)).mpr (by omega))
      have q2 : (gI (setI (setI w 16 0 9 (-1 : Int32)) 16 0 8 (6 : Int32)) 16 0 8 = (2 : Int32)) = False := eq_false (by rw [gg_I, if_pos ⟨rfl, rfl, rfl⟩]; decide)
      simp only [fX12_token_56, ↓cbnd g, ↓q, ↓p, fX12_token_80, ↓q2, ↓reduceIte, callW_eq]
      rw [if_neg y6] at ek
      rw [ek]
      exact ok_some ⟨Fr_setI (Fr_setI (Fr_refl _ _) rfl) rfl, kdM_bad rfl (Or.inl (by rw [gg_I, if_pos ⟨rfl, rfl, rfl⟩]))⟩
theorem m_token (hM : BM w b n) (hW : WD w) (hN : 1000 ≤ N) {q : Nat} (hq : q ≤ n) (h7 : gI w 16 0 7 = nI q) : Ok (pX12_token N w) (fun w' => Fr kTk w w' ∧ tkM w' b n q) := by
  have hn := hM.2.1
  unfold pX12_token
  rw [callW_eq]
  refine m_tok0 (N := N) hM _ (q0 := q) (fun w1 f1 g7 => ?_) (n - q) q N w (by omega) (by omega) (Fr_refl _ _) h7 rfl
  have hsk := skB_le (b := b) hq
  have f2 : Fr kTk w (setI w1 16 0 10 (nI (skB b n q))) := Fr_setI (Fr_mono f1 rfl) rfl
  have M2 := BM_fr f2 hM
  have W2 := WD_fr f2 hW
  have a7 : gI (setI w1 16 0 10 (nI (skB b n q))) 16 0 7 = nI (skB b n q) := by rw [gg_I, if_neg (by omega)]; exact g7
  have a10 : gI (setI w1 16 0 10 (nI (skB b n q))) 16 0 10 = nI (skB b n q) := by rw [gg_I, if_pos ⟨rfl, rfl, rfl⟩]
  simp only [fX12_token_26, ↓g7]
  generalize setI w1 16 0 10 (nI (skB b n q)) = w2 at f2 M2 W2 a7 a10
  generalize hi : skB b n q = i at hsk a7 a10
  have tq : tkQ b n q = if i < n then tkN b n i else (60, 0, n) := by
    unfold tkQ
    rw [hi]
  unfold tkM
  rw [hi, tq]
  by_cases y : i < n
  · have p : (gI w2 16 0 7 = gI w2 16 0 6) = False := eq_false (fun z => by
      rw [a7, M2.1] at z
      have := (nI_eq (by omega) (by omega)).mp z
      omega)
    have g := m_isSmall (N := N) M2 (i := i) (by omega)
    rw [← a7, show decide (i < n) = true from decide_eq_true y, Bool.true_and] at g
    rw [if_pos y]
    cases hl : isL (b i) with
    | true =>
      rw [hl] at g
      simp only [↓p, ↓cbnd g, ↓z1, ↓reduceIte, callW_eq]
      refine m_tok44 (N := N) M2 _ (i := i) (fun w3 f3 g73 => ?_) (n - i) i N w2 (by omega) (by omega) (Fr_refl _ _) a7 rfl
      refine ok_mono (m_tok56 (N := N) (BM_fr f3 M2) (WD_fr f3 W2) (by omega) y hl g73 (by rw [(f3 16 0 10 rfl).1]; exact a10)) ?_
      rintro w4 ⟨f4, k4⟩
      refine ⟨Fr_trans f2 (Fr_trans (Fr_mono f3 rfl) (Fr_mono f4 rfl)), ?_, ?_, k4⟩
      · rw [(f4 16 0 7 rfl).1, g73]
        congr 1
        unfold tkN
        rw [if_pos hl]
        split
        · rfl
        · split <;> rfl
      · rw [(f4 16 0 10 rfl).1, (f3 16 0 10 rfl).1]; exact a10
    | false =>
      rw [hl] at g
      have g2 := m_isDigit (N := N) M2 (i := i) (by omega)
      rw [← a7, show decide (i < n) = true from decide_eq_true y, Bool.true_and] at g2
      cases hd : isD (b i) with
      | true =>
        rw [hd] at g2
        simp only [↓p, ↓cbnd g, ↓z2, ↓cbnd g2, ↓z1, ↓reduceIte, callW_eq]
        have f3 : Fr kTk w2 (setI (setI w2 16 0 8 (3 : Int32)) 16 0 9 (0 : Int32)) := Fr_setI (Fr_setI (Fr_refl _ _) rfl) rfl
        have c7 : gI (setI (setI w2 16 0 8 (3 : Int32)) 16 0 9 (0 : Int32)) 16 0 7 = nI i := by rw [gg_I, if_neg (by omega), gg_I, if_neg (by omega)]; exact a7
        have c8 : gI (setI (setI w2 16 0 8 (3 : Int32)) 16 0 9 (0 : Int32)) 16 0 8 = (3 : Int32) := by rw [gg_I, if_neg (by omega), gg_I, if_pos ⟨rfl, rfl, rfl⟩]
        have c9 : gI (setI (setI w2 16 0 8 (3 : Int32)) 16 0 9 (0 : Int32)) 16 0 9 = nI 0 := by rw [gg_I, if_pos ⟨rfl, rfl, rfl⟩]; rfl
        have c10 : gI (setI (setI w2 16 0 8 (3 : Int32)) 16 0 9 (0 : Int32)) 16 0 10 = nI i := by rw [gg_I, if_neg (by omega), gg_I, if_neg (by omega)]; exact a10
        generalize setI (setI w2 16 0 8 (3 : Int32)) 16 0 9 (0 : Int32) = w3 at f3 c7 c8 c9 c10
        refine ok_mono (m_tok105 (N := N) (w0 := w3) (BM_fr f3 M2) (i := i) (n - i) 0 N w3 (by omega) (by omega) (Fr_refl _ _) c7 c9 (by rw [nuG]; omega) rfl) ?_
        rintro w4 ⟨f4, d7, d9⟩
        have ek : tkN b n i = (61, nuG b i (rn (fun j => isD (b j)) n i - i), rn (fun j => isD (b j)) n i) := by
          unfold tkN
          rw [if_neg (by rw [hl]; decide), if_pos hd]
        rw [ek]
        exact ⟨Fr_trans f2 (Fr_trans f3 (Fr_mono f4 rfl)), d7, by rw [(f4 16 0 10 rfl).1]; exact c10, kdM_num rfl (by rw [(f4 16 0 8 rfl).1]; exact c8) d9⟩
      | false =>
        rw [hd] at g2
        simp only [↓p, ↓cbnd g, ↓z2, ↓cbnd g2, ↓reduceIte, callW_eq]
        refine ok_bind (m_signToken (N := N) M2 a7 y) ?_
        rintro w3 ⟨f3, d7, d8⟩
        have ek : tkN b n i = (sgN (b i) (s2 b n i), 0, sgE i (sgN (b i) (s2 b n i))) := by
          unfold tkN
          rw [if_neg (by rw [hl]; decide), if_neg (by rw [hd]; decide)]
          rfl
        rw [ek]
        exact ok_some ⟨Fr_trans f2 (Fr_mono f3 rfl), d7, by rw [(f3 16 0 10 rfl).1]; exact a10, d8⟩
  · have e : i = n := by omega
    have p : (gI w2 16 0 7 = gI w2 16 0 6) = True := eq_true (by rw [a7, M2.1, e])
    rw [if_neg y]
    simp only [↓p, ↓reduceIte]
    exact ok_some ⟨Fr_setI f2 rfl, by rw [gg_I, if_neg (by omega), a7, e], by rw [gg_I, if_neg (by omega)]; exact a10, kdM_end rfl (by rw [gg_I, if_pos ⟨rfl, rfl, rfl⟩])⟩
end

/-! ===== call: feed ===== -/
section
variable {N : Nat} {w w' : Wd} {v : Vw}
def kL3 : List Nat := List.range' 4000 900
def kFc : List Nat := 16001 :: kL3
theorem kFc_t {j : Nat} (h : j < 900) : kFc.contains (ky 3 j) = true := by
  have e : ky 3 j = 4000 + j := rfl
  rw [e]
  apply List.contains_iff_mem.mpr
  refine List.mem_cons_of_mem _ ?_
  rw [kL3, List.mem_range']
  exact ⟨j, h, by omega⟩
theorem Fr_appl {l m : List Nat} (h : Fr l w w') : Fr (l ++ m) w w' := fun k i j hk => h k i j (by
  cases hc : l.contains (ky k j) with
  | false => rfl
  | true =>
    have : (l ++ m).contains (ky k j) = true := List.contains_iff_mem.mpr (List.mem_append_left _ (List.contains_iff_mem.mp hc))
    rw [this] at hk; cases hk)
theorem Fr_appr {l m : List Nat} (h : Fr m w w') : Fr (l ++ m) w w' := fun k i j hk => h k i j (by
  cases hc : m.contains (ky k j) with
  | false => rfl
  | true =>
    have : (l ++ m).contains (ky k j) = true := List.contains_iff_mem.mpr (List.mem_append_right _ (List.contains_iff_mem.mp hc))
    rw [this] at hk; cases hk)
def kIw : List Nat := kCu ++ kZD ++ kMO ++ kFA ++ kUN ++ kIM ++ kCLc ++ kOC ++ kWD
theorem kFc_dis : dis (kFc ++ [17002, 73, 17001]) kIw = true := by decide +kernel
theorem b255 (y : Int32) : (y.toInt8.toInt32).toInt8.toInt32 &&& (255 : Int32) = y &&& (255 : Int32) := by
  apply Int32.toBitVec_inj.1
  show BitVec.signExtend 32 (BitVec.signExtend 8 (BitVec.signExtend 32 (BitVec.signExtend 8 y.toBitVec))) &&& 255#32 = y.toBitVec &&& 255#32
  apply BitVec.eq_of_getLsbD_eq
  intro i hi
  have h255 : (255#32).getLsbD i = decide (i < 8) := by
    have : ∀ i : Fin 32, (255#32).getLsbD i.val = decide (i.val < 8) := by decide
    exact this ⟨i, hi⟩
  rw [BitVec.getLsbD_and, BitVec.getLsbD_and, h255]
  by_cases q : i < 8
  · have s1 : ∀ x : BitVec 32, (BitVec.signExtend 8 x).getLsbD i = x.getLsbD i := fun x => by
      rw [BitVec.getLsbD_signExtend]
      simp only [q, hi, decide_true, if_true, Bool.true_and]
    have s2 : ∀ x : BitVec 8, (BitVec.signExtend 32 x).getLsbD i = x.getLsbD i := fun x => by
      rw [BitVec.getLsbD_signExtend]
      simp only [q, hi, decide_true, if_true, Bool.true_and]
    rw [s2, s1, s2, s1]
  · simp [q]
theorem i255 (y : Int32) : ∃ n, n < 256 ∧ y &&& (255 : Int32) = nI n := by
  obtain ⟨x, hx, rfl⟩ := a_all y
  refine ⟨x &&& 255, ?_, ?_⟩
  · have : x &&& 255 ≤ 255 := Nat.and_le_right
    omega
  · rw [show (255 : Int32) = nI 255 from rfl, nz_and]
/-- a byte of a number -/
def byC (x : Int32) (i : Nat) : Int32 := ((x >>> (nI (24 - 8 * i) &&& (31 : Int32))).toInt8.toInt32).toInt8.toInt32
theorem c_feedNumber {t : Nat} (x : Int32) (ht : t + 4 ≤ 900) (h1 : gI w 15 0 1 = nI t) (hN : 100 ≤ N) : Ok (pX11_feedNumber N x w) (fun w' => Fr kFc w w' ∧ gI w' 15 0 1 = nI (t + 4) ∧ (∀ j, (j < t ∨ t + 4 ≤ j) → gI w' 3 0 j = gI w 3 0 j) ∧ ∀ i, i < 4 → gI w' 3 0 (t + i) = byC x i) := by
  have key : ∀ d i fuel w1, i + d = 4 → d < fuel → (Fr kFc w w1 ∧ gI w1 15 0 1 = nI (t + i) ∧ (∀ j, (j < t ∨ t + 4 ≤ j) → gI w1 3 0 j = gI w 3 0 j) ∧ ∀ k, k < i → gI w1 3 0 (t + k) = byC x k) →
      Ok (fX11_feedNumber_2 N x fuel (if i = 4 then (-8 : Int32) else nI (24 - 8 * i)) w1) (fun w' => Fr kFc w w' ∧ gI w' 15 0 1 = nI (t + 4) ∧ (∀ j, (j < t ∨ t + 4 ≤ j) → gI w' 3 0 j = gI w 3 0 j) ∧ ∀ i, i < 4 → gI w' 3 0 (t + i) = byC x i) := by
    intro d
    induction d with
    | zero =>
      intro i fuel w1 hi hf hI
      obtain ⟨f, rfl⟩ : ∃ m, fuel = m + 1 := ⟨fuel - 1, by omega⟩
      have : i = 4 := by omega
      subst this
      have lt : ((-8 : Int32) < 0) = True := eq_true (by decide)
      rw [if_pos rfl]
      simp only [fX11_feedNumber_2, ↓lt, ↓reduceIte]
      exact ok_some hI
    | succ d ih =>
      intro i fuel w1 hi hf hI
      obtain ⟨f, rfl⟩ : ∃ m, fuel = m + 1 := ⟨fuel - 1, by omega⟩
      obtain ⟨i1, i2, i3, i4⟩ := hI
      have lt : (nI (24 - 8 * i) < 0) = False := eq_false (nz_ge0 (by omega))
      have lt2 : (gI w1 15 0 1 < (900 : Int32)) = True := eq_true (by rw [i2]; exact (nI_ltI (b := 900) (by omega) (by omega)).mpr (by omega))
      have s1 : stI w1 3 0 (gI w1 15 0 1) 900 (((x >>> (nI (24 - 8 * i) &&& (31 : Int32))).toInt8.toInt32).toInt8.toInt32) = some (setI w1 3 0 (t + i) (byC x i)) := by rw [i2]; exact stn (by omega) (by omega)
      have e1 : gI (setI w1 3 0 (t + i) (byC x i)) 15 0 1 + (1 : Int32) = nI (t + (i + 1)) := by rw [gg_I, if_neg (by omega), i2]; exact nI_add _ 1
      have e2 : nI (24 - 8 * i) + (-8 : Int32) = if i + 1 = 4 then (-8 : Int32) else nI (24 - 8 * (i + 1)) := by
        have : i = 0 ∨ i = 1 ∨ i = 2 ∨ i = 3 := by omega
        rcases this with rfl | rfl | rfl | rfl <;> decide
      rw [if_neg (show i ≠ 4 by omega)]
      simp only [fX11_feedNumber_2, ↓lt, ↓lt2, ↓bnd s1, ↓e1, ↓e2, ↓reduceIte, callW_eq]
      refine ih (i + 1) f _ (by omega) (by omega) ⟨Fr_setI (Fr_setI i1 (kFc_t (by omega))) (by decide), by rw [gg_I, if_pos ⟨rfl, rfl, rfl⟩], fun j hj => ?_, fun k hk => ?_⟩
      · rw [gg_I, if_neg (by omega), gg_I, if_neg (fun q => by omega)]; exact i3 j hj
      · rw [gg_I, if_neg (by omega), gg_I]
        by_cases z : k = i
        · subst z; rw [if_pos ⟨rfl, rfl, rfl⟩]
        · rw [if_neg (fun q => z (by omega))]; exact i4 k (by omega)
  unfold pX11_feedNumber
  rw [callW_eq]
  have := key 4 0 N w (by omega) (by omega) ⟨Fr_refl _ _, h1, fun _ _ => rfl, fun k hk => by omega⟩
  rw [if_neg (by omega)] at this
  exact this
/-- the numbers of a call -/
def fdA (a b c d e : Int32) (k : Nat) : Int32 := if k < 4 then a else if k < 8 then b else if k < 12 then c else if k < 16 then d else e
theorem m_feed13 {w0 : Wd} {t : Nat} {a b c d e : Int32} (ht : t + 20 ≤ 900) (h1 : gI w0 16 0 1 = nI t) {Q : Int32 × Wd → Prop} (K : Wd → Option (Int32 × Wd)) (hK : ∀ w, Fr [73] w0 w → (∀ j, j < t → gI w 73 0 j = gI w0 73 0 j) → (∀ i, i < 20 → gI w 73 0 (t + i) = (fdA a b c d e i >>> (nI (24 - 8 * (i % 4)) &&& (31 : Int32))) &&& (255 : Int32)) → Ok (K w) Q) :
    ∀ fuel k w, k ≤ 20 → 20 - k < fuel → Fr [73] w0 w → (∀ j, j < t → gI w 73 0 j = gI w0 73 0 j) → (∀ i, i < k → gI w 73 0 (t + i) = (fdA a b c d e i >>> (nI (24 - 8 * (i % 4)) &&& (31 : Int32))) &&& (255 : Int32)) → Ok (fX12_feed_13 N a b c d e fuel K (nI k) w) Q := by
  intro fuel
  induction fuel with
  | zero => intro k _ _ h; omega
  | succ f ih =>
    intro k w hk hf f0 hb hc
    rcases Nat.lt_or_ge k 20 with y | y
    · have lt : (nI k < (20 : Int32)) = True := eq_true ((nI_ltI (b := 20) (by omega) (by omega)).mpr y)
      have e1 : nI k + (1 : Int32) = nI (k + 1) := nI_add k 1
      have e3 : (24 : Int32) - ((8 : Int32) * (nI k - nI k / (4 : Int32) * (4 : Int32))) = nI (24 - 8 * (k % 4)) := by
        have : ∀ k : Fin 20, (24 : Int32) - ((8 : Int32) * (nI k.val - nI k.val / (4 : Int32) * (4 : Int32))) = nI (24 - 8 * (k.val % 4)) := by decide +kernel
        exact this ⟨k, y⟩
      have e2 : gI w 16 0 1 + nI k = nI (t + k) := by rw [(f0 16 0 1 rfl).1, h1, nI_add]
      have s1 : ∀ x, stI w 73 0 (gI w 16 0 1 + nI k) 900 x = some (setI w 73 0 (t + k) x) := fun x => by rw [e2]; exact stn (by omega) (by omega)
      have go : ∀ x, x = fdA a b c d e k → Ok (fX12_feed_37 N a b c d e (fX12_feed_13 N a b c d e f K) (nI k) x w) Q := by
        intro x hx
        simp only [fX12_feed_37, ↓e3, ↓bnd (s1 _), ↓e1]
        refine ih (k + 1) _ (by omega) (by omega) (Fr_setI f0 rfl) (fun j hj => ?_) (fun i hi => ?_)
        · rw [gg_I, if_neg (fun q => by omega)]; exact hb j hj
        · rw [gg_I]
          by_cases z : i = k
          · subst z; rw [if_pos ⟨rfl, rfl, rfl⟩, hx]
          · rw [if_neg (fun q => z (by omega))]; exact hc i (by omega)
      by_cases y1 : k < 4
      · have q1 : (nI k < (4 : Int32)) = True := eq_true ((nI_ltI (b := 4) (by omega) (by omega)).mpr y1)
        simp only [fX12_feed_13, ↓lt, ↓q1, ↓reduceIte, callW_eq]
        exact go a (by rw [fdA, if_pos y1])
      have q1 : (nI k < (4 : Int32)) = False := eq_false (fun z => y1 ((nI_ltI (b := 4) (by omega) (by omega)).mp z))
      by_cases y2 : k < 8
      · have q2 : (nI k < (8 : Int32)) = True := eq_true ((nI_ltI (b := 8) (by omega) (by omega)).mpr y2)
        simp only [fX12_feed_13, ↓lt, ↓q1, ↓q2, ↓reduceIte, callW_eq]
        exact go b (by rw [fdA, if_neg y1, if_pos y2])
      have q2 : (nI k < (8 : Int32)) = False := eq_false (fun z => y2 ((nI_ltI (b := 8) (by omega) (by omega)).mp z))
      by_cases y3 : k < 12
      · have q3 : (nI k < (12 : Int32)) = True := eq_true ((nI_ltI (b := 12) (by omega) (by omega)).mpr y3)
        simp only [fX12_feed_13, ↓lt, ↓q1, ↓q2, ↓q3, ↓reduceIte, callW_eq]
        exact go c (by rw [fdA, if_neg y1, if_neg y2, if_pos y3])
      have q3 : (nI k < (12 : Int32)) = False := eq_false (fun z => y3 ((nI_ltI (b := 12) (by omega) (by omega)).mp z))
      by_cases y4 : k < 16
      · have q4 : (nI k < (16 : Int32)) = True := eq_true ((nI_ltI (b := 16) (by omega) (by omega)).mpr y4)
        simp only [fX12_feed_13, ↓lt, ↓q1, ↓q2, ↓q3, ↓q4, ↓reduceIte, callW_eq]
        exact go d (by rw [fdA, if_neg y1, if_neg y2, if_neg y3, if_pos y4])
      have q4 : (nI k < (16 : Int32)) = False := eq_false (fun z => y4 ((nI_ltI (b := 16) (by omega) (by omega)).mp z))
      simp only [fX12_feed_13, ↓lt, ↓q1, ↓q2, ↓q3, ↓q4, ↓reduceIte, callW_eq]
      exact go e (by rw [fdA, if_neg y1, if_neg y2, if_neg y3, if_neg y4])
    · have : k = 20 := by omega
      subst this
      have lt : (nI 20 < (20 : Int32)) = False := eq_false (by decide)
      simp only [fX12_feed_13, ↓lt, ↓reduceIte]
      exact hK w f0 hb hc
theorem TP_mk {tl : Nat} (h1 : tl ≤ 900) (h2 : gI w 15 0 1 = nI tl) (h3 : gI w 16 0 1 = nI tl) (h4 : ∀ j, j < tl → ∃ n, n < 256 ∧ gI w 3 0 j &&& (255 : Int32) = nI n ∧ gI w 73 0 j = nI n) : TP w := by
  refine ⟨tl, fun j => (gI w 73 0 j).toBitVec.toNat, h1, h2, h3, fun j hj => ?_⟩
  obtain ⟨n, hn, a, b⟩ := h4 j hj
  have e : (gI w 73 0 j).toBitVec.toNat = n := by
    rw [b]
    show (BitVec.ofNat 32 n).toNat = n
    rw [BitVec.toNat_ofNat]
    exact Nat.mod_eq_of_lt (by omega)
  show (gI w 73 0 j).toBitVec.toNat < 256 ∧ _ = nI (gI w 73 0 j).toBitVec.toNat ∧ _ = nI (gI w 73 0 j).toBitVec.toNat
  rw [e]
  exact ⟨hn, a, b⟩
theorem s_feed (h : Iv w v) (hN : 100 ≤ N) (a b c d e : Int32) : Sp (pX11_feed N a b c d e) (pX12_feed N a b c d e) w := by
  obtain ⟨i1, i2, i3, i4, i5, i6, i7, i8, i9, i10⟩ := h
  have i4' := i4
  obtain ⟨tl, by', t1, t2, t3, t4⟩ := i4'
  have ea : gI w 15 0 1 + (20 : Int32) = nI (tl + 20) := by rw [t2]; exact nI_add _ 20
  have eb : gI (setI w 16 0 2 (0 : Int32)) 16 0 1 + (20 : Int32) = nI (tl + 20) := by rw [gg_I, if_neg (by omega), t3]; exact nI_add _ 20
  by_cases y : 900 < tl + 20
  · have q : ((900 : Int32) < nI (tl + 20)) = True := eq_true ((nI_ltI (a := 900) (by omega) (by omega)).mpr y)
    exact Sp_same (v := v) ⟨i1, i2, i3, i4, i5, i6, i7, i8, i9, i10⟩ (r := (-1 : Int32)) (by simp only [pX11_feed, ↓ea, ↓q, ↓reduceIte]) (by simp only [pX12_feed, ↓eb, ↓q, ↓reduceIte])
  · have q : ((900 : Int32) < nI (tl + 20)) = False := eq_false (fun z => y ((nI_ltI (a := 900) (by omega) (by omega)).mp z))
    obtain ⟨w1, g1, f1, a1, b1, c1⟩ := c_feedNumber (N := N) (t := tl) a (by omega) t2 hN
    obtain ⟨w2, g2, f2, a2, b2, c2⟩ := c_feedNumber (N := N) (t := tl + 4) b (by omega) a1 hN
    obtain ⟨w3, g3, f3, a3, b3, c3⟩ := c_feedNumber (N := N) (t := tl + 4 + 4) c (by omega) a2 hN
    obtain ⟨w4, g4, f4, a4, b4, c4⟩ := c_feedNumber (N := N) (t := tl + 4 + 4 + 4) d (by omega) a3 hN
    obtain ⟨w5, g5, f5, a5, b5, c5⟩ := c_feedNumber (N := N) (t := tl + 4 + 4 + 4 + 4) e (by omega) a4 hN
    have Fc : Fr kFc w w5 := Fr_trans f1 (Fr_trans f2 (Fr_trans f3 (Fr_trans f4 f5)))
    have old : ∀ j, j < tl → gI w5 3 0 j = gI w 3 0 j := fun j hj => by rw [b5 j (by omega), b4 j (by omega), b3 j (by omega), b2 j (by omega), b1 j (by omega)]
    have new : ∀ i, i < 20 → gI w5 3 0 (tl + i) = byC (fdA a b c d e i) (i % 4) := by
      intro i hi
      unfold fdA
      by_cases y1 : i < 4
      · rw [if_pos y1, b5 _ (by omega), b4 _ (by omega), b3 _ (by omega), b2 _ (by omega), c1 i y1, Nat.mod_eq_of_lt y1]
      rw [if_neg y1]
      by_cases y2 : i < 8
      · rw [if_pos y2, b5 _ (by omega), b4 _ (by omega), b3 _ (by omega), show tl + i = tl + 4 + (i - 4) by omega, c2 (i - 4) (by omega), show i % 4 = i - 4 by omega]
      rw [if_neg y2]
      by_cases y3 : i < 12
      · rw [if_pos y3, b5 _ (by omega), b4 _ (by omega), show tl + i = tl + 4 + 4 + (i - 8) by omega, c3 (i - 8) (by omega), show i % 4 = i - 8 by omega]
      rw [if_neg y3]
      by_cases y4 : i < 16
      · rw [if_pos y4, b5 _ (by omega), show tl + i = tl + 4 + 4 + 4 + (i - 12) by omega, c4 (i - 12) (by omega), show i % 4 = i - 12 by omega]
      rw [if_neg y4, show tl + i = tl + 4 + 4 + 4 + 4 + (i - 16) by omega, c5 (i - 16) (by omega), show i % 4 = i - 16 by omega]
    have a5' : gI w5 15 0 1 = nI (tl + 20) := by rw [a5]
    have ec : pX11_feed N a b c d e w = some (nI (tl + 20), w5) := by
      simp only [pX11_feed, ↓ea, ↓q, ↓cbnd g1, ↓cbnd g2, ↓cbnd g3, ↓cbnd g4, ↓cbnd g5, ↓a5', ↓reduceIte]
    have f6 : Fr [17002] w5 (setI w5 16 0 2 (0 : Int32)) := Fr_setI (Fr_refl _ _) rfl
    have t6 : gI (setI w5 16 0 2 (0 : Int32)) 16 0 1 = nI tl := by rw [(f6 16 0 1 rfl).1, (Fc 16 0 1 (by decide +kernel)).1]; exact t3
    have o6 : ∀ j, gI (setI w5 16 0 2 (0 : Int32)) 73 0 j = gI w 73 0 j := fun j => by rw [(f6 73 0 j rfl).1, (Fc 73 0 j (by show kFc.contains 73 = false; decide +kernel)).1]
    generalize hw6 : setI w5 16 0 2 (0 : Int32) = w6 at f6 t6 o6
    have e6 : gI w6 16 0 1 + (20 : Int32) = nI (tl + 20) := by rw [t6]; exact nI_add _ 20
    have mm : Ok (fX12_feed_13 N a b c d e N (fX12_feed_58 N) (0 : Int32) w6) (fun x => Fr [73, 17001] w6 x.2 ∧ x.1 = nI (tl + 20) ∧ gI x.2 16 0 1 = nI (tl + 20) ∧ (∀ j, j < tl → gI x.2 73 0 j = gI w6 73 0 j) ∧ ∀ i, i < 20 → gI x.2 73 0 (tl + i) = (fdA a b c d e i >>> (nI (24 - 8 * (i % 4)) &&& (31 : Int32))) &&& (255 : Int32)) := by
      rw [li0]
      refine m_feed13 (N := N) (w0 := w6) (t := tl) (by omega) t6 _ (fun w7 f7 p7 n7 => ?_) N 0 w6 (by omega) (by omega) (Fr_refl _ _) (fun _ _ => rfl) (fun i hi => by omega)
      have e7 : gI w7 16 0 1 + (20 : Int32) = nI (tl + 20) := by rw [(f7 16 0 1 rfl).1, t6]; exact nI_add _ 20
      have e8 : gI (setI w7 16 0 1 (nI (tl + 20))) 16 0 1 = nI (tl + 20) := by rw [gg_I, if_pos ⟨rfl, rfl, rfl⟩]
      have o8 : ∀ j, gI (setI w7 16 0 1 (nI (tl + 20))) 73 0 j = gI w7 73 0 j := fun j => by rw [gg_I, if_neg (by omega)]
      simp only [fX12_feed_58, ↓e7, ↓e8]
      exact ok_some ⟨Fr_setI (Fr_mono f7 rfl) rfl, rfl, e8, fun j hj => by rw [o8]; exact p7 j hj, fun i hi => by rw [o8]; exact n7 i hi⟩
    obtain ⟨⟨x, w7⟩, em, m1, m2, m3, m4, m5⟩ := mm
    simp only at m1 m2 m3 m4 m5
    have f67 : Fr [17002, 73, 17001] w5 w7 := Fr_trans (Fr_mono f6 rfl) (Fr_mono m1 rfl)
    have F : Fr (kFc ++ [17002, 73, 17001]) w w7 := Fr_trans (Fr_appl Fc) (Fr_appr f67)
    refine ⟨nI (tl + 20), w5, w7, ec, ?_, v, Cu_fr F i1 (dis_sub kFc_dis (by decide)), ZD_fr F i2 (dis_sub kFc_dis (by decide)), MO_fr F i3 (dis_sub kFc_dis (by decide)), TP_mk (tl := tl + 20) (by omega) ?_ m3 (fun j hj => ?_), FA_fr F i5 (dis_sub kFc_dis (by decide)), UN_fr F i6 (dis_sub kFc_dis (by decide)), IM_fr F i7 (dis_sub kFc_dis (by decide)), CL_fr F i8 (dis_sub kFc_dis (by decide)), OC_fr F i9 (dis_sub kFc_dis (by decide)), WD_fr F i10 (dis_sub kFc_dis (by decide))⟩
    · simp only [pX12_feed, ↓hw6, ↓e6, ↓q, ↓reduceIte, callW_eq]
      rw [em, m2]
    · rw [(f67 15 0 1 rfl).1]; exact a5'
    · have e3 : gI w7 3 0 j = gI w5 3 0 j := (f67 3 0 j (by
        show ([17002, 73, 17001] : List Nat).contains (4000 + j) = false
        have : j < 920 := by omega
        simp
        omega)).1
      rw [e3]
      rcases Nat.lt_or_ge j tl with z | z
      · obtain ⟨p1, p2, p3⟩ := t4 j z
        rw [old j z, m4 j z, o6]
        exact ⟨by' j, p1, p2, p3⟩
      · have hj' : tl + (j - tl) = j := by omega
        have n1 := new (j - tl) (by omega)
        have n2 := m5 (j - tl) (by omega)
        rw [hj'] at n1 n2
        rw [n1, n2, byC, b255]
        obtain ⟨n, hn, en⟩ := i255 (fdA a b c d e (j - tl) >>> (nI (24 - 8 * ((j - tl) % 4)) &&& (31 : Int32)))
        exact ⟨n, hn, en, en⟩
end

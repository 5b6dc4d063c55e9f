/-! ===== tools: what a call answers, what stays as it was ===== -/
def Ok {α : Type} (o : Option α) (Q : α → Prop) : Prop := ∃ r, o = some r ∧ Q r
theorem ok_some {α : Type} {r : α} {Q : α → Prop} (h : Q r) : Ok (some r) Q := ⟨r, rfl, h⟩
theorem ok_of {α : Type} {o : Option α} {r : α} {Q : α → Prop} (e : o = some r) (h : Q r) : Ok o Q := ⟨r, e, h⟩
theorem ok_bind {α β : Type} {o : Option α} {f : α → Option β} {P : α → Prop} {Q : β → Prop} (h : Ok o P) (h2 : ∀ r, P r → Ok (f r) Q) : Ok (o.bind f) Q := by
  obtain ⟨r, e, hr⟩ := h
  subst e
  exact h2 r hr
theorem ok_mono {α : Type} {o : Option α} {P Q : α → Prop} (h : Ok o P) (h2 : ∀ r, P r → Q r) : Ok o Q := by
  obtain ⟨r, e, hr⟩ := h
  exact ⟨r, e, h2 r hr⟩
/-- a cell's key: of an object its field, of an array the whole -/
def ky (k j : Nat) : Nat := if k ≤ 16 then 1000 * (k + 1) + j else k
def Fr (l : List Nat) (w w' : Wd) : Prop := ∀ k i j, l.contains (ky k j) = false → gI w' k i j = gI w k i j ∧ gL w' k i j = gL w k i j ∧ gR w' k i j = gR w k i j
def dis (l m : List Nat) : Bool := m.all (fun k => !l.contains k)
theorem dis_of {l m : List Nat} (h : dis l m = true) {k : Nat} (hk : m.contains k = true) : l.contains k = false := by
  have := (List.all_eq_true.mp h) k (by simpa using hk)
  simpa using this
theorem dis_sub {l m m' : List Nat} (h : dis l m = true) (hs : m'.all (fun k => m.contains k) = true) : dis l m' = true := by
  apply List.all_eq_true.mpr
  intro k hk
  have := dis_of h ((List.all_eq_true.mp hs) k hk)
  simp only [this, Bool.not_false]
theorem Fr_refl (l : List Nat) (w : Wd) : Fr l w w := fun _ _ _ _ => ⟨rfl, rfl, rfl⟩
theorem Fr_trans {l : List Nat} {w w1 w2 : Wd} (h : Fr l w w1) (h2 : Fr l w1 w2) : Fr l w w2 := fun k i j hk =>
  ⟨((h2 k i j hk).1).trans ((h k i j hk).1), ((h2 k i j hk).2.1).trans ((h k i j hk).2.1), ((h2 k i j hk).2.2).trans ((h k i j hk).2.2)⟩
theorem Fr_mono {l l' : List Nat} {w w1 : Wd} (h : Fr l w w1) (hl : l.all (fun k => l'.contains k) = true) : Fr l' w w1 := fun k i j hk => h k i j (by
  cases e : l.contains (ky k j) with
  | false => rfl
  | true =>
    have := (List.all_eq_true.mp hl) (ky k j) (by simpa using e)
    rw [this] at hk
    cases hk)
theorem Fr_ne {l : List Nat} {k j k' j' : Nat} (h : l.contains (ky k j) = true) (h' : l.contains (ky k' j') = false) (e : k' = k ∧ j' = j) : False := by
  obtain ⟨rfl, rfl⟩ := e
  rw [h] at h'
  cases h'
theorem Fr_setI {l : List Nat} {w w1 : Wd} {k i j : Nat} {x : Int32} (h : Fr l w w1) (hk : l.contains (ky k j) = true) : Fr l w (setI w1 k i j x) := fun k' i' j' hk' =>
  ⟨by rw [gg_I, if_neg (fun q => Fr_ne hk hk' ⟨q.1, q.2.2⟩)]; exact (h k' i' j' hk').1, (h k' i' j' hk').2.1, (h k' i' j' hk').2.2⟩
theorem Fr_setL {l : List Nat} {w w1 : Wd} {k i j : Nat} {x : Int64} (h : Fr l w w1) (hk : l.contains (ky k j) = true) : Fr l w (setL w1 k i j x) := fun k' i' j' hk' =>
  ⟨(h k' i' j' hk').1, by rw [gg_L, if_neg (fun q => Fr_ne hk hk' ⟨q.1, q.2.2⟩)]; exact (h k' i' j' hk').2.1, (h k' i' j' hk').2.2⟩
theorem Fr_setR {l : List Nat} {w w1 : Wd} {k i j : Nat} {x : Nat} (h : Fr l w w1) (hk : l.contains (ky k j) = true) : Fr l w (setR w1 k i j x) := fun k' i' j' hk' =>
  ⟨(h k' i' j' hk').1, (h k' i' j' hk').2.1, by rw [gg_R, if_neg (fun q => Fr_ne hk hk' ⟨q.1, q.2.2⟩)]; exact (h k' i' j' hk').2.2⟩
theorem Fr_row {l : List Nat} {w w1 : Wd} {k i : Nat} {g : Nat → Int32} (h : Fr l w w1) (hk : ∀ j, l.contains (ky k j) = true) : Fr l w (setRowI w1 k i g) := fun k' i' j' hk' =>
  ⟨by rw [gg_row, if_neg (fun q => Fr_ne (hk j') hk' ⟨q.1, rfl⟩)]; exact (h k' i' j' hk').1, (h k' i' j' hk').2.1, (h k' i' j' hk').2.2⟩
def kTC : List Nat := [9000, 11000, 9005, 9010, 9015, 9017, 6002, 21, 30, 31, 32, 33, 34, 35, 36, 37, 48, 50, 51, 52, 53]
theorem TC_fr {l : List Nat} {w w' : Wd} {m : Nat} {v : Vw} (f : Fr l w w') (T : TC w m v) (hl : dis l kTC = true := by decide) : TC w' m v := by
  have e8_0I : ∀ i, gI w' 8 i 0 = gI w 8 i 0 := fun i => (f 8 i 0 (dis_of hl (k := 9000) (by decide))).1
  have e10_0I : ∀ i, gI w' 10 i 0 = gI w 10 i 0 := fun i => (f 10 i 0 (dis_of hl (k := 11000) (by decide))).1
  have e8_5I : ∀ i, gI w' 8 i 5 = gI w 8 i 5 := fun i => (f 8 i 5 (dis_of hl (k := 9005) (by decide))).1
  have e8_10I : ∀ i, gI w' 8 i 10 = gI w 8 i 10 := fun i => (f 8 i 10 (dis_of hl (k := 9010) (by decide))).1
  have e8_15I : ∀ i, gI w' 8 i 15 = gI w 8 i 15 := fun i => (f 8 i 15 (dis_of hl (k := 9015) (by decide))).1
  have e8_17I : ∀ i, gI w' 8 i 17 = gI w 8 i 17 := fun i => (f 8 i 17 (dis_of hl (k := 9017) (by decide))).1
  have e5_2I : ∀ i, gI w' 5 i 2 = gI w 5 i 2 := fun i => (f 5 i 2 (dis_of hl (k := 6002) (by decide))).1
  have e21 : ∀ i j, gI w' 21 i j = gI w 21 i j := fun i j => (f 21 i j (dis_of hl (k := 21) (by decide))).1
  have e30 : ∀ i j, gI w' 30 i j = gI w 30 i j := fun i j => (f 30 i j (dis_of hl (k := 30) (by decide))).1
  have e31 : ∀ i j, gI w' 31 i j = gI w 31 i j := fun i j => (f 31 i j (dis_of hl (k := 31) (by decide))).1
  have e32 : ∀ i j, gI w' 32 i j = gI w 32 i j := fun i j => (f 32 i j (dis_of hl (k := 32) (by decide))).1
  have e33 : ∀ i j, gI w' 33 i j = gI w 33 i j := fun i j => (f 33 i j (dis_of hl (k := 33) (by decide))).1
  have e34 : ∀ i j, gI w' 34 i j = gI w 34 i j := fun i j => (f 34 i j (dis_of hl (k := 34) (by decide))).1
  have e35 : ∀ i j, gI w' 35 i j = gI w 35 i j := fun i j => (f 35 i j (dis_of hl (k := 35) (by decide))).1
  have e36 : ∀ i j, gI w' 36 i j = gI w 36 i j := fun i j => (f 36 i j (dis_of hl (k := 36) (by decide))).1
  have e37 : ∀ i j, gI w' 37 i j = gI w 37 i j := fun i j => (f 37 i j (dis_of hl (k := 37) (by decide))).1
  have e48 : ∀ i j, gI w' 48 i j = gI w 48 i j := fun i j => (f 48 i j (dis_of hl (k := 48) (by decide))).1
  have e50 : ∀ i j, gI w' 50 i j = gI w 50 i j := fun i j => (f 50 i j (dis_of hl (k := 50) (by decide))).1
  have e51 : ∀ i j, gI w' 51 i j = gI w 51 i j := fun i j => (f 51 i j (dis_of hl (k := 51) (by decide))).1
  have e52 : ∀ i j, gI w' 52 i j = gI w 52 i j := fun i j => (f 52 i j (dis_of hl (k := 52) (by decide))).1
  have e53 : ∀ i j, gI w' 53 i j = gI w 53 i j := fun i j => (f 53 i j (dis_of hl (k := 53) (by decide))).1
  unfold TC at T ⊢
  simp only [e8_0I, e10_0I, e8_5I, e8_10I, e8_15I, e8_17I, e5_2I, e21, e30, e31, e32, e33, e34, e35, e36, e37, e48, e50, e51, e52, e53]
  exact T
def kSC : List Nat := [14001, 14007, 14003, 60, 62, 63, 64, 65]
theorem SC_fr {l : List Nat} {w w' : Wd} {i : Nat} {v : Vw} (f : Fr l w w') (T : SC w i v) (hl : dis l kSC = true := by decide) : SC w' i v := by
  have e13_1I : ∀ i, gI w' 13 i 1 = gI w 13 i 1 := fun i => (f 13 i 1 (dis_of hl (k := 14001) (by decide))).1
  have e13_7I : ∀ i, gI w' 13 i 7 = gI w 13 i 7 := fun i => (f 13 i 7 (dis_of hl (k := 14007) (by decide))).1
  have e13_3I : ∀ i, gI w' 13 i 3 = gI w 13 i 3 := fun i => (f 13 i 3 (dis_of hl (k := 14003) (by decide))).1
  have e60 : ∀ i j, gI w' 60 i j = gI w 60 i j := fun i j => (f 60 i j (dis_of hl (k := 60) (by decide))).1
  have e62 : ∀ i j, gI w' 62 i j = gI w 62 i j := fun i j => (f 62 i j (dis_of hl (k := 62) (by decide))).1
  have e63 : ∀ i j, gI w' 63 i j = gI w 63 i j := fun i j => (f 63 i j (dis_of hl (k := 63) (by decide))).1
  have e64 : ∀ i j, gI w' 64 i j = gI w 64 i j := fun i j => (f 64 i j (dis_of hl (k := 64) (by decide))).1
  have e65 : ∀ i j, gI w' 65 i j = gI w 65 i j := fun i j => (f 65 i j (dis_of hl (k := 65) (by decide))).1
  unfold SC at T ⊢
  simp only [e13_1I, e13_7I, e13_3I, e60, e62, e63, e64, e65]
  exact T
def kTM : List Nat := [17012, 17013, 17014, 17015, 17017, 17019, 17065, 75, 76, 77, 78, 80, 81, 82, 83, 84, 85, 86, 87, 88, 89, 90, 91]
theorem TM_fr {l : List Nat} {w w' : Wd} {v : Vw} (f : Fr l w w') (T : TM w v) (hl : dis l kTM = true := by decide) : TM w' v := by
  have e16_12I : ∀ i, gI w' 16 i 12 = gI w 16 i 12 := fun i => (f 16 i 12 (dis_of hl (k := 17012) (by decide))).1
  have e16_13I : ∀ i, gI w' 16 i 13 = gI w 16 i 13 := fun i => (f 16 i 13 (dis_of hl (k := 17013) (by decide))).1
  have e16_14I : ∀ i, gI w' 16 i 14 = gI w 16 i 14 := fun i => (f 16 i 14 (dis_of hl (k := 17014) (by decide))).1
  have e16_15I : ∀ i, gI w' 16 i 15 = gI w 16 i 15 := fun i => (f 16 i 15 (dis_of hl (k := 17015) (by decide))).1
  have e16_17I : ∀ i, gI w' 16 i 17 = gI w 16 i 17 := fun i => (f 16 i 17 (dis_of hl (k := 17017) (by decide))).1
  have e16_19I : ∀ i, gI w' 16 i 19 = gI w 16 i 19 := fun i => (f 16 i 19 (dis_of hl (k := 17019) (by decide))).1
  have e16_65I : ∀ i, gI w' 16 i 65 = gI w 16 i 65 := fun i => (f 16 i 65 (dis_of hl (k := 17065) (by decide))).1
  have e75 : ∀ i j, gI w' 75 i j = gI w 75 i j := fun i j => (f 75 i j (dis_of hl (k := 75) (by decide))).1
  have e76 : ∀ i j, gI w' 76 i j = gI w 76 i j := fun i j => (f 76 i j (dis_of hl (k := 76) (by decide))).1
  have e77 : ∀ i j, gI w' 77 i j = gI w 77 i j := fun i j => (f 77 i j (dis_of hl (k := 77) (by decide))).1
  have e78 : ∀ i j, gI w' 78 i j = gI w 78 i j := fun i j => (f 78 i j (dis_of hl (k := 78) (by decide))).1
  have e80 : ∀ i j, gI w' 80 i j = gI w 80 i j := fun i j => (f 80 i j (dis_of hl (k := 80) (by decide))).1
  have e81 : ∀ i j, gI w' 81 i j = gI w 81 i j := fun i j => (f 81 i j (dis_of hl (k := 81) (by decide))).1
  have e82 : ∀ i j, gI w' 82 i j = gI w 82 i j := fun i j => (f 82 i j (dis_of hl (k := 82) (by decide))).1
  have e83 : ∀ i j, gI w' 83 i j = gI w 83 i j := fun i j => (f 83 i j (dis_of hl (k := 83) (by decide))).1
  have e84 : ∀ i j, gI w' 84 i j = gI w 84 i j := fun i j => (f 84 i j (dis_of hl (k := 84) (by decide))).1
  have e85 : ∀ i j, gI w' 85 i j = gI w 85 i j := fun i j => (f 85 i j (dis_of hl (k := 85) (by decide))).1
  have e86 : ∀ i j, gI w' 86 i j = gI w 86 i j := fun i j => (f 86 i j (dis_of hl (k := 86) (by decide))).1
  have e87 : ∀ i j, gI w' 87 i j = gI w 87 i j := fun i j => (f 87 i j (dis_of hl (k := 87) (by decide))).1
  have e88 : ∀ i j, gI w' 88 i j = gI w 88 i j := fun i j => (f 88 i j (dis_of hl (k := 88) (by decide))).1
  have e89 : ∀ i j, gI w' 89 i j = gI w 89 i j := fun i j => (f 89 i j (dis_of hl (k := 89) (by decide))).1
  have e90 : ∀ i j, gI w' 90 i j = gI w 90 i j := fun i j => (f 90 i j (dis_of hl (k := 90) (by decide))).1
  have e91 : ∀ i j, gI w' 91 i j = gI w 91 i j := fun i j => (f 91 i j (dis_of hl (k := 91) (by decide))).1
  unfold TM at T ⊢
  simp only [e16_12I, e16_13I, e16_14I, e16_15I, e16_17I, e16_19I, e16_65I, e75, e76, e77, e78, e80, e81, e82, e83, e84, e85, e86, e87, e88, e89, e90, e91]
  exact T
def kSM : List Nat := [101, 102, 103, 104, 105]
theorem SM_fr {l : List Nat} {w w' : Wd} {b : Nat} {v : Vw} (f : Fr l w w') (T : SM w b v) (hl : dis l kSM = true := by decide) : SM w' b v := by
  have e101 : ∀ i j, gI w' 101 i j = gI w 101 i j := fun i j => (f 101 i j (dis_of hl (k := 101) (by decide))).1
  have e102 : ∀ i j, gI w' 102 i j = gI w 102 i j := fun i j => (f 102 i j (dis_of hl (k := 102) (by decide))).1
  have e103 : ∀ i j, gI w' 103 i j = gI w 103 i j := fun i j => (f 103 i j (dis_of hl (k := 103) (by decide))).1
  have e104 : ∀ i j, gI w' 104 i j = gI w 104 i j := fun i j => (f 104 i j (dis_of hl (k := 104) (by decide))).1
  have e105 : ∀ i j, gI w' 105 i j = gI w 105 i j := fun i j => (f 105 i j (dis_of hl (k := 105) (by decide))).1
  unfold SM at T ⊢
  simp only [e101, e102, e103, e104, e105]
  exact T
def kRC : List Nat := 14000 :: (kTC ++ kSC)
theorem RC_fr {l : List Nat} {w w' : Wd} {i : Nat} {v : Vw} (f : Fr l w w') (T : RC w i v) (hl : dis l kRC = true := by decide) : RC w' i v := by
  refine ⟨?_, SC_fr f T.2 (dis_sub hl (by decide))⟩
  have e := (f 13 i 0 (dis_of hl (k := 14000) (by decide))).2.2
  rw [e]
  exact TC_fr f T.1 (dis_sub hl (by decide))
theorem WF_b31 {v : Vw} (h : WF v) (r j : Nat) : v r j < 2 ^ 31 := Nat.lt_trans (WF_bd h r j) (by decide)
theorem zB_0 (b : Bool) : zB b = nI 0 ↔ b = false := nz_b1 b
theorem zB_z (b : Bool) : zB b = 0 ↔ b = false := nz_b1 b
theorem zB_1 (b : Bool) : zB b = nI 1 ↔ b = true := nz_b2 b
theorem zB_t : zB true = nI 1 := rfl
theorem zB_f : zB false = nI 0 := rfl
theorem retZ_b (b : Bool) (w : Wd) : retZ (zB b) w = some (zB b, w) := by cases b <;> rfl
theorem lrm_1 {L : Nat} (h : 1 ≤ L) : lrm L = nI (L - 2) := by
  match L with
  | n + 1 => rfl
/-! the bits of a set -/
def pc (x : Nat) : Nat := cnt (fun k => x.testBit k) 12
noncomputable def bcE (a0 : Int32) : Int32 := ((pJ6_bitCount_0f7a4 0 a0 ((fun _ _ _ => 0), (fun _ _ _ => 0), (fun _ _ _ => 0))).map Prod.fst).getD 0
theorem bc_all : ∀ a, a < 64 → ∀ b, b < 64 → bcE (nI (64 * a + b)) = nI (pc (64 * a + b)) := by decide +kernel
theorem c_bits {N : Nat} {w : Wd} {x : Nat} (hx : x < 4096) : pJ6_bitCount_0f7a4 N (nI x) w = some (nI (pc x), w) := by
  have h : pJ6_bitCount_0f7a4 N (nI x) w = some (bcE (nI x), w) := rfl
  rw [h]
  have := bc_all (x / 64) (by omega) (x % 64) (by omega)
  rw [Nat.div_add_mod] at this
  rw [this]
section
variable {N : Nat} {w : Wd} {b : Nat} {v : Vw}
theorem m_isThere (T : TM w v) (S : SM w b v) (hF : WF v) (hb : b ≤ 1) {p n : Nat} (hp : p < v 0 1) (hn : n < 2 ^ 30) : pX12_isThere N (nI b) (nI p) (nI n) w = some (zB (sThere v p n), w) := by
  have h1 := WF_people hF
  have h17 := WF_gone hF p
  simp (disch := first | assumption | exact WF_b31 (by assumption) _ _ | omega) only [pX12_isThere, SM_gone S, TM_from T, TM_till T, nz_bit, nz_b1, nz_b2, nz_shl, nz_not, nz_and, nz_or, ldn, ldLn, ldRn, stn, stLn, cpn, nI_ltI, nI_leI, nI_eq, callW_eq, Option.bind_some, li0, li1, li2, li3, li4, li5, li6, li7, li8, li9, li10, li11, li12, li13, li14, li15, li16, li17, li18, li19, li20, li21, li22, li23, li24, li25, li26, li27, li28, li29, li30, li31, li32, li33, li34, li35, li36, li37, li38, li39, li40, li41, li42, li43, li44, li45, li47, li48, li50, li56, li57, li59, li60, li61, li62, li63, li64, li90, li96, li97, li99, li100, li122, li200, li255, li256, li900, li999, li1000, li9999, li65536, li99999, li1000000, li1048576, gg_I, gg_LI, gg_RI, gg_L, gg_IL, gg_RL, gg_R, gg_IR, gg_LR, gg_row, gg_Lrow, gg_Rrow, nI_add, pk_mul, Nat.reduceEqDiff, Nat.reduceAdd, Nat.reduceSub, Nat.reduceMul, Nat.reducePow, Nat.reduceLT, Nat.reduceLeDiff, ↓reduceIte, reduceCtorEq, and_true, true_and, and_false, false_and, and_self, not_true_eq_false, not_false_eq_true, if_true, if_false]
  unfold sThere zB
  grind
theorem m_hk38 (T : TM w v) (S : SM w b v) (hF : WF v) (hb : b ≤ 1) {p k n : Nat} (hp : p < v 0 1) (hk : k < v 0 0) (hn : n < 2 ^ 30) (hL : 1 ≤ v 16 (8 * p + k)) :
    ∀ fuel c, c ≤ v 0 6 → v 0 6 - c < fuel → anyB (sKill v (v 16 (8 * p + k)) k n) c = false →
    fX12_hasKnown_38 N (nI k) (nI n) fuel (nI (48 * b + 8 * p + k)) (nI (v 16 (8 * p + k) - 2)) (nI c) w = some (zB (!anyB (sKill v (v 16 (8 * p + k)) k n) (v 0 6)), w) := by
  have h1 := WF_people hF
  have h2 := WF_parts hF
  have h3 := WF_slides hF
  have h4 := WF_learned hF (8 * p + k)
  intro fuel
  induction fuel with
  | zero => intro c _ h; omega
  | succ f ih =>
    intro c hc hf hno
    rcases Nat.lt_or_ge c (v 0 6) with h | h
    · have b1 := WF_snight hF c
      have hfr : gI w 102 0 (48 * b + 8 * p + k) = zB (v 16 (8 * p + k) == 1) := SM_fresh S p k hp (by omega)
      simp (disch := first | assumption | exact WF_b31 (by assumption) _ _ | omega) only [fX12_hasKnown_38, fX12_hasKnown_59, fX12_hasKnown_61, fX12_hasKnown_62, TM_slides T, TM_spart T, TM_snight T, hfr, zB_0, h, nz_bit, nz_b1, nz_b2, nz_shl, nz_not, nz_and, nz_or, ldn, ldLn, ldRn, stn, stLn, cpn, nI_ltI, nI_leI, nI_eq, callW_eq, Option.bind_some, li0, li1, li2, li3, li4, li5, li6, li7, li8, li9, li10, li11, li12, li13, li14, li15, li16, li17, li18, li19, li20, li21, li22, li23, li24, li25, li26, li27, li28, li29, li30, li31, li32, li33, li34, li35, li36, li37, li38, li39, li40, li41, li42, li43, li44, li45, li47, li48, li50, li56, li57, li59, li60, li61, li62, li63, li64, li90, li96, li97, li99, li100, li122, li200, li255, li256, li900, li999, li1000, li9999, li65536, li99999, li1000000, li1048576, gg_I, gg_LI, gg_RI, gg_L, gg_IL, gg_RL, gg_R, gg_IR, gg_LR, gg_row, gg_Lrow, gg_Rrow, nI_add, pk_mul, Nat.reduceEqDiff, Nat.reduceAdd, Nat.reduceSub, Nat.reduceMul, Nat.reducePow, Nat.reduceLT, Nat.reduceLeDiff, ↓reduceIte, reduceCtorEq, and_true, true_and, and_false, false_and, and_self, not_true_eq_false, not_false_eq_true, if_true, if_false]
      by_cases hk' : sKill v (v 16 (8 * p + k)) k n c = true
      · have hany : anyB (sKill v (v 16 (8 * p + k)) k n) (v 0 6) = true := anyB_true.mpr ⟨c, h, hk'⟩
        rw [hany]
        simp only [sKill] at hk'
        simp only [Bool.not_true, zB_f]
        grind
      · have e := ih (c + 1) (by omega) (by omega) (by rw [anyB, hno]; simpa using hk')
        simp only [sKill] at hk'
        grind
    · have : c = v 0 6 := by omega
      subst this
      simp (disch := first | assumption | exact WF_b31 (by assumption) _ _ | omega) only [fX12_hasKnown_38, TM_slides T, nI_ltI, Nat.lt_irrefl, if_false, hno, Bool.not_false, zB_t, li1]
theorem m_hasKnown (T : TM w v) (S : SM w b v) (hF : WF v) (hb : b ≤ 1) (hN : 100 ≤ N) {p k n : Nat} (hp : p < v 0 1) (hk : k < v 0 0) (hn : n < 2 ^ 30) : pX12_hasKnown N (nI b) (nI p) (nI k) (nI n) w = some (zB (sKnow v p k n), w) := by
  have h1 := WF_people hF
  have h2 := WF_parts hF
  have h3 := WF_slides hF
  have h4 := WF_learned hF (8 * p + k)
  have h5 := WF_forget hF p
  have e := m_isThere (N := N) T S hF hb hp hn
  have hl : gI w 101 0 (48 * b + 8 * p + k) = lrm (v 16 (8 * p + k)) := SM_learned S p k hp (by omega)
  simp (disch := first | assumption | exact WF_b31 (by assumption) _ _ | omega) only [pX12_hasKnown, hl, e, zB_0, TM_forget T, nz_bit, nz_b1, nz_b2, nz_shl, nz_not, nz_and, nz_or, ldn, ldLn, ldRn, stn, stLn, cpn, nI_ltI, nI_leI, nI_eq, callW_eq, Option.bind_some, li0, li1, li2, li3, li4, li5, li6, li7, li8, li9, li10, li11, li12, li13, li14, li15, li16, li17, li18, li19, li20, li21, li22, li23, li24, li25, li26, li27, li28, li29, li30, li31, li32, li33, li34, li35, li36, li37, li38, li39, li40, li41, li42, li43, li44, li45, li47, li48, li50, li56, li57, li59, li60, li61, li62, li63, li64, li90, li96, li97, li99, li100, li122, li200, li255, li256, li900, li999, li1000, li9999, li65536, li99999, li1000000, li1048576, gg_I, gg_LI, gg_RI, gg_L, gg_IL, gg_RL, gg_R, gg_IR, gg_LR, gg_row, gg_Lrow, gg_Rrow, nI_add, pk_mul, Nat.reduceEqDiff, Nat.reduceAdd, Nat.reduceSub, Nat.reduceMul, Nat.reducePow, Nat.reduceLT, Nat.reduceLeDiff, ↓reduceIte, reduceCtorEq, and_true, true_and, and_false, false_and, and_self, not_true_eq_false, not_false_eq_true, if_true, if_false]
  unfold sKnow sLrn
  by_cases ht : sThere v p n = true
  · by_cases hL : v 16 (8 * p + k) = 0
    · simp [hL, lrm, ht, nz_neg1, zB_f]
    · have g := m_hk38 (N := N) T S hF hb hp hk hn (by omega) N 0 (by omega) (by omega) rfl
      simp (disch := first | assumption | exact WF_b31 (by assumption) _ _ | omega) only [lrm_1, g, nz_ltsub', nz_ge0, ht, nz_bit, nz_b1, nz_b2, nz_shl, nz_not, nz_and, nz_or, ldn, ldLn, ldRn, stn, stLn, cpn, nI_ltI, nI_leI, nI_eq, callW_eq, Option.bind_some, li0, li1, li2, li3, li4, li5, li6, li7, li8, li9, li10, li11, li12, li13, li14, li15, li16, li17, li18, li19, li20, li21, li22, li23, li24, li25, li26, li27, li28, li29, li30, li31, li32, li33, li34, li35, li36, li37, li38, li39, li40, li41, li42, li43, li44, li45, li47, li48, li50, li56, li57, li59, li60, li61, li62, li63, li64, li90, li96, li97, li99, li100, li122, li200, li255, li256, li900, li999, li1000, li9999, li65536, li99999, li1000000, li1048576, gg_I, gg_LI, gg_RI, gg_L, gg_IL, gg_RL, gg_R, gg_IR, gg_LR, gg_row, gg_Lrow, gg_Rrow, nI_add, pk_mul, Nat.reduceEqDiff, Nat.reduceAdd, Nat.reduceSub, Nat.reduceMul, Nat.reducePow, Nat.reduceLT, Nat.reduceLeDiff, ↓reduceIte, reduceCtorEq, and_true, true_and, and_false, false_and, and_self, not_true_eq_false, not_false_eq_true, if_true, if_false]
      by_cases c1 : n < v 16 (8 * p + k) - 2
      · have : ¬ (v 16 (8 * p + k) - 2 ≤ n) := by omega
        simp [c1, this, zB_f]
      · by_cases c2 : v 16 (8 * p + k) - 2 + v 8 p < n
        · have z1 : (v 16 (8 * p + k) - 2 ≤ n) := by omega
          have z2 : ¬ (n - (v 16 (8 * p + k) - 2) ≤ v 8 p) := by omega
          simp [c1, c2, z1, z2, zB_f]
        · have z0 : 1 ≤ v 16 (8 * p + k) := by omega
          have z1 : (v 16 (8 * p + k) - 2 ≤ n) := by omega
          have z2 : (n - (v 16 (8 * p + k) - 2) ≤ v 8 p) := by omega
          simp [c1, c2, z0, z1, z2]
  · simp [ht, zB_f]
theorem m_knownBy (T : TM w v) (S : SM w b v) (hF : WF v) (hb : b ≤ 1) (hN : 100 ≤ N) {p n : Nat} (hp : p < v 0 1) (hn : n < 2 ^ 30) : pX12_knownBy N (nI b) (nI p) (nI n) w = some (nI (sBits v p n), w) := by
  have h2 := WF_parts hF
  have key : ∀ fuel c, c ≤ v 0 0 → v 0 0 - c < fuel → fX12_knownBy_4 N (nI b) (nI p) (nI n) fuel (nI (mkB (fun k => sKnow v p k n) c)) (nI c) w = some (nI (sBits v p n), w) := by
    intro fuel
    induction fuel with
    | zero => intro c _ h; omega
    | succ f ih =>
      intro c hc hf
      rcases Nat.lt_or_ge c (v 0 0) with h | h
      · have e := ih (c + 1) (by omega) (by omega)
        have g := m_hasKnown (N := N) T S hF hb hN hp h hn
        simp only [mkB] at e
        simp (disch := first | assumption | exact WF_b31 (by assumption) _ _ | omega) only [fX12_knownBy_4, TM_parts T, g, zB_0, h, nz_bit, nz_b1, nz_b2, nz_shl, nz_not, nz_and, nz_or, ldn, ldLn, ldRn, stn, stLn, cpn, nI_ltI, nI_leI, nI_eq, callW_eq, Option.bind_some, li0, li1, li2, li3, li4, li5, li6, li7, li8, li9, li10, li11, li12, li13, li14, li15, li16, li17, li18, li19, li20, li21, li22, li23, li24, li25, li26, li27, li28, li29, li30, li31, li32, li33, li34, li35, li36, li37, li38, li39, li40, li41, li42, li43, li44, li45, li47, li48, li50, li56, li57, li59, li60, li61, li62, li63, li64, li90, li96, li97, li99, li100, li122, li200, li255, li256, li900, li999, li1000, li9999, li65536, li99999, li1000000, li1048576, gg_I, gg_LI, gg_RI, gg_L, gg_IL, gg_RL, gg_R, gg_IR, gg_LR, gg_row, gg_Lrow, gg_Rrow, nI_add, pk_mul, Nat.reduceEqDiff, Nat.reduceAdd, Nat.reduceSub, Nat.reduceMul, Nat.reducePow, Nat.reduceLT, Nat.reduceLeDiff, ↓reduceIte, reduceCtorEq, and_true, true_and, and_false, false_and, and_self, not_true_eq_false, not_false_eq_true, if_true, if_false]
        cases hc : sKnow v p c n <;> simpa [hc] using e
      · have : c = v 0 0 := by omega
        subst this
        simp (disch := first | assumption | exact WF_b31 (by assumption) _ _ | omega) only [fX12_knownBy_4, TM_parts T, nI_ltI, Nat.lt_irrefl, if_false, sBits]
  unfold pX12_knownBy
  rw [callW_eq, li0]
  exact key N 0 (by omega) (by omega)
theorem m_wanted (T : TM w v) (hF : WF v) (hN : 100 ≤ N) {k n : Nat} (hk : k < 2 ^ 30) (hn : n < 2 ^ 30) : pX12_wantedOf N (nI k) (nI n) w = some (nI (sWant v k n), w) := by
  have h3 := WF_parties hF
  have key : ∀ fuel c, c ≤ v 0 2 → v 0 2 - c < fuel → fX12_wantedOf_4 N (nI k) (nI n) fuel (nI (cnt (fun q => decide (n ≤ v 11 q) && (v 9 q == k || v 10 q == k)) c)) (nI c) w = some (nI (sWant v k n), w) := by
    intro fuel
    induction fuel with
    | zero => intro c _ h; omega
    | succ f ih =>
      intro c hc hf
      rcases Nat.lt_or_ge c (v 0 2) with h | h
      · have e := ih (c + 1) (by omega) (by omega)
        have b1 := WF_bd hF 11 c
        have b2 := WF_bd hF 9 c
        have b3 := WF_bd hF 10 c
        simp only [cnt] at e
        simp (disch := first | assumption | exact WF_b31 (by assumption) _ _ | omega) only [fX12_wantedOf_4, TM_parties T, TM_pnight T, TM_pfrom T, TM_pto T, h, nz_bit, nz_b1, nz_b2, nz_shl, nz_not, nz_and, nz_or, ldn, ldLn, ldRn, stn, stLn, cpn, nI_ltI, nI_leI, nI_eq, callW_eq, Option.bind_some, li0, li1, li2, li3, li4, li5, li6, li7, li8, li9, li10, li11, li12, li13, li14, li15, li16, li17, li18, li19, li20, li21, li22, li23, li24, li25, li26, li27, li28, li29, li30, li31, li32, li33, li34, li35, li36, li37, li38, li39, li40, li41, li42, li43, li44, li45, li47, li48, li50, li56, li57, li59, li60, li61, li62, li63, li64, li90, li96, li97, li99, li100, li122, li200, li255, li256, li900, li999, li1000, li9999, li65536, li99999, li1000000, li1048576, gg_I, gg_LI, gg_RI, gg_L, gg_IL, gg_RL, gg_R, gg_IR, gg_LR, gg_row, gg_Lrow, gg_Rrow, nI_add, pk_mul, Nat.reduceEqDiff, Nat.reduceAdd, Nat.reduceSub, Nat.reduceMul, Nat.reducePow, Nat.reduceLT, Nat.reduceLeDiff, ↓reduceIte, reduceCtorEq, and_true, true_and, and_false, false_and, and_self, not_true_eq_false, not_false_eq_true, if_true, if_false]
        grind
      · have : c = v 0 2 := by omega
        subst this
        simp (disch := first | assumption | exact WF_b31 (by assumption) _ _ | omega) only [fX12_wantedOf_4, TM_parties T, nI_ltI, Nat.lt_irrefl, if_false, sWant]
  unfold pX12_wantedOf
  rw [callW_eq, li0]
  exact key N 0 (by omega) (by omega)
theorem m_many (hN : 100 ≤ N) {x : Nat} (hx : x < 2 ^ 31) : pX12_manyOf N (nI x) w = some (nI (pc x), w) := by
  have key : ∀ fuel c, c ≤ 12 → 12 - c < fuel → fX12_manyOf_4 N (nI x) fuel (nI (cnt (fun k => x.testBit k) c)) (nI c) w = some (nI (pc x), w) := by
    intro fuel
    induction fuel with
    | zero => intro c _ h; omega
    | succ f ih =>
      intro c hc hf
      rcases Nat.lt_or_ge c 12 with h | h
      · have e := ih (c + 1) (by omega) (by omega)
        simp only [cnt] at e
        simp (disch := first | assumption | exact WF_b31 (by assumption) _ _ | omega) only [fX12_manyOf_4, h, nz_bit, nz_b1, nz_b2, nz_shl, nz_not, nz_and, nz_or, ldn, ldLn, ldRn, stn, stLn, cpn, nI_ltI, nI_leI, nI_eq, callW_eq, Option.bind_some, li0, li1, li2, li3, li4, li5, li6, li7, li8, li9, li10, li11, li12, li13, li14, li15, li16, li17, li18, li19, li20, li21, li22, li23, li24, li25, li26, li27, li28, li29, li30, li31, li32, li33, li34, li35, li36, li37, li38, li39, li40, li41, li42, li43, li44, li45, li47, li48, li50, li56, li57, li59, li60, li61, li62, li63, li64, li90, li96, li97, li99, li100, li122, li200, li255, li256, li900, li999, li1000, li9999, li65536, li99999, li1000000, li1048576, gg_I, gg_LI, gg_RI, gg_L, gg_IL, gg_RL, gg_R, gg_IR, gg_LR, gg_row, gg_Lrow, gg_Rrow, nI_add, pk_mul, Nat.reduceEqDiff, Nat.reduceAdd, Nat.reduceSub, Nat.reduceMul, Nat.reducePow, Nat.reduceLT, Nat.reduceLeDiff, ↓reduceIte, reduceCtorEq, and_true, true_and, and_false, false_and, and_self, not_true_eq_false, not_false_eq_true, if_true, if_false]
        exact e
      · have : c = 12 := by omega
        subst this
        simp (disch := first | assumption | exact WF_b31 (by assumption) _ _ | omega) only [fX12_manyOf_4, li12, nI_ltI, Nat.lt_irrefl, if_false, pc]
  unfold pX12_manyOf
  rw [callW_eq, li0]
  exact key N 0 (by omega) (by omega)
end

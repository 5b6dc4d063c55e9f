/-! ===== the class cuts words, numbers, signs ===== -/
theorem nI_sb {a b : Nat} (h : b ≤ a) : nI a - nI b = nI (a - b) := by
  have e : nI a = nI (a - b) + nI b := by rw [nI_add]; congr 1; omega
  rw [e]
  exact Int32.add_sub_cancel _ _
theorem l_sm : ∀ k, k < 64 → ((nI k).toInt64 &&& (63 : Int64)).toBitVec.smod 64 = BitVec.ofNat 64 k := by decide +kernel
theorem l_shl (x : Nat) {k : Nat} (hk : k < 64) : lN x <<< ((nI k).toInt64 &&& (63 : Int64)) = lN (x * 2 ^ k) := by
  apply Int64.toBitVec_inj.1
  show (BitVec.ofNat 64 x) <<< (((nI k).toInt64 &&& (63 : Int64)).toBitVec.smod 64) = BitVec.ofNat 64 (x * 2 ^ k)
  rw [l_sm k hk, BitVec.shiftLeft_eq', BitVec.toNat_ofNat, Nat.mod_eq_of_lt (show k < 2 ^ 64 by omega)]
  apply BitVec.eq_of_toNat_eq
  rw [BitVec.toNat_shiftLeft, BitVec.toNat_ofNat, BitVec.toNat_ofNat, Nat.shiftLeft_eq, Nat.mod_mul_mod]
theorem l_or (a b : Nat) : lN a ||| lN b = lN (a ||| b) := by
  apply Int64.toBitVec_inj.1
  show BitVec.ofNat 64 a ||| BitVec.ofNat 64 b = BitVec.ofNat 64 (a ||| b)
  apply BitVec.eq_of_getLsbD_eq
  intro i hi
  simp [hi]
theorem or32 {x c : Nat} (hc : c < 32) : x * 2 ^ 5 ||| c = 32 * x + c := by
  have h := Nat.two_pow_add_eq_or_of_lt (i := 5) (b := c) hc x
  rw [Nat.mul_comm x]
  rw [← h]
theorem pkL_lt {b : Nat → Nat} {i : Nat} : ∀ d, (∀ j, j < d → isL (b (i + j)) = true) → pkL b i d < 2 ^ (5 * d) := by
  intro d
  induction d with
  | zero => intro _; exact Nat.one_pos
  | succ d ih =>
    intro h
    have h1 := ih (fun j hj => h j (by omega))
    have h2 := h d (by omega)
    unfold isL at h2
    rw [Bool.and_eq_true, decide_eq_true_eq, decide_eq_true_eq] at h2
    rw [pkL, show 5 * (d + 1) = 5 * d + 5 by omega, Nat.pow_add]
    omega
theorem pkL_ge {b : Nat → Nat} {i : Nat} : ∀ d, (∀ j, j < d + 1 → isL (b (i + j)) = true) → 2 ^ (5 * d) ≤ pkL b i (d + 1) := by
  intro d
  induction d with
  | zero =>
    intro h
    have h2 := h 0 (by omega)
    unfold isL at h2
    rw [Bool.and_eq_true, decide_eq_true_eq, decide_eq_true_eq] at h2
    rw [pkL, pkL]
    show 1 ≤ _
    omega
  | succ d ih =>
    intro h
    have h1 := ih (fun j hj => h j (by omega))
    rw [pkL, show 5 * (d + 1) = 5 * d + 5 by omega, Nat.pow_add]
    omega
theorem wlL_small : ∀ j, j < 24 → wlL.getD j 0 < 2 ^ 35 := by decide +kernel
section
variable {N : Nat} {w w' : Wd} {b : Nat → Nat} {n : Nat}
/-- kinds as the class writes them -/
def kC (k : Nat) : Int32 := if k = 50 then (-2 : Int32) else if k = 60 then (-1 : Int32) else if k = 61 then (-3 : Int32) else if k = 62 then (-4 : Int32) else nI k
/-- a number's value: the same, or beyond both -/
def smN (x y : Nat) : Prop := x < 2 ^ 30 ∧ ((y ≤ 99999 ∧ x = y) ∨ (99999 < y ∧ 99999 < x))
/-- row k of the class's table says (kind, value), at place p -/
def rwC (w : Wd) (k K V p : Nat) : Prop := gI w 68 0 k = kC K ∧ gI w 69 0 k = nI p ∧ (K = 61 → ∃ x, gI w 70 0 k = nI x ∧ smN x V) ∧ (K = 62 → gI w 70 0 k = nI V)
def adT (w : Wd) (k K V p : Nat) (w' : Wd) : Prop := Fr [68, 69, 70, 15004] w w' ∧ gI w' 14 0 4 = nI (k + 1) ∧ (∀ j, j < k → gI w' 68 0 j = gI w 68 0 j ∧ gI w' 69 0 j = gI w 69 0 j ∧ gI w' 70 0 j = gI w 70 0 j) ∧ rwC w' k K V p
theorem c_cutWord (hB : BC w b n) (hW : WD w) (hN : 1000 ≤ N) {i k : Nat} (hi : i < n) (hk : k ≤ 900) (h4 : gI w 14 0 4 = nI k) (hl : isL (b i) = true) :
    Ok (pX10_cutWord N (nI i) w) (fun x => x.1 = nI (tkN b n i).2.2 ∧ adT w k (tkN b n i).1 (tkN b n i).2.1 i x.2) := by
  have hn := hB.2.2.1
  generalize he : rn (fun j => isL (b j)) n i = e
  have hie : i < e := by
    rw [← he, rn_go hi (P := fun j => isL (b j)) hl]
    have := rn_ge (fun j => isL (b j)) n (i + 1)
    omega
  have hen : e ≤ n := by rw [← he]; exact rn_le (fun j => isL (b j)) (by omega)
  have hlet : ∀ j, i ≤ j → j < e → isL (b j) = true := fun j h1 h2 => (rn_in (fun j => isL (b j)) h1 (by rw [he]; exact h2)).2
  have hstop : e < n → isL (b e) = false := fun h => by
    have := rn_stop (fun j => isL (b j)) (n := n) (i := i) (by rw [he]; exact h)
    rw [he] at this
    exact this
  have hbt : isL (bt b n e) = false := by
    unfold bt
    split
    · rename_i z; exact hstop z
    · rfl
  /- what is added at the end -/
  have fin : Ok (fX10_cutWord_34 N (nI i) (lN (pkL b i (if e - i < 12 then e - i else 12))) (nI e) w) (fun x => x.1 = nI (tkN b n i).2.2 ∧ adT w k (tkN b n i).1 (tkN b n i).2.1 i x.2) := by
    have hmin : (if e - i < 12 then e - i else 12) ≤ 12 := by split <;> omega
    have hle : (if e - i < 12 then e - i else 12) ≤ e - i := by split <;> omega
    have hpk := pkL_lt (b := b) (i := i) (if e - i < 12 then e - i else 12) (fun j hj => hlet (i + j) (by omega) (by omega))
    have hp60 : pkL b i (if e - i < 12 then e - i else 12) < 2 ^ 60 := Nat.lt_of_lt_of_le hpk (Nat.pow_le_pow_right (by omega) (by omega))
    have gw := c_wordNumber (N := N) (w := w) (by omega) hW (x := pkL b i (if e - i < 12 then e - i else 12)) (by omega)
    have hidx : wlL.idxOf (pkL b i (if e - i < 12 then e - i else 12)) = wdN b i (e - i) := by
      unfold wdN
      by_cases y : e - i ≤ 12
      · rw [if_pos y]
        congr 2
        split <;> omega
      · rw [if_neg y, if_neg (by omega)]
        refine idx_no wlL (fun j hj z => ?_)
        have h1 := wlL_small j hj
        have h2 := pkL_ge (b := b) (i := i) 11 (fun j hj => hlet (i + j) (by omega) (by omega))
        have h3 : 2 ^ 35 ≤ 2 ^ (5 * 11) := Nat.pow_le_pow_right (by omega) (by omega)
        rw [z] at h1
        have h2' : 2 ^ (5 * 11) ≤ pkL b i 12 := h2
        omega
    rw [hidx] at gw
    have tk : tkN b n i = if wdN b i (e - i) < 24 then (wdN b i (e - i), 0, e) else if e - i ≤ 6 then (62, pkL b i (e - i) * 32 ^ (6 - (e - i)), e) else (50, 0, e) := by
      unfold tkN
      rw [if_pos hl, he]
    rw [tk]
    by_cases y : wdN b i (e - i) < 24
    · rw [if_pos y] at gw ⊢
      have q : (nI (wdN b i (e - i)) = (-1 : Int32)) = False := eq_false (nz_ne1 (by omega))
      simp only [fX10_cutWord_34, ↓cbnd gw, ↓q, ↓reduceIte, callW_eq]
      refine ok_bind (c_addT (N := N) (a1 := nI (wdN b i (e - i))) (a2 := nI i) (a3 := (0 : Int32)) hk h4) ?_
      rintro w1 ⟨g1, g2, g3, g4, g5, g6⟩
      refine ok_some ⟨rfl, g1, g2, g3, ?_, g5, fun z => ?_, fun z => ?_⟩
      · rw [g4, kC, if_neg (by omega), if_neg (by omega), if_neg (by omega), if_neg (by omega)]
      · have z' : wdN b i (e - i) = 61 := z
        omega
      · have z' : wdN b i (e - i) = 62 := z
        omega
    · rw [if_neg y] at gw ⊢
      have q : ((-1 : Int32) = (-1 : Int32)) = True := eq_true rfl
      have ed : nI e - nI i = nI (e - i) := nI_sb (by omega)
      by_cases y6 : e - i ≤ 6
      · rw [if_pos y6]
        have e6 : (6 : Int32) - (nI e - nI i) = nI (6 - (e - i)) := by rw [ed]; exact nI_sb (a := 6) y6
        have lt : ((6 : Int32) - (nI e - nI i) < 0) = False := eq_false (by rw [e6]; exact nz_ge0 (by omega))
        have ev : (lN (pkL b i (if e - i < 12 then e - i else 12)) <<< (((5 : Int32) * ((6 : Int32) - (nI e - nI i))).toInt64 &&& (63 : Int64))).toInt32 = nI (pkL b i (e - i) * 32 ^ (6 - (e - i))) := by
          rw [e6, if_pos (by omega), show (5 : Int32) = nI 5 from rfl, pk_mul, l_shl _ (by omega), lN_i, Nat.pow_mul]
        simp only [fX10_cutWord_34, ↓cbnd gw, ↓q, ↓lt, ↓ev, ↓reduceIte, callW_eq]
        refine ok_bind (c_addT (N := N) (a1 := (-4 : Int32)) (a2 := nI i) (a3 := nI (pkL b i (e - i) * 32 ^ (6 - (e - i)))) hk h4) ?_
        rintro w1 ⟨g1, g2, g3, g4, g5, g6⟩
        refine ok_some ⟨rfl, g1, g2, g3, ?_, g5, fun z => ?_, fun _ => g6⟩
        · rw [g4]; rfl
        · have z' : (62 : Nat) = 61 := z
          omega
      · rw [if_neg y6]
        have lt : ((6 : Int32) - (nI e - nI i) < 0) = True := eq_true (by
          rw [ed, Int32.lt_iff_toInt_lt]
          have : ∀ d : Fin 901, 6 < d.val → ((6 : Int32) - nI d.val).toInt < (0 : Int32).toInt := by decide +kernel
          exact this ⟨e - i, by omega⟩ (by show 6 < e - i; omega))
        simp only [fX10_cutWord_34, ↓cbnd gw, ↓q, ↓lt, ↓reduceIte, callW_eq]
        refine ok_bind (c_addT (N := N) (a1 := (-2 : Int32)) (a2 := nI i) (a3 := (0 : Int32)) hk h4) ?_
        rintro w1 ⟨g1, g2, g3, g4, g5, g6⟩
        refine ok_some ⟨rfl, g1, g2, g3, ?_, g5, fun z => ?_, fun z => ?_⟩
        · rw [g4]; rfl
        · have z' : (50 : Nat) = 61 := z
          omega
        · have z' : (50 : Nat) = 62 := z
          omega
  have key : ∀ r d fuel, i + d + r = e → r < fuel → Ok (fX10_cutWord_6 N (nI i) fuel (fX10_cutWord_34 N (nI i)) (lN (pkL b i (if d < 12 then d else 12))) (nI (i + d)) (nI d) w) (fun x => x.1 = nI (tkN b n i).2.2 ∧ adT w k (tkN b n i).1 (tkN b n i).2.1 i x.2) := by
    intro r
    induction r with
    | zero =>
      intro d fuel hd hf
      obtain ⟨f, rfl⟩ : ∃ m, fuel = m + 1 := ⟨fuel - 1, by omega⟩
      have e1 : d = e - i := by omega
      have e2 : i + d = e := by omega
      rw [e2, e1]
      by_cases y : e - i < n
      · have lt : (nI (e - i) < gI w 14 0 7) = True := eq_true (by rw [hB.2.1]; exact (nI_ltI (by omega) (by omega)).mpr y)
        have g1 := c_byteAt (N := N) hB (i := e) (by omega)
        have g2 := c_isLetter (N := N) (w := w) (x := bt b n e) (by have := bt_lt hB e; omega)
        rw [hbt] at g2
        simp only [fX10_cutWord_6, ↓lt, ↓cbnd g1, ↓cbnd g2, ↓z2, ↓reduceIte]
        exact fin
      · have lt : (nI (e - i) < gI w 14 0 7) = False := eq_false (fun z => by rw [hB.2.1] at z; exact y ((nI_ltI (by omega) (by omega)).mp z))
        simp only [fX10_cutWord_6, ↓lt, ↓reduceIte]
        exact fin
    | succ r ih =>
      intro d fuel hd hf
      obtain ⟨f, rfl⟩ : ∃ m, fuel = m + 1 := ⟨fuel - 1, by omega⟩
      have lt : (nI d < gI w 14 0 7) = True := eq_true (by rw [hB.2.1]; exact (nI_ltI (by omega) (by omega)).mpr (by omega))
      have hlb := hlet (i + d) (by omega) (by omega)
      have ebt : bt b n (i + d) = b (i + d) := by unfold bt; rw [if_pos (by omega)]
      have g1 := c_byteAt (N := N) hB (i := i + d) (by omega)
      rw [ebt] at g1
      have hb8 := (hB.2.2.2 (i + d) (by omega)).1
      have g2 := c_isLetter (N := N) (w := w) (x := b (i + d)) (by omega)
      rw [hlb] at g2
      have e1 : nI (i + d) + (1 : Int32) = nI (i + (d + 1)) := nI_add _ 1
      have e2 : nI d + (1 : Int32) = nI (d + 1) := nI_add _ 1
      have en := ih (d + 1) f (by omega) (by omega)
      by_cases y : d < 12
      · have lt2 : (nI d < (12 : Int32)) = True := eq_true ((nI_ltI (b := 12) (by omega) (by omega)).mpr y)
        have hlb' := hlb
        unfold isL at hlb'
        rw [Bool.and_eq_true, decide_eq_true_eq, decide_eq_true_eq] at hlb'
        have ev : (lN (pkL b i (if d < 12 then d else 12)) <<< ((5 : Int32).toInt64 &&& (63 : Int64))) ||| ((nI (b (i + d)) - (97 : Int32)) + (1 : Int32)).toInt64 = lN (pkL b i (if d + 1 < 12 then d + 1 else 12)) := by
          have ea : nI (b (i + d)) - (97 : Int32) + (1 : Int32) = nI (b (i + d) - 96) := by
            rw [show (97 : Int32) = nI 97 from rfl, nI_sb (by omega), li1, nI_add]
            congr 1
            omega
          have es : (if d + 1 < 12 then d + 1 else 12) = d + 1 := by split <;> omega
          rw [ea, nI_l (by omega), if_pos y, es, show (5 : Int32) = nI 5 from rfl, l_shl _ (by omega), l_or, or32 (by omega), pkL]
        simp only [fX10_cutWord_6, ↓lt, ↓cbnd g1, ↓cbnd g2, ↓z1, ↓lt2, ↓ev, ↓e1, ↓e2, ↓reduceIte, callW_eq]
        exact en
      · have lt2 : (nI d < (12 : Int32)) = False := eq_false (fun z => y ((nI_ltI (b := 12) (by omega) (by omega)).mp z))
        rw [if_neg (show ¬ d + 1 < 12 by omega)] at en
        rw [if_neg y]
        simp only [fX10_cutWord_6, ↓lt, ↓cbnd g1, ↓cbnd g2, ↓z1, ↓lt2, ↓e1, ↓e2, ↓reduceIte, callW_eq]
        exact en
  unfold pX10_cutWord
  rw [callW_eq]
  exact key (e - i) 0 N (by omega) (by omega)
end

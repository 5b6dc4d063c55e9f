/-! ===== the class cuts numbers and signs, and all ===== -/
def cnG (b : Nat → Nat) (i : Nat) : Nat → Nat
  | 0 => 0
  | d + 1 => if cnG b i d < 1000000 then cnG b i d * 10 + (b (i + d) - 48) else cnG b i d
theorem cnG_sm {b : Nat → Nat} {i : Nat} : ∀ d, (∀ j, j < d → isD (b (i + j)) = true) → cnG b i d < 10000000 ∧ smN (cnG b i d) (nuG b i d) := by
  intro d
  induction d with
  | zero => intro _; exact ⟨by show 0 < 10000000; omega, by show 0 < 2 ^ 30; omega, Or.inl ⟨by show 0 ≤ 99999; omega, rfl⟩⟩
  | succ d ih =>
    intro h
    obtain ⟨h0, h1, h2⟩ := ih (fun j hj => h j (by omega))
    have hd := h d (by omega)
    unfold isD at hd
    rw [Bool.and_eq_true, decide_eq_true_eq, decide_eq_true_eq] at hd
    unfold smN
    rw [cnG, nuG]
    rcases h2 with ⟨a, e⟩ | ⟨a, e⟩
    · rw [if_pos (by omega), if_neg (by omega), e]
      refine ⟨by omega, by omega, ?_⟩
      rcases Nat.lt_or_ge 99999 (10 * nuG b i d + (b (i + d) - 48)) with z | z
      · exact Or.inr ⟨z, by omega⟩
      · exact Or.inl ⟨by omega, by omega⟩
    · rw [if_pos a]
      split
      · exact ⟨by omega, by omega, Or.inr ⟨a, by omega⟩⟩
      · exact ⟨by omega, by omega, Or.inr ⟨a, by omega⟩⟩
def sgC (x : Nat) : Nat → Int32
  | 0 => (-2 : Int32)
  | c + 1 => if (strB.getD 0 []).getD c 0 = nI x then nI (32 + c) else sgC x c
theorem sgC_all : ∀ x : Fin 256, x.val ≠ 32 → sgC x.val 13 = kC (sgN x.val 0) := by decide +kernel
section
variable {N : Nat} {w w' : Wd} {b : Nat → Nat} {n : Nat}
theorem c_cutNumber (hB : BC w b n) (hN : 1000 ≤ N) {i k : Nat} (hi : i < n) (hk : k ≤ 900) (h4 : gI w 14 0 4 = nI k) (hl : isL (b i) = false) (hd : isD (b i) = true) :
    Ok (pX10_cutNumber N (nI i) w) (fun x => x.1 = nI (tkN b n i).2.2 ∧ adT w k (tkN b n i).1 (tkN b n i).2.1 i x.2) := by
  have hn := hB.2.2.1
  generalize he : rn (fun j => isD (b j)) n i = e
  have hie : i < e := by
    rw [← he, rn_go hi (P := fun j => isD (b j)) hd]
    have := rn_ge (fun j => isD (b j)) n (i + 1)
    omega
  have hen : e ≤ n := by rw [← he]; exact rn_le (fun j => isD (b j)) (by omega)
  have hlet : ∀ j, i ≤ j → j < e → isD (b j) = true := fun j h1 h2 => (rn_in (fun j => isD (b j)) h1 (by rw [he]; exact h2)).2
  have hstop : e < n → isD (b e) = false := fun h => by
    have := rn_stop (fun j => isD (b j)) (n := n) (i := i) (by rw [he]; exact h)
    rw [he] at this
    exact this
  have hbt : isD (bt b n e) = false := by
    unfold bt
    split
    · rename_i z; exact hstop z
    · rfl
  have tk : tkN b n i = (61, nuG b i (e - i), e) := by
    unfold tkN
    rw [if_neg (by rw [hl]; decide), if_pos hd, he]
  have fin : Ok (fX10_cutNumber_31 N (nI i) (nI (cnG b i (e - i))) (nI e) w) (fun x => x.1 = nI (tkN b n i).2.2 ∧ adT w k (tkN b n i).1 (tkN b n i).2.1 i x.2) := by
    rw [tk]
    simp only [fX10_cutNumber_31, callW_eq]
    refine ok_bind (c_addT (N := N) (a1 := (-3 : Int32)) (a2 := nI i) (a3 := nI (cnG b i (e - i))) hk h4) ?_
    rintro w1 ⟨g1, g2, g3, g4, g5, g6⟩
    refine ok_some ⟨rfl, g1, g2, g3, ?_, g5, fun _ => ⟨cnG b i (e - i), g6, (cnG_sm (e - i) (fun j hj => hlet (i + j) (by omega) (by omega))).2⟩, fun z => ?_⟩
    · rw [g4]; rfl
    · have z' : (61 : Nat) = 62 := z
      omega
  have key : ∀ r d fuel, i + d + r = e → r < fuel → Ok (fX10_cutNumber_6 N (nI i) fuel (fX10_cutNumber_31 N (nI i)) (nI (cnG b i d)) (nI (i + d)) (nI d) w) (fun x => x.1 = nI (tkN b n i).2.2 ∧ adT w k (tkN b n i).1 (tkN b n i).2.1 i x.2) := by
    intro r
    induction r with
    | zero =>
      intro d fuel hd hf
      obtain ⟨f, rfl⟩ : ∃ m, fuel = m + 1 := ⟨fuel - 1, by omega⟩
      have e1 : d = e - i := by omega
      have e2 : i + d = e := by omega
      rw [e2, e1]
      by_cases y : e - i < n
      · have lt : (nI (e - i) < gI w 14 0 7) = True := eq_true (by rw [hB.2.1]; exact (nI_ltI (by omega) (by omega)).mpr y)
        have g1 := c_byteAt (N := N) hB (i := e) (by omega)
        have g2 := c_isDigit (N := N) (w := w) (x := bt b n e) (by have := bt_lt hB e; omega)
        rw [hbt] at g2
        simp only [fX10_cutNumber_6, ↓lt, ↓cbnd g1, ↓cbnd g2, ↓z2, ↓reduceIte]
        exact fin
      · have lt : (nI (e - i) < gI w 14 0 7) = False := eq_false (fun z => by rw [hB.2.1] at z; exact y ((nI_ltI (by omega) (by omega)).mp z))
        simp only [fX10_cutNumber_6, ↓lt, ↓reduceIte]
        exact fin
    | succ r ih =>
      intro d fuel hd hf
      obtain ⟨f, rfl⟩ : ∃ m, fuel = m + 1 := ⟨fuel - 1, by omega⟩
      have lt : (nI d < gI w 14 0 7) = True := eq_true (by rw [hB.2.1]; exact (nI_ltI (by omega) (by omega)).mpr (by omega))
      have hlb := hlet (i + d) (by omega) (by omega)
      have ebt : bt b n (i + d) = b (i + d) := by unfold bt; rw [if_pos (by omega)]
      have g1 := c_byteAt (N := N) hB (i := i + d) (by omega)
      rw [ebt] at g1
      have hb8 := (hB.2.2.2 (i + d) (by omega)).1
      have g2 := c_isDigit (N := N) (w := w) (x := b (i + d)) (by omega)
      rw [hlb] at g2
      have e1 : nI (i + d) + (1 : Int32) = nI (i + (d + 1)) := nI_add _ 1
      have e2 : nI d + (1 : Int32) = nI (d + 1) := nI_add _ 1
      have en := ih (d + 1) f (by omega) (by omega)
      have hc := (cnG_sm (b := b) (i := i) d (fun j hj => hlet (i + j) (by omega) (by omega))).1
      rw [cnG] at en
      by_cases y : cnG b i d < 1000000
      · have lt2 : (nI (cnG b i d) < (1000000 : Int32)) = True := eq_true ((nI_ltI (b := 1000000) (by omega) (by omega)).mpr y)
        have hlb' := hlb
        unfold isD at hlb'
        rw [Bool.and_eq_true, decide_eq_true_eq, decide_eq_true_eq] at hlb'
        have ev : ((nI (cnG b i d) * (10 : Int32)) + nI (b (i + d))) - (48 : Int32) = nI (cnG b i d * 10 + (b (i + d) - 48)) := by
          rw [show (10 : Int32) = nI 10 from rfl, show (48 : Int32) = nI 48 from rfl, pk_mul, nI_add, nI_sb (by omega)]
          congr 1
          omega
        rw [if_pos y] at en
        simp only [fX10_cutNumber_6, ↓lt, ↓cbnd g1, ↓cbnd g2, ↓z1, ↓lt2, ↓ev, ↓e1, ↓e2, ↓reduceIte, callW_eq]
        exact en
      · have lt2 : (nI (cnG b i d) < (1000000 : Int32)) = False := eq_false (fun z => y ((nI_ltI (b := 1000000) (by omega) (by omega)).mp z))
        rw [if_neg y] at en
        simp only [fX10_cutNumber_6, ↓lt, ↓cbnd g1, ↓cbnd g2, ↓z1, ↓lt2, ↓e1, ↓e2, ↓reduceIte, callW_eq]
        exact en
  unfold pX10_cutNumber
  rw [callW_eq]
  exact key (e - i) 0 N (by omega) (by omega)
theorem c_length0 : pJ0_length N 0 w = some (nI 13, w) := rfl
theorem c_charAt0 {j : Nat} (hj : j < 13) : pJ0_charAt N 0 (nI j) w = some ((strB.getD 0 []).getD j 0, w) := by
  unfold pJ0_charAt
  have h1 : (nI j).toNatClampNeg = j := nI_clamp (by omega)
  rw [if_pos (by omega), h1, if_neg]
  rintro (z | z)
  · exact nz_ge0 (show j < 2 ^ 31 by omega) z
  · have : (13 : Nat) ≤ j := z
    omega
theorem c_cs59 {i x : Nat} {K : Int32 → Wd → Option (Int32 × Wd)} : ∀ d c fuel, c + d = 13 → d < fuel → fX10_cutSign_59 N (nI i) fuel K (nI x) (sgC x c) (nI c) w = K (sgC x 13) w := by
  intro d
  induction d with
  | zero =>
    intro c fuel hc hf
    obtain ⟨m, rfl⟩ : ∃ m, fuel = m + 1 := ⟨fuel - 1, by omega⟩
    have : c = 13 := by omega
    subst this
    have lt : (nI 13 < nI 13) = False := eq_false (by decide)
    simp only [fX10_cutSign_59, ↓cbnd c_length0, ↓lt, ↓reduceIte]
  | succ d ih =>
    intro c fuel hc hf
    obtain ⟨m, rfl⟩ : ∃ m, fuel = m + 1 := ⟨fuel - 1, by omega⟩
    have lt : (nI c < nI 13) = True := eq_true ((nI_ltI (by omega) (by omega)).mpr (by omega))
    have g1 := c_charAt0 (N := N) (w := w) (j := c) (by omega)
    have e1 : nI c + (1 : Int32) = nI (c + 1) := nI_add _ 1
    have en := ih (c + 1) m (by omega) (by omega)
    rw [sgC] at en
    by_cases y : (strB.getD 0 []).getD c 0 = nI x
    · have q : ((strB.getD 0 []).getD c 0 = nI x) = True := eq_true y
      have e2 : (32 : Int32) + nI c = nI (32 + c) := nI_add 32 c
      rw [if_pos y] at en
      simp only [fX10_cutSign_59, ↓cbnd c_length0, ↓lt, ↓cbnd g1, ↓q, ↓e1, ↓e2, ↓reduceIte, callW_eq]
      exact en
    · have q : ((strB.getD 0 []).getD c 0 = nI x) = False := eq_false y
      rw [if_neg y] at en
      simp only [fX10_cutSign_59, ↓cbnd c_length0, ↓lt, ↓cbnd g1, ↓q, ↓e1, ↓reduceIte, callW_eq]
      exact en
theorem sgN_one {c d : Nat} (h1 : ¬ (c = 60 ∧ d = 61)) (h2 : ¬ (c = 60 ∧ d = 62)) (h3 : ¬ (c = 62 ∧ d = 61)) : sgN c d = sgN c 0 := by
  unfold sgN
  rw [if_neg h1, if_neg h2, if_neg h3, if_neg (show ¬ (c = 60 ∧ 0 = 61) from fun z => by omega), if_neg (show ¬ (c = 60 ∧ 0 = 62) from fun z => by omega), if_neg (show ¬ (c = 62 ∧ 0 = 61) from fun z => by omega)]
theorem c_cutSign (hB : BC w b n) (hN : 1000 ≤ N) {i k : Nat} (hi : i < n) (hk : k ≤ 900) (h4 : gI w 14 0 4 = nI k) (hl : isL (b i) = false) (hd : isD (b i) = false) (hbl : b i ≠ 32) :
    Ok (pX10_cutSign N (nI i) w) (fun x => x.1 = nI (tkN b n i).2.2 ∧ adT w k (tkN b n i).1 (tkN b n i).2.1 i x.2) := by
  have hn := hB.2.2.1
  have hb8 := (hB.2.2.2 i hi).1
  have g1 := c_byteAt (N := N) hB (i := i) (by omega)
  rw [show bt b n i = b i from if_pos hi] at g1
  have g2 : pX10_byteAt N (nI i + (1 : Int32)) w = some (nI (bt b n (i + 1)), w) := by
    rw [li1, nI_add]
    exact c_byteAt (N := N) hB (by omega)
  have hb1 := bt_lt hB (i + 1)
  have e2 : nI i + (2 : Int32) = nI (i + 2) := nI_add i 2
  have tk : tkN b n i = (sgN (b i) (bt b n (i + 1)), 0, if sgN (b i) (bt b n (i + 1)) = 40 ∨ sgN (b i) (bt b n (i + 1)) = 42 ∨ sgN (b i) (bt b n (i + 1)) = 43 then i + 2 else i + 1) := by
    unfold tkN bt
    rw [if_neg (by rw [hl]; decide), if_neg (by rw [hd]; decide)]
  generalize bt b n (i + 1) = y at g2 hb1 tk
  have two : ∀ (K : Nat), (K = 40 ∨ K = 42 ∨ K = 43) → sgN (b i) y = K → Ok ((pX10_add N (nI K) (nI i) (0 : Int32) w).bind fun w3 => some ((nI i + (2 : Int32)), w3)) (fun x => x.1 = nI (tkN b n i).2.2 ∧ adT w k (tkN b n i).1 (tkN b n i).2.1 i x.2) := by
    intro K hK hs
    rw [tk, hs, if_pos (by omega)]
    refine ok_bind (c_addT (N := N) (a1 := nI K) (a2 := nI i) (a3 := (0 : Int32)) hk h4) ?_
    rintro w1 ⟨m1, m2, m3, m4, m5, m6⟩
    refine ok_some ⟨e2, m1, m2, m3, ?_, m5, fun z => ?_, fun z => ?_⟩
    · rw [m4]
      show nI K = kC K
      rw [kC, if_neg (by omega), if_neg (by omega), if_neg (by omega), if_neg (by omega)]
    · have z' : K = 61 := z
      omega
    · have z' : K = 62 := z
      omega
  have one : sgN (b i) y = sgN (b i) 0 → Ok (fX10_cutSign_59 N (nI i) N (fX10_cutSign_74 N (nI i)) (nI (b i)) (-2 : Int32) (0 : Int32) w) (fun x => x.1 = nI (tkN b n i).2.2 ∧ adT w k (tkN b n i).1 (tkN b n i).2.1 i x.2) := by
    intro hs
    have hd0 : ¬ (sgN (b i) 0 = 40 ∨ sgN (b i) 0 = 42 ∨ sgN (b i) 0 = 43) := fun z => by
      have := sgN_two z
      omega
    have key := c_cs59 (N := N) (w := w) (i := i) (x := b i) (K := fX10_cutSign_74 N (nI i)) 13 0 N (by omega) (by omega)
    have e0 : fX10_cutSign_59 N (nI i) N (fX10_cutSign_74 N (nI i)) (nI (b i)) (-2 : Int32) (0 : Int32) w = fX10_cutSign_74 N (nI i) (sgC (b i) 13) w := key
    rw [e0, sgC_all ⟨b i, hb8⟩ hbl, tk, hs, if_neg hd0]
    simp only [fX10_cutSign_74, callW_eq]
    refine ok_bind (c_addT (N := N) (a1 := kC (sgN (b i) 0)) (a2 := nI i) (a3 := (0 : Int32)) hk h4) ?_
    rintro w1 ⟨m1, m2, m3, m4, m5, m6⟩
    have hkd := sgN_kind (b i) 0
    refine ok_some ⟨nI_add i 1, m1, m2, m3, m4, m5, fun z => ?_, fun z => ?_⟩
    · have z' : sgN (b i) 0 = 61 := z
      omega
    · have z' : sgN (b i) 0 = 62 := z
      omega
  by_cases y1 : b i = 60
  · have q1 : (nI (b i) = (60 : Int32)) = True := eq_true (by rw [y1]; rfl)
    by_cases y2 : y = 61
    · have q2 : (nI y = (61 : Int32)) = True := eq_true (by rw [y2]; rfl)
      simp only [pX10_cutSign, ↓cbnd g1, ↓cbnd g2, ↓q1, ↓q2, ↓reduceIte, callW_eq]
      exact two 40 (by omega) (by rw [sgN, if_pos ⟨y1, y2⟩])
    · have q2 : (nI y = (61 : Int32)) = False := eq_false (fun z => y2 ((nI_eq (b := 61) (by omega) (by omega)).mp z))
      by_cases y3 : y = 62
      · have q3 : (nI y = (62 : Int32)) = True := eq_true (by rw [y3]; rfl)
        simp only [pX10_cutSign, ↓cbnd g1, ↓cbnd g2, ↓q1, ↓q2, ↓q3, fX10_cutSign_25, ↓reduceIte, callW_eq]
        exact two 42 (by omega) (by rw [sgN, if_neg (fun z => y2 z.2), if_pos ⟨y1, y3⟩])
      · have q3 : (nI y = (62 : Int32)) = False := eq_false (fun z => y3 ((nI_eq (b := 62) (by omega) (by omega)).mp z))
        have q4 : (nI (b i) = (62 : Int32)) = False := eq_false (by rw [y1]; decide)
        simp only [pX10_cutSign, ↓cbnd g1, ↓cbnd g2, ↓q1, ↓q2, ↓q3, ↓q4, fX10_cutSign_25, fX10_cutSign_40, ↓reduceIte, callW_eq]
        exact one (sgN_one (fun z => y2 z.2) (fun z => y3 z.2) (fun z => by omega))
  · have q1 : (nI (b i) = (60 : Int32)) = False := eq_false (fun z => y1 ((nI_eq (b := 60) (by omega) (by omega)).mp z))
    by_cases y4 : b i = 62
    · have q4 : (nI (b i) = (62 : Int32)) = True := eq_true (by rw [y4]; rfl)
      by_cases y2 : y = 61
      · have q2 : (nI y = (61 : Int32)) = True := eq_true (by rw [y2]; rfl)
        simp only [pX10_cutSign, ↓cbnd g1, ↓cbnd g2, ↓q1, ↓q4, ↓q2, fX10_cutSign_25, fX10_cutSign_40, ↓reduceIte, callW_eq]
        exact two 43 (by omega) (by rw [sgN, if_neg (fun z => y1 z.1), if_neg (fun z => y1 z.1), if_pos ⟨y4, y2⟩])
      · have q2 : (nI y = (61 : Int32)) = False := eq_false (fun z => y2 ((nI_eq (b := 61) (by omega) (by omega)).mp z))
        simp only [pX10_cutSign, ↓cbnd g1, ↓cbnd g2, ↓q1, ↓q4, ↓q2, fX10_cutSign_25, fX10_cutSign_40, ↓reduceIte, callW_eq]
        exact one (sgN_one (fun z => y1 z.1) (fun z => y1 z.1) (fun z => y2 z.2))
    · have q4 : (nI (b i) = (62 : Int32)) = False := eq_false (fun z => y4 ((nI_eq (b := 62) (by omega) (by omega)).mp z))
      simp only [pX10_cutSign, ↓cbnd g1, ↓cbnd g2, ↓q1, ↓q4, fX10_cutSign_25, fX10_cutSign_40, ↓reduceIte, callW_eq]
      exact one (sgN_one (fun z => y1 z.1) (fun z => y1 z.1) (fun z => y4 z.1))
end

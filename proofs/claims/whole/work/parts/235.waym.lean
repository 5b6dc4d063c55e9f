/-! ===== the reference goes on along the best way ===== -/
section
variable {N : Nat} {w : Wd} {v : Vw} {D S : Nat → Nat}
def gOn (v : Vw) (D S : Nat → Nat) (i k m best : Nat) : Bool := (v 3 k).testBit m && anyB (fun g => (decide (S g ≤ 90) && 100 * S g + i + D (7 * k + g) == best) && anyB (fun h => D (7 * m + h) + 1 + cst g h == D (7 * k + g)) 7) 7
theorem m_go44 (hD : ∀ s, s < 56 → gI w 112 0 s = nI (D s) ∧ D s ≤ 99999) {m g x : Nat} {a1 a2 a4 : Int32} (hm : m < 8) (hx : x ≤ 99999) (hg : g < 7) (K : Int32 → Wd → Option (Int32 × Wd)) : ∀ fuel c, c ≤ 7 → 7 - c < fuel → (∀ h, h < c → (D (7 * m + h) + 1 + cst g h == x) = false) →
    fX12_goesOn_44 N a1 a2 (nI m) a4 fuel K (nI g) (nI x) (nI c) w = if (anyB (fun h => D (7 * m + h) + 1 + cst g h == x) 7) = true then some (nI 1, w) else K (nI g) w := by
  intro fuel
  induction fuel with
  | zero => intro c _ h; omega
  | succ f ih =>
    intro c hc hf hno
    rcases Nat.lt_or_ge c 7 with h | h
    · have lt : (nI c < (7 : Int32)) = True := eq_true ((nI_ltI (a := c) (b := 7) (by omega) (by omega)).mpr h)
      have hd := (hD (7 * m + c) (by omega)).2
      have l1 : ldI w 112 0 ((7 : Int32) * nI m + nI c) 56 = some (nI (D (7 * m + c))) := by rw [li7, pk_mul, nI_add, ldn (by omega) (by omega), (hD _ (by omega)).1]
      have e1 : nI c + (1 : Int32) = nI (c + 1) := nI_add c 1
      have fin : ∀ b, (D (7 * m + c) + 1 + cst g c == x) = b → (if b = true then some (nI 1, w) else fX12_goesOn_44 N a1 a2 (nI m) a4 f K (nI g) (nI x) (nI (c + 1)) w) = if (anyB (fun h => D (7 * m + h) + 1 + cst g h == x) 7) = true then some (nI 1, w) else K (nI g) w := by
        intro b hb
        cases b with
        | true => rw [if_pos rfl, if_pos (anyB_true.mpr ⟨c, h, hb⟩)]
        | false =>
          rw [if_neg (by decide)]
          refine ih (c + 1) (by omega) (by omega) (fun h' hh => ?_)
          rcases Nat.lt_or_ge h' c with y | y
          · exact hno h' y
          · have : h' = c := by omega
            subst this; exact hb
      by_cases q : g = c
      · have q' : (nI g = nI c) = True := eq_true (by rw [q])
        have hc0 : cst g c = 0 := if_pos q
        rw [hc0] at fin
        by_cases y : D (7 * m + c) + 1 + 0 = x
        · have y' : (nI (D (7 * m + c)) + (1 : Int32) + (0 : Int32) = nI x) = True := eq_true (by rw [li1, li0, nI_add, nI_add, y])
          have e := fin true (beq_iff_eq.mpr y)
          simp only [fX12_goesOn_44, lt, ↓bnd l1, q', ↓y', ↓reduceIte]
          exact e
        · have y' : (nI (D (7 * m + c)) + (1 : Int32) + (0 : Int32) = nI x) = False := eq_false (by rw [li1, li0, nI_add, nI_add]; exact fun z => y ((nI_eq (by omega) (by omega)).mp z))
          have e := fin false (beq_eq_false_iff_ne.mpr y)
          simp only [fX12_goesOn_44, lt, ↓bnd l1, q', ↓y', ↓e1, ↓reduceIte, callW_eq]
          exact e
      · have q' : (nI g = nI c) = False := eq_false (fun z => q ((nI_eq (by omega) (by omega)).mp z))
        have hc0 : cst g c = 100 := if_neg q
        rw [hc0] at fin
        by_cases y : D (7 * m + c) + 1 + 100 = x
        · have y' : (nI (D (7 * m + c)) + (1 : Int32) + (100 : Int32) = nI x) = True := eq_true (by rw [li1, li100, nI_add, nI_add, y])
          have e := fin true (beq_iff_eq.mpr y)
          simp only [fX12_goesOn_44, lt, ↓bnd l1, q', ↓y', ↓reduceIte]
          exact e
        · have y' : (nI (D (7 * m + c)) + (1 : Int32) + (100 : Int32) = nI x) = False := eq_false (by rw [li1, li100, nI_add, nI_add]; exact fun z => y ((nI_eq (by omega) (by omega)).mp z))
          have e := fin false (beq_eq_false_iff_ne.mpr y)
          simp only [fX12_goesOn_44, lt, ↓bnd l1, q', ↓y', ↓e1, ↓reduceIte, callW_eq]
          exact e
    · have : c = 7 := by omega
      subst this
      have lt : (nI 7 < (7 : Int32)) = False := eq_false (by decide)
      have : anyB (fun h => D (7 * m + h) + 1 + cst g h == x) 7 = false := anyB_false.mpr (fun k hk => hno k hk)
      rw [this, if_neg (by decide)]
      simp only [fX12_goesOn_44, lt, ↓reduceIte]
theorem m_goesOn (T : TM w v) (hF : WF v) (hN : 100 ≤ N) (hD : ∀ s, s < 56 → gI w 112 0 s = nI (D s) ∧ D s ≤ 99999) (hS : ∀ g, g < 7 → gI w 116 0 g = nI (S g) ∧ S g ≤ 99) {i k m best : Nat} (hi : i < 8) (hk : k < v 0 0) (hm : m < 8) (hb : best ≤ 99999) :
    pX12_goesOn N (nI i) (nI k) (nI m) (nI best) w = some (zB (gOn v D S i k m best), w) := by
  have h2 := WF_parts hF
  have hb8 := WF_beside8 hF k
  have l0 : ldI w 77 0 (nI k) 16 = some (nI (v 3 k)) := by rw [ldn (by omega) (by omega), TM_beside T k hk]
  have go := m_isOf (N := N) (w := w) (x := v 3 k) (k := m) (by omega) (by omega)
  have key : ∀ fuel c, c ≤ 7 → 7 - c < fuel → (∀ g, g < c → ((decide (S g ≤ 90) && 100 * S g + i + D (7 * k + g) == best) && anyB (fun h => D (7 * m + h) + 1 + cst g h == D (7 * k + g)) 7) = false) →
      fX12_goesOn_11 N (nI i) (nI k) (nI m) (nI best) fuel (nI c) w = some (zB (anyB (fun g => (decide (S g ≤ 90) && 100 * S g + i + D (7 * k + g) == best) && anyB (fun h => D (7 * m + h) + 1 + cst g h == D (7 * k + g)) 7) 7), w) := by
    intro fuel
    induction fuel with
    | zero => intro c _ h; omega
    | succ f ih =>
      intro c hc hf hno
      rcases Nat.lt_or_ge c 7 with h | h
      · have lt : (nI c < (7 : Int32)) = True := eq_true ((nI_ltI (a := c) (b := 7) (by omega) (by omega)).mpr h)
        have hd := (hD (7 * k + c) (by omega)).2
        have hs := (hS c h).2
        have l1 : ldI w 112 0 ((7 : Int32) * nI k + nI c) 56 = some (nI (D (7 * k + c))) := by rw [li7, pk_mul, nI_add, ldn (by omega) (by omega), (hD _ (by omega)).1]
        have l2 : ldI w 116 0 (nI c) 7 = some (nI (S c)) := by rw [ldn (by omega) (by omega), (hS c h).1]
        have e1 : nI c + (1 : Int32) = nI (c + 1) := nI_add c 1
        have nxt : (((decide (S c ≤ 90) && 100 * S c + i + D (7 * k + c) == best) && anyB (fun h => D (7 * m + h) + 1 + cst c h == D (7 * k + c)) 7) = false) → fX12_goesOn_70 N (nI i) (nI k) (nI m) (nI best) (fX12_goesOn_11 N (nI i) (nI k) (nI m) (nI best) f) (nI c) w = some (zB (anyB (fun g => (decide (S g ≤ 90) && 100 * S g + i + D (7 * k + g) == best) && anyB (fun h => D (7 * m + h) + 1 + cst g h == D (7 * k + g)) 7) 7), w) := by
          intro hn
          simp only [fX12_goesOn_70, ↓e1]
          refine ih (c + 1) (by omega) (by omega) (fun g hg => ?_)
          rcases Nat.lt_or_ge g c with y | y
          · exact hno g y
          · have : g = c := by omega
            subst this; exact hn
        by_cases q1 : 90 < S c
        · have q1' : ((90 : Int32) < nI (S c)) = True := eq_true ((nI_ltI (a := 90) (by omega) (by omega)).mpr q1)
          simp only [fX12_goesOn_11, lt, ↓bnd l1, ↓bnd l2, q1', ↓reduceIte, callW_eq]
          exact nxt (by simp [show ¬ S c ≤ 90 by omega])
        · have q1' : ((90 : Int32) < nI (S c)) = False := eq_false (fun z => q1 ((nI_ltI (a := 90) (by omega) (by omega)).mp z))
          by_cases q2 : 100 * S c + i + D (7 * k + c) = best
          · have q2' : ((100 : Int32) * nI (S c) + nI i + nI (D (7 * k + c)) = nI best) = True := eq_true (by rw [li100, pk_mul, nI_add, nI_add, q2])
            have e := m_go44 (N := N) (w := w) (a1 := nI i) (a2 := nI k) (a4 := nI best) hD hm (x := D (7 * k + c)) hd h (fX12_goesOn_70 N (nI i) (nI k) (nI m) (nI best) (fX12_goesOn_11 N (nI i) (nI k) (nI m) (nI best) f)) N 0 (by omega) (by omega) (fun h' z => by omega)
            simp only [fX12_goesOn_11, lt, ↓bnd l1, ↓bnd l2, q1', q2', ↓reduceIte, callW_eq]
            refine Eq.trans e ?_
            by_cases q3 : anyB (fun h => D (7 * m + h) + 1 + cst c h == D (7 * k + c)) 7 = true
            · rw [if_pos q3]
              have : anyB (fun g => (decide (S g ≤ 90) && 100 * S g + i + D (7 * k + g) == best) && anyB (fun h => D (7 * m + h) + 1 + cst g h == D (7 * k + g)) 7) 7 = true := anyB_true.mpr ⟨c, h, by
                rw [q3, q2]; simp; omega⟩
              rw [this, zB_t]
            · rw [if_neg q3]
              rw [Bool.not_eq_true] at q3
              exact nxt (by rw [q3, Bool.and_false])
          · have q2' : ((100 : Int32) * nI (S c) + nI i + nI (D (7 * k + c)) = nI best) = False := eq_false (by rw [li100, pk_mul, nI_add, nI_add]; exact fun z => q2 ((nI_eq (by omega) (by omega)).mp z))
            simp only [fX12_goesOn_11, lt, ↓bnd l1, ↓bnd l2, q1', q2', ↓reduceIte, callW_eq]
            exact nxt (by rw [beq_eq_false_iff_ne.mpr q2, Bool.and_false, Bool.false_and])
      · have : c = 7 := by omega
        subst this
        have lt : (nI 7 < (7 : Int32)) = False := eq_false (by decide)
        rw [anyB_false.mpr (fun k hk => hno k hk), zB_f]
        simp only [fX12_goesOn_11, lt, ↓reduceIte, li0]
  have e := key N 0 (by omega) (by omega) (fun g h => by omega)
  unfold gOn
  by_cases q : (v 3 k).testBit m = true
  · rw [q] at go
    have z0 : (zB true = (0 : Int32)) = False := eq_false (by decide)
    simp only [pX12_goesOn, ↓bnd l0, ↓cbnd go, z0, ↓reduceIte, callW_eq]
    rw [q, Bool.true_and, li0]
    exact e
  · rw [Bool.not_eq_true] at q
    rw [q] at go
    have z0 : (zB false = (0 : Int32)) = True := eq_true (by decide)
    simp only [pX12_goesOn, ↓bnd l0, ↓cbnd go, z0, ↓reduceIte]
    rw [q, Bool.false_and, zB_f, li0]
/-- going on is to be a part next on a best way -/
theorem gOn_cand (hF : WF v) {kn : Nat → Nat} {to f : Nat} (hD : FD v kn to D) (ht : to < 8) (hf : f < v 0 0) (hb : lsF D f 7 < 99999) {i m : Nat} (hi : i < lsF D f 7 % 100) (hm : m < 8) : gOn v D (spF v kn D f i) i (wyS v D f i).1 m (lsF D f 7) = ((v 3 (wyS v D f i).1).testBit m && nxS D (wyS v D f i).1 (wyS v D f i).2 m != 0) := by
  have h2 := WF_parts hF
  have w1 := (way_facts hF hD ht hf hb i hi).1
  unfold gOn
  congr 1
  rw [Bool.eq_iff_iff, anyB_true, bne_iff_ne]
  constructor
  · rintro ⟨g, hg, hx⟩
    rw [Bool.and_eq_true, Bool.and_eq_true, decide_eq_true_eq, beq_iff_eq, anyB_true] at hx
    obtain ⟨⟨x1, x2⟩, h, hh, x3⟩ := hx
    rw [beq_iff_eq] at x3
    have hd := (hD.1 (7 * (wyS v D f i).1 + g) (by omega)).1
    exact bit_ne0 (k := h) ((nxS_bit _ _ _ _ _).mpr ⟨hh, g, hg, (spent_iff hF hD ht hf hb i hi g hg).mpr ⟨x1, x2⟩, by omega, by omega⟩)
  · intro hne
    obtain ⟨h, hh⟩ := ne0_bit hne
    obtain ⟨y1, g, y2, y3, y4, y5⟩ := (nxS_bit _ _ _ _ _).mp hh
    obtain ⟨z1, z2⟩ := (spent_iff hF hD ht hf hb i hi g y2).mp y3
    refine ⟨g, y2, ?_⟩
    rw [Bool.and_eq_true, Bool.and_eq_true, decide_eq_true_eq, beq_iff_eq, anyB_true]
    exact ⟨⟨z1, z2⟩, h, y1, beq_iff_eq.mpr y5.symm⟩
end

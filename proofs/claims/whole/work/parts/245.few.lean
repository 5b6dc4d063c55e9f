/-! ===== stranger and fewest ===== -/
section
variable {N : Nat} {w : Wd} {v : Vw}
theorem a_all (a : Int32) : ∃ x, x < 2 ^ 32 ∧ a = nI x := by
  refine ⟨a.toBitVec.toNat, a.toBitVec.isLt, ?_⟩
  apply Int32.toBitVec_inj.1
  apply BitVec.eq_of_toNat_eq
  simp [nI]
theorem isI_x {x n : Nat} (hx : x < 2 ^ 32) (hn : n < 2 ^ 31) : isI (nI x) n = true ↔ x < n := by
  rw [isI_t]
  constructor
  · rintro ⟨k, hk, e⟩
    rw [nz_all] at e
    omega
  · exact fun h => ⟨x, h, rfl⟩
theorem pw8 {P : Nat} (h : P ≤ 8) : 2 ^ P ≤ 256 := Nat.pow_le_pow_right (show 0 < 2 by omega) h
theorem shr_if {α : Type} {a : Int32} {P : Nat} (hP : P ≤ 8) (A B : α) : (if a < 0 then A else if (a >>> (nI P &&& (31 : Int32))) = 0 then B else A) = if isI a (2 ^ P) = true then B else A := by
  have hp := pw8 hP
  have h0 := Nat.two_pow_pos P
  by_cases h : a < 0
  · have : isI a (2 ^ P) = false := by
      rw [← Bool.not_eq_true, isI_t]
      rintro ⟨k, hk, e⟩
      rw [e] at h
      exact nz_ge0 (show k < 2 ^ 31 by omega) h
    rw [if_pos h, this, if_neg (by decide)]
  · obtain ⟨x, hx, rfl⟩ := a_nI a h
    rw [if_neg h, li31, nz_and, nz_shr hx (by omega)]
    have e : (nI (x / 2 ^ P) = 0) ↔ x < 2 ^ P := by
      have : x / 2 ^ P ≤ x := Nat.div_le_self _ _
      rw [show (0 : Int32) = nI 0 from rfl, nI_eq (by omega) (by omega), Nat.div_eq_zero_iff]
      omega
    by_cases y : x < 2 ^ P
    · rw [if_pos (e.mpr y), if_pos ((isI_x (by omega) (by omega)).mpr y)]
    · rw [if_neg (fun z => y (e.mp z)), if_neg (fun z => y ((isI_x (by omega) (by omega)).mp z))]
theorem c_gSet (C : Cu w v) (a : Int32) : pX11_isPartSet N a w = some (zB (isI a (2 ^ v 0 0)), w) := by
  have hF := C.2.2.1
  have h2 := WF_parts hF
  have hp := pw8 h2
  have h0 := Nat.two_pow_pos (v 0 0)
  obtain ⟨x, hx, rfl⟩ := a_all a
  have e1 := c_allParts (N := N) (Cu_T C) hF
  have hlt : x ^^^ (x &&& (2 ^ v 0 0 - 1)) < 2 ^ 32 := andnot_lt hx
  have hiff : (nI x &&& (nI (2 ^ v 0 0 - 1) ^^^ (-1 : Int32)) = 0) ↔ x < 2 ^ v 0 0 := by
    have e : nI x &&& (nI (2 ^ v 0 0 - 1) ^^^ (-1 : Int32)) = nI (x ^^^ (x &&& (2 ^ v 0 0 - 1))) := nz_not hx
    rw [e, show (0 : Int32) = nI 0 from rfl, nz_all, Nat.mod_eq_of_lt hlt]
    constructor
    · intro h
      have : x = x &&& (2 ^ v 0 0 - 1) := by
        apply Nat.eq_of_testBit_eq
        intro i
        have hi : (x ^^^ (x &&& (2 ^ v 0 0 - 1))).testBit i = false := by rw [h]; simp
        rw [Nat.testBit_xor] at hi
        cases ha : x.testBit i <;> cases hb : (x &&& (2 ^ v 0 0 - 1)).testBit i <;> simp_all
      rw [this, Nat.and_two_pow_sub_one_eq_mod]
      exact Nat.mod_lt _ h0
    · intro h
      rw [Nat.and_two_pow_sub_one_eq_mod, Nat.mod_eq_of_lt h, Nat.xor_self]
  by_cases y : x < 2 ^ v 0 0
  · have q : (nI x &&& (nI (2 ^ v 0 0 - 1) ^^^ (-1 : Int32)) = 0) = True := eq_true (hiff.mpr y)
    rw [(isI_x hx (by omega)).mpr y]
    simp only [pX11_isPartSet, ↓cbnd e1, ↓q, ↓reduceIte]
    rfl
  · have q : (nI x &&& (nI (2 ^ v 0 0 - 1) ^^^ (-1 : Int32)) = 0) = False := eq_false (fun z => y (hiff.mp z))
    have : isI (nI x) (2 ^ v 0 0) = false := by rw [← Bool.not_eq_true]; exact fun z => y ((isI_x hx (by omega)).mp z)
    rw [this]
    simp only [pX11_isPartSet, ↓cbnd e1, ↓q, ↓reduceIte]
    rfl
theorem m_gSet (C : Cu w v) (a : Int32) : pX12_areParts N a w = some (zB (isI a (2 ^ v 0 0)), w) := by
  have h2 := WF_parts C.2.2.1
  unfold pX12_areParts
  rw [TM_parts C.2.1.1, shr_if h2]
  cases isI a (2 ^ v 0 0) <;> rfl
theorem k_stranger (C : Cu w v) (hN : 2 ^ 23 ≤ N) (a b : Int32) : Both (pX11_stranger N a b) (pX12_stranger N a b) w := by
  have hF := C.2.2.1
  have h2 := WF_parts hF
  have hp := pw8 h2
  have g1 := c_gSet (N := N) C a
  have g2 := c_gNight (N := N) (w := w) b
  have m1 : ∀ w1, Fr kQ w w1 → pX12_areParts N a (setI w1 16 0 2 (0 : Int32)) = some (zB (isI a (2 ^ v 0 0)), setI w1 16 0 2 (0 : Int32)) := fun w1 f1 => m_gSet (Cu_t (Cu_fr f1 C)) a
  have m2 : ∀ w1, pX12_isNight N b (setI w1 16 0 2 (0 : Int32)) = some (zB (isI b 1000), setI w1 16 0 2 (0 : Int32)) := fun w1 => m_gNight b
  cases ha : isI a (2 ^ v 0 0) with
  | false =>
    rw [ha] at g1 m1
    refine Both_mk (x := (-1 : Int32)) ?_ (fun w1 f1 => ?_)
    · simp only [pX11_stranger, ↓cbnd g1, ↓z2, ↓reduceIte]
      exact ok_some ⟨Fr_refl _ _, rfl⟩
    · simp only [pX12_stranger, ↓cbnd (m1 w1 f1), ↓z2, ↓reduceIte]
      exact ok_some ⟨Fr_t, rfl⟩
  | true =>
    rw [ha] at g1 m1
    cases hb : isI b 1000 with
    | false =>
      rw [hb] at g2 m2
      refine Both_mk (x := (-1 : Int32)) ?_ (fun w1 f1 => ?_)
      · simp only [pX11_stranger, ↓cbnd g1, ↓z1, ↓cbnd g2, ↓z2, ↓reduceIte]
        exact ok_some ⟨Fr_refl _ _, rfl⟩
      · simp only [pX12_stranger, ↓cbnd (m1 w1 f1), ↓z1, ↓cbnd (m2 w1), ↓z2, ↓reduceIte]
        exact ok_some ⟨Fr_t, rfl⟩
    | true =>
      rw [hb] at g2 m2
      obtain ⟨s, hs, rfl⟩ := isI_t.mp ha
      obtain ⟨n, hn, rfl⟩ := isI_t.mp hb
      have hs8 : s < 2 ^ 8 := by omega
      have hA := sAny_lt hF n
      have hor : sAny v n ||| s < 2 ^ 8 := Nat.or_lt_two_pow hA hs8
      refine Both_mk (x := nI (sPr v n (sAny v n ||| s)) - nI (sPr v n (sAny v n))) ?_ (fun w1 f1 => ?_)
      · have e1 := c_knownByAny (N := N) C.1 hF (by omega) (show n < 2 ^ 30 by omega)
        have eo : nI (sAny v n) ||| nI s = nI (sAny v n ||| s) := nz_or _ _
        have e2 := c_priceLed (N := N) (Cu_T C) hF (by omega) (show n < 2 ^ 30 by omega) hor
        have e3 := c_priceLed (N := N) (Cu_T C) hF (by omega) (show n < 2 ^ 30 by omega) hA
        simp only [pX11_stranger, ↓cbnd g1, ↓z1, ↓cbnd g2, ↓cbnd e1, ↓eo, ↓cbnd e2, ↓cbnd e3, ↓reduceIte]
        exact ok_some ⟨Fr_refl _ _, rfl⟩
      · have C1 := Cu_t (Cu_fr f1 C)
        simp only [pX12_stranger, ↓cbnd (m1 w1 f1), ↓z1, ↓cbnd (m2 w1), ↓reduceIte, callW_eq]
        refine ok_bind (m_layKnown (N := N) (b := 0) (more := 0) C1.2.1.1 C1.2.1.2.1 hF (by omega) (by omega) (show n < 2 ^ 30 by omega)) ?_
        rintro w2 ⟨j1, j2⟩
        have T2 := TM_fr j1 C1.2.1.1
        refine ok_bind (m_priceLed (N := N) T2 hF hN j2 (fun g => knF_lt hF (by omega) g) (show n < 2 ^ 30 by omega)) ?_
        rintro ⟨x, w3⟩ ⟨k1, k2⟩
        simp only at k1 k2
        subst k2
        have T3 := TM_fr k1 T2
        have s4 : stI w3 111 0 (6 : Int32) 7 (nI s) = some (setI w3 111 0 6 (nI s)) := stn (j := 6) (by omega) (by omega)
        have f4 : Fr [111] w3 (setI w3 111 0 6 (nI s)) := Fr_setI (Fr_refl _ _) rfl
        have h111 : ∀ g, g < 7 → gI (setI w3 111 0 6 (nI s)) 111 0 g = nI (knF v n s g) := fun g hg => by
          have h1 := WF_people hF
          rw [gg_I]
          by_cases y : g = 6
          · subst y; rw [if_pos ⟨rfl, rfl, rfl⟩, knF, if_neg (by omega), if_pos rfl]
          · rw [if_neg (fun z => y z.2.2), (k1 111 0 g rfl).1, j2 g hg, knF, knF, if_neg y, if_neg y]
        simp only [↓bnd s4]
        refine ok_bind (m_priceLed (N := N) (TM_fr f4 T3) hF hN h111 (fun g => knF_lt hF hs8 g) (show n < 2 ^ 30 by omega)) ?_
        rintro ⟨x, w5⟩ ⟨p1, p2⟩
        simp only at p1 p2
        subst p2
        rw [unG_kn hF, unG_kn hF, Nat.or_zero]
        exact ok_some ⟨Fr_trans Fr_t (Fr_trans (Fr_mono j1 rfl) (Fr_trans (Fr_mono k1 rfl) (Fr_trans (Fr_mono f4 rfl) (Fr_mono p1 rfl)))), rfl⟩
def fwP (v : Vw) (s : Nat) : Option Nat → Prop
  | some b => isB v s b
  | none => ∀ t, t < 2 ^ v 0 0 → aL v s t = false
def fwX (wh : Nat) : Option Nat → Int32
  | some b => nI (if wh = 0 then pc b else b)
  | none => (-2 : Int32)
theorem k_fewest (C : Cu w v) (hN : 2 ^ 23 ≤ N) (a b : Int32) : Both (pX11_fewest N a b) (pX12_fewest N a b) w := by
  have hF := C.2.2.1
  have h2 := WF_parts hF
  have h3 := WF_parties hF
  have hp := pw8 h3
  have eS : (1 : Int32) <<< (gI w 8 (gR w 15 0 2) 5 &&& (31 : Int32)) = nI (2 ^ v 0 2) := by
    rw [TC_parties (Cu_T C), li1, li31, nz_and]
    exact nz_shl (by omega)
  have m2 : ∀ w1, pX12_isIn N b (0 : Int32) (1 : Int32) (setI w1 16 0 2 (0 : Int32)) = some (zB (isI b 2), setI w1 16 0 2 (0 : Int32)) := fun w1 => m_gIn1 b
  have um : ∀ w1, Fr kQ w w1 → pX12_fewest N a b w1 = if isI a (2 ^ v 0 2) = true then ((callW (pX12_isIn N b (0 : Int32) (1 : Int32)) (setI w1 16 0 2 (0 : Int32))).bind fun r1 => if r1.1 = 0 then some ((-1 : Int32), r1.2) else callW (fX12_fewest_19 N a b N (0 : Int32)) r1.2) else some ((-1 : Int32), setI w1 16 0 2 (0 : Int32)) := fun w1 f1 => by
    have C1 := Cu_t (Cu_fr f1 C)
    unfold pX12_fewest
    rw [TM_parties C1.2.1.1, shr_if h3]
  have uc : pX11_fewest N a b w = if isI a (2 ^ v 0 2) = true then (if b < 0 then some ((-1 : Int32), w) else if (1 : Int32) < b then some ((-1 : Int32), w) else ((callW (pX8_fewestParts N a) w).bind fun r1 => if r1.1 < 0 then some ((-2 : Int32), r1.2) else if b = 0 then ((callW (pJ6_bitCount_0f7a4 N r1.1) r1.2).bind fun r2 => some (r2.1, r2.2)) else some (r1.1, r1.2))) else some ((-1 : Int32), w) := by
    unfold pX11_fewest
    rw [isI_if eS (by omega)]
  cases ha : isI a (2 ^ v 0 2) with
  | false =>
    refine Both_mk (x := (-1 : Int32)) ?_ (fun w1 f1 => ?_)
    · rw [uc, ha, if_neg (by decide)]
      exact ok_some ⟨Fr_refl _ _, rfl⟩
    · rw [um w1 f1, ha, if_neg (by decide)]
      exact ok_some ⟨Fr_t, rfl⟩
  | true =>
    cases hb : isI b 2 with
    | false =>
      rw [hb] at m2
      refine Both_mk (x := (-1 : Int32)) ?_ (fun w1 f1 => ?_)
      · rw [uc, ha, if_pos rfl, isI_if1, hb, if_neg (by decide)]
        exact ok_some ⟨Fr_refl _ _, rfl⟩
      · rw [um w1 f1, ha, if_pos rfl]
        simp only [↓cbnd (m2 w1), ↓z2, ↓reduceIte]
        exact ok_some ⟨Fr_t, rfl⟩
    | true =>
      rw [hb] at m2
      obtain ⟨s, hs, rfl⟩ := isI_t.mp ha
      obtain ⟨wh, hwh, rfl⟩ := isI_t.mp hb
      refine Both_ex (δ := Option Nat) (P := fwP v s) (x := fwX wh) (fun w1 f1 => ?_) (fun d hd => ?_)
      · have C1 := Cu_t (Cu_fr f1 C)
        rw [um w1 f1, ha, if_pos rfl]
        simp only [↓cbnd (m2 w1), ↓z1, ↓reduceIte, callW_eq]
        refine ok_mono (m_fewest (N := N) C1.2.1.1 C1.2.1.2.1 hF hN (show s < 2 ^ 31 by omega) hwh) ?_
        rintro r ⟨j1, j2⟩
        refine ⟨Fr_trans Fr_t (Fr_mono j1 rfl), ?_⟩
        rcases j2 with ⟨bb, k1, k2⟩ | ⟨k1, k2⟩
        · exact ⟨some bb, k1, k2⟩
        · exact ⟨none, k1, k2⟩
      · rw [uc, ha, if_pos rfl, isI_if1, hb, if_pos rfl, callW_eq]
        refine ok_bind (c_fewest (N := N) C.1 hF (by omega) (show s < 2 ^ 31 by omega)) ?_
        rintro ⟨x, w2⟩ ⟨j1, j2⟩
        simp only at j1 j2
        have fr : Fr kQ w w2 := Fr_mono j1 rfl
        rcases j2 with ⟨bb, k1, k2⟩ | ⟨k1, k2⟩
        · subst k2
          have hbb : bb < 256 := by
            have := k1.1
            have := pw8 h2
            omega
          have lt : (nI bb < 0) = False := eq_false (nz_ge0 (by omega))
          have hx : fwX wh d = nI (if wh = 0 then pc bb else bb) := by
            cases d with
            | none =>
              have hd' : ∀ t, t < 2 ^ v 0 0 → aL v s t = false := hd
              have := hd' bb k1.1
              rw [k1.2.1] at this
              cases this
            | some b' =>
              have hd' : isB v s b' := hd
              rw [isB_uniq hd' k1]
              rfl
          rw [hx]
          rcases (show wh = 0 ∨ wh = 1 by omega) with y | y <;> subst y
          · have gb := c_bits (N := N) (w := w2) (x := bb) (by omega)
            simp only [↓lt, ↓n00, ↓cbnd gb, ↓reduceIte]
            exact ok_some ⟨fr, rfl⟩
          · simp only [↓lt, ↓n10, ↓reduceIte]
            exact ok_some ⟨fr, rfl⟩
        · subst k2
          have lt : (-nI 2 < 0) = True := eq_true nz_neg2
          have hx : fwX wh d = (-2 : Int32) := by
            cases d with
            | none => rfl
            | some b' =>
              have hd' : isB v s b' := hd
              have := k1 b' hd'.1
              rw [hd'.2.1] at this
              cases this
          rw [hx]
          simp only [↓lt, ↓reduceIte]
          exact ok_some ⟨fr, rfl⟩
end

/-! ===== calls: order, ordered ===== -/
section
variable {N : Nat} {w : Wd} {v : Vw}
def okO (v : Vw) (a b : Int32) (p S : Nat) : Prop := p < v 0 1 ∧ S < 2 ^ v 0 0 ∧ S ≠ 0 ∧ a = nI p ∧ b = nI S ∧ ∀ i, i < nO v S → sThere v p (v 0 5 + i) = true
theorem there_all {p n : Nat} (hn : 1 ≤ n) (h1 : sThere v p (v 0 5) = true) (h2 : sThere v p (v 0 5 + n - 1) = true) : ∀ i, i < n → sThere v p (v 0 5 + i) = true := by
  intro i hi
  unfold sThere at *
  simp only [Bool.and_eq_true, beq_iff_eq, decide_eq_true_eq] at *
  refine ⟨h1.1, ?_, ?_⟩ <;> omega
theorem c_isOrder (C : Cu w v) (a b : Int32) : (∃ p S, okO v a b p S ∧ pX11_isOrder N a b w = some (nI 1, w)) ∨ ((∀ p S, ¬ okO v a b p S) ∧ pX11_isOrder N a b w = some (nI 0, w)) := by
  have hF := C.2.2.1
  have h5 := C.2.2.2.2.2.2.1
  have h1 := WF_people hF
  have h2 := WF_parts hF
  have hp8 := pw8 h2
  have g1 := c_gSet (N := N) C b
  have g2 := c_gThere (N := N) C a
  by_cases hb0 : b = 0
  · refine Or.inr ⟨?_, ?_⟩
    · rintro p S ⟨_, hS, h0, _, e, _⟩
      rw [hb0] at e
      exact h0 ((nI_eq (a := 0) (b := S) (by omega) (by omega)).mp e).symm
    · have q : (b = 0) = True := eq_true hb0
      simp only [pX11_isOrder, ↓q, ↓reduceIte]
      rfl
  · have q : (b = 0) = False := eq_false hb0
    cases hs : isI b (2 ^ v 0 0) with
    | false =>
      rw [hs] at g1
      refine Or.inr ⟨?_, ?_⟩
      · rintro p S ⟨_, hS, _, _, e, _⟩
        rw [e, isI_nI hS] at hs; cases hs
      · simp only [pX11_isOrder, ↓q, ↓cbnd g1, ↓z2, ↓reduceIte]
        rfl
    | true =>
      rw [hs] at g1
      obtain ⟨S, hS, rfl⟩ := isI_t.mp hs
      have hS0 : S ≠ 0 := fun z => hb0 (by rw [z]; rfl)
      have hpos := nO_pos hS hS0
      cases ht : thI v a with
      | false =>
        rw [ht] at g2
        refine Or.inr ⟨?_, ?_⟩
        · rintro p S' ⟨hp, hS', _, ea, eb, hth⟩
          have es := (nI_eq (by omega) (by omega)).mp eb
          subst es
          have : thI v a = true := thI_t.mpr ⟨p, hp, ea, hth 0 (by omega)⟩
          rw [this] at ht; cases ht
        · simp only [pX11_isOrder, ↓q, ↓cbnd g1, ↓z1, ↓cbnd g2, ↓z2, ↓reduceIte]
          rfl
      | true =>
        rw [ht] at g2
        obtain ⟨p, hp, rfl, hth0⟩ := thI_t.mp ht
        have gb := c_bits (N := N) (w := w) (x := S) (by omega)
        rw [pc_cnt (P := v 0 0) (by omega) hS] at gb
        have hn8 : nO v S ≤ 8 := nO_le hF
        have en : gI w 13 0 1 + nI (cnt (fun k => S.testBit k) (v 0 0)) - (1 : Int32) = nI (v 0 5 + nO v S - 1) := by
          rw [SC_night C.1.2, nI_add]
          exact (dn_sub _).trans (if_neg (by unfold nO at hpos; omega))
        have g3 := c_isThere (N := N) C.1 hF hp (show v 0 5 + nO v S - 1 < 2 ^ 30 by omega)
        rw [← en] at g3
        cases hl : sThere v p (v 0 5 + nO v S - 1) with
        | false =>
          rw [hl] at g3
          refine Or.inr ⟨?_, ?_⟩
          · rintro p' S' ⟨hp', hS', _, ea, eb, hth⟩
            have es := (nI_eq (by omega) (by omega)).mp eb
            subst es
            have ep := (nI_eq (by omega) (by omega)).mp ea
            subst ep
            have := hth (nO v S - 1) (by omega)
            rw [show v 0 5 + (nO v S - 1) = v 0 5 + nO v S - 1 by omega, hl] at this
            cases this
          · simp only [pX11_isOrder, ↓q, ↓cbnd g1, ↓z1, ↓cbnd g2, ↓cbnd gb, ↓cbnd g3, ↓z2, ↓reduceIte]
            rfl
        | true =>
          rw [hl] at g3
          refine Or.inl ⟨p, S, ⟨hp, hS, hS0, rfl, rfl, there_all hpos hth0 hl⟩, ?_⟩
          simp only [pX11_isOrder, ↓q, ↓cbnd g1, ↓z1, ↓cbnd g2, ↓cbnd gb, ↓cbnd g3, ↓reduceIte]
          rfl
/-- what the reference's order may touch -/
def kOm : List Nat := 17002 :: kOr
def BothO {α : Type} (c m : Wd → Option (α × Wd)) (w : Wd) (v : Vw) : Prop := ∃ r w1 w2, c w = some (r, w1) ∧ Fr kFi w w1 ∧ OC w1 v ∧ m w1 = some (r, w2) ∧ Fr kOm w1 w2 ∧ BFr 1 w1 w2
theorem m_ordOk (C : Cu w v) (hN : 2 ^ 25 ≤ N) {a b : Int32} {p S : Nat} (h : okO v a b p S) : Ok (pX12_layOrder N a b w) (fun x => fnO w v p S (nO v S) x) := by
  have h1 := WF_people C.2.2.1
  have hp8 := pw8 (WF_parts C.2.2.1)
  obtain ⟨hp, hS, h0, ea, eb, hth⟩ := h
  refine ok_mono (m_layOrder (N := N) C hN a b) (fun x hx => ?_)
  rcases hx with ⟨p', S', hp', hS', _, ea', eb', _, hx⟩ | ⟨hno, _⟩
  · rw [ea] at ea'
    rw [eb] at eb'
    have e1 := (nI_eq (by omega) (by omega)).mp ea'
    have e2 := (nI_eq (by omega) (by omega)).mp eb'
    subst e1; subst e2
    exact hx
  · obtain ⟨i, hi, e⟩ := hno p S hp hS h0 ea eb
    rw [hth i hi] at e; cases e
theorem m_ordNo (C : Cu w v) (hN : 2 ^ 25 ≤ N) {a b : Int32} (h : ∀ p S, ¬ okO v a b p S) : Ok (pX12_layOrder N a b w) (fun x => x.1 = nI 0 ∧ Fr kOr w x.2 ∧ BFr 1 w x.2) := by
  refine ok_mono (m_layOrder (N := N) C hN a b) (fun x hx => ?_)
  rcases hx with ⟨p, S, hp, hS, h0, ea, eb, hth, _⟩ | ⟨_, hx⟩
  · exact absurd ⟨hp, hS, h0, ea, eb, hth⟩ (h p S)
  · exact hx
theorem m_ord19 {n b : Nat} {a3 : Int32} (hN : 100 ^ 8 < N) (hn : n ≤ 8) (h87 : gI w 16 0 87 = nI n) (h90 : gL w 16 0 90 = lN b) (hb : b ≤ 100 ^ n) :
    fX12_order_19 N a3 N (fX12_order_29 N a3) (1 : Int64) (0 : Int32) w = some (if a3 = 0 then lN (b / Nat.gcd b (100 ^ n)) else lN (100 ^ n / Nat.gcd b (100 ^ n)), w) := by
  have h8 : 100 ^ n ≤ 100 ^ 8 := Nat.pow_le_pow_right (by omega) hn
  have h3 : 100 ^ 8 < 2 ^ 60 := by decide
  have hp : 0 < 100 ^ n := Nat.pow_pos (by omega)
  have hg : 0 < Nat.gcd b (100 ^ n) := Nat.gcd_pos_of_pos_right b hp
  have hgl : Nat.gcd b (100 ^ n) ≤ 100 ^ n := Nat.gcd_le_right b hp
  have q : (lN (Nat.gcd b (100 ^ n)) = 0) = False := eq_false (fun z => by
    have := (lN0 (by omega)).mp z
    omega)
  have key : ∀ fuel c, c ≤ n → n - c < fuel → fX12_order_19 N a3 fuel (fX12_order_29 N a3) (lN (100 ^ c)) (nI c) w = some (if a3 = 0 then lN (b / Nat.gcd b (100 ^ n)) else lN (100 ^ n / Nat.gcd b (100 ^ n)), w) := by
    intro fuel
    induction fuel with
    | zero => intro c _ h; omega
    | succ f ih =>
      intro c hc hf
      rcases Nat.lt_or_ge c n with y | y
      · have lt : (nI c < gI w 16 0 87) = True := eq_true (by rw [h87]; exact (nI_ltI (by omega) (by omega)).mpr y)
        have e1 : nI c + (1 : Int32) = nI (c + 1) := nI_add c 1
        have e2 : lN (100 ^ c) * (100 : Int64) = lN (100 ^ (c + 1)) := by
          rw [show (100 : Int64) = lN 100 from rfl, lN_mul, Nat.pow_succ]
        simp only [fX12_order_19, ↓lt, ↓e1, ↓e2, ↓reduceIte, callW_eq]
        exact ih (c + 1) (by omega) (by omega)
      · have : c = n := by omega
        subst this
        have lt : (nI c < gI w 16 0 87) = False := eq_false (fun z => by
          rw [h87] at z
          have := (nI_ltI (by omega) (by omega)).mp z
          omega)
        have d := m_ord34 (N := N) (w := w) (a3 := a3) (v4 := lN (100 ^ c)) (K := fX12_order_47 N a3) (100 ^ c) b N (by omega) (by omega) (by omega)
        rw [Nat.gcd_comm] at d
        simp only [fX12_order_19, ↓lt, ↓reduceIte, fX12_order_29, callW_eq]
        rw [h90, d]
        have ea : lN b / lN (Nat.gcd b (100 ^ c)) = lN (b / Nat.gcd b (100 ^ c)) := pk_lDiv (by omega) hg (by omega)
        have eb : lN (100 ^ c) / lN (Nat.gcd b (100 ^ c)) = lN (100 ^ c / Nat.gcd b (100 ^ c)) := pk_lDiv (by omega) hg (by omega)
        by_cases z : a3 = 0
        · have z' : (a3 = 0) = True := eq_true z
          simp only [fX12_order_47, ↓z', ↓q, ↓reduceIte, h90, ea]
        · have z' : (a3 = 0) = False := eq_false z
          simp only [fX12_order_47, ↓z', ↓q, ↓reduceIte, eb]
  exact key N 0 (by omega) (by omega)
theorem k_order (C : Cu w v) (hO : OC w v) (hN : 2 ^ 60 ≤ N) (a1 a2 a3 : Int32) : BothO (pX11_order N a1 a2 a3) (pX12_order N a1 a2 a3) w v := by
  have hF := C.2.2.1
  have hT := C.2.2.2.2.2.1
  have h5 := C.2.2.2.2.2.2.1
  have h3 : 100 ^ 8 < 2 ^ 60 := by decide
  have ft : ∀ w1 : Wd, Fr kOm w1 (setI w1 16 0 2 (0 : Int32)) := fun w1 => Fr_setI (Fr_refl _ _) rfl
  have bt : ∀ w1 : Wd, BFr 1 w1 (setI w1 16 0 2 (0 : Int32)) := fun w1 => BFr_fr (Fr_setI (l := [17002]) (Fr_refl _ _) rfl)
  have gi : ∀ w1 : Wd, pX12_isIn N a3 (0 : Int32) (1 : Int32) w1 = some (zB (isI a3 2), w1) := fun w1 => m_gIn (N := N) (n := 1) (by omega) a3
  have cif : ∀ {α : Type} (A B : α), (if a3 < 0 then A else if (1 : Int32) < a3 then A else B) = if isI a3 2 = true then B else A := fun A B => isI_if2 (n := 1) (by omega) A B
  rcases c_isOrder (N := N) C a1 a2 with ⟨p, S, hk, ec⟩ | ⟨hno, ec⟩
  · have hn8 : nO v S ≤ 8 := nO_le hF
    cases hi : isI a3 2 with
    | false =>
      have e1 : pX11_order N a1 a2 a3 w = some ((-1 : Int64), w) := by
        simp only [pX11_order, ↓cbnd ec, ↓n10, ↓reduceIte]
        rw [cif, hi]
        rfl
      have gi' := gi (setI w 16 0 2 (0 : Int32))
      rw [hi] at gi'
      refine ⟨_, w, _, e1, Fr_refl _ _, hO, ?_, ft w, bt w⟩
      simp only [pX12_order, ↓cbnd gi', ↓z2, ↓reduceIte]
    | true =>
      obtain ⟨hp, hS, hS0, ea, eb, hth⟩ := hk
      obtain ⟨w1, ef, f1, l1⟩ := c_findO (N := N) C hO (by omega) hp hS hS0 hth
      have lo := l1
      obtain ⟨_, _, _, _, _, _, l11, b, hb, l9, _⟩ := l1
      have hbl := opP_le (p := p) hF h5 hT b hn8
      rw [← ea, ← eb] at ef
      have e1 : pX11_order N a1 a2 a3 w = some (if a3 = 0 then lN (opP v p b (nO v S) / Nat.gcd (opP v p b (nO v S)) (100 ^ nO v S)) else lN (100 ^ nO v S / Nat.gcd (opP v p b (nO v S)) (100 ^ nO v S)), w1) := by
        simp only [pX11_order, ↓cbnd ec, ↓n10, ↓reduceIte]
        rw [cif, hi, if_pos rfl]
        simp only [↓cbnd ef]
        by_cases z : a3 = 0
        · rw [if_pos z, if_pos z]
          simp only [↓cbnd (c_above (N := N) (w := w1) (by omega) hn8 l11 l9 hbl)]
        · rw [if_neg z, if_neg z]
          simp only [↓cbnd (c_below (N := N) (w := w1) (by omega) hn8 l11 l9 hbl)]
      have C1 := Cu_fr f1 C
      have gi' := gi (setI w1 16 0 2 (0 : Int32))
      rw [hi] at gi'
      obtain ⟨⟨x, w2⟩, em, m1, m2, m3, m4, b', hb', m5, _⟩ := m_ordOk (N := N) (Cu_t C1) (by omega) (a := a1) (b := a2) (p := p) (S := S) ⟨hp, hS, hS0, ea, eb, hth⟩
      simp only at m1 m2 m3 m4 m5
      subst m4
      have eP : opP v p b' (nO v S) = opP v p b (nO v S) := opP_cong (isO_uniq hb' hb)
      rw [eP] at m5
      refine ⟨_, w1, w2, e1, f1, Or.inr ⟨p, S, lo⟩, ?_, Fr_trans (ft w1) (Fr_mono m1 rfl), BFr_trans (bt w1) m2⟩
      simp only [pX12_order, ↓cbnd gi', ↓z1, ↓cbnd em, ↓n10, ↓reduceIte]
      rw [callW_eq]
      exact m_ord19 (by omega) hn8 m3 m5 hbl
  · have e1 : pX11_order N a1 a2 a3 w = some ((-1 : Int64), w) := by
      simp only [pX11_order, ↓cbnd ec, ↓n00, ↓reduceIte]
    have gi' := gi (setI w 16 0 2 (0 : Int32))
    cases hi : isI a3 2 with
    | false =>
      rw [hi] at gi'
      refine ⟨_, w, _, e1, Fr_refl _ _, hO, ?_, ft w, bt w⟩
      simp only [pX12_order, ↓cbnd gi', ↓z2, ↓reduceIte]
    | true =>
      rw [hi] at gi'
      obtain ⟨⟨x, w2⟩, em, m1, m2, m3⟩ := m_ordNo (N := N) (Cu_t C) (by omega) hno
      simp only at m1 m2 m3
      subst m1
      refine ⟨_, w, w2, e1, Fr_refl _ _, hO, ?_, Fr_trans (ft w) (Fr_mono m2 rfl), BFr_trans (bt w) m3⟩
      simp only [pX12_order, ↓cbnd gi', ↓z1, ↓cbnd em, ↓n00, ↓reduceIte]
theorem k_ordered (C : Cu w v) (hO : OC w v) (hN : 2 ^ 25 ≤ N) (a1 a2 a3 : Int32) : BothO (pX11_ordered N a1 a2 a3) (pX12_ordered N a1 a2 a3) w v := by
  have hF := C.2.2.1
  have ft : ∀ w1 : Wd, Fr kOm w1 (setI w1 16 0 2 (0 : Int32)) := fun w1 => Fr_setI (Fr_refl _ _) rfl
  have bt : ∀ w1 : Wd, BFr 1 w1 (setI w1 16 0 2 (0 : Int32)) := fun w1 => BFr_fr (Fr_setI (l := [17002]) (Fr_refl _ _) rfl)
  rcases c_isOrder (N := N) C a1 a2 with ⟨p, S, hk, ec⟩ | ⟨hno, ec⟩
  · have hn8 : nO v S ≤ 8 := nO_le hF
    by_cases hneg : a3 < 0
    · have q : (a3 < 0) = True := eq_true hneg
      have e1 : pX11_ordered N a1 a2 a3 w = some ((-1 : Int32), w) := by
        simp only [pX11_ordered, ↓cbnd ec, ↓n10, ↓q, ↓reduceIte]
      refine ⟨_, w, _, e1, Fr_refl _ _, hO, ?_, ft w, bt w⟩
      simp only [pX12_ordered, ↓q, ↓reduceIte]
    · have q : (a3 < 0) = False := eq_false hneg
      obtain ⟨k, hk31, rfl⟩ := a_nI a3 hneg
      obtain ⟨hp, hS, hS0, ea, eb, hth⟩ := hk
      obtain ⟨w1, ef, f1, l1⟩ := c_findO (N := N) C hO (by omega) hp hS hS0 hth
      have lo := l1
      obtain ⟨_, _, _, _, _, _, l11, b, hb, _, l47⟩ := l1
      rw [← ea, ← eb] at ef
      have C1 := Cu_fr f1 C
      obtain ⟨⟨x, w2⟩, em, m1, m2, m3, m4, b', hb', _, m5⟩ := m_ordOk (N := N) (Cu_t C1) (by omega) (a := a1) (b := a2) (p := p) (S := S) ⟨hp, hS, hS0, ea, eb, hth⟩
      simp only at m1 m2 m3 m4 m5
      subst m4
      have eu := isO_uniq hb' hb
      by_cases y : k < nO v S
      · have lt1 : (nI k < gI w1 9 0 12) = True := eq_true (by rw [l11]; exact (nI_ltI (by omega) (by omega)).mpr y)
        have lt2 : (nI k < gI w2 16 0 87) = True := eq_true (by rw [m3]; exact (nI_ltI (by omega) (by omega)).mpr y)
        have x1 : ldI w1 47 0 (nI k) 8 = some (nI (b k)) := by rw [ldn (by omega) (by omega), l47 k y]
        have x2 : ldI w2 120 0 (nI k) 8 = some (nI (b k)) := by rw [ldn (by omega) (by omega), m5 k y, eu k y]
        refine ⟨nI (b k), w1, w2, ?_, f1, Or.inr ⟨p, S, lo⟩, ?_, Fr_trans (ft w1) (Fr_mono m1 rfl), BFr_trans (bt w1) m2⟩
        · simp only [pX11_ordered, ↓cbnd ec, ↓n10, ↓q, ↓cbnd ef, ↓lt1, ↓bnd x1, ↓reduceIte]
        · simp only [pX12_ordered, ↓q, ↓cbnd em, ↓n10, ↓lt2, ↓bnd x2, ↓reduceIte]
      · have lt1 : (nI k < gI w1 9 0 12) = False := eq_false (fun z => by rw [l11] at z; exact y ((nI_ltI (by omega) (by omega)).mp z))
        have lt2 : (nI k < gI w2 16 0 87) = False := eq_false (fun z => by rw [m3] at z; exact y ((nI_ltI (by omega) (by omega)).mp z))
        refine ⟨(-2 : Int32), w1, w2, ?_, f1, Or.inr ⟨p, S, lo⟩, ?_, Fr_trans (ft w1) (Fr_mono m1 rfl), BFr_trans (bt w1) m2⟩
        · simp only [pX11_ordered, ↓cbnd ec, ↓n10, ↓q, ↓cbnd ef, ↓lt1, ↓reduceIte]
        · simp only [pX12_ordered, ↓q, ↓cbnd em, ↓n10, ↓lt2, ↓reduceIte]
  · have e1 : pX11_ordered N a1 a2 a3 w = some ((-1 : Int32), w) := by
      simp only [pX11_ordered, ↓cbnd ec, ↓n00, ↓reduceIte]
    by_cases hneg : a3 < 0
    · have q : (a3 < 0) = True := eq_true hneg
      refine ⟨_, w, _, e1, Fr_refl _ _, hO, ?_, ft w, bt w⟩
      simp only [pX12_ordered, ↓q, ↓reduceIte]
    · have q : (a3 < 0) = False := eq_false hneg
      obtain ⟨⟨x, w2⟩, em, m1, m2, m3⟩ := m_ordNo (N := N) (Cu_t C) (by omega) hno
      simp only at m1 m2 m3
      subst m1
      refine ⟨_, w, w2, e1, Fr_refl _ _, hO, ?_, Fr_trans (ft w) (Fr_mono m2 rfl), BFr_trans (bt w) m3⟩
      simp only [pX12_ordered, ↓q, ↓cbnd em, ↓n00, ↓reduceIte]
end

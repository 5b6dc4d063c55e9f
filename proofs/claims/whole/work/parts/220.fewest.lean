/-! ===== fewest parts ===== -/
def sAny (v : Vw) (n : Nat) : Nat := orB 0 (fun g => sBits v g n) (fun _ => true) (v 0 1)
theorem sAny_lt {v : Vw} (hF : WF v) (n : Nat) : sAny v n < 2 ^ 8 := orB_lt (by omega) (fun g => sBits_lt hF g n) _
theorem unG_kn {v : Vw} (hF : WF v) (n more : Nat) : unG (knF v n more) 7 = sAny v n ||| more := by
  have h1 := WF_people hF
  apply Nat.eq_of_testBit_eq
  intro k
  have e : (sAny v n ||| more).testBit k = (anyB (fun g => (sBits v g n).testBit k) (v 0 1) || more.testBit k) := by
    rw [Nat.testBit_or, sAny, orB_bit]
    simp
  rw [unG_bit, e]
  cases h : anyB (fun g => (knF v n more g).testBit k) 7 with
  | true =>
    obtain ⟨g, hg, hb⟩ := anyB_true.mp h
    symm
    rw [Bool.or_eq_true]
    unfold knF at hb
    split at hb
    · rename_i hp
      exact Or.inl (anyB_true.mpr ⟨g, hp, hb⟩)
    · split at hb
      · exact Or.inr hb
      · simp at hb
  | false =>
    have hz := anyB_false.mp h
    symm
    rw [Bool.or_eq_false_iff]
    constructor
    · apply anyB_false.mpr
      intro g hg
      have := hz g (by omega)
      simp only [knF, if_pos hg] at this
      exact this
    · have := hz 6 (by omega)
      simp only [knF, if_neg (show ¬ 6 < v 0 1 by omega), if_true] at this
      exact this
def aL (v : Vw) (bits more : Nat) : Bool := !anyB (fun q => bits.testBit q && !gL8 v (sAny v (v 11 q) ||| more) q) (v 0 2)
theorem pc_lt {x p : Nat} (hx : x < 2 ^ p) : pc x ≤ p := by
  have key : ∀ m, cnt (fun k => x.testBit k) m ≤ p := by
    intro m
    induction m with
    | zero => exact Nat.zero_le _
    | succ m ih =>
      rcases Nat.lt_or_ge m p with h | h
      · exact Nat.le_trans (cnt_le _ _) (by omega)
      · rw [cnt, bit_hi hx h]
        simpa using ih
  exact key 12
/-- the fewest, then the least -/
def isB (v : Vw) (bits b : Nat) : Prop := b < 2 ^ v 0 0 ∧ aL v bits b = true ∧ ∀ s, s < 2 ^ v 0 0 → aL v bits s = true → pc b < pc s ∨ (pc b = pc s ∧ b ≤ s)
theorem isB_uniq {v : Vw} {bits b b' : Nat} (h : isB v bits b) (h' : isB v bits b') : b = b' := by
  have h1 := h.2.2 b' h'.1 h'.2.1
  have h2 := h'.2.2 b h.1 h.2.1
  omega
section
variable {N : Nat} {w : Wd} {v : Vw}
theorem c_knownByAny {i : Nat} (hR : RC w i v) (hF : WF v) (hN : 100 ≤ N) {n : Nat} (hn : n < 2 ^ 30) : pX9_knownByAny N i (nI n) w = some (nI (sAny v n), w) := by
  have h1 := WF_people hF
  have key : ∀ fuel c, c ≤ v 0 1 → v 0 1 - c < fuel → fX9_knownByAny_4 N i (nI n) fuel (nI (orB 0 (fun g => sBits v g n) (fun _ => true) c)) (nI c) w = some (nI (sAny v n), w) := by
    intro fuel
    induction fuel with
    | zero => intro c _ h; omega
    | succ f ih =>
      intro c hc hf
      rcases Nat.lt_or_ge c (v 0 1) with h | h
      · have lt : (nI c < gI w 10 (gR w 13 i 0) 0) = True := eq_true (by rw [TC_people hR.1]; exact (nI_ltI (by omega) (by omega)).mpr h)
        have gk := c_known (N := N) hR hF hN h hn
        have e := ih (c + 1) (by omega) (by omega)
        rw [orB, if_pos rfl] at e
        simp only [fX9_knownByAny_4, ↓lt, ↓cbnd gk, ↓reduceIte, callW_eq, nz_or, li1, nI_add]
        exact e
      · have : c = v 0 1 := by omega
        subst this
        have lt : (nI (v 0 1) < gI w 10 (gR w 13 i 0) 0) = False := eq_false (by rw [TC_people hR.1]; exact fun z => by have := (nI_ltI (by omega) (by omega)).mp z; omega)
        simp only [fX9_knownByAny_4, ↓lt, ↓reduceIte]
        rfl
  unfold pX9_knownByAny
  rw [callW_eq, li0]
  exact key N 0 (by omega) (by omega)
theorem c_areLed {m : Nat} (T : TC w m v) (hF : WF v) (hN : 100 ≤ N) {bits ps : Nat} (hb : bits < 2 ^ 31) (hps : ps < 2 ^ 8) (hk : ∀ q, q < v 0 2 → bits.testBit q = true → gI w 58 0 q = nI (sAny v (v 11 q))) :
    pX8_areLed N m (nI bits) (nI ps) w = some (zB (aL v bits ps), w) := by
  have h3 := WF_parties hF
  have key : ∀ fuel c, c ≤ v 0 2 → v 0 2 - c < fuel → anyB (fun q => bits.testBit q && !gL8 v (sAny v (v 11 q) ||| ps) q) c = false → fX8_areLed_2 N m (nI bits) (nI ps) fuel (nI c) w = some (zB (aL v bits ps), w) := by
    intro fuel
    induction fuel with
    | zero => intro c _ h; omega
    | succ f ih =>
      intro c hc hf hno
      rcases Nat.lt_or_ge c (v 0 2) with h | h
      · have lt : (nI c < gI w 8 m 5) = True := eq_true (by rw [TC_parties T]; exact (nI_ltI (by omega) (by omega)).mpr h)
        have eb : ((nI bits >>> (nI c &&& (31 : Int32))) &&& (1 : Int32)) = zB (bits.testBit c) := by
          rw [li31, li1, nz_and, nz_bit hb (by omega)]; rfl
        cases z : bits.testBit c with
        | false =>
          rw [z] at eb
          have z0 : (zB false = 0) = True := eq_true rfl
          simp only [fX8_areLed_2, ↓lt, ↓eb, ↓z0, ↓reduceIte, callW_eq, li1, nI_add]
          exact ih (c + 1) (by omega) (by omega) (by rw [anyB, hno, z]; rfl)
        | true =>
          rw [z] at eb
          have z0 : (zB true = 0) = False := eq_false (by decide)
          have l1 : ldI w 58 0 (nI c) 8 = some (nI (sAny v (v 11 c))) := by rw [ldn (by omega) (by omega), hk c h z]
          have gl := c_isLed (N := N) T hF hN h (al := sAny v (v 11 c) ||| ps) (Nat.or_lt_two_pow (sAny_lt hF _) hps)
          rw [← nz_or] at gl
          cases y : gL8 v (sAny v (v 11 c) ||| ps) c with
          | false =>
            rw [y] at gl
            have y0 : (zB false = 0) = True := eq_true rfl
            simp only [fX8_areLed_2, ↓lt, ↓eb, ↓z0, ↓bnd l1, ↓cbnd gl, ↓y0, ↓reduceIte]
            have : aL v bits ps = false := by
              rw [aL, anyB_true.mpr ⟨c, h, by rw [z, y]; rfl⟩]; rfl
            rw [this]; rfl
          | true =>
            rw [y] at gl
            simp only [fX8_areLed_2, ↓lt, ↓eb, ↓z0, ↓bnd l1, ↓cbnd gl, ↓reduceIte, callW_eq, li1, nI_add]
            exact ih (c + 1) (by omega) (by omega) (by rw [anyB, hno, z, y]; rfl)
      · have : c = v 0 2 := by omega
        subst this
        have lt : (nI (v 0 2) < gI w 8 m 5) = False := eq_false (by rw [TC_parties T]; exact fun z => by have := (nI_ltI (by omega) (by omega)).mp z; omega)
        simp only [fX8_areLed_2, ↓lt, ↓reduceIte]
        rw [aL, hno]; rfl
  unfold pX8_areLed
  rw [callW_eq, li0]
  exact key N 0 (by omega) (by omega) rfl
theorem c_fewest (hR : RC w 0 v) (hF : WF v) (hN : 1000 ≤ N) {bits : Nat} (hb : bits < 2 ^ 31) :
    Ok (pX8_fewestParts N (nI bits) w) (fun r => Fr [58] w r.2 ∧ ((∃ b, isB v bits b ∧ r.1 = nI b) ∨ ((∀ s, s < 2 ^ v 0 0 → aL v bits s = false) ∧ r.1 = -nI 2))) := by
  have h2 := WF_parts hF
  have h3 := WF_parties hF
  have hP : 2 ^ v 0 0 ≤ 2 ^ 8 := Nat.pow_le_pow_right (by omega) h2
  have hP1 := Nat.two_pow_pos (v 0 0)
  have second : ∀ (w1 : Wd), Fr [58] w w1 → (∀ q, q < v 0 2 → bits.testBit q = true → gI w1 58 0 q = nI (sAny v (v 11 q))) →
      ∀ fuel c x y, c ≤ 2 ^ v 0 0 → 2 ^ v 0 0 - c < fuel → ((x = -nI 2 ∧ y = nI 9 ∧ ∀ s, s < c → aL v bits s = false) ∨ (∃ b, b < c ∧ x = nI b ∧ y = nI (pc b) ∧ aL v bits b = true ∧ ∀ s, s < c → aL v bits s = true → pc b < pc s ∨ (pc b = pc s ∧ b ≤ s))) →
      Ok (fX8_fewestParts_37 N (nI bits) fuel (gR w 13 0 0) x y (nI c) w1) (fun r => Fr [58] w r.2 ∧ ((∃ b, isB v bits b ∧ r.1 = nI b) ∨ ((∀ s, s < 2 ^ v 0 0 → aL v bits s = false) ∧ r.1 = -nI 2))) := by
    intro w1 f1 hkk fuel
    have hR1 := RC_fr f1 hR
    have hm1 : gR w1 13 0 0 = gR w 13 0 0 := (f1 13 0 0 rfl).2.2
    have T1 : TC w1 (gR w 13 0 0) v := hm1 ▸ hR1.1
    have ga := c_allParts (N := N) T1 hF
    induction fuel with
    | zero => intro c x y _ h; omega
    | succ f ih =>
      intro c x y hc hf hS
      rcases Nat.lt_or_ge c (2 ^ v 0 0) with h | h
      · have lt : (nI (2 ^ v 0 0 - 1) < nI c) = False := eq_false (fun z => by have := (nI_ltI (by omega) (by omega)).mp z; omega)
        have hc1 : c + 1 ≤ 2 ^ v 0 0 := h
        have hf1 : 2 ^ v 0 0 - (c + 1) < f := by clear hS; omega
        have gb := c_bits (N := N) (w := w1) (x := c) (by omega)
        have gl := c_areLed (N := N) T1 hF (by omega) (ps := c) hb (by omega) hkk
        have hpc := pc_le c
        /- which of the two numbers is less -/
        have yN : ∃ Y, y = nI Y ∧ Y ≤ 12 ∧ ((x = -nI 2 ∧ Y = 9 ∧ ∀ s, s < c → aL v bits s = false) ∨ (∃ b, b < c ∧ x = nI b ∧ Y = pc b ∧ aL v bits b = true ∧ ∀ s, s < c → aL v bits s = true → pc b < pc s ∨ (pc b = pc s ∧ b ≤ s))) := by
          rcases hS with ⟨a1, a2, a3⟩ | ⟨b, b1, b2, b3, b4, b5⟩
          · exact ⟨9, a2, by omega, Or.inl ⟨a1, rfl, a3⟩⟩
          · exact ⟨pc b, b3, pc_le b, Or.inr ⟨b, b1, b2, rfl, b4, b5⟩⟩
        obtain ⟨Y, rfl, hY, hS'⟩ := yN
        have keep : (aL v bits c = false ∨ Y ≤ pc c) → Ok (fX8_fewestParts_37 N (nI bits) f (gR w 13 0 0) x (nI Y) (nI (c + 1)) w1) (fun r => Fr [58] w r.2 ∧ ((∃ b, isB v bits b ∧ r.1 = nI b) ∨ ((∀ s, s < 2 ^ v 0 0 → aL v bits s = false) ∧ r.1 = -nI 2))) := by
          intro hz
          refine ih (c + 1) x (nI Y) (by omega) (by omega) ?_
          rcases hS' with ⟨a1, a2, a3⟩ | ⟨b, b1, b2, b3, b4, b5⟩
          · left
            refine ⟨a1, by rw [a2], fun s hs => ?_⟩
            rcases Nat.lt_or_ge s c with q | q
            · exact a3 s q
            · have : s = c := by omega
              subst this
              rcases hz with hz | hz
              · exact hz
              · have := pc_lt h
                omega
          · right
            refine ⟨b, by omega, b2, by rw [b3], b4, fun s hs ha => ?_⟩
            rcases Nat.lt_or_ge s c with q | q
            · exact b5 s q ha
            · have : s = c := by omega
              subst this
              rcases hz with hz | hz
              · rw [hz] at ha; cases ha
              · omega
        by_cases q1 : pc c < Y
        · have q1' : (nI (pc c) < nI Y) = True := eq_true ((nI_ltI (by omega) (by omega)).mpr q1)
          cases z : aL v bits c with
          | false =>
            rw [z] at gl
            have z0 : (zB false = 0) = True := eq_true rfl
            simp only [fX8_fewestParts_37, ↓cbnd ga, ↓lt, ↓cbnd gb, ↓q1', ↓cbnd gl, ↓z0, ↓reduceIte, callW_eq, li1, nI_add]
            exact keep (Or.inl z)
          | true =>
            rw [z] at gl
            have z0 : (zB true = 0) = False := eq_false (by decide)
            simp only [fX8_fewestParts_37, ↓cbnd ga, ↓lt, ↓cbnd gb, ↓q1', ↓cbnd gl, ↓z0, ↓reduceIte, callW_eq, li1, nI_add]
            refine ih (c + 1) (nI c) (nI (pc c)) hc1 hf1 (Or.inr ⟨c, Nat.lt_succ_self c, rfl, rfl, z, fun s hs ha => ?_⟩)
            rcases Nat.lt_or_ge s c with q | q
            · rcases hS' with ⟨a1, a2, a3⟩ | ⟨b, b1, b2, b3, b4, b5⟩
              · rw [a3 s q] at ha; cases ha
              · have := b5 s q ha
                omega
            · have : s = c := by omega
              subst this
              omega
        · have q1' : (nI (pc c) < nI Y) = False := eq_false (fun z => q1 ((nI_ltI (by omega) (by omega)).mp z))
          simp only [fX8_fewestParts_37, ↓cbnd ga, ↓lt, ↓cbnd gb, ↓q1', ↓reduceIte, callW_eq, li1, nI_add]
          exact keep (Or.inr (by omega))
      · have : c = 2 ^ v 0 0 := by omega
        subst this
        have lt : (nI (2 ^ v 0 0 - 1) < nI (2 ^ v 0 0)) = True := eq_true ((nI_ltI (by omega) (by omega)).mpr (by omega))
        simp only [fX8_fewestParts_37, ↓cbnd ga, ↓lt, ↓reduceIte]
        refine ok_some ⟨f1, ?_⟩
        rcases hS with ⟨a1, a2, a3⟩ | ⟨b, b1, b2, b3, b4, b5⟩
        · exact Or.inr ⟨a3, a1⟩
        · exact Or.inl ⟨b, ⟨b1, b4, b5⟩, b2⟩
  have first : ∀ fuel c w1, c ≤ v 0 2 → v 0 2 - c < fuel → (Fr [58] w w1 ∧ ∀ q, q < c → bits.testBit q = true → gI w1 58 0 q = nI (sAny v (v 11 q))) →
      Ok (fX8_fewestParts_6 N (nI bits) fuel (fX8_fewestParts_31 N (nI bits)) (gR w 13 0 0) (nI c) w1) (fun r => Fr [58] w r.2 ∧ ((∃ b, isB v bits b ∧ r.1 = nI b) ∨ ((∀ s, s < 2 ^ v 0 0 → aL v bits s = false) ∧ r.1 = -nI 2))) := by
    intro fuel
    induction fuel with
    | zero => intro c _ _ h; omega
    | succ f ih =>
      intro c w1 hc hf hI
      obtain ⟨i1, i2⟩ := hI
      have hR1 := RC_fr i1 hR
      have hm1 : gR w1 13 0 0 = gR w 13 0 0 := (i1 13 0 0 rfl).2.2
      have T1 : TC w1 (gR w 13 0 0) v := hm1 ▸ hR1.1
      rcases Nat.lt_or_ge c (v 0 2) with h | h
      · have lt : (nI c < gI w1 8 (gR w 13 0 0) 5) = True := eq_true (by rw [TC_parties T1]; exact (nI_ltI (by omega) (by omega)).mpr h)
        have eb : ((nI bits >>> (nI c &&& (31 : Int32))) &&& (1 : Int32)) = zB (bits.testBit c) := by
          rw [li31, li1, nz_and, nz_bit hb (by omega)]; rfl
        have s4 : ∀ x, stI w1 58 0 (nI c) 8 x = some (setI w1 58 0 c x) := fun x => stn (by omega) (by omega)
        have nxt : ∀ x, (bits.testBit c = true → x = nI (sAny v (v 11 c))) → Ok (fX8_fewestParts_6 N (nI bits) f (fX8_fewestParts_31 N (nI bits)) (gR w 13 0 0) (nI (c + 1)) (setI w1 58 0 c x)) (fun r => Fr [58] w r.2 ∧ ((∃ b, isB v bits b ∧ r.1 = nI b) ∨ ((∀ s, s < 2 ^ v 0 0 → aL v bits s = false) ∧ r.1 = -nI 2))) := by
          intro x hx
          refine ih (c + 1) _ (by omega) (by omega) ⟨Fr_setI i1 rfl, fun q hq hbq => ?_⟩
          rw [gg_I]
          by_cases y : q = c
          · subst y; rw [if_pos ⟨rfl, rfl, rfl⟩]; exact hx hbq
          · rw [if_neg (fun z => y z.2.2)]; exact i2 q (by omega) hbq
        cases z : bits.testBit c with
        | false =>
          rw [z] at eb
          have z0 : (zB false = 0) = True := eq_true rfl
          simp only [fX8_fewestParts_6, ↓lt, ↓eb, ↓z0, ↓bnd (s4 _), ↓reduceIte, callW_eq, li1, nI_add]
          exact nxt _ (fun y => by rw [z] at y; cases y)
        | true =>
          rw [z] at eb
          have z0 : (zB true = 0) = False := eq_false (by decide)
          have hpn := WF_pnight hF c
          have l1 : ldI w1 35 (gR w 13 0 0) (nI c) 8 = some (nI (v 11 c)) := by rw [ldn (by omega) (by omega), TC_pnight T1 c h]
          have gk := c_knownByAny (N := N) hR1 hF (by omega) (n := v 11 c) (by omega)
          simp only [fX8_fewestParts_6, ↓lt, ↓eb, ↓z0, ↓bnd l1, ↓cbnd gk, ↓bnd (s4 _), ↓reduceIte, callW_eq, li1, nI_add]
          exact nxt _ (fun _ => rfl)
      · have : c = v 0 2 := by omega
        subst this
        have lt : (nI (v 0 2) < gI w1 8 (gR w 13 0 0) 5) = False := eq_false (by rw [TC_parties T1]; exact fun z => by have := (nI_ltI (by omega) (by omega)).mp z; omega)
        simp only [fX8_fewestParts_6, fX8_fewestParts_31, ↓lt, ↓reduceIte, callW_eq]
        exact second w1 i1 i2 N 0 _ _ (by omega) (by omega) (Or.inl ⟨rfl, rfl, fun s h => by omega⟩)
  unfold pX8_fewestParts
  rw [callW_eq, li0]
  exact first N 0 w (by omega) (by omega) ⟨Fr_refl _ _, fun q h => by omega⟩
/-! the reference -/
theorem m_allLed {w0 : Wd} (T0 : TM w0 v) (S0 : SM w0 0 v) (hF : WF v) (hN : 2 ^ 23 ≤ N) {bits ps : Nat} (hb : bits < 2 ^ 31) (hps : ps < 2 ^ 8) (hfr : Fr [111, 112] w0 w) :
    Ok (pX12_allLed N (nI bits) (nI ps) w) (fun r => Fr [111, 112] w0 r.2 ∧ r.1 = zB (aL v bits ps)) := by
  have h3 := WF_parties hF
  have key : ∀ fuel c w, c ≤ v 0 2 → v 0 2 - c < fuel → Fr [111, 112] w0 w → anyB (fun q => bits.testBit q && !gL8 v (sAny v (v 11 q) ||| ps) q) c = false → Ok (fX12_allLed_2 N (nI bits) (nI ps) fuel (nI c) w) (fun r => Fr [111, 112] w0 r.2 ∧ r.1 = zB (aL v bits ps)) := by
    intro fuel
    induction fuel with
    | zero => intro c _ _ h; omega
    | succ f ih =>
      intro c w hc hf hfr hno
      have T := TM_fr hfr T0
      have S := SM_fr hfr S0
      rcases Nat.lt_or_ge c (v 0 2) with h | h
      · have lt : (nI c < gI w 16 0 14) = True := eq_true (by rw [TM_parties T]; exact (nI_ltI (by omega) (by omega)).mpr h)
        have g1 := m_isOf (N := N) (w := w) (x := bits) (k := c) hb (by omega)
        cases z : bits.testBit c with
        | false =>
          rw [z] at g1
          have z0 : (zB false = 0) = True := eq_true rfl
          simp only [fX12_allLed_2, ↓lt, ↓cbnd g1, ↓z0, ↓reduceIte, callW_eq, li1, nI_add]
          exact ih (c + 1) w (by omega) (by omega) hfr (by rw [anyB, hno, z]; rfl)
        | true =>
          rw [z] at g1
          have z0 : (zB true = 0) = False := eq_false (by decide)
          have hpn := WF_pnight hF c
          have l1 : ldI w 86 0 (nI c) 16 = some (nI (v 11 c)) := by rw [ldn (by omega) (by omega), TM_pnight T c h]
          simp only [fX12_allLed_2, ↓lt, ↓cbnd g1, ↓z0, ↓bnd l1, ↓reduceIte, callW_eq, li0]
          refine ok_bind (m_layKnown T S hF (by omega) (by omega) (by omega)) ?_
          rintro w1 ⟨j1, j2⟩
          refine ok_bind (m_isLed (TM_fr j1 T) hF hN j2 (fun g => knF_lt hF hps g) h) ?_
          rintro ⟨x, w2⟩ ⟨p1, p2⟩
          simp only at p1 p2
          rw [unG_kn hF] at p2
          subst p2
          have hfr2 : Fr [111, 112] w0 w2 := Fr_trans hfr (Fr_trans (Fr_mono j1 rfl) (Fr_mono p1 rfl))
          cases y : gL8 v (sAny v (v 11 c) ||| ps) c with
          | false =>
            have y0 : (zB false = nI 0) = True := eq_true rfl
            simp only [y0, ↓reduceIte]
            have : aL v bits ps = false := by
              rw [aL, anyB_true.mpr ⟨c, h, by rw [z, y]; rfl⟩]; rfl
            exact ok_some ⟨hfr2, by rw [this]; rfl⟩
          | true =>
            have y0 : (zB true = nI 0) = False := eq_false (by decide)
            simp only [y0, ↓reduceIte, li1, nI_add]
            exact ih (c + 1) w2 (by omega) (by omega) hfr2 (by rw [anyB, hno, z, y]; rfl)
      · have : c = v 0 2 := by omega
        subst this
        have lt : (nI (v 0 2) < gI w 16 0 14) = False := eq_false (by rw [TM_parties T]; exact fun z => by have := (nI_ltI (by omega) (by omega)).mp z; omega)
        simp only [fX12_allLed_2, ↓lt, ↓reduceIte]
        exact ok_some ⟨hfr, by rw [aL, hno]; rfl⟩
  unfold pX12_allLed
  rw [callW_eq, li0]
  exact key N 0 w (by omega) (by omega) hfr rfl
theorem m_fewest {w0 : Wd} (T0 : TM w0 v) (S0 : SM w0 0 v) (hF : WF v) (hN : 2 ^ 23 ≤ N) {bits wh : Nat} (hb : bits < 2 ^ 31) (hwh : wh < 2) :
    Ok (fX12_fewest_19 N (nI bits) (nI wh) N (nI 0) w0) (fun r => Fr [111, 112] w0 r.2 ∧ ((∃ b, isB v bits b ∧ r.1 = nI (if wh = 0 then pc b else b)) ∨ ((∀ s, s < 2 ^ v 0 0 → aL v bits s = false) ∧ r.1 = -nI 2))) := by
  have h2 := WF_parts hF
  have hP : 2 ^ v 0 0 ≤ 2 ^ 8 := Nat.pow_le_pow_right (by omega) h2
  have hP1 := Nat.two_pow_pos (v 0 0)
  have inner : ∀ (n : Nat), n ≤ v 0 0 → (∀ s, s < 2 ^ v 0 0 → aL v bits s = true → n ≤ pc s) → ∀ {Q : Int32 × Wd → Prop} (k48 : Int32 → Wd → Option (Int32 × Wd)),
      (∀ b w, isB v bits b → Fr [111, 112] w0 w → Q (nI (if wh = 0 then pc b else b), w)) → (∀ w, Fr [111, 112] w0 w → (∀ s, s < 2 ^ v 0 0 → aL v bits s = true → n + 1 ≤ pc s) → Ok (k48 (nI n) w) Q) →
      ∀ fuel c w, c ≤ 2 ^ v 0 0 → 2 ^ v 0 0 - c < fuel → Fr [111, 112] w0 w → (∀ s, s < c → pc s = n → aL v bits s = false) → Ok (fX12_fewest_25 N (nI bits) (nI wh) fuel k48 (nI n) (nI c) w) Q := by
    intro n hn hlow Q k48 hQ hk fuel
    induction fuel with
    | zero => intro c _ _ h; omega
    | succ f ih =>
      intro c w hc hf hfr hno
      have T := TM_fr hfr T0
      have e1 : (1 : Int32) <<< (gI w 16 0 12 &&& (31 : Int32)) = nI (2 ^ v 0 0) := by
        rw [TM_parts T, li1, li31, nz_and]
        exact nz_shl (by omega)
      rcases Nat.lt_or_ge c (2 ^ v 0 0) with h | h
      · have lt : (nI c < (1 : Int32) <<< (gI w 16 0 12 &&& (31 : Int32))) = True := eq_true (by rw [e1]; exact (nI_ltI (by omega) (by omega)).mpr h)
        have g1 := m_many (N := N) (w := w) (by omega) (x := c) (by omega)
        have hpc := pc_le c
        have keep : ∀ w1, Fr [111, 112] w0 w1 → (pc c = n → aL v bits c = false) → Ok (fX12_fewest_25 N (nI bits) (nI wh) f k48 (nI n) (nI (c + 1)) w1) Q := by
          intro w1 hfr1 hz
          refine ih (c + 1) w1 (by omega) (by omega) hfr1 (fun s hs hp => ?_)
          rcases Nat.lt_or_ge s c with q | q
          · exact hno s q hp
          · have : s = c := by omega
            subst this
            exact hz hp
        by_cases q1 : pc c = n
        · have q1' : (nI (pc c) = nI n) = True := eq_true (by rw [q1])
          simp only [fX12_fewest_25, ↓lt, ↓cbnd g1, ↓q1', ↓reduceIte, callW_eq]
          refine ok_bind (m_allLed T0 S0 hF hN hb (by omega) hfr) ?_
          rintro ⟨x, w1⟩ ⟨p1, p2⟩
          simp only at p1 p2
          subst p2
          cases z : aL v bits c with
          | false =>
            have z0 : (zB false = 0) = True := eq_true rfl
            simp only [z0, ↓reduceIte, li1, nI_add]
            exact keep w1 p1 (fun _ => z)
          | true =>
            have z0 : (zB true = 0) = False := eq_false (by decide)
            have hB : isB v bits c := ⟨h, z, fun s hs ha => by
              have l1 := hlow s hs ha
              rcases Nat.lt_or_ge (pc c) (pc s) with y | y
              · exact Or.inl y
              · refine Or.inr ⟨by omega, ?_⟩
                rcases Nat.lt_or_ge s c with yy | yy
                · rw [hno s yy (by omega)] at ha; cases ha
                · exact yy⟩
            rcases (show wh = 0 ∨ wh = 1 by omega) with y | y
            · subst y
              have y0 : (nI 0 = 0) = True := eq_true rfl
              simp only [z0, y0, ↓reduceIte]
              have := hQ c w1 hB p1
              rw [if_pos rfl, q1] at this
              exact ok_some this
            · subst y
              have y0 : (nI 1 = 0) = False := eq_false (by decide)
              simp only [z0, y0, ↓reduceIte]
              have := hQ c w1 hB p1
              rw [if_neg (by omega)] at this
              exact ok_some this
        · have q1' : (nI (pc c) = nI n) = False := eq_false (fun z => q1 ((nI_eq (by omega) (by omega)).mp z))
          simp only [fX12_fewest_25, ↓lt, ↓cbnd g1, ↓q1', ↓reduceIte, callW_eq, li1, nI_add]
          exact keep w hfr (fun z => absurd z q1)
      · have : c = 2 ^ v 0 0 := by omega
        subst this
        have lt : (nI (2 ^ v 0 0) < (1 : Int32) <<< (gI w 16 0 12 &&& (31 : Int32))) = False := eq_false (by rw [e1]; exact fun z => by have := (nI_ltI (by omega) (by omega)).mp z; omega)
        simp only [fX12_fewest_25, ↓lt, ↓reduceIte]
        refine hk w hfr (fun s hs ha => ?_)
        have := hlow s hs ha
        rcases Nat.lt_or_ge n (pc s) with y | y
        · omega
        · rw [hno s hs (by omega)] at ha; cases ha
  have outer : ∀ fuel n w, n ≤ v 0 0 + 1 → v 0 0 + 1 - n < fuel → Fr [111, 112] w0 w → (∀ s, s < 2 ^ v 0 0 → aL v bits s = true → n ≤ pc s) →
      Ok (fX12_fewest_19 N (nI bits) (nI wh) fuel (nI n) w) (fun r => Fr [111, 112] w0 r.2 ∧ ((∃ b, isB v bits b ∧ r.1 = nI (if wh = 0 then pc b else b)) ∨ ((∀ s, s < 2 ^ v 0 0 → aL v bits s = false) ∧ r.1 = -nI 2))) := by
    intro fuel
    induction fuel with
    | zero => intro c _ _ h; omega
    | succ f ih =>
      intro n w hc hf hfr hlow
      have T := TM_fr hfr T0
      rcases Nat.lt_or_ge (v 0 0) n with h | h
      · have lt : (gI w 16 0 12 < nI n) = True := eq_true (by rw [TM_parts T]; exact (nI_ltI (by omega) (by omega)).mpr h)
        simp only [fX12_fewest_19, ↓lt, ↓reduceIte]
        refine ok_some ⟨hfr, Or.inr ⟨fun s hs => ?_, rfl⟩⟩
        cases z : aL v bits s with
        | false => rfl
        | true =>
          have := hlow s hs z
          have := pc_lt hs
          omega
      · have lt : (gI w 16 0 12 < nI n) = False := eq_false (by rw [TM_parts T]; exact fun z => by have := (nI_ltI (by omega) (by omega)).mp z; omega)
        simp only [fX12_fewest_19, ↓lt, ↓reduceIte, callW_eq, li0]
        refine inner n h hlow _ ?_ ?_ N 0 w (by omega) (by omega) hfr (fun s h => by omega)
        · intro b w1 hB hfr1
          exact ⟨hfr1, Or.inl ⟨b, hB, rfl⟩⟩
        · intro w1 hfr1 hlow1
          simp only [fX12_fewest_48, li1, nI_add]
          exact ih (n + 1) w1 (by omega) (by omega) hfr1 hlow1
  exact outer N 0 w0 (by omega) (by omega) (Fr_refl _ _) (fun s _ _ => by omega)
end

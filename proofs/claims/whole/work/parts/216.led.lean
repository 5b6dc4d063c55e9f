/-! ===== who can be led: the reference ===== -/
def knF (v : Vw) (n more g : Nat) : Nat := if g < v 0 1 then sBits v g n else if g = 6 then more else 0
theorem knF_lt {v : Vw} (hF : WF v) {n more : Nat} (hm : more < 2 ^ 8) (g : Nat) : knF v n more g < 2 ^ 8 := by
  unfold knF
  split
  · exact sBits_lt hF _ _
  · split
    · exact hm
    · omega
def unG (kn : Nat → Nat) (m : Nat) : Nat := orB 0 kn (fun _ => true) m
theorem unG_bit (kn : Nat → Nat) (m k : Nat) : (unG kn m).testBit k = anyB (fun g => (kn g).testBit k) m := by
  rw [unG, orB_bit]
  simp
theorem unG_lt {kn : Nat → Nat} (h : ∀ g, kn g < 2 ^ 8) (m : Nat) : unG kn m < 2 ^ 8 := orB_lt (by omega) h m
def lsF (D : Nat → Nat) (f : Nat) : Nat → Nat
  | 0 => 99999
  | g + 1 => if D (7 * f + g) < lsF D f g then D (7 * f + g) else lsF D f g
theorem lsF_le (D : Nat → Nat) (f n : Nat) : lsF D f n ≤ 99999 ∧ (∀ g, g < n → lsF D f n ≤ D (7 * f + g)) ∧ (lsF D f n = 99999 ∨ ∃ g, g < n ∧ lsF D f n = D (7 * f + g)) := by
  induction n with
  | zero => exact ⟨Nat.le_refl _, fun g h => by omega, Or.inl rfl⟩
  | succ n ih =>
    obtain ⟨i1, i2, i3⟩ := ih
    rw [lsF]
    split
    · refine ⟨by omega, fun g hg => ?_, Or.inr ⟨n, by omega, rfl⟩⟩
      rcases Nat.lt_or_ge g n with q | q
      · have := i2 g q; omega
      · have : g = n := by omega
        subst this; exact Nat.le_refl _
    · refine ⟨i1, fun g hg => ?_, ?_⟩
      · rcases Nat.lt_or_ge g n with q | q
        · exact i2 g q
        · have : g = n := by omega
          subst this; omega
      · rcases i3 with i3 | ⟨g, hg, e⟩
        · exact Or.inl i3
        · exact Or.inr ⟨g, by omega, e⟩
/-- a way with guides is a way through what somebody knows -/
theorem FD_wk {v : Vw} (hF : WF v) {kn : Nat → Nat} {to : Nat} {D : Nat → Nat} (h : FD v kn to D) : ∀ x s, s < 56 → D s = x → x < 99999 → ∃ n, wk (fun k => (unG kn 7).testBit k) (fun c b => (v 3 c).testBit b) n (s / 7) to := by
  obtain ⟨f0, f1, f2, f3⟩ := h
  intro x
  induction x using Nat.strongRecOn with
  | ind x ih =>
    intro s hs hx hlt
    obtain ⟨p1, p2⟩ := f3 s hs (by omega)
    have hA : (unG kn 7).testBit (s / 7) = true := by
      rw [unG_bit]
      exact anyB_true.mpr ⟨s % 7, by omega, p1⟩
    rcases p2 with ⟨e, _⟩ | ⟨t, ht, hE, e⟩
    · exact ⟨0, e, hA⟩
    · obtain ⟨n, hn⟩ := ih (D t) (by omega) t ht rfl (by omega)
      have hAt : (unG kn 7).testBit (t / 7) = true := by
        obtain ⟨q1, _⟩ := f3 t ht (by omega)
        rw [unG_bit]
        exact anyB_true.mpr ⟨t % 7, by omega, q1⟩
      have h1 : wk (fun k => (unG kn 7).testBit k) (fun c b => (v 3 c).testBit b) 1 (s / 7) (t / 7) := ⟨hAt, s / 7, ⟨rfl, hA⟩, hE⟩
      exact ⟨1 + n, wk_cat h1 hn⟩
theorem FD_kw {v : Vw} {kn : Nat → Nat} {to : Nat} {D : Nat → Nat} (hF : WF v) (h : FD v kn to D) : ∀ n a b g x, b < 8 → g < 7 → (kn g).testBit b = true → D (7 * b + g) ≤ x → wk (fun k => (unG kn 7).testBit k) (fun c b => (v 3 c).testBit b) n a b → ∃ h, h < 7 ∧ (kn h).testBit a = true ∧ D (7 * a + h) ≤ x + 101 * n := by
  obtain ⟨f0, f1, f2, f3⟩ := h
  have h8 := WF_parts hF
  intro n
  induction n with
  | zero =>
    intro a b g x hb hg hk hx hw
    obtain ⟨e, _⟩ := hw
    subst e
    exact ⟨g, hg, hk, by omega⟩
  | succ n ih =>
    intro a b g x hb hg hk hx hw
    obtain ⟨hA, c, gc, e⟩ := hw
    have hc := (adj_lt hF e).1
    have hAc := wk_end gc
    simp only [unG_bit] at hAc
    obtain ⟨h, hh, hkh⟩ := anyB_true.mp hAc
    have := f2 (7 * c + h) (7 * b + g) (by omega) (by omega) (by rw [show (7 * c + h) % 7 = h by omega, show (7 * c + h) / 7 = c by omega]; exact hkh) (by rw [show (7 * c + h) / 7 = c by omega, show (7 * b + g) / 7 = b by omega]; exact e)
    have h100 : D (7 * c + h) ≤ x + 101 := by
      split at this <;> omega
    obtain ⟨h', q1, q2, q3⟩ := ih a c h (x + 101) (by omega) hh hkh h100 gc
    exact ⟨h', q1, q2, by omega⟩
theorem FD_led {v : Vw} (hF : WF v) {kn : Nat → Nat} (hkn : ∀ g, kn g < 2 ^ 8) {f to : Nat} {D : Nat → Nat} (hf : f < v 0 0) (hto : to < v 0 0) (h : FD v kn to D) : (lsF D f 7 < 99999) ↔ gD (v 3) (v 0 0) (unG kn 7) f to ≠ 99 := by
  have h8 := WF_parts hF
  obtain ⟨l1, l2, l3⟩ := lsF_le D f 7
  rw [gD_wk (unG_lt hkn 7) (adj_hg hF)]
  constructor
  · intro hlt
    rcases l3 with e | ⟨g, hg, e⟩
    · omega
    · have := FD_wk hF h (D (7 * f + g)) (7 * f + g) (by omega) rfl (by omega)
      rw [show (7 * f + g) / 7 = f by omega] at this
      exact this
  · rintro ⟨n, hn⟩
    have h7 := rch7 (unG_lt hkn 7) (adj_hg hF) hn
    obtain ⟨m, hm, hw⟩ := (rch_iff (adj_hg hF) 7 to).mp h7
    have hA := wk_end hw
    simp only [unG_bit] at hA
    obtain ⟨g, hg, hk⟩ := anyB_true.mp hA
    have e1 := h.2.1 (7 * to + g) (by omega) (by omega) (by rw [show (7 * to + g) % 7 = g by omega, show (7 * to + g) / 7 = to by omega]; exact hk)
    obtain ⟨h', q1, q2, q3⟩ := FD_kw hF h m f to g 1 (by omega) hg hk (by omega) hw
    have := l2 h' q1
    omega
section
variable {N : Nat} {w : Wd} {b : Nat} {v : Vw}
theorem m_layKnown (T : TM w v) (S : SM w b v) (hF : WF v) (hb : b ≤ 1) (hN : 100 ≤ N) {n more : Nat} (hn : n < 2 ^ 30) :
    Ok (pX12_layKnown N (nI b) (nI n) (nI more) w) (fun w' => Fr [111] w w' ∧ ∀ g, g < 7 → gI w' 111 0 g = nI (knF v n more g)) := by
  have h1 := WF_people hF
  have key : ∀ fuel c w1, c ≤ 6 → 6 - c < fuel → (Fr [111] w w1 ∧ ∀ g, g < c → gI w1 111 0 g = nI (knF v n more g)) → Ok (fX12_layKnown_2 N (nI b) (nI n) (nI more) fuel (fX12_layKnown_22 N (nI more)) (nI c) w1) (fun w' => Fr [111] w w' ∧ ∀ g, g < 7 → gI w' 111 0 g = nI (knF v n more g)) := by
    intro fuel
    induction fuel with
    | zero => intro c _ _ h; omega
    | succ f ih =>
      intro c w1 hc hf hI
      obtain ⟨i1, i2⟩ := hI
      have T1 := TM_fr i1 T
      rcases Nat.lt_or_ge c 6 with h | h
      · have lt : (nI c < (6 : Int32)) = True := eq_true ((nI_ltI (a := c) (b := 6) (by omega) (by omega)).mpr h)
        have s4 : ∀ x, stI w1 111 0 (nI c) 7 x = some (setI w1 111 0 c x) := fun x => stn (by omega) (by omega)
        have e := ih (c + 1) (setI w1 111 0 c (nI (knF v n more c))) (by omega) (by omega) ⟨Fr_setI i1 rfl, fun g hg => by
          rw [gg_I]
          by_cases y : g = c
          · subst y; rw [if_pos ⟨rfl, rfl, rfl⟩]
          · rw [if_neg (fun z => y z.2.2)]; exact i2 g (by omega)⟩
        by_cases q : c < v 0 1
        · have q' : (nI c < gI w1 16 0 13) = True := eq_true (by rw [TM_people T1]; exact (nI_ltI (by omega) (by omega)).mpr q)
          have gk := m_knownBy (N := N) T1 (SM_fr i1 S) hF hb hN q hn
          simp only [fX12_layKnown_2, lt, q', ↓cbnd gk, ↓bnd (s4 _), ↓reduceIte, callW_eq, li1, nI_add]
          have : knF v n more c = sBits v c n := if_pos q
          rw [this] at e
          exact e
        · have q' : (nI c < gI w1 16 0 13) = False := eq_false (by rw [TM_people T1]; exact fun z => q ((nI_ltI (by omega) (by omega)).mp z))
          simp only [fX12_layKnown_2, lt, q', ↓bnd (s4 _), ↓reduceIte, callW_eq, li1, nI_add]
          have : knF v n more c = 0 := by rw [knF, if_neg q, if_neg (by omega)]
          rw [this] at e
          exact e
      · have : c = 6 := by omega
        subst this
        have lt : (nI 6 < (6 : Int32)) = False := eq_false (by decide)
        have s4 : stI w1 111 0 (6 : Int32) 7 (nI more) = some (setI w1 111 0 6 (nI more)) := stn (j := 6) (by omega) (by omega)
        simp only [fX12_layKnown_2, fX12_layKnown_22, lt, ↓bnd s4, ↓reduceIte]
        refine ok_some ⟨Fr_setI i1 rfl, fun g hg => ?_⟩
        rw [gg_I]
        by_cases y : g = 6
        · subst y; rw [if_pos ⟨rfl, rfl, rfl⟩, knF, if_neg (by omega), if_pos rfl]
        · rw [if_neg (fun z => y z.2.2)]; exact i2 g (by omega)
  unfold pX12_layKnown
  rw [callW_eq, li0]
  exact key N 0 w (by omega) (by omega) ⟨Fr_refl _ _, fun g h => by omega⟩
theorem m_leastOf (T : TM w v) (hF : WF v) (hN : 2 ^ 23 ≤ N) {kn : Nat → Nat} (hkn : ∀ g, g < 7 → gI w 111 0 g = nI (kn g) ∧ kn g < 2 ^ 8) {q : Nat} (hq : q < v 0 2) :
    Ok (pX12_leastOf N (nI q) w) (fun r => Fr [112] w r.2 ∧ ∃ D : Nat → Nat, (∀ s, s < 56 → gI r.2 112 0 s = nI (D s)) ∧ FD v kn (v 10 q) D ∧ r.1 = nI (lsF D (v 9 q) 7)) := by
  have h2 := WF_parts hF
  have h3 := WF_parties hF
  have h5 := WF_pfrom hF q hq
  have h6 := WF_pto hF q hq
  have l1 : ldI w 85 0 (nI q) 16 = some (nI (v 10 q)) := by rw [ldn (by omega) (by omega), TM_pto T q hq]
  simp only [pX12_leastOf, ↓bnd l1, callW_eq]
  refine ok_bind (m_layStill T hF hN (by omega) hkn) ?_
  rintro w1 ⟨j1, D, j2, j3⟩
  have T1 := TM_fr j1 T
  have key : ∀ fuel c, c ≤ 7 → 7 - c < fuel → fX12_leastOf_10 N (nI q) fuel (nI (lsF D (v 9 q) c)) (nI c) w1 = some (nI (lsF D (v 9 q) 7), w1) := by
    intro fuel
    induction fuel with
    | zero => intro c _ h; omega
    | succ f ih =>
      intro c hc hf
      rcases Nat.lt_or_ge c 7 with h | h
      · have lt : (nI c < (7 : Int32)) = True := eq_true ((nI_ltI (a := c) (b := 7) (by omega) (by omega)).mpr h)
        have e := ih (c + 1) (by omega) (by omega)
        rw [lsF] at e
        have hle := (lsF_le D (v 9 q) c).1
        have hD := (j3.1 (7 * v 9 q + c) (by omega)).1
        have l2 : ldI w1 84 0 (nI q) 16 = some (nI (v 9 q)) := by rw [ldn (by omega) (by omega), TM_pfrom T1 q hq]
        have l3 : ldI w1 112 0 ((7 : Int32) * nI (v 9 q) + nI c) 56 = some (nI (D (7 * v 9 q + c))) := by rw [li7, pk_mul, nI_add, ldn (by omega) (by omega), j2 _ (by omega)]
        by_cases q3 : D (7 * v 9 q + c) < lsF D (v 9 q) c
        · have q' : (nI (D (7 * v 9 q + c)) < nI (lsF D (v 9 q) c)) = True := eq_true ((nI_ltI (by omega) (by omega)).mpr q3)
          simp only [fX12_leastOf_10, lt, ↓bnd l2, ↓bnd l3, q', ↓reduceIte, callW_eq, li1, nI_add]
          rw [if_pos q3] at e
          exact e
        · have q' : (nI (D (7 * v 9 q + c)) < nI (lsF D (v 9 q) c)) = False := eq_false (fun z => q3 ((nI_ltI (by omega) (by omega)).mp z))
          simp only [fX12_leastOf_10, lt, ↓bnd l2, ↓bnd l3, q', ↓reduceIte, callW_eq, li1, nI_add]
          rw [if_neg q3] at e
          exact e
      · have : c = 7 := by omega
        subst this
        have lt : (nI 7 < (7 : Int32)) = False := eq_false (by decide)
        simp only [fX12_leastOf_10, lt, ↓reduceIte]
  have e := key N 0 (by omega) (by omega)
  rw [li99999, li0]
  exact ok_of e ⟨j1, D, j2, j3, rfl⟩
theorem m_isLed (T : TM w v) (hF : WF v) (hN : 2 ^ 23 ≤ N) {kn : Nat → Nat} (hkn : ∀ g, g < 7 → gI w 111 0 g = nI (kn g)) (hk8 : ∀ g, kn g < 2 ^ 8) {q : Nat} (hq : q < v 0 2) :
    Ok (pX12_isLed N (nI q) w) (fun r => Fr [112] w r.2 ∧ r.1 = zB (gL8 v (unG kn 7) q)) := by
  unfold pX12_isLed
  rw [callW_eq]
  refine ok_bind (m_leastOf T hF hN (fun g hg => ⟨hkn g hg, hk8 g⟩) hq) ?_
  rintro ⟨x, w1⟩ ⟨j1, D, j2, j3, j4⟩
  simp only at j1 j2 j4
  subst j4
  have hl := FD_led hF hk8 (WF_pfrom hF q hq) (WF_pto hF q hq) j3
  have hle := (lsF_le D (v 9 q) 7).1
  by_cases c : lsF D (v 9 q) 7 < 99999
  · have q' : (nI (lsF D (v 9 q) 7) < (99999 : Int32)) = True := eq_true ((nI_ltI (b := 99999) (by omega) (by omega)).mpr c)
    have : gL8 v (unG kn 7) q = true := by simpa [gL8] using hl.mp c
    simp only [q', ↓reduceIte, this]
    exact ok_some ⟨j1, rfl⟩
  · have q' : (nI (lsF D (v 9 q) 7) < (99999 : Int32)) = False := eq_false (fun z => c ((nI_ltI (b := 99999) (by omega) (by omega)).mp z))
    have : gL8 v (unG kn 7) q = false := by
      cases z : gL8 v (unG kn 7) q with
      | false => rfl
      | true => exact absurd (hl.mpr (by simpa [gL8] using z)) c
    simp only [q', ↓reduceIte, this]
    exact ok_some ⟨j1, rfl⟩
/-! one guide alone -/
theorem m_leads (T : TM w v) (hF : WF v) (hN : 100 ≤ N) {on p q : Nat} (hp : p < 7) (hkn : gI w 111 0 p = nI on) (hon : on < 2 ^ 8) (hq : q < v 0 2) :
    pX12_leads N (nI p) (nI q) w = some (zB (gL8 v on q), w) := by
  have h2 := WF_parts hF
  have h3 := WF_parties hF
  have h5 := WF_pfrom hF q hq
  have h6 := WF_pto hF q hq
  have l1 : ldI w 111 0 (nI p) 7 = some (nI on) := by rw [ldn (by omega) (by omega), hkn]
  have l2 : ldI w 84 0 (nI q) 16 = some (nI (v 9 q)) := by rw [ldn (by omega) (by omega), TM_pfrom T q hq]
  have l3 : ldI w 85 0 (nI q) 16 = some (nI (v 10 q)) := by rw [ldn (by omega) (by omega), TM_pto T q hq]
  have go := m_isOf (N := N) (w := w) (x := on) (k := v 9 q) (by omega) (by omega)
  let A := fun k => on.testBit k
  let E := fun c b => (v 3 c).testBit b
  have fin : ∀ come, come < 2 ^ 8 → (∀ t, come.testBit t = true → ∃ n, wk A E n (v 9 q) t) → (∀ t, (rch (v 3) (v 0 0) on (v 9 q) 8).testBit t = true → come.testBit t = true) → fX12_leads_51 N (nI q) (nI come) w = some (zB (gL8 v on q), w) := by
    intro come hc8 s1 s2
    have g2 := m_isOf (N := N) (w := w) (x := come) (k := v 10 q) (by omega) (by omega)
    simp only [fX12_leads_51, ↓bnd l3, ↓cbnd g2, retZ_b]
    have : come.testBit (v 10 q) = gL8 v on q := by
      have hw := gD_wk (P := v 0 0) (f := v 9 q) (t := v 10 q) hon (adj_hg hF)
      cases z : come.testBit (v 10 q) with
      | true =>
        have := hw.mpr (s1 _ z)
        simp [gL8, this]
      | false =>
        cases y : gL8 v on q with
        | false => rfl
        | true =>
          obtain ⟨n, hn⟩ := hw.mp (by simpa [gL8] using y)
          have h7 := rch7 (P := v 0 0) hon (adj_hg hF) hn
          rw [s2 _ (rch_mono _ _ _ _ _ _ h7)] at z
          cases z
    rw [this]
  have inner : ∀ (r : Nat) (k49 : Int32 → Int32 → Int32 → Wd → Option (Int32 × Wd)), (∀ come, come < 2 ^ 8 → (∀ t, come.testBit t = true → ∃ n, wk A E n (v 9 q) t) → (∀ t, (rch (v 3) (v 0 0) on (v 9 q) (r + 1)).testBit t = true → come.testBit t = true) → k49 (nI on) (nI come) (nI r) w = some (zB (gL8 v on q), w)) →
      ∀ fuel c come, c ≤ v 0 0 → v 0 0 - c < fuel → come < 2 ^ 8 → (∀ t, come.testBit t = true → ∃ n, wk A E n (v 9 q) t) → (∀ t, (rch (v 3) (v 0 0) on (v 9 q) r).testBit t = true → come.testBit t = true) →
      (∀ k t, k < c → (rch (v 3) (v 0 0) on (v 9 q) r).testBit k = true → (v 3 k).testBit t = true → on.testBit t = true → come.testBit t = true) →
      fX12_leads_28 N (nI q) fuel k49 (nI on) (nI come) (nI r) (nI c) w = some (zB (gL8 v on q), w) := by
    intro r k49 hk fuel
    induction fuel with
    | zero => intro c _ _ h; omega
    | succ f ih =>
      intro c come hc hf hc8 s1 s2 s3
      rcases Nat.lt_or_ge c (v 0 0) with h | h
      · have lt : (nI c < gI w 16 0 12) = True := eq_true (by rw [TM_parts T]; exact (nI_ltI (by omega) (by omega)).mpr h)
        have g1 := m_isOf (N := N) (w := w) (x := come) (k := c) (by omega) (by omega)
        cases z : come.testBit c with
        | false =>
          rw [z] at g1
          have z0 : (zB false = 0) = True := eq_true (by decide)
          simp only [fX12_leads_28, lt, ↓cbnd g1, z0, ↓reduceIte, callW_eq, li0, li1, nI_add, nz_or, Nat.or_zero]
          refine ih (c + 1) come (by omega) (by omega) hc8 s1 s2 (fun k t hk hr he ho => ?_)
          rcases Nat.lt_or_ge k c with y | y
          · exact s3 k t y hr he ho
          · have : k = c := by omega
            subst this
            rw [s2 k hr] at z; cases z
        | true =>
          rw [z] at g1
          have z0 : (zB true = 0) = False := eq_false (by decide)
          have l4 : ldI w 77 0 (nI c) 16 = some (nI (v 3 c)) := by rw [ldn (by omega) (by omega), TM_beside T c h]
          simp only [fX12_leads_28, lt, ↓cbnd g1, ↓bnd l4, z0, ↓reduceIte, callW_eq, li1, nI_add, nz_and, nz_or]
          refine ih (c + 1) _ (by omega) (by omega) (Nat.or_lt_two_pow hc8 (Nat.lt_of_le_of_lt Nat.and_le_right hon)) ?_ ?_ ?_
          · intro t ht
            rw [Nat.testBit_or, Nat.testBit_and, Bool.or_eq_true, Bool.and_eq_true] at ht
            rcases ht with ht | ⟨h1, h2⟩
            · exact s1 t ht
            · obtain ⟨n, hn⟩ := s1 c z
              exact ⟨n + 1, h2, c, hn, h1⟩
          · intro t ht
            rw [Nat.testBit_or, s2 t ht, Bool.true_or]
          · intro k t hk hr he ho
            rw [Nat.testBit_or, Nat.testBit_and, Bool.or_eq_true, Bool.and_eq_true]
            rcases Nat.lt_or_ge k c with y | y
            · exact Or.inl (s3 k t y hr he ho)
            · have : k = c := by omega
              subst this
              exact Or.inr ⟨he, ho⟩
      · have : c = v 0 0 := by omega
        subst this
        have lt : (nI (v 0 0) < gI w 16 0 12) = False := eq_false (by rw [TM_parts T]; exact fun z => by have := (nI_ltI (by omega) (by omega)).mp z; omega)
        simp only [fX12_leads_28, lt, ↓reduceIte]
        refine hk come hc8 s1 (fun t ht => ?_)
        rw [rch, stp1, Nat.testBit_and, orB_bit, Bool.and_eq_true, Bool.or_eq_true, anyB_true] at ht
        obtain ⟨ht | ⟨k, hk, hkt⟩, ho⟩ := ht
        · exact s2 t ht
        · rw [Bool.and_eq_true] at hkt
          exact s3 k t hk hkt.1 hkt.2 ho
  have outer : ∀ fuel r come, r ≤ 8 → 8 - r < fuel → come < 2 ^ 8 → (∀ t, come.testBit t = true → ∃ n, wk A E n (v 9 q) t) → (∀ t, (rch (v 3) (v 0 0) on (v 9 q) r).testBit t = true → come.testBit t = true) →
      fX12_leads_23 N (nI q) fuel (fX12_leads_51 N (nI q)) (nI on) (nI come) (nI r) w = some (zB (gL8 v on q), w) := by
    intro fuel
    induction fuel with
    | zero => intro c _ _ h; omega
    | succ f ih =>
      intro r come hc hf hc8 s1 s2
      rcases Nat.lt_or_ge r 8 with h | h
      · have lt : (nI r < (8 : Int32)) = True := eq_true ((nI_ltI (a := r) (b := 8) (by omega) (by omega)).mpr h)
        simp only [fX12_leads_23, lt, ↓reduceIte, callW_eq, li0]
        refine inner r _ ?_ N 0 come (by omega) (by omega) hc8 s1 s2 (fun k t hk => by omega)
        intro come' h1 h2 h3
        simp only [fX12_leads_49, li1, nI_add]
        exact ih (r + 1) come' (by omega) (by omega) h1 h2 h3
      · have : r = 8 := by omega
        subst this
        have lt : (nI 8 < (8 : Int32)) = False := eq_false (by decide)
        simp only [fX12_leads_23, lt, ↓reduceIte]
        exact fin come hc8 s1 s2
  cases z : on.testBit (v 9 q) with
  | false =>
    rw [z] at go
    have z0 : (zB false = 0) = True := eq_true (by decide)
    simp only [pX12_leads, ↓bnd l1, ↓bnd l2, ↓cbnd go, z0, ↓reduceIte, callW_eq, li0]
    refine outer N 0 0 (by omega) (by omega) (by omega) (fun t ht => by simp at ht) (fun t ht => ?_)
    rw [rch, Nat.testBit_and, Nat.testBit_two_pow, Bool.and_eq_true, decide_eq_true_eq] at ht
    rw [← ht.1, z] at ht
    cases ht.2
  | true =>
    rw [z] at go
    have z0 : (zB true = 0) = False := eq_false (by decide)
    have e1 : (1 : Int32) <<< (nI (v 9 q) &&& (31 : Int32)) = nI (2 ^ v 9 q) := by
      rw [li1, li31, nz_and]
      exact nz_shl (by omega)
    simp only [pX12_leads, ↓bnd l1, ↓bnd l2, ↓cbnd go, z0, ↓reduceIte, callW_eq, li0, e1]
    have hlt : 2 ^ v 9 q < 2 ^ 8 := Nat.pow_lt_pow_right (by omega) (by omega)
    refine outer N 0 (2 ^ v 9 q) (by omega) (by omega) hlt (fun t ht => ?_) (fun t ht => ?_)
    · rw [Nat.testBit_two_pow, decide_eq_true_eq] at ht
      subst ht
      exact ⟨0, rfl, z⟩
    · rw [rch, Nat.testBit_and, Bool.and_eq_true] at ht
      exact ht.1
/-! prices -/
def smq (f : Nat → Bool) (x : Nat → Nat) : Nat → Nat
  | 0 => 0
  | q + 1 => smq f x q + if f q then x q else 0
theorem smq_le {f : Nat → Bool} {x : Nat → Nat} {b n : Nat} (h : ∀ q, x q ≤ b) : smq f x n ≤ n * b := by
  induction n with
  | zero => exact Nat.zero_le _
  | succ n ih =>
    have := h n
    rw [smq, Nat.succ_mul]
    split <;> omega
def sPr (v : Vw) (n al : Nat) : Nat := smq (fun q => v 11 q == n && gL8 v al q) (v 12) (v 0 2)
theorem sPr_le {v : Vw} (hF : WF v) (n al : Nat) : sPr v n al ≤ 800 := by
  have h1 := smq_le (f := fun q => v 11 q == n && gL8 v al q) (n := v 0 2) (WF_price hF)
  have h2 := WF_parties hF
  have h3 : v 0 2 * 99 ≤ 8 * 99 := Nat.mul_le_mul_right _ h2
  unfold sPr
  omega
theorem m_priceLed (T : TM w v) (hF : WF v) (hN : 2 ^ 23 ≤ N) {kn : Nat → Nat} (hkn : ∀ g, g < 7 → gI w 111 0 g = nI (kn g)) (hk8 : ∀ g, kn g < 2 ^ 8) {n : Nat} (hn : n < 2 ^ 30) :
    Ok (pX12_priceLed N (nI n) w) (fun r => Fr [112] w r.2 ∧ r.1 = nI (sPr v n (unG kn 7))) := by
  have h3 := WF_parties hF
  have key : ∀ fuel c w1, c ≤ v 0 2 → v 0 2 - c < fuel → Fr [112] w w1 → Ok (fX12_priceLed_4 N (nI n) fuel (nI (smq (fun q => v 11 q == n && gL8 v (unG kn 7) q) (v 12) c)) (nI c) w1) (fun r => Fr [112] w r.2 ∧ r.1 = nI (sPr v n (unG kn 7))) := by
    intro fuel
    induction fuel with
    | zero => intro c _ _ h; omega
    | succ f ih =>
      intro c w1 hc hf hI
      have T1 := TM_fr hI T
      rcases Nat.lt_or_ge c (v 0 2) with h | h
      · have lt : (nI c < gI w1 16 0 14) = True := eq_true (by rw [TM_parties T1]; exact (nI_ltI (by omega) (by omega)).mpr h)
        have l1 : ldI w1 86 0 (nI c) 16 = some (nI (v 11 c)) := by rw [ldn (by omega) (by omega), TM_pnight T1 c h]
        have hpn := WF_pnight hF c
        by_cases q : v 11 c = n
        · have q' : (nI (v 11 c) = nI n) = True := eq_true (by rw [q])
          simp only [fX12_priceLed_4, lt, ↓bnd l1, q', ↓reduceIte, callW_eq, li0, li1, nI_add, Nat.add_zero]
          refine ok_bind (m_isLed T1 hF hN (fun g hg => ((hI 111 0 g rfl).1).trans (hkn g hg)) hk8 h) ?_
          rintro ⟨x, w2⟩ ⟨j1, j2⟩
          simp only at j1 j2
          subst j2
          have hfr := Fr_trans hI j1
          have l3 : ldI w2 87 0 (nI c) 16 = some (nI (v 12 c)) := by rw [ldn (by omega) (by omega), TM_price (TM_fr j1 T1) c h]
          have e := ih (c + 1) w2 (by omega) (by omega) hfr
          rw [smq] at e
          cases z : gL8 v (unG kn 7) c with
          | false =>
            have z0 : (zB false = nI 0) = True := eq_true rfl
            simp only [z0, ↓reduceIte]
            simpa [q, z] using e
          | true =>
            have z0 : (zB true = nI 0) = False := eq_false (by decide)
            simp only [z0, ↓reduceIte, ↓bnd l3, nI_add]
            simpa [q, z] using e
        · have q' : (nI (v 11 c) = nI n) = False := eq_false (fun z => q ((nI_eq (by omega) (by omega)).mp z))
          have e := ih (c + 1) w1 (by omega) (by omega) hI
          rw [smq] at e
          simp only [fX12_priceLed_4, lt, ↓bnd l1, q', ↓reduceIte, callW_eq, li0, li1, nI_add, Nat.add_zero]
          have hb : (v 11 c == n) = false := by simp [q]
          simpa [hb] using e
      · have : c = v 0 2 := by omega
        subst this
        have lt : (nI (v 0 2) < gI w1 16 0 14) = False := eq_false (by rw [TM_parties T1]; exact fun z => by have := (nI_ltI (by omega) (by omega)).mp z; omega)
        simp only [fX12_priceLed_4, lt, ↓reduceIte]
        exact ok_some ⟨hI, rfl⟩
  unfold pX12_priceLed
  rw [callW_eq, li0]
  exact key N 0 w (by omega) (by omega) (Fr_refl _ _)
end
/-! the class's prices -/
theorem c_priceLed {N : Nat} {w : Wd} {m : Nat} {v : Vw} (T : TC w m v) (hF : WF v) (hN : 100 ≤ N) {n al : Nat} (hn : n < 2 ^ 30) (hal : al < 2 ^ 8) : pX4_priceLed N m (nI n) (nI al) w = some (nI (sPr v n al), w) := by
  have h3 := WF_parties hF
  have key : ∀ fuel c, c ≤ v 0 2 → v 0 2 - c < fuel → fX4_priceLed_4 N m (nI n) (nI al) fuel (nI (smq (fun q => v 11 q == n && gL8 v al q) (v 12) c)) (nI c) w = some (nI (sPr v n al), w) := by
    intro fuel
    induction fuel with
    | zero => intro c _ h; omega
    | succ f ih =>
      intro c hc hf
      rcases Nat.lt_or_ge c (v 0 2) with h | h
      · have lt : (nI c < gI w 8 m 5) = True := eq_true (by rw [TC_parties T]; exact (nI_ltI (by omega) (by omega)).mpr h)
        have l1 : ldI w 35 m (nI c) 8 = some (nI (v 11 c)) := by rw [ldn (by omega) (by omega), TC_pnight T c h]
        have l3 : ldI w 36 m (nI c) 8 = some (nI (v 12 c)) := by rw [ldn (by omega) (by omega), TC_price T c h]
        have hpn := WF_pnight hF c
        have gl := c_isLed (N := N) T hF hN h hal
        have e := ih (c + 1) (by omega) (by omega)
        rw [smq] at e
        by_cases q : v 11 c = n
        · have q' : (nI (v 11 c) = nI n) = True := eq_true (by rw [q])
          cases z : gL8 v al c with
          | false =>
            rw [z] at gl
            have z0 : (zB false = 0) = True := eq_true rfl
            simp only [fX4_priceLed_4, lt, ↓bnd l1, q', ↓cbnd gl, z0, ↓reduceIte, callW_eq, li1, nI_add]
            simpa [q, z] using e
          | true =>
            rw [z] at gl
            have z0 : (zB true = 0) = False := eq_false (by decide)
            simp only [fX4_priceLed_4, lt, ↓bnd l1, q', ↓cbnd gl, ↓bnd l3, z0, ↓reduceIte, callW_eq, li1, nI_add]
            simpa [q, z] using e
        · have q' : (nI (v 11 c) = nI n) = False := eq_false (fun z => q ((nI_eq (by omega) (by omega)).mp z))
          simp only [fX4_priceLed_4, lt, ↓bnd l1, q', ↓reduceIte, callW_eq, li1, nI_add]
          have hb : (v 11 c == n) = false := by simp [q]
          simpa [hb] using e
      · have : c = v 0 2 := by omega
        subst this
        have lt : (nI (v 0 2) < gI w 8 m 5) = False := eq_false (by rw [TC_parties T]; exact fun z => by have := (nI_ltI (by omega) (by omega)).mp z; omega)
        simp only [fX4_priceLed_4, lt, ↓reduceIte]
        rfl
  unfold pX4_priceLed
  rw [callW_eq, li0]
  exact key N 0 (by omega) (by omega)

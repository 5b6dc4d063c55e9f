/-! ===== the reference's table of ways with guides ===== -/
def anyG (kn : Nat → Nat) (k : Nat) : Bool := anyB (fun g => (kn g).testBit k) 7
/-- the table's number of a place and a guide (7 times the place and the guide) -/
def FD (v : Vw) (kn : Nat → Nat) (to : Nat) (D : Nat → Nat) : Prop :=
  (∀ s, s < 56 → D s ≤ 99999 ∧ 1 ≤ D s) ∧ (∀ s, s < 56 → s / 7 = to → (kn (s % 7)).testBit (s / 7) = true → D s = 1) ∧
  (∀ s t, s < 56 → t < 56 → (kn (s % 7)).testBit (s / 7) = true → (v 3 (s / 7)).testBit (t / 7) = true → D s ≤ D t + 1 + (if t % 7 = s % 7 then 0 else 100)) ∧
  (∀ s, s < 56 → D s < 99999 → (kn (s % 7)).testBit (s / 7) = true ∧ ((s / 7 = to ∧ D s = 1) ∨ ∃ t, t < 56 ∧ (v 3 (s / 7)).testBit (t / 7) = true ∧ D s = D t + 1 + (if t % 7 = s % 7 then 0 else 100)))
def boF (D : Nat → Nat) (E : Nat → Bool) (W : Nat → Nat) (x : Nat) : Nat → Nat
  | 0 => x
  | t + 1 => if E t = true ∧ D t + 1 + W t < boF D E W x t then D t + 1 + W t else boF D E W x t
theorem boF_le (D : Nat → Nat) (E : Nat → Bool) (W : Nat → Nat) (x n : Nat) : boF D E W x n ≤ x ∧ (∀ t, t < n → E t = true → boF D E W x n ≤ D t + 1 + W t) ∧ (boF D E W x n = x ∨ ∃ t, t < n ∧ E t = true ∧ boF D E W x n = D t + 1 + W t) := by
  induction n with
  | zero => exact ⟨Nat.le_refl _, fun t h => by omega, Or.inl rfl⟩
  | succ n ih =>
    obtain ⟨i1, i2, i3⟩ := ih
    rw [boF]
    split
    · rename_i h
      refine ⟨by omega, fun t ht hE => ?_, Or.inr ⟨n, by omega, h.1, rfl⟩⟩
      rcases Nat.lt_or_ge t n with q | q
      · have := i2 t q hE; omega
      · have : t = n := by omega
        subst this; exact Nat.le_refl _
    · rename_i h
      refine ⟨i1, fun t ht hE => ?_, ?_⟩
      · rcases Nat.lt_or_ge t n with q | q
        · exact i2 t q hE
        · have : t = n := by omega
          subst this
          apply Classical.byContradiction
          intro z
          exact h ⟨hE, by omega⟩
      · rcases i3 with i3 | ⟨t, ht, hE, e⟩
        · exact Or.inl i3
        · exact Or.inr ⟨t, by omega, hE, e⟩
def smF (D : Nat → Nat) : Nat → Nat
  | 0 => 0
  | n + 1 => smF D n + D n
theorem smF_ext {D D' : Nat → Nat} {n : Nat} (h : ∀ s, s < n → D s = D' s) : smF D n = smF D' n := by
  induction n with
  | zero => rfl
  | succ n ih => rw [smF, smF, ih (fun s hs => h s (by omega)), h n (by omega)]
theorem smF_le {D : Nat → Nat} {n b : Nat} (h : ∀ s, s < n → D s ≤ b) : smF D n ≤ n * b := by
  induction n with
  | zero => exact Nat.zero_le _
  | succ n ih =>
    have := ih (fun s hs => h s (by omega))
    have := h n (by omega)
    rw [smF, Nat.succ_mul]
    omega
theorem smF_up {D : Nat → Nat} {n c x : Nat} (hc : c < n) : smF (fun s => if s = c then x else D s) n + D c = smF D n + x := by
  induction n with
  | zero => omega
  | succ n ih =>
    rw [smF, smF]
    rcases Nat.lt_or_ge c n with q | q
    · have := ih q
      rw [if_neg (by omega)]
      omega
    · have : c = n := by omega
      subst this
      rw [if_pos rfl, smF_ext (D := fun s => if s = c then x else D s) (D' := D) (fun s hs => if_neg (by omega))]
      omega
theorem nz_rem {a d : Nat} : nI a - nI (a / d * d) = nI (a % d) := by
  rw [pk_sub (Nat.div_mul_le_self a d)]
  congr 1
  have := Nat.div_add_mod a d
  rw [Nat.mul_comm] at this
  omega
theorem d7 {c : Nat} (h : c < 56) : nI c / (7 : Int32) = nI (c / 7) := pk_div (a := c) (d := 7) (by omega) (by omega) (by omega)
theorem m7 {c : Nat} (h : c < 56) : nI c - nI c / (7 : Int32) * (7 : Int32) = nI (c % 7) := by rw [d7 h, li7, pk_mul, nz_rem]
theorem lt56 {c : Nat} (h : c < 56) : (nI c < (56 : Int32)) = True := eq_true ((nI_ltI (a := c) (b := 56) (by omega) (by omega)).mpr h)
section
variable {N : Nat} {w : Wd} {v : Vw}
theorem m_isOf {x k : Nat} (hx : x < 2 ^ 31) (hk : k < 32) : pX12_isOf N (nI x) (nI k) w = some (zB (x.testBit k), w) := by
  simp (disch := first | assumption | omega) only [pX12_isOf, nz_bit, nz_b1, nz_b2, nz_shl, nz_not, nz_and, nz_or, ldn, ldLn, ldRn, stn, stLn, cpn, nI_ltI, nI_leI, nI_eq, callW_eq, Option.bind_some, li0, li1, li2, li3, li4, li5, li6, li7, li8, li9, li10, li11, li12, li13, li14, li15, li16, li17, li18, li19, li20, li21, li22, li23, li24, li25, li26, li27, li28, li29, li30, li31, li32, li33, li34, li35, li36, li37, li38, li39, li40, li41, li42, li43, li44, li45, li47, li48, li50, li56, li57, li59, li60, li61, li62, li63, li64, li90, li96, li97, li99, li100, li122, li200, li255, li256, li900, li999, li1000, li9999, li65536, li99999, li1000000, li1048576, gg_I, gg_LI, gg_RI, gg_L, gg_IL, gg_RL, gg_R, gg_IR, gg_LR, gg_row, gg_Lrow, gg_Rrow, nI_add, pk_mul, Nat.reduceEqDiff, Nat.reduceAdd, Nat.reduceSub, Nat.reduceMul, Nat.reducePow, Nat.reduceLT, Nat.reduceLeDiff, ↓reduceIte, reduceCtorEq, and_true, true_and, and_false, false_and, and_self, not_true_eq_false, not_false_eq_true, if_true, if_false]
  cases x.testBit k <;> simp [zB]
theorem m_bestOn (T : TM w v) (hF : WF v) (hN : 100 ≤ N) {D : Nat → Nat} (hD : ∀ s, s < 56 → gI w 112 0 s = nI (D s) ∧ D s ≤ 99999) {s : Nat} (hs : s < 56) (hk : s / 7 < v 0 0) :
    pX12_bestOn N (nI s) w = some (nI (boF D (fun t => (v 3 (s / 7)).testBit (t / 7)) (fun t => if t % 7 = s % 7 then 0 else 100) (D s) 56), w) := by
  have h2 := WF_parts hF
  have hb8 := WF_beside8 hF (s / 7)
  have key : ∀ fuel c, c ≤ 56 → 56 - c < fuel → fX12_bestOn_7 N (nI s) fuel (nI (boF D (fun t => (v 3 (s / 7)).testBit (t / 7)) (fun t => if t % 7 = s % 7 then 0 else 100) (D s) c)) (nI c) w
      = some (nI (boF D (fun t => (v 3 (s / 7)).testBit (t / 7)) (fun t => if t % 7 = s % 7 then 0 else 100) (D s) 56), w) := by
    intro fuel
    induction fuel with
    | zero => intro c _ h; omega
    | succ f ih =>
      intro c hc hf
      have hle := (boF_le D (fun t => (v 3 (s / 7)).testBit (t / 7)) (fun t => if t % 7 = s % 7 then 0 else 100) (D s) c).1
      have hds := (hD s hs).2
      rcases Nat.lt_or_ge c 56 with h | h
      · obtain ⟨d1, d2⟩ := hD c h
        have e := ih (c + 1) (by omega) (by omega)
        rw [boF] at e
        have go := m_isOf (N := N) (w := w) (x := v 3 (s / 7)) (k := c / 7) (by omega) (by omega)
        have lt := lt56 h
        rw [← d7 h] at go
        have l1 : ldI w 77 0 (nI s / (7 : Int32)) 16 = some (nI (v 3 (s / 7))) := by rw [d7 hs, ldn (by omega) (by omega), TM_beside T _ hk]
        have l2 : ldI w 112 0 (nI c) 56 = some (nI (D c)) := by rw [ldn (by omega) (by omega), d1]
        by_cases q1 : c / 7 < v 0 0
        · have q1' : (nI c / (7 : Int32) < gI w 16 0 12) = True := eq_true (by rw [d7 h, TM_parts T]; exact (nI_ltI (by omega) (by omega)).mpr q1)
          cases q2 : (v 3 (s / 7)).testBit (c / 7) with
          | false =>
            rw [q2] at go
            have z0 : (zB false = 0) = True := eq_true (by decide)
            simp only [fX12_bestOn_7, lt, q1', ↓bnd l1, ↓cbnd go, z0, ↓reduceIte, callW_eq, li1, nI_add]
            rw [q2] at e
            simpa using e
          | true =>
            rw [q2] at go
            have z0 : (zB true = 0) = False := eq_false (by decide)
            simp only [fX12_bestOn_7, lt, q1', ↓bnd l1, ↓cbnd go, ↓bnd l2, z0, ↓reduceIte, callW_eq, m7 h, m7 hs, li0, li1, li100, nI_add, fX12_bestOn_44]
            rw [q2] at e
            simp (disch := first | assumption | omega) only [nI_eq, nI_ltI]
            by_cases q3 : c % 7 = s % 7
            · simp only [q3, if_true, true_and] at e ⊢
              by_cases q4 : D c + 1 + 0 < boF D (fun t => (v 3 (s / 7)).testBit (t / 7)) (fun t => if t % 7 = s % 7 then 0 else 100) (D s) c
              · rw [if_pos q4] at e ⊢; exact e
              · rw [if_neg q4] at e ⊢; exact e
            · simp only [q3, if_false, true_and] at e ⊢
              by_cases q4 : D c + 1 + 100 < boF D (fun t => (v 3 (s / 7)).testBit (t / 7)) (fun t => if t % 7 = s % 7 then 0 else 100) (D s) c
              · rw [if_pos q4] at e ⊢; exact e
              · rw [if_neg q4] at e ⊢; exact e
        · have q1' : (nI c / (7 : Int32) < gI w 16 0 12) = False := eq_false (by rw [d7 h, TM_parts T]; exact fun z => q1 ((nI_ltI (by omega) (by omega)).mp z))
          have q2 : (v 3 (s / 7)).testBit (c / 7) = false := by
            cases z : (v 3 (s / 7)).testBit (c / 7) with
            | false => rfl
            | true => exact absurd (adj_lt hF z).2 q1
          simp only [fX12_bestOn_7, lt, q1', ↓reduceIte, callW_eq, li1, nI_add]
          rw [q2] at e
          simpa using e
      · have : c = 56 := by omega
        subst this
        have lt : (nI 56 < (56 : Int32)) = False := eq_false (by decide)
        simp only [fX12_bestOn_7, lt, ↓reduceIte]
  unfold pX12_bestOn
  rw [ldn hs (by omega), Option.bind_some, callW_eq, (hD s hs).1, li0]
  exact key N 0 (by omega) (by omega)
/-- what the table keeps while it is laid -/
def PD (v : Vw) (kn : Nat → Nat) (to : Nat) (D : Nat → Nat) : Prop :=
  (∀ s, s < 56 → D s ≤ 99999 ∧ 1 ≤ D s) ∧ (∀ s, s < 56 → s / 7 = to → (kn (s % 7)).testBit (s / 7) = true → D s = 1) ∧
  (∀ s, s < 56 → D s < 99999 → (kn (s % 7)).testBit (s / 7) = true ∧ ((s / 7 = to ∧ D s = 1) ∨ ∃ t, t < 56 ∧ (v 3 (s / 7)).testBit (t / 7) = true ∧ D t + 1 + (if t % 7 = s % 7 then 0 else 100) ≤ D s))
def stJ (w0 : Wd) (v : Vw) (kn : Nat → Nat) (to : Nat) (D0 : Nat → Nat) (c m : Nat) (w : Wd) : Prop :=
  Fr [112] w0 w ∧ ∃ D : Nat → Nat, (∀ s, s < 56 → gI w 112 0 s = nI (D s)) ∧ PD v kn to D ∧ smF D 56 ≤ smF D0 56 ∧
    (m = 1 → smF D 56 < smF D0 56) ∧ (m = 0 → (∀ s, s < 56 → D s = D0 s) ∧ ∀ s t, s < c → t < 56 → (kn (s % 7)).testBit (s / 7) = true → (v 3 (s / 7)).testBit (t / 7) = true → D s ≤ D t + 1 + (if t % 7 = s % 7 then 0 else 100))
theorem m_still36 {w0 : Wd} (T0 : TM w0 v) (hF : WF v) (hN : 100 ≤ N) {kn : Nat → Nat} {to : Nat} {D0 : Nat → Nat} (hkn : ∀ g, g < 7 → gI w0 111 0 g = nI (kn g) ∧ kn g < 2 ^ 8) {Q : Wd → Prop} (k91 : Int32 → Wd → Option Wd)
    (hk : ∀ m w, m ≤ 1 → stJ w0 v kn to D0 56 m w → Ok (k91 (nI m) w) Q) :
    ∀ fuel c m w, c ≤ 56 → 56 - c < fuel → m ≤ 1 → stJ w0 v kn to D0 c m w → Ok (fX12_layStill_36 N fuel k91 (nI m) (nI c) w) Q := by
  have h2 := WF_parts hF
  intro fuel
  induction fuel with
  | zero => intro c _ _ _ h; omega
  | succ f ih =>
    intro c m w hc hf hm hI
    obtain ⟨i1, D, i2, i3, i4, i5, i6⟩ := hI
    have T := TM_fr i1 T0
    rcases Nat.lt_or_ge c 56 with h | h
    · have lt := lt56 h
      obtain ⟨k1, k2⟩ := hkn (c % 7) (by omega)
      have l1 : ldI w 111 0 (nI c - nI c / (7 : Int32) * (7 : Int32)) 7 = some (nI (kn (c % 7))) := by rw [m7 h, ldn (by omega) (by omega), (i1 111 0 _ rfl).1, k1]
      by_cases q1 : c / 7 < v 0 0
      · have q1' : (nI c / (7 : Int32) < gI w 16 0 12) = True := eq_true (by rw [d7 h, TM_parts T]; exact (nI_ltI (by omega) (by omega)).mpr q1)
        have go := m_isOf (N := N) (w := w) (x := kn (c % 7)) (k := c / 7) (by omega) (by omega)
        rw [← d7 h] at go
        cases q2 : (kn (c % 7)).testBit (c / 7) with
        | false =>
          rw [q2] at go
          have z0 : (zB false = 0) = True := eq_true (by decide)
          simp only [fX12_layStill_36, lt, q1', ↓bnd l1, ↓cbnd go, z0, ↓reduceIte, callW_eq, li1, nI_add]
          refine ih (c + 1) m w (by omega) (by omega) hm ⟨i1, D, i2, i3, i4, i5, fun z => ⟨(i6 z).1, fun s t hs ht ks e => ?_⟩⟩
          rcases Nat.lt_or_ge s c with y | y
          · exact (i6 z).2 s t y ht ks e
          · have : s = c := by omega
            subst this
            rw [q2] at ks; cases ks
        | true =>
          rw [q2] at go
          have z0 : (zB true = 0) = False := eq_false (by decide)
          have hf1 : 56 - (c + 1) < f := by omega
          have hc1 : c + 1 ≤ 56 := by omega
          have gb := m_bestOn (N := N) T hF hN (D := D) (fun s hs => ⟨i2 s hs, (i3.1 s hs).1⟩) h q1
          obtain ⟨b1, b2, b3⟩ := boF_le D (fun t => (v 3 (c / 7)).testBit (t / 7)) (fun t => if t % 7 = c % 7 then 0 else 100) (D c) 56
          generalize hB : boF D (fun t => (v 3 (c / 7)).testBit (t / 7)) (fun t => if t % 7 = c % 7 then 0 else 100) (D c) 56 = B at *
          have hdc := (i3.1 c h)
          have hB1 : 1 ≤ B := by
            rcases b3 with e | ⟨t, ht, _, e⟩
            · omega
            · omega
          have l4 : ldI w 112 0 (nI c) 56 = some (nI (D c)) := by rw [ldn h (by omega), i2 c h]
          have s4 : ∀ x, stI w 112 0 (nI c) 56 x = some (setI w 112 0 c x) := fun x => stn h (by omega)
          have cmp : (nI B < nI (D c)) ↔ B < D c := nI_ltI (by omega) (by omega)
          have newJ : ∀ m', m' ≤ 1 → (B < D c → m' = 1) → (¬ B < D c → m' = m) → stJ w0 v kn to D0 (c + 1) m' (setI w 112 0 c (nI (if B < D c then B else D c))) := by
            intro m' hm' hm1 hm0
            by_cases q3 : B < D c
            · simp only [if_pos q3]
              refine ⟨Fr_setI i1 rfl, fun s => if s = c then B else D s, ?_, ⟨?_, ?_, ?_⟩, ?_, ?_, ?_⟩
              · intro s hs
                rw [gg_I]
                by_cases y : s = c
                · simp only [y, if_true, and_self]
                · simp only [y, if_false, and_false]; exact i2 s hs
              · intro s hs
                by_cases y : s = c
                · simp only [y, if_true]; omega
                · simp only [y, if_false]; exact i3.1 s hs
              · intro s hs e ks
                by_cases y : s = c
                · subst y
                  have := i3.2.1 s hs e ks
                  omega
                · simp only [y, if_false]; exact i3.2.1 s hs e ks
              · intro s hs hlt
                by_cases y : s = c
                · subst y
                  simp only [if_true] at hlt ⊢
                  refine ⟨q2, Or.inr ?_⟩
                  rcases b3 with e | ⟨t, ht, hE, e⟩
                  · omega
                  · refine ⟨t, ht, hE, ?_⟩
                    by_cases y2 : t = s
                    · exfalso
                      subst y2
                      omega
                    · simp only [y2, if_false]; omega
                · simp only [y, if_false] at hlt ⊢
                  obtain ⟨p1, p2⟩ := i3.2.2 s hs hlt
                  refine ⟨p1, ?_⟩
                  rcases p2 with p2 | ⟨t, ht, hE, e⟩
                  · exact Or.inl p2
                  · refine Or.inr ⟨t, ht, hE, ?_⟩
                    by_cases y2 : t = c
                    · subst y2; simp only [if_true]; omega
                    · simp only [y2, if_false]; exact e
              · have := smF_up (D := D) (x := B) h
                omega
              · intro _
                have := smF_up (D := D) (x := B) h
                omega
              · intro z
                have := hm1 q3
                omega
            · have hm2 := hm0 q3
              subst hm2
              simp only [if_neg q3]
              refine ⟨Fr_setI i1 rfl, D, ?_, i3, i4, i5, fun z => ⟨(i6 z).1, fun s t hs ht ks e => ?_⟩⟩
              · intro s hs
                rw [gg_I]
                by_cases y : s = c
                · simp only [y, if_true, and_self]
                · simp only [y, if_false, and_false]; exact i2 s hs
              · rcases Nat.lt_or_ge s c with y | y
                · exact (i6 z).2 s t y ht ks e
                · have : s = c := by omega
                  subst this
                  have := b2 t ht e
                  omega
          have fin : ∀ m', m' ≤ 1 → (B < D c → m' = 1) → (¬ B < D c → m' = m) → Ok (fX12_layStill_72 N (fX12_layStill_36 N f k91) (nI c) (nI B) (nI m') w) Q := by
            intro m' hm' hm1 hm0
            have e := ih (c + 1) m' _ hc1 hf1 hm' (newJ m' hm' hm1 hm0)
            by_cases q3 : B < D c
            · have cT : (nI B < nI (D c)) = True := eq_true (cmp.mpr q3)
              simp only [fX12_layStill_72, ↓bnd l4, cT, ↓reduceIte, ↓bnd (s4 _), li1, nI_add]
              simpa only [if_pos q3] using e
            · have cT : (nI B < nI (D c)) = False := eq_false (fun z => q3 (cmp.mp z))
              simp only [fX12_layStill_72, ↓bnd l4, cT, ↓reduceIte, ↓bnd (s4 _), li1, nI_add]
              simpa only [if_neg q3] using e
          rcases (show m = 0 ∨ m = 1 by omega) with hm0 | hm1
          · subst hm0
            have y0 : (nI 0 = (0 : Int32)) = True := eq_true rfl
            by_cases q3 : B < D c
            · have cT : (nI B < nI (D c)) = True := eq_true (cmp.mpr q3)
              simp only [fX12_layStill_36, fX12_layStill_69, lt, q1', ↓bnd l1, ↓cbnd go, ↓cbnd gb, ↓bnd l4, cT, z0, y0, ↓reduceIte, callW_eq, li1]
              exact fin 1 (by omega) (fun _ => rfl) (fun z => absurd q3 z)
            · have cT : (nI B < nI (D c)) = False := eq_false (fun z => q3 (cmp.mp z))
              simp only [fX12_layStill_36, fX12_layStill_69, lt, q1', ↓bnd l1, ↓cbnd go, ↓cbnd gb, ↓bnd l4, cT, z0, y0, ↓reduceIte, callW_eq, li0]
              exact fin 0 (by omega) (fun z => absurd z q3) (fun _ => rfl)
          · subst hm1
            have y0 : (nI 1 = (0 : Int32)) = False := eq_false (by decide)
            simp only [fX12_layStill_36, fX12_layStill_69, lt, q1', ↓bnd l1, ↓cbnd go, ↓cbnd gb, z0, y0, ↓reduceIte, callW_eq, li1]
            exact fin 1 (by omega) (fun _ => rfl) (fun _ => rfl)
      · have q1' : (nI c / (7 : Int32) < gI w 16 0 12) = False := eq_false (by rw [d7 h, TM_parts T]; exact fun z => q1 ((nI_ltI (by omega) (by omega)).mp z))
        simp only [fX12_layStill_36, lt, q1', ↓reduceIte, callW_eq, li1, nI_add]
        refine ih (c + 1) m w (by omega) (by omega) hm ⟨i1, D, i2, i3, i4, i5, fun z => ⟨(i6 z).1, fun s t hs ht ks e => ?_⟩⟩
        rcases Nat.lt_or_ge s c with y | y
        · exact (i6 z).2 s t y ht ks e
        · have : s = c := by omega
          subst this
          exact absurd (adj_lt hF e).1 q1
    · have : c = 56 := by omega
      subst this
      have lt : (nI 56 < (56 : Int32)) = False := eq_false (by decide)
      simp only [fX12_layStill_36, lt, ↓reduceIte]
      exact hk m w hm ⟨i1, D, i2, i3, i4, i5, i6⟩
theorem m_still30 {w0 : Wd} (T0 : TM w0 v) (hF : WF v) (hN : 2 ^ 23 ≤ N) {kn : Nat → Nat} {to : Nat} (hkn : ∀ g, g < 7 → gI w0 111 0 g = nI (kn g) ∧ kn g < 2 ^ 8) :
    ∀ fuel w, (∃ D : Nat → Nat, smF D 56 + 1 < fuel ∧ Fr [112] w0 w ∧ (∀ s, s < 56 → gI w 112 0 s = nI (D s)) ∧ PD v kn to D) →
    Ok (fX12_layStill_30 N fuel (nI 1) w) (fun w' => Fr [112] w0 w' ∧ ∃ D : Nat → Nat, (∀ s, s < 56 → gI w' 112 0 s = nI (D s)) ∧ FD v kn to D) := by
  intro fuel
  induction fuel with
  | zero => rintro w ⟨D, h, _⟩; omega
  | succ f ih =>
    rintro w ⟨D, hf, i1, i2, i3⟩
    have y0 : (nI 1 = (0 : Int32)) = False := eq_false (by decide)
    simp only [fX12_layStill_30, y0, ↓reduceIte, callW_eq]
    refine m_still36 (w0 := w) (D0 := D) (TM_fr i1 T0) hF (by omega) (fun g hg => ⟨((i1 111 0 g rfl).1).trans (hkn g hg).1, (hkn g hg).2⟩) _ ?_ N 0 0 w (by omega) (by omega) (by omega) ⟨Fr_refl _ _, D, i2, i3, Nat.le_refl _, fun z => by omega, fun _ => ⟨fun _ _ => rfl, fun s t hs => by omega⟩⟩
    rintro m w' hm ⟨j1, D', j2, j3, j4, j5, j6⟩
    simp only [fX12_layStill_91]
    rcases (show m = 0 ∨ m = 1 by omega) with hm0 | hm1
    · subst hm0
      obtain ⟨p1, p2⟩ := j6 rfl
      cases f with
      | zero => omega
      | succ f =>
        have y1 : (nI 0 = (0 : Int32)) = True := eq_true rfl
        simp only [fX12_layStill_30, y1, ↓reduceIte]
        refine ok_some ⟨Fr_trans i1 j1, D', j2, j3.1, j3.2.1, fun s t hs ht ks e => p2 s t hs ht ks e, fun s hs hlt => ?_⟩
        obtain ⟨q1, q2⟩ := j3.2.2 s hs hlt
        refine ⟨q1, ?_⟩
        rcases q2 with q2 | ⟨t, ht, hE, e⟩
        · exact Or.inl q2
        · refine Or.inr ⟨t, ht, hE, ?_⟩
          have := p2 s t hs ht q1 hE
          omega
    · subst hm1
      have := j5 rfl
      exact ih w' ⟨D', by omega, Fr_trans i1 j1, j2, j3⟩
theorem m_layStill {w0 : Wd} (T0 : TM w0 v) (hF : WF v) (hN : 2 ^ 23 ≤ N) {kn : Nat → Nat} {to : Nat} (hto : to < 8) (hkn : ∀ g, g < 7 → gI w0 111 0 g = nI (kn g) ∧ kn g < 2 ^ 8) :
    Ok (pX12_layStill N (nI to) w0) (fun w' => Fr [112] w0 w' ∧ ∃ D : Nat → Nat, (∀ s, s < 56 → gI w' 112 0 s = nI (D s)) ∧ FD v kn to D) := by
  have key : ∀ fuel c w, c ≤ 56 → 56 - c < fuel → (Fr [112] w0 w ∧ ∀ s, s < c → gI w 112 0 s = nI (if s / 7 = to ∧ (kn (s % 7)).testBit to = true then 1 else 99999)) →
      Ok (fX12_layStill_2 N (nI to) fuel (fX12_layStill_28 N) (nI c) w) (fun w' => Fr [112] w0 w' ∧ ∃ D : Nat → Nat, (∀ s, s < 56 → gI w' 112 0 s = nI (D s)) ∧ FD v kn to D) := by
    intro fuel
    induction fuel with
    | zero => intro c _ _ h; omega
    | succ f ih =>
      intro c w hc hf hI
      obtain ⟨i1, i2⟩ := hI
      rcases Nat.lt_or_ge c 56 with h | h
      · have lt := lt56 h
        obtain ⟨k1, k2⟩ := hkn (c % 7) (by omega)
        have l1 : ldI w 111 0 (nI c - nI c / (7 : Int32) * (7 : Int32)) 7 = some (nI (kn (c % 7))) := by rw [m7 h, ldn (by omega) (by omega), (i1 111 0 _ rfl).1, k1]
        have go := m_isOf (N := N) (w := w) (x := kn (c % 7)) (k := to) (by omega) (by omega)
        have s4 : ∀ x, stI w 112 0 (nI c) 56 x = some (setI w 112 0 c x) := fun x => stn h (by omega)
        have e := ih (c + 1) (setI w 112 0 c (nI (if c / 7 = to ∧ (kn (c % 7)).testBit to = true then 1 else 99999))) (by omega) (by omega) ⟨Fr_setI i1 rfl, fun s hs => by
          rw [gg_I]
          by_cases y : s = c
          · subst y; rw [if_pos ⟨rfl, rfl, rfl⟩]
          · rw [if_neg (fun z => y z.2.2)]; exact i2 s (by omega)⟩
        by_cases q1 : c / 7 = to
        · have q1' : (nI c / (7 : Int32) = nI to) = True := eq_true (by rw [d7 h, q1])
          cases q2 : (kn (c % 7)).testBit to with
          | false =>
            rw [q2] at go
            have z0 : (zB false = 0) = True := eq_true (by decide)
            simp only [fX12_layStill_2, lt, q1', ↓bnd l1, ↓cbnd go, ↓bnd (s4 _), z0, ↓reduceIte, callW_eq, li1, nI_add, li99999]
            simpa [q1, q2] using e
          | true =>
            rw [q2] at go
            have z0 : (zB true = 0) = False := eq_false (by decide)
            simp only [fX12_layStill_2, lt, q1', ↓bnd l1, ↓cbnd go, ↓bnd (s4 _), z0, ↓reduceIte, callW_eq, li1, nI_add]
            simpa [q1, q2] using e
        · have q1' : (nI c / (7 : Int32) = nI to) = False := eq_false (by rw [d7 h]; exact fun z => q1 ((nI_eq (by omega) (by omega)).mp z))
          simp only [fX12_layStill_2, lt, q1', ↓bnd (s4 _), ↓reduceIte, callW_eq, li1, nI_add, li99999]
          simpa [q1] using e
      · have : c = 56 := by omega
        subst this
        have lt : (nI 56 < (56 : Int32)) = False := eq_false (by decide)
        simp only [fX12_layStill_2, fX12_layStill_28, lt, ↓reduceIte, callW_eq, li1]
        have hb := smF_le (D := fun s => if s / 7 = to ∧ (kn (s % 7)).testBit to = true then 1 else 99999) (n := 56) (b := 99999) (fun s _ => by split <;> omega)
        refine m_still30 T0 hF hN hkn N w ⟨fun s => if s / 7 = to ∧ (kn (s % 7)).testBit to = true then 1 else 99999, by omega, i1, i2, ?_, ?_, ?_⟩
        · intro s hs
          dsimp only
          split <;> omega
        · intro s hs e ks
          rw [e] at ks
          exact if_pos ⟨e, ks⟩
        · intro s hs hlt
          by_cases y : s / 7 = to ∧ (kn (s % 7)).testBit to = true
          · simp only [if_pos y]
            exact ⟨by rw [y.1]; exact y.2, Or.inl ⟨y.1, trivial⟩⟩
          · simp only [if_neg y] at hlt; omega
  unfold pX12_layStill
  rw [callW_eq, li0]
  exact key N 0 w0 (by omega) (by omega) ⟨Fr_refl _ _, fun s h => by omega⟩
end

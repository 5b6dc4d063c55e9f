/-! ===== guides shared out: the reference ===== -/
theorem mx_tail {f : Nat → Bool} {y : Nat → Nat} {b m : Nat} : ∀ d, (∀ g, m ≤ g → g < m + d → f g = false) → mx f y b (m + d) = mx f y b m := by
  intro d
  induction d with
  | zero => intro _; rfl
  | succ d ih =>
    intro h
    rw [← Nat.add_assoc, mx, h (m + d) (by omega) (by omega), if_neg (by simp)]
    exact ih (fun g h1 h2 => h g h1 (by omega))
theorem fnd_none {P : Nat → Bool} {n s : Nat} (h : ∀ k, s ≤ k → k < s + n → P k = false) (hs : s + n ≤ 99) : fnd P n s = 99 := by
  rcases fnd_spec P n s with q | q
  · exact q.1
  · have := h (fnd P n s) q.1 q.2.1
    rw [q.2.2.1] at this
    cases this
theorem fnd_at {P : Nat → Bool} {n s k : Nat} (h : ∀ j, s ≤ j → j < k → P j = false) (h1 : s ≤ k) (h2 : k < s + n) (hk : P k = true) (hs : s + n ≤ 99) : fnd P n s = k := by
  rcases fnd_spec P n s with q | q
  · rw [q.2 k h1 h2] at hk; cases hk
  · rcases Nat.lt_or_ge (fnd P n s) k with y | y
    · have := h _ q.1 y
      rw [q.2.2.1] at this; cases this
    · rcases Nat.lt_or_ge k (fnd P n s) with z | z
      · rw [q.2.2.2 k h1 z] at hk; cases hk
      · omega
section
variable {N : Nat} {w : Wd} {v : Vw} {n : Nat}
/-- the reference's table from a party on -/
def msT (w : Wd) (v : Vw) (n c : Nat) : Prop := ∀ q fr, c ≤ q → q ≤ v 0 2 → fr < 64 → gI w 118 0 (64 * q + fr) = nI (moT v n 99 (v 0 2 - q) fr)
theorem lead_bit (hF : WF v) (q g : Nat) : (lead v n 99 q).testBit g = (decide (g < v 0 1) && (v 11 q == n && gL8 v (sBits v g n) q)) := by
  have h1 := WF_people hF
  rw [lead, mkB_bit]
  by_cases h : g < v 0 1
  · have : (g != 99) = true := by simp; omega
    rw [this, Bool.true_and]
  · simp [h]
theorem m_leadsB (T : TM w v) (hF : WF v) (hN : 100 ≤ N) (hkn : ∀ g, g < 7 → gI w 111 0 g = nI (knF v n 0 g)) {p q : Nat} (hp : p < v 0 1) (hq : q < v 0 2) : pX12_leads N (nI p) (nI q) w = some (zB (gL8 v (sBits v p n) q), w) := by
  have h1 := WF_people hF
  have e : knF v n 0 p = sBits v p n := if_pos hp
  have := hkn p (by omega)
  rw [e] at this
  exact m_leads T hF hN (by omega) this (sBits_lt hF p n) hq
theorem m_ls47 (T : TM w v) (hF : WF v) (hN : 100 ≤ N) (hn : n < 2 ^ 30) (hkn : ∀ g, g < 7 → gI w 111 0 g = nI (knF v n 0 g)) {q fr : Nat} (hq : q < v 0 2) (hfr : fr < 64) (hM : msT w v n (q + 1)) {Q : Wd → Prop} (k98 : Int32 → Int32 → Int32 → Wd → Option Wd)
    (hk : Ok (k98 (nI q) (nI fr) (nI (moT v n 99 (v 0 2 - q) fr)) w) Q) :
    ∀ fuel c, c ≤ v 0 1 → v 0 1 - c < fuel → Ok (fX12_layShares_47 N (nI n) fuel k98 (nI q) (nI fr) (nI (mx (fun g => (lead v n 99 q &&& fr).testBit g) (fun g => v 12 q + moT v n 99 (v 0 2 - (q + 1)) (rmv fr g)) (moT v n 99 (v 0 2 - (q + 1)) fr) c)) (nI c) w) Q := by
  have h1 := WF_people hF
  have h3 := WF_parties hF
  have hpr := WF_price hF q
  have hpn := WF_pnight hF q
  have er : v 0 2 - q = (v 0 2 - (q + 1)) + 1 := by omega
  have eq' : v 0 2 - ((v 0 2 - (q + 1)) + 1) = q := by omega
  have emo : moT v n 99 (v 0 2 - q) fr = mx (fun g => (lead v n 99 q &&& fr).testBit g) (fun g => v 12 q + moT v n 99 (v 0 2 - (q + 1)) (rmv fr g)) (moT v n 99 (v 0 2 - (q + 1)) fr) 6 := by
    unfold moT
    rw [er, mo, eq']
  have hb : ∀ fr, moT v n 99 (v 0 2 - (q + 1)) fr ≤ 800 := fun fr => moT_le hF (by omega) fr
  have hmx : ∀ c, mx (fun g => (lead v n 99 q &&& fr).testBit g) (fun g => v 12 q + moT v n 99 (v 0 2 - (q + 1)) (rmv fr g)) (moT v n 99 (v 0 2 - (q + 1)) fr) c ≤ 1000 := fun c => mx_le (by have := hb fr; omega) (fun g => by have := hb (rmv fr g); omega) c
  have hbit : ∀ g, (lead v n 99 q &&& fr).testBit g = ((decide (g < v 0 1) && (v 11 q == n && gL8 v (sBits v g n) q)) && fr.testBit g) := fun g => by rw [Nat.testBit_and, lead_bit hF]
  have l1 : ldI w 86 0 (nI q) 16 = some (nI (v 11 q)) := by rw [ldn (by omega) (by omega), TM_pnight T q hq]
  intro fuel
  induction fuel with
  | zero => intro c _ h; omega
  | succ f ih =>
    intro c hc hf
    rcases Nat.lt_or_ge c (v 0 1) with h | h
    · have lt : (nI c < gI w 16 0 13) = True := eq_true (by rw [TM_people T]; exact (nI_ltI (by omega) (by omega)).mpr h)
      by_cases q1 : v 11 q = n
      · have q1' : (nI (v 11 q) = nI n) = True := eq_true (by rw [q1])
        have e := ih (c + 1) (by omega) (by omega)
        rw [mx] at e
        have g1 := m_isOf (N := N) (w := w) (x := fr) (k := c) (by omega) (by omega)
        have hc1 := hbit c
        have hn1 : (v 11 q == n) = true := by simp [q1]
        have hd1 : decide (c < v 0 1) = true := by simp [h]
        rw [hn1, hd1, Bool.true_and, Bool.true_and] at hc1
        cases z : fr.testBit c with
        | false =>
          rw [z] at g1 hc1
          have z0 : (zB false = 0) = True := eq_true rfl
          simp only [fX12_layShares_47, ↓lt, ↓bnd l1, ↓q1', ↓cbnd g1, ↓z0, ↓reduceIte, callW_eq, li1, nI_add]
          rw [hc1, if_neg (by simp)] at e
          exact e
        | true =>
          rw [z] at g1 hc1
          have z0 : (zB true = 0) = False := eq_false (by decide)
          have g2 := m_leadsB (N := N) T hF hN hkn h hq
          cases y : gL8 v (sBits v c n) q with
          | false =>
            rw [y] at g2 hc1
            have y0 : (zB false = 0) = True := eq_true rfl
            simp only [fX12_layShares_47, ↓lt, ↓bnd l1, ↓q1', ↓cbnd g1, ↓z0, ↓cbnd g2, ↓y0, ↓reduceIte, callW_eq, li1, nI_add]
            rw [hc1, if_neg (by simp)] at e
            exact e
          | true =>
            rw [y] at g2 hc1
            have hr64 : rmv fr c < 64 := rmv_lt (n := 6) hfr
            have l4 : ldI w 87 0 (nI q) 16 = some (nI (v 12 q)) := by rw [ldn (by omega) (by omega), TM_price T q hq]
            have l5 : ldI w 118 0 ((64 : Int32) * nI q + (64 : Int32) + (nI fr &&& (((1 : Int32) <<< (nI c &&& (31 : Int32))) ^^^ (-1 : Int32)))) 576 = some (nI (moT v n 99 (v 0 2 - (q + 1)) (rmv fr c))) := by
              rw [e_not hfr (by omega), li64, pk_mul, nI_add, nI_add, show 64 * q + 64 + rmv fr c = 64 * (q + 1) + rmv fr c by omega, ldn (by omega) (by omega), hM (q + 1) _ (by omega) (by omega) hr64]
            have hm1 := hmx c
            have hm2 := hb (rmv fr c)
            rw [hc1] at e
            simp only [Bool.and_self, true_and] at e
            by_cases q4 : mx (fun g => (lead v n 99 q &&& fr).testBit g) (fun g => v 12 q + moT v n 99 (v 0 2 - (q + 1)) (rmv fr g)) (moT v n 99 (v 0 2 - (q + 1)) fr) c < v 12 q + moT v n 99 (v 0 2 - (q + 1)) (rmv fr c)
            · rw [if_pos q4] at e
              have q4' : (nI (mx (fun g => (lead v n 99 q &&& fr).testBit g) (fun g => v 12 q + moT v n 99 (v 0 2 - (q + 1)) (rmv fr g)) (moT v n 99 (v 0 2 - (q + 1)) fr) c) < nI (v 12 q) + nI (moT v n 99 (v 0 2 - (q + 1)) (rmv fr c))) = True := eq_true (by rw [nI_add]; exact (nI_ltI (by omega) (by omega)).mpr q4)
              simp only [fX12_layShares_47, ↓lt, ↓bnd l1, ↓q1', ↓cbnd g1, ↓z0, ↓cbnd g2, ↓bnd l4, ↓bnd l5, ↓q4', ↓reduceIte, callW_eq, li1, nI_add]
              exact e
            · rw [if_neg q4] at e
              have q4' : (nI (mx (fun g => (lead v n 99 q &&& fr).testBit g) (fun g => v 12 q + moT v n 99 (v 0 2 - (q + 1)) (rmv fr g)) (moT v n 99 (v 0 2 - (q + 1)) fr) c) < nI (v 12 q) + nI (moT v n 99 (v 0 2 - (q + 1)) (rmv fr c))) = False := eq_false (by rw [nI_add]; exact fun z => q4 ((nI_ltI (by omega) (by omega)).mp z))
              simp only [fX12_layShares_47, ↓lt, ↓bnd l1, ↓q1', ↓cbnd g1, ↓z0, ↓cbnd g2, ↓bnd l4, ↓bnd l5, ↓q4', ↓reduceIte, callW_eq, li1, nI_add]
              exact e
      · have q1' : (nI (v 11 q) = nI n) = False := eq_false (fun z => q1 ((nI_eq (by omega) (by omega)).mp z))
        have hn1 : (v 11 q == n) = false := by simp [q1]
        have hno : ∀ g, (lead v n 99 q &&& fr).testBit g = false := fun g => by rw [hbit, hn1]; simp
        simp only [fX12_layShares_47, ↓lt, ↓bnd l1, ↓q1', ↓reduceIte]
        rw [emo, mx_no hno] at hk
        rw [mx_no hno]
        exact hk
    · have : c = v 0 1 := by omega
      subst this
      have lt : (nI (v 0 1) < gI w 16 0 13) = False := eq_false (by rw [TM_people T]; exact fun z => by have := (nI_ltI (by omega) (by omega)).mp z; omega)
      simp only [fX12_layShares_47, ↓lt, ↓reduceIte]
      rw [emo] at hk
      have := mx_tail (f := fun g => (lead v n 99 q &&& fr).testBit g) (y := fun g => v 12 q + moT v n 99 (v 0 2 - (q + 1)) (rmv fr g)) (b := moT v n 99 (v 0 2 - (q + 1)) fr) (m := v 0 1) (6 - v 0 1) (fun g h1 h2 => by rw [hbit]; simp; omega)
      rw [show v 0 1 + (6 - v 0 1) = 6 by omega] at this
      rw [← this]
      exact hk
theorem m_layShares {b : Nat} (hb : b = 0) (T : TM w v) (S : SM w b v) (hF : WF v) (hN : 100 ≤ N) (hn : n < 2 ^ 30) :
    Ok (pX12_layShares N (nI n) w) (fun w' => Fr [111, 118] w w' ∧ (∀ g, g < 7 → gI w' 111 0 g = nI (knF v n 0 g)) ∧ msT w' v n 0) := by
  have h1 := WF_people hF
  have h3 := WF_parties hF
  subst hb
  unfold pX12_layShares
  rw [callW_eq, li0]
  refine ok_bind (m_layKnown T S hF (by omega) hN hn) ?_
  rintro w1 ⟨f1, k1⟩
  have T1 := TM_fr f1 T
  have inner : ∀ (q : Nat), q < v 0 2 → ∀ (w2 : Wd), Fr [118] w1 w2 → msT w2 v n (q + 1) → ∀ {Q : Wd → Prop} (k109 : Int32 → Wd → Option Wd), (∀ w3, Fr [118] w1 w3 → msT w3 v n q → Ok (k109 (nI q) w3) Q) →
      ∀ fuel d w3, d ≤ 64 → 64 - d < fuel → (Fr [118] w1 w3 ∧ msT w3 v n (q + 1) ∧ ∀ fr, fr < d → gI w3 118 0 (64 * q + fr) = nI (moT v n 99 (v 0 2 - q) fr)) → Ok (fX12_layShares_31 N (nI n) fuel k109 (nI q) (nI d) w3) Q := by
    intro q hq w2 _ _ Q k109 hk fuel
    induction fuel with
    | zero => intro d _ _ h; omega
    | succ f ih =>
      intro d w3 hd hf hI
      obtain ⟨i1, i2, i3⟩ := hI
      rcases Nat.lt_or_ge d 64 with h | h
      · have lt : (nI d < (64 : Int32)) = True := eq_true ((nI_ltI (a := d) (b := 64) (by omega) (by omega)).mpr h)
        have l1 : ldI w3 118 0 ((64 : Int32) * nI q + (64 : Int32) + nI d) 576 = some (nI (moT v n 99 (v 0 2 - (q + 1)) d)) := by
          rw [li64, pk_mul, nI_add, nI_add, show 64 * q + 64 + d = 64 * (q + 1) + d by omega, ldn (by omega) (by omega), i2 (q + 1) d (by omega) (by omega) h]
        have s4 : ∀ x, stI w3 118 0 ((64 : Int32) * nI q + nI d) 576 x = some (setI w3 118 0 (64 * q + d) x) := fun x => by rw [li64, pk_mul, nI_add]; exact stn (by omega) (by omega)
        simp only [fX12_layShares_31, ↓lt, ↓bnd l1, ↓reduceIte, callW_eq, li0]
        refine m_ls47 (TM_fr i1 T1) hF hN hn (fun g hg => ((i1 111 0 g rfl).1).trans (k1 g hg)) hq h i2 _ ?_ N 0 (by omega) (by omega)
        simp only [fX12_layShares_98, ↓bnd (s4 _), li1, nI_add]
        refine ih (d + 1) _ (by omega) (by omega) ⟨Fr_setI i1 rfl, fun q' fr a1 a2 a3 => ?_, fun fr hfr => ?_⟩
        · rw [gg_I, if_neg (fun z => by have := z.2.2; omega)]; exact i2 q' fr a1 a2 a3
        · rw [gg_I]
          by_cases y : fr = d
          · subst y; rw [if_pos ⟨rfl, rfl, rfl⟩]
          · rw [if_neg (fun z => y (by have := z.2.2; omega))]; exact i3 fr (by omega)
      · have : d = 64 := by omega
        subst this
        have lt : (nI 64 < (64 : Int32)) = False := eq_false (by decide)
        simp only [fX12_layShares_31, ↓lt, ↓reduceIte]
        refine hk w3 i1 (fun q' fr a1 a2 a3 => ?_)
        by_cases y : q' = q
        · subst y; exact i3 fr a3
        · exact i2 q' fr (by omega) a2 a3
  have down : ∀ fuel c w2, c ≤ v 0 2 → c < fuel → (Fr [118] w1 w2 ∧ msT w2 v n c) → Ok (fX12_layShares_27 N (nI n) fuel (dn c) w2) (fun w' => Fr [111, 118] w w' ∧ (∀ g, g < 7 → gI w' 111 0 g = nI (knF v n 0 g)) ∧ msT w' v n 0) := by
    intro fuel
    induction fuel with
    | zero => intro c _ _ h; omega
    | succ f ih =>
      intro c w2 hc hf hI
      obtain ⟨i1, i2⟩ := hI
      cases c with
      | zero =>
        have lt : (dn 0 < 0) = True := eq_true nz_neg1
        simp only [fX12_layShares_27, ↓lt, ↓reduceIte]
        exact ok_some ⟨Fr_trans (Fr_mono f1 rfl) (Fr_mono i1 rfl), fun g hg => ((i1 111 0 g rfl).1).trans (k1 g hg), i2⟩
      | succ c =>
        have ed : dn (c + 1) = nI c := if_neg (by omega)
        have lt : (nI c < 0) = False := eq_false (nI_pos (by omega))
        rw [ed]
        simp only [fX12_layShares_27, ↓lt, ↓reduceIte, callW_eq, li0]
        refine inner c (by omega) w2 i1 i2 _ ?_ N 0 w2 (by omega) (by omega) ⟨i1, i2, fun fr h => by omega⟩
        intro w3 j1 j2
        have e1 : nI c + (-1 : Int32) = dn c := dn_add c
        simp only [fX12_layShares_109, ↓e1]
        exact ih c w3 (by omega) (by omega) ⟨j1, j2⟩
  have zero : ∀ fuel d w2, d ≤ 64 → 64 - d < fuel → (Fr [118] w1 w2 ∧ ∀ fr, fr < d → gI w2 118 0 (64 * v 0 2 + fr) = nI 0) → Ok (fX12_layShares_7 N (nI n) fuel (fX12_layShares_22 N (nI n)) (nI d) w2) (fun w' => Fr [111, 118] w w' ∧ (∀ g, g < 7 → gI w' 111 0 g = nI (knF v n 0 g)) ∧ msT w' v n 0) := by
    intro fuel
    induction fuel with
    | zero => intro c _ _ h; omega
    | succ f ih =>
      intro d w2 hd hf hI
      obtain ⟨i1, i2⟩ := hI
      have T2 := TM_fr i1 T1
      rcases Nat.lt_or_ge d 64 with h | h
      · have lt : (nI d < (64 : Int32)) = True := eq_true ((nI_ltI (a := d) (b := 64) (by omega) (by omega)).mpr h)
        have s4 : stI w2 118 0 ((64 : Int32) * gI w2 16 0 14 + nI d) 576 (0 : Int32) = some (setI w2 118 0 (64 * v 0 2 + d) (nI 0)) := by rw [TM_parties T2, li64, pk_mul, nI_add]; exact stn (by omega) (by omega)
        simp only [fX12_layShares_7, ↓lt, ↓bnd s4, ↓reduceIte, callW_eq, li1, nI_add]
        refine ih (d + 1) _ (by omega) (by omega) ⟨Fr_setI i1 rfl, fun fr hfr => ?_⟩
        rw [gg_I]
        by_cases y : fr = d
        · rw [if_pos ⟨rfl, rfl, by omega⟩]
        · rw [if_neg (fun z => y (by have := z.2.2; omega))]; exact i2 fr (by omega)
      · have : d = 64 := by omega
        subst this
        have lt : (nI 64 < (64 : Int32)) = False := eq_false (by decide)
        have e1 : gI w2 16 0 14 - (1 : Int32) = dn (v 0 2) := by rw [TM_parties T2]; exact dn_sub _
        simp only [fX12_layShares_7, fX12_layShares_22, ↓lt, ↓e1, ↓reduceIte, callW_eq]
        refine down N (v 0 2) w2 (by omega) (by omega) ⟨i1, fun q fr a1 a2 a3 => ?_⟩
        have : q = v 0 2 := by omega
        subst this
        rw [Nat.sub_self]
        exact i2 fr a3
  rw [callW_eq]
  exact zero N 0 w1 (by omega) (by omega) ⟨Fr_refl _ _, fun fr h => by omega⟩
theorem m_sharedBy (T : TM w v) (hF : WF v) (hN : 100 ≤ N) (hn : n < 2 ^ 30) (hkn : ∀ g, g < 7 → gI w 111 0 g = nI (knF v n 0 g)) (hM : msT w v n 0) {wh : Nat} (hwh : wh < v 0 2) :
    pX12_sharedBy N (nI wh) (nI n) w = some (dI (shP v n 99 wh (shF v n 99 wh)), w) := by
  have h1 := WF_people hF
  have h3 := WF_parties hF
  have inner : ∀ (q fr : Nat), q < v 0 2 → fr < 64 → ∀ {R : Option (Int32 × Wd)} (k76 : Int32 → Int32 → Int32 → Wd → Option (Int32 × Wd)), k76 (nI fr) (dI (shP v n 99 q fr)) (nI q) w = R →
      ∀ fuel c, c ≤ v 0 1 → v 0 1 - c + 1 < fuel → (∀ k, k < c → shC v n 99 q fr k = false) → fX12_sharedBy_13 N (nI wh) (nI n) fuel k76 (nI fr) (-nI 2) (nI q) (nI c) w = R := by
    intro q fr hq hfr R k76 hk fuel
    have hpr := WF_price hF q
    have hpn := WF_pnight hF q
    have hbit : ∀ g, (lead v n 99 q &&& fr).testBit g = ((decide (g < v 0 1) && (v 11 q == n && gL8 v (sBits v g n) q)) && fr.testBit g) := fun g => by rw [Nat.testBit_and, lead_bit hF]
    have l1 : ldI w 86 0 (nI q) 16 = some (nI (v 11 q)) := by rw [ldn (by omega) (by omega), TM_pnight T q hq]
    induction fuel with
    | zero => intro c _ h; omega
    | succ f ih =>
      intro c hc hf hno
      have neg : (-nI 2 < 0) = True := eq_true nz_neg2
      rcases Nat.lt_or_ge c (v 0 1) with h | h
      · have lt : (nI c < gI w 16 0 13) = True := eq_true (by rw [TM_people T]; exact (nI_ltI (by omega) (by omega)).mpr h)
        by_cases q1 : v 11 q = n
        · have q1' : (nI (v 11 q) = nI n) = True := eq_true (by rw [q1])
          have g1 := m_isOf (N := N) (w := w) (x := fr) (k := c) (by omega) (by omega)
          have hc1 := hbit c
          have hn1 : (v 11 q == n) = true := by simp [q1]
          have hd1 : decide (c < v 0 1) = true := by simp [h]
          rw [hn1, hd1, Bool.true_and, Bool.true_and] at hc1
          have miss : shC v n 99 q fr c = false → fX12_sharedBy_67 N (nI wh) (nI n) (fX12_sharedBy_13 N (nI wh) (nI n) f k76) (nI fr) (-nI 2) (nI q) (nI c) (0 : Int32) w = R := by
            intro hz
            have z0 : ((0 : Int32) = 0) = True := eq_true rfl
            simp only [fX12_sharedBy_67, ↓z0, ↓reduceIte, li1, nI_add]
            refine ih (c + 1) (by omega) (by omega) (fun k hk => ?_)
            rcases Nat.lt_or_ge k c with y | y
            · exact hno k y
            · have : k = c := by omega
              subst this; exact hz
          cases z : fr.testBit c with
          | false =>
            rw [z] at g1 hc1
            have z0 : (zB false = 0) = True := eq_true rfl
            simp only [fX12_sharedBy_13, fX12_sharedBy_66, ↓lt, ↓neg, ↓bnd l1, ↓q1', ↓cbnd g1, ↓z0, ↓reduceIte, callW_eq]
            exact miss (by rw [shC, hc1]; simp)
          | true =>
            rw [z] at g1 hc1
            have z0 : (zB true = 0) = False := eq_false (by decide)
            have g2 := m_leadsB (N := N) T hF hN hkn h hq
            cases y : gL8 v (sBits v c n) q with
            | false =>
              rw [y] at g2 hc1
              have y0 : (zB false = 0) = True := eq_true rfl
              simp only [fX12_sharedBy_13, fX12_sharedBy_66, ↓lt, ↓neg, ↓bnd l1, ↓q1', ↓cbnd g1, ↓z0, ↓cbnd g2, ↓y0, ↓reduceIte, callW_eq]
              exact miss (by rw [shC, hc1]; simp)
            | true =>
              rw [y] at g2 hc1
              have hr64 : rmv fr c < 64 := rmv_lt (n := 6) hfr
              have l4 : ldI w 87 0 (nI q) 16 = some (nI (v 12 q)) := by rw [ldn (by omega) (by omega), TM_price T q hq]
              have l5 : ldI w 118 0 ((64 : Int32) * nI q + (64 : Int32) + (nI fr &&& (((1 : Int32) <<< (nI c &&& (31 : Int32))) ^^^ (-1 : Int32)))) 576 = some (nI (moT v n 99 (v 0 2 - (q + 1)) (rmv fr c))) := by
                rw [e_not hfr (by omega), li64, pk_mul, nI_add, nI_add, show 64 * q + 64 + rmv fr c = 64 * (q + 1) + rmv fr c by omega, ldn (by omega) (by omega), hM (q + 1) _ (by omega) (by omega) hr64]
              have l6 : ldI w 118 0 ((64 : Int32) * nI q + nI fr) 576 = some (nI (moT v n 99 (v 0 2 - q) fr)) := by
                rw [li64, pk_mul, nI_add, ldn (by omega) (by omega), hM q _ (by omega) (by omega) hfr]
              have b1 := moT_le hF (n := n) (wo := 99) (r := v 0 2 - q) (by omega) fr
              have b2 := moT_le hF (n := n) (wo := 99) (r := v 0 2 - (q + 1)) (by omega) (rmv fr c)
              by_cases q4 : moT v n 99 (v 0 2 - q) fr = v 12 q + moT v n 99 (v 0 2 - (q + 1)) (rmv fr c)
              · have q4' : (nI (v 12 q) + nI (moT v n 99 (v 0 2 - (q + 1)) (rmv fr c)) = nI (moT v n 99 (v 0 2 - q) fr)) = True := eq_true (by rw [nI_add, q4])
                have y0 : (zB true = 0) = False := eq_false (by decide)
                have o0 : ((1 : Int32) = 0) = False := eq_false (by decide)
                simp only [fX12_sharedBy_13, fX12_sharedBy_67, ↓lt, ↓neg, ↓bnd l1, ↓q1', ↓cbnd g1, ↓z0, ↓cbnd g2, ↓y0, ↓bnd l4, ↓bnd l5, ↓bnd l6, ↓q4', ↓o0, ↓reduceIte, callW_eq]
                have hs : shC v n 99 q fr c = true := by rw [shC, hc1, q4]; simp
                have hf : shP v n 99 q fr = c := fnd_at (fun j _ hj => hno j hj) (by omega) (by omega) hs (by omega)
                rw [hf, dI, if_neg (by omega)] at hk
                cases f with
                | zero => omega
                | succ f =>
                  have neg2 : (nI c < 0) = False := eq_false (nI_pos (by omega))
                  by_cases yy : c + 1 < v 0 1
                  · have lt2 : (nI c + (1 : Int32) < gI w 16 0 13) = True := eq_true (by rw [li1, nI_add, TM_people T]; exact (nI_ltI (by omega) (by omega)).mpr yy)
                    simp only [fX12_sharedBy_13, ↓lt2, ↓neg2, ↓reduceIte]
                    exact hk
                  · have lt2 : (nI c + (1 : Int32) < gI w 16 0 13) = False := eq_false (by rw [li1, nI_add, TM_people T]; exact fun z => yy ((nI_ltI (by omega) (by omega)).mp z))
                    simp only [fX12_sharedBy_13, ↓lt2, ↓reduceIte]
                    exact hk
              · have q4' : (nI (v 12 q) + nI (moT v n 99 (v 0 2 - (q + 1)) (rmv fr c)) = nI (moT v n 99 (v 0 2 - q) fr)) = False := eq_false (by rw [nI_add]; exact fun z => q4 ((nI_eq (by omega) (by omega)).mp z).symm)
                simp only [fX12_sharedBy_13, fX12_sharedBy_66, ↓lt, ↓neg, ↓bnd l1, ↓q1', ↓cbnd g1, ↓z0, ↓cbnd g2, ↓bnd l4, ↓bnd l5, ↓bnd l6, ↓q4', ↓reduceIte, callW_eq]
                exact miss (by rw [shC, hc1]; simpa using q4)
        · have q1' : (nI (v 11 q) = nI n) = False := eq_false (fun z => q1 ((nI_eq (by omega) (by omega)).mp z))
          have hn1 : (v 11 q == n) = false := by simp [q1]
          simp only [fX12_sharedBy_13, ↓lt, ↓neg, ↓bnd l1, ↓q1', ↓reduceIte]
          have hf : shP v n 99 q fr = 99 := fnd_none (fun k _ _ => by rw [shC, hbit, hn1]; simp) (by omega)
          rw [hf] at hk
          exact hk
      · have : c = v 0 1 := by omega
        subst this
        have lt : (nI (v 0 1) < gI w 16 0 13) = False := eq_false (by rw [TM_people T]; exact fun z => by have := (nI_ltI (by omega) (by omega)).mp z; omega)
        simp only [fX12_sharedBy_13, ↓lt, ↓reduceIte]
        have hf : shP v n 99 q fr = 99 := fnd_none (fun k _ _ => by
          rcases Nat.lt_or_ge k (v 0 1) with y | y
          · exact hno k y
          · rw [shC, hbit]; simp; omega) (by omega)
        rw [hf] at hk
        exact hk
  have outer : ∀ fuel c x, c ≤ wh + 1 → wh + 1 - c < fuel → (c = wh + 1 → x = dI (shP v n 99 wh (shF v n 99 wh))) → fX12_sharedBy_6 N (nI wh) (nI n) fuel (nI (shF v n 99 c)) x (nI c) w = some (dI (shP v n 99 wh (shF v n 99 wh)), w) := by
    intro fuel
    induction fuel with
    | zero => intro c _ _ h; omega
    | succ f ih =>
      intro c x hc hf hx
      have hf6 := shF_lt v n 99 c
      rcases Nat.lt_or_ge wh c with h | h
      · have : c = wh + 1 := by omega
        have lt : (nI wh < nI c) = True := eq_true ((nI_ltI (by omega) (by omega)).mpr h)
        simp only [fX12_sharedBy_6, ↓lt, ↓reduceIte]
        rw [hx this]
      · have lt : (nI wh < nI c) = False := eq_false (fun z => by have := (nI_ltI (by omega) (by omega)).mp z; omega)
        simp only [fX12_sharedBy_6, ↓lt, ↓reduceIte, callW_eq]
        refine inner c (shF v n 99 c) (by omega) hf6 _ ?_ N 0 (by omega) (by omega) (fun k h => by omega)
        have e := ih (c + 1) (dI (shP v n 99 c (shF v n 99 c))) (by omega) (by omega) (fun z => by
          have : c = wh := by omega
          rw [this])
        rw [shF] at e
        rcases shP_lt v n 99 c (shF v n 99 c) with y | y
        · have e1 : dI (shP v n 99 c (shF v n 99 c)) = nI (shP v n 99 c (shF v n 99 c)) := if_neg (by omega)
          have lt2 : (nI (shP v n 99 c (shF v n 99 c)) < 0) = False := eq_false (nI_pos (by omega))
          have en := e_not hf6 (show shP v n 99 c (shF v n 99 c) < 32 by omega)
          rw [e1] at e ⊢
          rw [if_neg (by omega)] at e
          simp only [fX12_sharedBy_76, ↓lt2, ↓reduceIte, ↓en, li1, nI_add]
          exact e
        · have lt2 : (dI (shP v n 99 c (shF v n 99 c)) < 0) = True := eq_true (by rw [dI, if_pos y]; exact nz_neg2)
          rw [if_pos y] at e
          simp only [fX12_sharedBy_76, ↓lt2, ↓reduceIte, li1, nI_add]
          exact e
  unfold pX12_sharedBy
  rw [callW_eq]
  exact outer N 0 _ (by omega) (by omega) (fun h => by omega)
end

/-! ===== guides shared out: the class's table and names ===== -/
section
variable {N : Nat} {w : Wd} {v : Vw} {n wo : Nat} {a2 : Int32}
theorem c_find31 (hR : RC w 0 v) (hF : WF v) (hN : 100 ≤ N) {q : Nat} (hq : q < v 0 2) (hL : gI w 57 0 q = nI (lead v n wo q)) (hM : ∀ fr, fr < 64 → gI w 56 (q + 1) fr = nI (moT v n wo (v 0 2 - (q + 1)) fr)) {Q : Wd → Prop} (k52 : Int32 → Wd → Option Wd)
    (hk : ∀ w1, (Fr [56] w w1 ∧ (∀ q' fr, q' ≠ q → gI w1 56 q' fr = gI w 56 q' fr) ∧ ∀ fr, fr < 64 → gI w1 56 q fr = nI (moT v n wo (v 0 2 - q) fr)) → Ok (k52 (nI q) w1) Q) :
    ∀ fuel d w1, d ≤ 64 → 64 - d < fuel → (Fr [56] w w1 ∧ (∀ q' fr, q' ≠ q → gI w1 56 q' fr = gI w 56 q' fr) ∧ ∀ fr, fr < d → gI w1 56 q fr = nI (moT v n wo (v 0 2 - q) fr)) →
    Ok (fX8_find_31 N fuel k52 (nI q) (nI d) w1) Q := by
  have h3 := WF_parties hF
  intro fuel
  induction fuel with
  | zero => intro d _ _ h; omega
  | succ f ih =>
    intro d w1 hd hf hI
    obtain ⟨i1, i2, i3⟩ := hI
    have hR1 := RC_fr i1 hR
    rcases Nat.lt_or_ge d 64 with h | h
    · have lt : ((63 : Int32) < nI d) = False := eq_false (fun z => by have := (nI_ltI (a := 63) (b := d) (by omega) (by omega)).mp z; omega)
      have l1 : ldR (nI q) 9 0 = some q := by rw [ldRn (by omega) (by omega)]; rfl
      have l2 : ldI w1 36 (gR w1 13 0 0) (nI q) 8 = some (nI (v 12 q)) := by rw [ldn (by omega) (by omega), TC_price hR1.1 q hq]
      have gm := c_mostFrom (N := N) (w := w1) (n := n) (wo := wo) hF hN hq h ((i1 57 0 q rfl).1.trans hL) (fun fr hfr => (i2 _ fr (by omega)).trans (hM fr hfr))
      have s4 : ∀ x, stI w1 56 q (nI d) 64 x = some (setI w1 56 q d x) := fun x => stn (by omega) (by omega)
      simp only [fX8_find_31, lt, ↓bnd l1, ↓bnd l2, ↓cbnd gm, ↓bnd (s4 _), ↓reduceIte, callW_eq, li1, nI_add]
      refine ih (d + 1) _ (by omega) (by omega) ⟨Fr_setI i1 rfl, fun q' fr hq' => ?_, fun fr hfr => ?_⟩
      · rw [gg_I, if_neg (fun z => hq' z.2.1)]; exact i2 q' fr hq'
      · rw [gg_I]
        by_cases y : fr = d
        · subst y; rw [if_pos ⟨rfl, rfl, rfl⟩]
        · rw [if_neg (fun z => y z.2.2)]; exact i3 fr (by omega)
    · have : d = 64 := by omega
      subst this
      have lt : ((63 : Int32) < nI 64) = True := eq_true (by decide)
      simp only [fX8_find_31, lt, ↓reduceIte]
      exact hk w1 ⟨i1, i2, i3⟩
/-- the whole table, with the guides that may lead -/
def shT (w : Wd) (v : Vw) (n wo : Nat) : Prop := (∀ q, q < v 0 2 → gI w 57 0 q = nI (lead v n wo q)) ∧ ∀ q fr, q ≤ v 0 2 → fr < 64 → gI w 56 q fr = nI (moT v n wo (v 0 2 - q) fr)
theorem c_ng22 (hR : RC w 0 v) (hF : WF v) {q fr : Nat} (hq : q < v 0 2) (hfr : fr < 64) (hT : shT w v n wo) {Q : Wd → Prop} {m : Nat} (hm : gR w 13 0 0 = m) (k63 : Int32 → Int32 → Wd → Option Wd)
    (hk : ∀ w1, (Fr [59] w w1 ∧ (∀ q', q' ≠ q → gI w1 59 0 q' = gI w 59 0 q') ∧ gI w1 59 0 q = dI (shP v n wo q fr)) → Ok (k63 (nI fr) (nI q) w1) Q) :
    ∀ fuel c w1, c ≤ 6 → c < fuel → (Fr [59] w w1 ∧ (∀ q', q' ≠ q → gI w1 59 0 q' = gI w 59 0 q') ∧ gI w1 59 0 q = dI (fnd (shC v n wo q fr) (6 - c) c)) →
    Ok (fX8_nameGuides_22 N m fuel k63 (nI fr) (nI q) (nI (lead v n wo q &&& fr)) (dn c) w1) Q := by
  have h3 := WF_parties hF
  have hl6 := lead_lt hF n wo q
  have hpr := WF_price hF q
  have hand : lead v n wo q &&& fr < 2 ^ 6 := Nat.lt_of_le_of_lt Nat.and_le_left hl6
  intro fuel
  induction fuel with
  | zero => intro c _ _ h; omega
  | succ f ih =>
    intro c w1 hc hf hI
    obtain ⟨i1, i2, i3⟩ := hI
    have hR1 := RC_fr i1 hR
    have hm1 : gR w1 13 0 0 = m := ((i1 13 0 0 rfl).2.2).trans hm
    have T1 : TC w1 m v := hm1 ▸ hR1.1
    cases c with
    | zero =>
      have lt : (dn 0 < 0) = True := eq_true nz_neg1
      simp only [fX8_nameGuides_22, lt, ↓reduceIte]
      exact hk w1 ⟨i1, i2, i3⟩
    | succ c =>
      have ed : dn (c + 1) = nI c := if_neg (by omega)
      have lt : (nI c < 0) = False := eq_false (nI_pos (by omega))
      have eb : ((nI (lead v n wo q &&& fr) >>> (nI c &&& (31 : Int32))) &&& (1 : Int32)) = zB ((lead v n wo q &&& fr).testBit c) := by
        rw [li31, li1, nz_and, nz_bit (by omega) (by omega)]; rfl
      have en : 6 - c = (6 - (c + 1)) + 1 := by omega
      have nxt : ∀ w2, (Fr [59] w w2 ∧ (∀ q', q' ≠ q → gI w2 59 0 q' = gI w 59 0 q') ∧ gI w2 59 0 q = dI (fnd (shC v n wo q fr) (6 - c) c)) → Ok (fX8_nameGuides_22 N m f k63 (nI fr) (nI q) (nI (lead v n wo q &&& fr)) (nI c + (-1 : Int32)) w2) Q := by
        intro w2 h2
        have : nI c + (-1 : Int32) = dn c := dn_add c
        rw [this]
        exact ih c w2 (by omega) (by omega) h2
      have no : shC v n wo q fr c = false → gI w1 59 0 q = dI (fnd (shC v n wo q fr) (6 - c) c) := by
        intro hz
        rw [en, fnd, hz]
        exact i3
      rw [ed]
      cases z : (lead v n wo q &&& fr).testBit c with
      | false =>
        rw [z] at eb
        have z0 : (zB false = 0) = True := eq_true rfl
        simp only [fX8_nameGuides_22, lt, ↓eb, z0, ↓reduceIte, callW_eq]
        exact nxt w1 ⟨i1, i2, no (by rw [shC, z]; rfl)⟩
      | true =>
        rw [z] at eb
        have z0 : (zB true = 0) = False := eq_false (by decide)
        have hr64 : rmv fr c < 64 := rmv_lt (n := 6) hfr
        have l1 : ldR (nI q) 9 0 = some q := by rw [ldRn (by omega) (by omega)]; rfl
        have l1' : ldR (nI q + (1 : Int32)) 9 0 = some (q + 1) := by rw [li1, nI_add, ldRn (by omega) (by omega)]
        have l2 : ldI w1 56 q (nI fr) 64 = some (nI (moT v n wo (v 0 2 - q) fr)) := by rw [ldn hfr (by omega), (i1 56 q fr rfl).1, hT.2 q fr (by omega) hfr]
        have l3 : ldI w1 36 m (nI q) 8 = some (nI (v 12 q)) := by rw [ldn (by omega) (by omega), TC_price T1 q hq]
        have l5 : ldI w1 56 (q + 1) (nI fr &&& (((1 : Int32) <<< (nI c &&& (31 : Int32))) ^^^ (-1 : Int32))) 64 = some (nI (moT v n wo (v 0 2 - (q + 1)) (rmv fr c))) := by
          rw [e_not hfr (by omega), ldn hr64 (by omega), (i1 56 (q + 1) _ rfl).1, hT.2 (q + 1) _ (by omega) hr64]
        have s4 : stI w1 59 0 (nI q) 8 (nI c) = some (setI w1 59 0 q (nI c)) := stn (by omega) (by omega)
        have b1 := moT_le hF (n := n) (wo := wo) (r := v 0 2 - q) (by omega) fr
        have b2 := moT_le hF (n := n) (wo := wo) (r := v 0 2 - (q + 1)) (by omega) (rmv fr c)
        by_cases q4 : moT v n wo (v 0 2 - q) fr = v 12 q + moT v n wo (v 0 2 - (q + 1)) (rmv fr c)
        · have q4' : (nI (moT v n wo (v 0 2 - q) fr) = nI (v 12 q) + nI (moT v n wo (v 0 2 - (q + 1)) (rmv fr c))) = True := eq_true (by rw [nI_add, q4])
          simp only [fX8_nameGuides_22, lt, ↓eb, z0, ↓bnd l1, ↓bnd l2, ↓bnd l3, ↓bnd l1', ↓bnd l5, ↓q4', ↓bnd s4, ↓reduceIte, callW_eq]
          refine nxt _ ⟨Fr_setI i1 rfl, fun q' hq' => ?_, ?_⟩
          · rw [gg_I, if_neg (fun z => hq' z.2.2)]; exact i2 q' hq'
          · have hs : shC v n wo q fr c = true := by rw [shC, z, q4]; simp
            rw [gg_I, if_pos ⟨rfl, rfl, rfl⟩, en, fnd, hs, if_pos rfl, dI, if_neg (by omega)]
        · have q4' : (nI (moT v n wo (v 0 2 - q) fr) = nI (v 12 q) + nI (moT v n wo (v 0 2 - (q + 1)) (rmv fr c))) = False := eq_false (by rw [nI_add]; exact fun z => q4 ((nI_eq (by omega) (by omega)).mp z))
          simp only [fX8_nameGuides_22, lt, ↓eb, z0, ↓bnd l1, ↓bnd l2, ↓bnd l3, ↓bnd l1', ↓bnd l5, ↓q4', ↓reduceIte, callW_eq]
          refine nxt w1 ⟨i1, i2, no ?_⟩
          rw [shC, z]
          simpa using q4
theorem shP_lt (v : Vw) (n wo q fr : Nat) : shP v n wo q fr < 6 ∨ shP v n wo q fr = 99 := by
  rcases fnd_spec (shC v n wo q fr) 6 0 with h | h
  · exact Or.inr h.1
  · exact Or.inl (by have := h.2.1; simpa [shP] using this)
theorem c_nameGuides (hR : RC w 0 v) (hF : WF v) (hN : 100 ≤ N) (hT : shT w v n wo) {m : Nat} (hm : gR w 13 0 0 = m) :
    Ok (pX8_nameGuides N m w) (fun w' => Fr [59] w w' ∧ ∀ q, q < v 0 2 → gI w' 59 0 q = dI (shP v n wo q (shF v n wo q))) := by
  have h3 := WF_parties hF
  have key : ∀ fuel c w1, c ≤ v 0 2 → v 0 2 - c < fuel → (Fr [59] w w1 ∧ ∀ q, q < c → gI w1 59 0 q = dI (shP v n wo q (shF v n wo q))) → Ok (fX8_nameGuides_4 N m fuel (nI (shF v n wo c)) (nI c) w1) (fun w' => Fr [59] w w' ∧ ∀ q, q < v 0 2 → gI w' 59 0 q = dI (shP v n wo q (shF v n wo q))) := by
    intro fuel
    induction fuel with
    | zero => intro c _ _ h; omega
    | succ f ih =>
      intro c w1 hc hf hI
      obtain ⟨i1, i2⟩ := hI
      have hR1 := RC_fr i1 hR
      have hm1 : gR w1 13 0 0 = m := ((i1 13 0 0 rfl).2.2).trans hm
      have T1 : TC w1 m v := hm1 ▸ hR1.1
      have hf6 := shF_lt v n wo c
      rcases Nat.lt_or_ge c (v 0 2) with h | h
      · have lt : (nI c < gI w1 8 m 5) = True := eq_true (by rw [TC_parties T1]; exact (nI_ltI (by omega) (by omega)).mpr h)
        have s4 : stI w1 59 0 (nI c) 8 (-2 : Int32) = some (setI w1 59 0 c (-nI 2)) := stn (by omega) (by omega)
        have f2 : Fr [59] w (setI w1 59 0 c (-nI 2)) := Fr_setI i1 rfl
        have f3 : Fr [59] w1 (setI w1 59 0 c (-nI 2)) := Fr_setI (Fr_refl _ _) rfl
        have l2 : ldI (setI w1 59 0 c (-nI 2)) 57 0 (nI c) 8 = some (nI (lead v n wo c)) := by rw [ldn (by omega) (by omega), (f2 57 0 c rfl).1, hT.1 c h]
        have hT2 : shT (setI w1 59 0 c (-nI 2)) v n wo := ⟨fun q hq => ((f2 57 0 q rfl).1).trans (hT.1 q hq), fun q fr hq hfr => ((f2 56 q fr rfl).1).trans (hT.2 q fr hq hfr)⟩
        simp only [fX8_nameGuides_4, lt, ↓bnd s4, ↓bnd l2, ↓reduceIte, callW_eq, nz_and]
        have e5 : (5 : Int32) = dn 6 := rfl
        rw [e5]
        refine c_ng22 (w := setI w1 59 0 c (-nI 2)) (RC_fr f3 hR1) hF h hf6 hT2 (((f3 13 0 0 rfl).2.2).trans hm1) _ ?_ N 6 _ (by omega) (by omega) ⟨Fr_refl _ _, fun _ _ => rfl, ?_⟩
        · rintro w2 ⟨j1, j2, j3⟩
          have hall : ∀ q, q < c + 1 → gI w2 59 0 q = dI (shP v n wo q (shF v n wo q)) := by
            intro q hq
            by_cases y : q = c
            · subst y; exact j3
            · rw [j2 q y, gg_I, if_neg (fun z => y z.2.2)]; exact i2 q (by omega)
          have l6 : ldI w2 59 0 (nI c) 8 = some (dI (shP v n wo c (shF v n wo c))) := by rw [ldn (by omega) (by omega), j3]
          have e := ih (c + 1) w2 (by omega) (by omega) ⟨Fr_trans f2 j1, hall⟩
          rw [shF] at e
          rcases shP_lt v n wo c (shF v n wo c) with y | y
          · have e1 : dI (shP v n wo c (shF v n wo c)) = nI (shP v n wo c (shF v n wo c)) := if_neg (by omega)
            have lt2 : (nI (shP v n wo c (shF v n wo c)) < 0) = False := eq_false (nI_pos (by omega))
            rw [e1] at l6
            rw [if_neg (by omega)] at e
            have en := e_not hf6 (show shP v n wo c (shF v n wo c) < 32 by omega)
            simp only [fX8_nameGuides_63, ↓bnd l6, lt2, ↓reduceIte, ↓en, li1, nI_add]
            exact e
          · have lt2 : (dI (shP v n wo c (shF v n wo c)) < 0) = True := eq_true (by rw [dI, if_pos y]; exact nz_neg2)
            rw [if_pos y] at e
            simp only [fX8_nameGuides_63, ↓bnd l6, lt2, ↓reduceIte, li1, nI_add]
            exact e
        · rw [gg_I, if_pos ⟨rfl, rfl, rfl⟩]; rfl
      · have : c = v 0 2 := by omega
        subst this
        have lt : (nI (v 0 2) < gI w1 8 m 5) = False := eq_false (by rw [TC_parties T1]; exact fun z => by have := (nI_ltI (by omega) (by omega)).mp z; omega)
        simp only [fX8_nameGuides_4, lt, ↓reduceIte]
        exact ok_some ⟨i1, i2⟩
  unfold pX8_nameGuides
  rw [callW_eq, li63, li0]
  exact key N 0 w (by omega) (by omega) ⟨Fr_refl _ _, fun q h => by omega⟩
def kSh : List Nat := [56, 57, 59]
theorem c_find (hR : RC w 0 v) (hF : WF v) (hN : 100 ≤ N) (hn : n < 2 ^ 30) (hwo : ∀ g, g < 8 → (nI g = a2 ↔ g = wo)) :
    Ok (pX8_find N (nI n) a2 w) (fun w' => Fr kSh w w' ∧ gI w' 56 0 63 = nI (moT v n wo (v 0 2) 63) ∧ ∀ q, q < v 0 2 → gI w' 59 0 q = dI (shP v n wo q (shF v n wo q))) := by
  have h3 := WF_parties hF
  unfold pX8_find
  rw [callW_eq]
  refine ok_bind (c_nameLeaders hR hF hN hn hwo) ?_
  rintro w1 ⟨f1, hL⟩
  have hR1 := RC_fr f1 hR
  have third : ∀ fuel c w2, c ≤ v 0 2 → c < fuel → (Fr [56] w1 w2 ∧ ∀ q fr, c ≤ q → q ≤ v 0 2 → fr < 64 → gI w2 56 q fr = nI (moT v n wo (v 0 2 - q) fr)) →
      Ok (fX8_find_27 N fuel (fX8_find_54 N) (dn c) w2) (fun w' => Fr kSh w w' ∧ gI w' 56 0 63 = nI (moT v n wo (v 0 2) 63) ∧ ∀ q, q < v 0 2 → gI w' 59 0 q = dI (shP v n wo q (shF v n wo q))) := by
    intro fuel
    induction fuel with
    | zero => intro c _ _ h; omega
    | succ f ih =>
      intro c w2 hc hf hI
      obtain ⟨i1, i2⟩ := hI
      have hR2 := RC_fr i1 hR1
      cases c with
      | zero =>
        have lt : (dn 0 < 0) = True := eq_true nz_neg1
        simp only [fX8_find_27, fX8_find_54, lt, ↓reduceIte, callW_eq]
        refine ok_bind (c_nameGuides (n := n) (wo := wo) hR2 hF hN ⟨fun q hq => ((i1 57 0 q rfl).1).trans (hL q hq), fun q fr hq hfr => i2 q fr (by omega) hq hfr⟩ rfl) ?_
        rintro w3 ⟨j1, j2⟩
        refine ok_some ⟨Fr_trans (Fr_mono f1 rfl) (Fr_trans (Fr_mono i1 rfl) (Fr_mono j1 rfl)), ?_, j2⟩
        rw [(j1 56 0 63 rfl).1]
        exact i2 0 63 (by omega) (by omega) (by omega)
      | succ c =>
        have ed : dn (c + 1) = nI c := if_neg (by omega)
        have lt : (nI c < 0) = False := eq_false (nI_pos (by omega))
        rw [ed]
        simp only [fX8_find_27, ↓lt, ↓reduceIte, callW_eq, li0]
        refine c_find31 (n := n) (wo := wo) hR2 hF hN (by omega) (((i1 57 0 c rfl).1).trans (hL c (by omega))) (fun fr hfr => i2 (c + 1) fr (by omega) (by omega) hfr) _ ?_ N 0 w2 (by omega) (by omega) ⟨Fr_refl _ _, fun _ _ _ => rfl, fun fr h => by omega⟩
        rintro w3 ⟨j1, j2, j3⟩
        have e1 : nI c + (-1 : Int32) = dn c := dn_add c
        simp only [fX8_find_52, e1]
        refine ih c w3 (by omega) (by omega) ⟨Fr_trans i1 j1, fun q fr h1 h2 h4 => ?_⟩
        by_cases y : q = c
        · subst y; exact j3 fr h4
        · rw [j2 q fr y]; exact i2 q fr (by omega) h2 h4
  have second : ∀ fuel d w2, d ≤ 64 → 64 - d < fuel → (Fr [56] w1 w2 ∧ ∀ fr, fr < d → gI w2 56 (v 0 2) fr = nI 0) →
      Ok (fX8_find_11 N fuel (fX8_find_23 N) (nI (v 0 2)) (nI d) w2) (fun w' => Fr kSh w w' ∧ gI w' 56 0 63 = nI (moT v n wo (v 0 2) 63) ∧ ∀ q, q < v 0 2 → gI w' 59 0 q = dI (shP v n wo q (shF v n wo q))) := by
    intro fuel
    induction fuel with
    | zero => intro c _ _ h; omega
    | succ f ih =>
      intro d w2 hc hf hI
      obtain ⟨i1, i2⟩ := hI
      rcases Nat.lt_or_ge d 64 with h | h
      · have lt : ((63 : Int32) < nI d) = False := eq_false (fun z => by have := (nI_ltI (a := 63) (b := d) (by omega) (by omega)).mp z; omega)
        have l1 : ldR (nI (v 0 2)) 9 0 = some (v 0 2) := by rw [ldRn (by omega) (by omega)]; rfl
        have s4 : stI w2 56 (v 0 2) (nI d) 64 (0 : Int32) = some (setI w2 56 (v 0 2) d (nI 0)) := stn (by omega) (by omega)
        simp only [fX8_find_11, lt, ↓bnd l1, ↓bnd s4, ↓reduceIte, callW_eq, li1, nI_add]
        refine ih (d + 1) _ (by omega) (by omega) ⟨Fr_setI i1 rfl, fun fr hfr => ?_⟩
        rw [gg_I]
        by_cases y : fr = d
        · rw [if_pos ⟨rfl, rfl, y⟩]
        · rw [if_neg (fun z => y z.2.2)]; exact i2 fr (by omega)
      · have : d = 64 := by omega
        subst this
        have lt : ((63 : Int32) < nI 64) = True := eq_true (by decide)
        have e1 : nI (v 0 2) - (1 : Int32) = dn (v 0 2) := dn_sub _
        simp only [fX8_find_11, fX8_find_23, lt, e1, ↓reduceIte, callW_eq]
        refine third N (v 0 2) w2 (by omega) (by omega) ⟨i1, fun q fr h1 h2 h4 => ?_⟩
        have : q = v 0 2 := by omega
        subst this
        rw [Nat.sub_self]
        exact i2 fr h4
  rw [callW_eq, TC_parties hR1.1, li0]
  exact second N 0 w1 (by omega) (by omega) ⟨Fr_refl _ _, fun fr h => by omega⟩
end

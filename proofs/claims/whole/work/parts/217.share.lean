/-! ===== guides shared out ===== -/
def rmv (fr g : Nat) : Nat := fr ^^^ (fr &&& 2 ^ g)
def mx (f : Nat → Bool) (y : Nat → Nat) (b : Nat) : Nat → Nat
  | 0 => b
  | n + 1 => if f n = true ∧ mx f y b n < y n then y n else mx f y b n
def mo (L x : Nat → Nat) (P : Nat) : Nat → Nat → Nat
  | 0, _ => 0
  | r + 1, fr => mx (fun g => (L (P - (r + 1)) &&& fr).testBit g) (fun g => x (P - (r + 1)) + mo L x P r (rmv fr g)) (mo L x P r fr) 6
theorem mx_le {f : Nat → Bool} {y : Nat → Nat} {b B : Nat} (hb : b ≤ B) (hy : ∀ g, y g ≤ B) (n : Nat) : mx f y b n ≤ B := by
  induction n with
  | zero => exact hb
  | succ n ih => rw [mx]; split; exact hy n; exact ih
theorem mx_ext {f f' : Nat → Bool} {y y' : Nat → Nat} {b : Nat} {n : Nat} (h : ∀ g, g < n → f g = f' g) (h2 : ∀ g, g < n → f' g = true → y g = y' g) : mx f y b n = mx f' y' b n := by
  induction n with
  | zero => rfl
  | succ n ih =>
    rw [mx, mx, ih (fun g hg => h g (by omega)) (fun g hg => h2 g (by omega)), h n (by omega)]
    cases hf : f' n with
    | false => simp
    | true => rw [h2 n (by omega) hf]
theorem mx_no {f : Nat → Bool} {y : Nat → Nat} {b : Nat} (h : ∀ g, f g = false) (n : Nat) : mx f y b n = b := by
  induction n with
  | zero => rfl
  | succ n ih => rw [mx, h n, if_neg (by simp)]; exact ih
theorem mo_le {L x : Nat → Nat} {P B : Nat} (hx : ∀ q, x q ≤ B) : ∀ r fr, mo L x P r fr ≤ r * B := by
  intro r
  induction r with
  | zero => intro fr; exact Nat.zero_le _
  | succ r ih =>
    intro fr
    rw [mo, Nat.succ_mul]
    refine mx_le (Nat.le_trans (ih fr) (by omega)) (fun g => ?_) 6
    have := ih (rmv fr g)
    have := hx (P - (r + 1))
    omega
theorem rmv_bit (fr g k : Nat) : (rmv fr g).testBit k = (fr.testBit k && !decide (g = k)) := by
  rw [rmv, bit_andnot, Nat.testBit_two_pow]
theorem rmv_lt {fr g n : Nat} (h : fr < 2 ^ n) : rmv fr g < 2 ^ n := andnot_lt h
theorem rmv_comm (fr g p : Nat) : rmv (rmv fr g) p = rmv (rmv fr p) g := by
  apply Nat.eq_of_testBit_eq
  intro k
  rw [rmv_bit, rmv_bit, rmv_bit, rmv_bit]
  cases fr.testBit k <;> cases decide (g = k) <;> cases decide (p = k) <;> rfl
/-- without one guide -/
theorem mo_wo {L L' x : Nat → Nat} {P p : Nat} (h : ∀ q g, (L' q).testBit g = ((L q).testBit g && !decide (p = g))) : ∀ r fr, mo L' x P r fr = mo L x P r (rmv fr p) := by
  intro r
  induction r with
  | zero => intro fr; rfl
  | succ r ih =>
    intro fr
    rw [mo, mo, ih fr]
    apply mx_ext
    · intro g _
      rw [Nat.testBit_and, Nat.testBit_and, h, rmv_bit]
      cases (L (P - (r + 1))).testBit g <;> cases decide (p = g) <;> cases fr.testBit g <;> rfl
    · intro g _ _
      rw [ih, rmv_comm]
/-- who may lead a party of a night throughout (bits) -/
def lead (v : Vw) (n wo q : Nat) : Nat := mkB (fun g => g != wo && (v 11 q == n && gL8 v (sBits v g n) q)) (v 0 1)
theorem lead_lt {v : Vw} (hF : WF v) (n wo q : Nat) : lead v n wo q < 2 ^ 6 := Nat.lt_of_lt_of_le (mkB_lt _ _) (Nat.pow_le_pow_right (by omega) (WF_people hF))
theorem lead_wo {v : Vw} (n wo q g : Nat) (hwo : v 0 1 ≤ wo) (p : Nat) : (lead v n p q).testBit g = ((lead v n wo q).testBit g && !decide (p = g)) := by
  rw [lead, lead, mkB_bit, mkB_bit]
  by_cases h : g < v 0 1
  · have : (g != wo) = true := by simp; omega
    rw [this]
    by_cases e : p = g
    · subst e; simp
    · have e2 : (g != p) = true := by simp; omega
      simp [e, e2]
  · simp [h]
def moT (v : Vw) (n wo r fr : Nat) : Nat := mo (lead v n wo) (v 12) (v 0 2) r fr
theorem moT_le {v : Vw} (hF : WF v) {n wo r : Nat} (hr : r ≤ 8) (fr : Nat) : moT v n wo r fr ≤ 800 := by
  have := mo_le (L := lead v n wo) (P := v 0 2) (WF_price hF) r fr
  have : r * 99 ≤ 8 * 99 := Nat.mul_le_mul_right _ hr
  unfold moT
  omega
def shC (v : Vw) (n wo q fr g : Nat) : Bool := (lead v n wo q &&& fr).testBit g && moT v n wo (v 0 2 - q) fr == v 12 q + moT v n wo (v 0 2 - (q + 1)) (rmv fr g)
def shP (v : Vw) (n wo q fr : Nat) : Nat := fnd (shC v n wo q fr) 6 0
def shF (v : Vw) (n wo : Nat) : Nat → Nat
  | 0 => 63
  | q + 1 => if shP v n wo q (shF v n wo q) = 99 then shF v n wo q else rmv (shF v n wo q) (shP v n wo q (shF v n wo q))
theorem shF_lt (v : Vw) (n wo q : Nat) : shF v n wo q < 2 ^ 6 := by
  induction q with
  | zero => rw [shF]; decide
  | succ q ih => rw [shF]; split; exact ih; exact rmv_lt ih
def dn (c : Nat) : Int32 := if c = 0 then -nI 1 else nI (c - 1)
theorem dn_sub (c : Nat) : nI c - nI 1 = dn c := by
  unfold dn
  split
  · rename_i h; subst h; decide
  · exact pk_sub (by omega)
theorem dn_add (c : Nat) : nI c + -nI 1 = dn c := by
  rw [← dn_sub, Int32.sub_eq_add_neg]
theorem dn_neg {c : Nat} (h : c < 2 ^ 31) : dn c < nI 0 ↔ c = 0 := by
  unfold dn
  split
  · rename_i q; exact ⟨fun _ => q, fun _ => nz_neg1⟩
  · exact ⟨fun z => absurd z (nz_ge0 (by omega)), fun z => by omega⟩
theorem gL8_0 (v : Vw) (q : Nat) : gL8 v 0 q = false := by
  have hz : ∀ s, rch (v 3) (v 0 0) 0 (v 9 q) s = 0 := by
    intro s
    cases s with
    | zero => rw [rch, Nat.and_zero]
    | succ s => rw [rch, stp1, Nat.and_zero]
  rcases fnd_spec (fun s => (rch (v 3) (v 0 0) 0 (v 9 q) s).testBit (v 10 q)) 8 0 with h | h
  · have : gD (v 3) (v 0 0) 0 (v 9 q) (v 10 q) = 99 := h.1
    simp [gL8, this]
  · have := h.2.2.1
    rw [hz] at this
    simp at this
/-! the class -/
section
variable {N : Nat} {w : Wd} {v : Vw} {n wo : Nat} {a2 : Int32}
theorem c_nl37 (hR : RC w 0 v) (hF : WF v) (hN : 100 ≤ N) {m : Nat} (hm : gR w 13 0 0 = m) (hn : n < 2 ^ 30) {c ps : Nat} (hc : c < v 0 1) (hps : ps = if c = wo then 0 else sBits v c n) {Q : Wd → Prop} (k66 : Nat → Int32 → Wd → Option Wd)
    (hk : ∀ w1, (Fr [57] w w1 ∧ ∀ q, q < v 0 2 → gI w1 57 0 q = nI (mkB (fun g => g != wo && (v 11 q == n && gL8 v (sBits v g n) q)) (c + 1))) → Ok (k66 m (nI c) w1) Q) :
    ∀ fuel d w1, d ≤ v 0 2 → v 0 2 - d < fuel → (Fr [57] w w1 ∧ (∀ q, q < v 0 2 → gI w1 57 0 q = nI (mkB (fun g => g != wo && (v 11 q == n && gL8 v (sBits v g n) q)) (if q < d then c + 1 else c)))) →
    Ok (fX8_nameLeaders_37 N (nI n) a2 fuel k66 m (nI c) (nI ps) (nI d) w1) Q := by
  have h1 := WF_people hF
  have h3 := WF_parties hF
  have hs8 := sBits_lt hF c n
  have hps8 : ps < 2 ^ 8 := by rw [hps]; split <;> omega
  have hbit : ∀ q, (c != wo && (v 11 q == n && gL8 v (sBits v c n) q)) = (v 11 q == n && gL8 v ps q) := by
    intro q
    by_cases y : c = wo
    · rw [hps, if_pos y, gL8_0]; simp [y]
    · rw [hps, if_neg y]
      have : (c != wo) = true := by simp [y]
      rw [this, Bool.true_and]
  intro fuel
  induction fuel with
  | zero => intro d _ _ h; omega
  | succ f ih =>
    intro d w1 hd hf hI
    obtain ⟨i1, i2⟩ := hI
    have hR1 := RC_fr i1 hR
    have hm1 : gR w1 13 0 0 = m := ((i1 13 0 0 rfl).2.2).trans hm
    have T1 : TC w1 m v := hm1 ▸ hR1.1
    rcases Nat.lt_or_ge d (v 0 2) with h | h
    · have lt : (nI d < gI w1 8 m 5) = True := eq_true (by rw [TC_parties T1]; exact (nI_ltI (by omega) (by omega)).mpr h)
      have nxt : ∀ w2, (Fr [57] w w2 ∧ ∀ q, q < v 0 2 → gI w2 57 0 q = if q = d then nI (mkB (fun g => g != wo && (v 11 q == n && gL8 v (sBits v g n) q)) (c + 1)) else gI w1 57 0 q) → Ok (fX8_nameLeaders_37 N (nI n) a2 f k66 m (nI c) (nI ps) (nI (d + 1)) w2) Q := by
        intro w2 h2
        refine ih (d + 1) w2 (by omega) (by omega) ⟨h2.1, fun q hq => ?_⟩
        rw [h2.2 q hq]
        by_cases y : q = d
        · rw [if_pos y, if_pos (by omega)]
        · rw [if_neg y, i2 q hq]
          by_cases y2 : q < d
          · rw [if_pos y2, if_pos (by omega)]
          · rw [if_neg y2, if_neg (by omega)]
      have same : (v 11 d == n && gL8 v ps d) = false → ∀ q, q < v 0 2 → gI w1 57 0 q = if q = d then nI (mkB (fun g => g != wo && (v 11 q == n && gL8 v (sBits v g n) q)) (c + 1)) else gI w1 57 0 q := by
        intro hz q hq
        by_cases y : q = d
        · subst y
          rw [if_pos rfl, i2 q hq, if_neg (by omega), mkB, hbit q, hz]
          simp
        · rw [if_neg y]
      by_cases p0 : ps = 0
      · have p0' : (nI ps = 0) = True := eq_true (by rw [p0]; rfl)
        simp only [fX8_nameLeaders_37, lt, p0', ↓reduceIte]
        refine hk w1 ⟨i1, fun q hq => ?_⟩
        rw [i2 q hq]
        by_cases y : q < d
        · rw [if_pos y]
        · rw [if_neg y, mkB, hbit q, p0, gL8_0]
          simp
      · have p0' : (nI ps = 0) = False := eq_false (fun z => p0 ((nI_eq (by omega) (by omega)).mp (show nI ps = nI 0 from z)))
        have l1 : ldI w1 35 m (nI d) 8 = some (nI (v 11 d)) := by rw [ldn (by omega) (by omega), TC_pnight T1 d h]
        have hpn := WF_pnight hF d
        by_cases q1 : v 11 d = n
        · have q1' : (nI (v 11 d) = nI n) = True := eq_true (by rw [q1])
          have gl := c_isLed (N := N) T1 hF hN h hps8
          cases z : gL8 v ps d with
          | false =>
            rw [z] at gl
            have z0 : (zB false = 0) = True := eq_true rfl
            simp only [fX8_nameLeaders_37, lt, p0', ↓bnd l1, q1', ↓cbnd gl, z0, ↓reduceIte, callW_eq, li1, nI_add]
            exact nxt w1 ⟨i1, same (by rw [z]; simp)⟩
          | true =>
            rw [z] at gl
            have z0 : (zB true = 0) = False := eq_false (by decide)
            have hx := i2 d h
            rw [if_neg (by omega)] at hx
            have l3 : ldI w1 57 0 (nI d) 8 = some (nI (mkB (fun g => g != wo && (v 11 d == n && gL8 v (sBits v g n) d)) c)) := by rw [ldn (by omega) (by omega), hx]
            have s4 : ∀ x, stI w1 57 0 (nI d) 8 x = some (setI w1 57 0 d x) := fun x => stn (by omega) (by omega)
            have e1 : (1 : Int32) <<< (nI c &&& (31 : Int32)) = nI (2 ^ c) := by
              rw [li1, li31, nz_and]
              exact nz_shl (by omega)
            simp only [fX8_nameLeaders_37, lt, p0', ↓bnd l1, q1', ↓cbnd gl, ↓bnd l3, ↓bnd (s4 _), z0, ↓reduceIte, callW_eq, ↓e1, nz_or, li1, nI_add]
            refine nxt _ ⟨Fr_setI i1 rfl, fun q hq => ?_⟩
            rw [gg_I]
            by_cases y : q = d
            · subst y
              rw [if_pos ⟨rfl, rfl, rfl⟩, if_pos rfl, mkB, hbit q, q1, z]
              simp
            · rw [if_neg (fun z => y z.2.2), if_neg y]
        · have q1' : (nI (v 11 d) = nI n) = False := eq_false (fun z => q1 ((nI_eq (by omega) (by omega)).mp z))
          simp only [fX8_nameLeaders_37, lt, p0', ↓bnd l1, q1', ↓reduceIte, callW_eq, li1, nI_add]
          have hb : (v 11 d == n) = false := by simp [q1]
          exact nxt w1 ⟨i1, same (by rw [hb]; rfl)⟩
    · have : d = v 0 2 := by omega
      subst this
      have lt : (nI (v 0 2) < gI w1 8 m 5) = False := eq_false (by rw [TC_parties T1]; exact fun z => by have := (nI_ltI (by omega) (by omega)).mp z; omega)
      simp only [fX8_nameLeaders_37, lt, ↓reduceIte]
      refine hk w1 ⟨i1, fun q hq => ?_⟩
      rw [i2 q hq, if_pos hq]
theorem c_nameLeaders (hR : RC w 0 v) (hF : WF v) (hN : 100 ≤ N) (hn : n < 2 ^ 30) (hwo : ∀ g, g < 8 → (nI g = a2 ↔ g = wo)) :
    Ok (pX8_nameLeaders N (nI n) a2 w) (fun w' => Fr [57] w w' ∧ ∀ q, q < v 0 2 → gI w' 57 0 q = nI (lead v n wo q)) := by
  have h1 := WF_people hF
  have h3 := WF_parties hF
  have second : ∀ fuel c w1, c ≤ v 0 1 → v 0 1 - c < fuel → (Fr [57] w w1 ∧ ∀ q, q < v 0 2 → gI w1 57 0 q = nI (mkB (fun g => g != wo && (v 11 q == n && gL8 v (sBits v g n) q)) c)) →
      Ok (fX8_nameLeaders_19 N (nI n) a2 fuel (gR w 13 0 0) (nI c) w1) (fun w' => Fr [57] w w' ∧ ∀ q, q < v 0 2 → gI w' 57 0 q = nI (lead v n wo q)) := by
    intro fuel
    induction fuel with
    | zero => intro c _ _ h; omega
    | succ f ih =>
      intro c w1 hc hf hI
      obtain ⟨i1, i2⟩ := hI
      have hR1 := RC_fr i1 hR
      have hm1 : gR w1 13 0 0 = gR w 13 0 0 := (i1 13 0 0 rfl).2.2
      have T1 : TC w1 (gR w 13 0 0) v := hm1 ▸ hR1.1
      rcases Nat.lt_or_ge c (v 0 1) with h | h
      · have lt : (nI c < gI w1 10 (gR w 13 0 0) 0) = True := eq_true (by rw [TC_people T1]; exact (nI_ltI (by omega) (by omega)).mpr h)
        have go : ∀ ps, ps = (if c = wo then 0 else sBits v c n) → Ok (fX8_nameLeaders_37 N (nI n) a2 N (fX8_nameLeaders_66 N (nI n) a2 (fX8_nameLeaders_19 N (nI n) a2 f)) (gR w 13 0 0) (nI c) (nI ps) (nI 0) w1) (fun w' => Fr [57] w w' ∧ ∀ q, q < v 0 2 → gI w' 57 0 q = nI (lead v n wo q)) := by
          intro ps hps
          refine c_nl37 (wo := wo) hR1 hF hN hm1 hn h hps _ ?_ N 0 w1 (by omega) (by omega) ⟨Fr_refl _ _, fun q hq => by rw [if_neg (by omega)]; exact i2 q hq⟩
          rintro w2 ⟨j1, j2⟩
          simp only [fX8_nameLeaders_66, li1, nI_add]
          exact ih (c + 1) w2 (by omega) (by omega) ⟨Fr_trans i1 j1, j2⟩
        by_cases y : c = wo
        · have y' : (nI c = a2) = True := eq_true ((hwo c (by omega)).mpr y)
          simp only [fX8_nameLeaders_19, lt, y', ↓reduceIte, callW_eq, li0]
          exact go 0 (by rw [if_pos y])
        · have y' : (nI c = a2) = False := eq_false (fun z => y ((hwo c (by omega)).mp z))
          have gk := c_known (N := N) hR1 hF hN h hn
          simp only [fX8_nameLeaders_19, lt, y', ↓cbnd gk, ↓reduceIte, callW_eq, li0]
          exact go _ (by rw [if_neg y])
      · have : c = v 0 1 := by omega
        subst this
        have lt : (nI (v 0 1) < gI w1 10 (gR w 13 0 0) 0) = False := eq_false (by rw [TC_people T1]; exact fun z => by have := (nI_ltI (by omega) (by omega)).mp z; omega)
        simp only [fX8_nameLeaders_19, lt, ↓reduceIte]
        exact ok_some ⟨i1, i2⟩
  have first : ∀ fuel c w1, c ≤ v 0 2 → v 0 2 - c < fuel → (Fr [57] w w1 ∧ ∀ q, q < c → gI w1 57 0 q = nI 0) →
      Ok (fX8_nameLeaders_6 N (nI n) a2 fuel (fX8_nameLeaders_17 N (nI n) a2) (gR w 13 0 0) (nI c) w1) (fun w' => Fr [57] w w' ∧ ∀ q, q < v 0 2 → gI w' 57 0 q = nI (lead v n wo q)) := by
    intro fuel
    induction fuel with
    | zero => intro c _ _ h; omega
    | succ f ih =>
      intro c w1 hc hf hI
      obtain ⟨i1, i2⟩ := hI
      have hR1 := RC_fr i1 hR
      have hm1 : gR w1 13 0 0 = gR w 13 0 0 := (i1 13 0 0 rfl).2.2
      have T1 : TC w1 (gR w 13 0 0) v := hm1 ▸ hR1.1
      rcases Nat.lt_or_ge c (v 0 2) with h | h
      · have lt : (nI c < gI w1 8 (gR w 13 0 0) 5) = True := eq_true (by rw [TC_parties T1]; exact (nI_ltI (by omega) (by omega)).mpr h)
        have s4 : ∀ x, stI w1 57 0 (nI c) 8 x = some (setI w1 57 0 c x) := fun x => stn (by omega) (by omega)
        simp only [fX8_nameLeaders_6, lt, ↓bnd (s4 _), ↓reduceIte, callW_eq, li1, nI_add]
        refine ih (c + 1) _ (by omega) (by omega) ⟨Fr_setI i1 rfl, fun q hq => ?_⟩
        rw [gg_I]
        by_cases y : q = c
        · rw [if_pos ⟨rfl, rfl, y⟩]; rfl
        · rw [if_neg (fun z => y z.2.2)]; exact i2 q (by omega)
      · have : c = v 0 2 := by omega
        subst this
        have lt : (nI (v 0 2) < gI w1 8 (gR w 13 0 0) 5) = False := eq_false (by rw [TC_parties T1]; exact fun z => by have := (nI_ltI (by omega) (by omega)).mp z; omega)
        simp only [fX8_nameLeaders_6, fX8_nameLeaders_17, lt, ↓reduceIte, callW_eq, li0]
        exact second N 0 w1 (by omega) (by omega) ⟨i1, i2⟩
  unfold pX8_nameLeaders
  rw [callW_eq, li0]
  exact first N 0 w (by omega) (by omega) ⟨Fr_refl _ _, fun q h => by omega⟩
theorem e_not {fr g : Nat} (hf : fr < 2 ^ 6) (hg : g < 32) : nI fr &&& (((1 : Int32) <<< (nI g &&& (31 : Int32))) ^^^ (-1 : Int32)) = nI (rmv fr g) := by
  have e1 : (1 : Int32) <<< (nI g &&& (31 : Int32)) = nI (2 ^ g) := by
    rw [li1, li31, nz_and]
    exact nz_shl hg
  rw [e1, li1]
  exact nz_not (by omega)
theorem c_mostFrom (hF : WF v) (hN : 100 ≤ N) {q fr : Nat} (hq : q < v 0 2) (hfr : fr < 64) (hL : gI w 57 0 q = nI (lead v n wo q)) (hM : ∀ fr, fr < 64 → gI w 56 (q + 1) fr = nI (moT v n wo (v 0 2 - (q + 1)) fr)) :
    pX8_mostFrom N (nI q) (nI fr) (nI (v 12 q)) w = some (nI (moT v n wo (v 0 2 - q) fr), w) := by
  have h3 := WF_parties hF
  have hl6 := lead_lt hF n wo q
  have hpr := WF_price hF q
  have hand : lead v n wo q &&& fr < 2 ^ 6 := Nat.lt_of_le_of_lt Nat.and_le_left hl6
  have er : v 0 2 - q = (v 0 2 - (q + 1)) + 1 := by omega
  have eq' : v 0 2 - ((v 0 2 - (q + 1)) + 1) = q := by omega
  have emo : moT v n wo (v 0 2 - q) fr = mx (fun g => (lead v n wo q &&& fr).testBit g) (fun g => v 12 q + moT v n wo (v 0 2 - (q + 1)) (rmv fr g)) (moT v n wo (v 0 2 - (q + 1)) fr) 6 := by
    unfold moT
    rw [er, mo, eq']
  have hb : ∀ fr, moT v n wo (v 0 2 - (q + 1)) fr ≤ 800 := fun fr => moT_le hF (by omega) fr
  have hmx : ∀ c, mx (fun g => (lead v n wo q &&& fr).testBit g) (fun g => v 12 q + moT v n wo (v 0 2 - (q + 1)) (rmv fr g)) (moT v n wo (v 0 2 - (q + 1)) fr) c ≤ 1000 := fun c => mx_le (by have := hb fr; omega) (fun g => by have := hb (rmv fr g); omega) c
  have l1 : ldR (nI q + (1 : Int32)) 9 0 = some (q + 1) := by rw [li1, nI_add, ldRn (by omega) (by omega)]
  have l2 : ldI w 56 (q + 1) (nI fr) 64 = some (nI (moT v n wo (v 0 2 - (q + 1)) fr)) := by rw [ldn hfr (by omega), hM fr hfr]
  have l3 : ldI w 57 0 (nI q) 8 = some (nI (lead v n wo q)) := by rw [ldn (by omega) (by omega), hL]
  rw [emo]
  have key : ∀ fuel c, c ≤ 6 → 6 - c < fuel → fX8_mostFrom_18 N (nI q) (nI fr) (nI (v 12 q)) fuel (nI (mx (fun g => (lead v n wo q &&& fr).testBit g) (fun g => v 12 q + moT v n wo (v 0 2 - (q + 1)) (rmv fr g)) (moT v n wo (v 0 2 - (q + 1)) fr) c)) (nI (lead v n wo q &&& fr)) (nI c) w
      = some (nI (mx (fun g => (lead v n wo q &&& fr).testBit g) (fun g => v 12 q + moT v n wo (v 0 2 - (q + 1)) (rmv fr g)) (moT v n wo (v 0 2 - (q + 1)) fr) 6), w) := by
    intro fuel
    induction fuel with
    | zero => intro c _ h; omega
    | succ f ih =>
      intro c hc hf
      rcases Nat.lt_or_ge c 6 with h | h
      · have lt : (nI c < (6 : Int32)) = True := eq_true ((nI_ltI (a := c) (b := 6) (by omega) (by omega)).mpr h)
        have e := ih (c + 1) (by omega) (by omega)
        rw [mx] at e
        by_cases p0 : lead v n wo q &&& fr = 0
        · have p0' : (nI (lead v n wo q &&& fr) = 0) = True := eq_true (by rw [p0]; rfl)
          simp only [fX8_mostFrom_18, lt, p0', ↓reduceIte]
          rw [mx_no (fun g => by rw [p0]; simp), mx_no (fun g => by rw [p0]; simp)]
        · have p0' : (nI (lead v n wo q &&& fr) = 0) = False := eq_false (fun z => p0 ((nI_eq (by omega) (by omega)).mp (show _ = nI 0 from z)))
          have eb : ((nI (lead v n wo q &&& fr) >>> (nI c &&& (31 : Int32))) &&& (1 : Int32)) = zB ((lead v n wo q &&& fr).testBit c) := by
            rw [li31, li1, nz_and, nz_bit (by omega) (by omega)]; rfl
          cases z : (lead v n wo q &&& fr).testBit c with
          | false =>
            rw [z] at eb
            have z0 : (zB false = 0) = True := eq_true rfl
            simp only [fX8_mostFrom_18, lt, p0', ↓eb, z0, ↓reduceIte, callW_eq, li1, nI_add]
            rw [z, if_neg (by simp)] at e
            exact e
          | true =>
            rw [z] at eb
            have z0 : (zB true = 0) = False := eq_false (by decide)
            have hr64 : rmv fr c < 64 := rmv_lt (n := 6) hfr
            have l5 : ldI w 56 (q + 1) (nI fr &&& (((1 : Int32) <<< (nI c &&& (31 : Int32))) ^^^ (-1 : Int32))) 64 = some (nI (moT v n wo (v 0 2 - (q + 1)) (rmv fr c))) := by
              rw [e_not hfr (by omega), ldn hr64 (by omega), hM _ hr64]
            have hm1 := hmx c
            have hm2 := hb (rmv fr c)
            rw [z] at e
            simp only [true_and] at e
            by_cases q4 : mx (fun g => (lead v n wo q &&& fr).testBit g) (fun g => v 12 q + moT v n wo (v 0 2 - (q + 1)) (rmv fr g)) (moT v n wo (v 0 2 - (q + 1)) fr) c < v 12 q + moT v n wo (v 0 2 - (q + 1)) (rmv fr c)
            · rw [if_pos q4] at e
              have gm : pJ9_max_7cf53 N (nI (mx (fun g => (lead v n wo q &&& fr).testBit g) (fun g => v 12 q + moT v n wo (v 0 2 - (q + 1)) (rmv fr g)) (moT v n wo (v 0 2 - (q + 1)) fr) c)) (nI (v 12 q) + nI (moT v n wo (v 0 2 - (q + 1)) (rmv fr c))) w = some (nI (v 12 q + moT v n wo (v 0 2 - (q + 1)) (rmv fr c)), w) := by
                rw [nI_add, pJ9_max_7cf53, if_pos ((nI_ltI (by omega) (by omega)).mpr q4)]
              simp only [fX8_mostFrom_18, lt, p0', ↓eb, z0, ↓bnd l1, ↓bnd l5, ↓cbnd gm, ↓reduceIte, callW_eq, li1, nI_add]
              exact e
            · rw [if_neg q4] at e
              have gm : pJ9_max_7cf53 N (nI (mx (fun g => (lead v n wo q &&& fr).testBit g) (fun g => v 12 q + moT v n wo (v 0 2 - (q + 1)) (rmv fr g)) (moT v n wo (v 0 2 - (q + 1)) fr) c)) (nI (v 12 q) + nI (moT v n wo (v 0 2 - (q + 1)) (rmv fr c))) w = some (nI (mx (fun g => (lead v n wo q &&& fr).testBit g) (fun g => v 12 q + moT v n wo (v 0 2 - (q + 1)) (rmv fr g)) (moT v n wo (v 0 2 - (q + 1)) fr) c), w) := by
                rw [nI_add, pJ9_max_7cf53, if_neg (fun z => q4 ((nI_ltI (by omega) (by omega)).mp z))]
              simp only [fX8_mostFrom_18, lt, p0', ↓eb, z0, ↓bnd l1, ↓bnd l5, ↓cbnd gm, ↓reduceIte, callW_eq, li1, nI_add]
              exact e
      · have : c = 6 := by omega
        subst this
        have lt : (nI 6 < (6 : Int32)) = False := eq_false (by decide)
        simp only [fX8_mostFrom_18, lt, ↓reduceIte]
  simp only [pX8_mostFrom, ↓bnd l1, ↓bnd l2, ↓bnd l3, callW_eq, nz_and, li0]
  exact key N 0 (by omega) (by omega)
end

/-! ===== the class: what it prepares for a step ===== -/
def mxO (v : Vw) (p i k : Nat) : Nat := mxA v p i k (pc (v 3 k) + 1)
/-- the most that step i can bring, by the parts before c -/
def stM (v : Vw) (p S i : Nat) : Nat → Nat
  | 0 => 0
  | c + 1 => if S.testBit c = true then (if stM v p S i c < mxO v p i c then mxO v p i c else stM v p S i c) else stM v p S i c
theorem stM_le {v : Vw} (hF : WF v) (p S i c : Nat) : stM v p S i c ≤ 100 := by
  induction c with
  | zero => exact Nat.zero_le _
  | succ c ih =>
    have := mxA_le hF p i c (pc (v 3 c) + 1)
    have e : mxO v p i c ≤ 100 := this
    rw [stM]
    split
    · split <;> omega
    · exact ih
theorem stM_ge (v : Vw) (p S i : Nat) {k c : Nat} (hk : k < c) (hb : S.testBit k = true) : mxO v p i k ≤ stM v p S i c := by
  induction c with
  | zero => omega
  | succ c ih =>
    rw [stM]
    rcases Nat.lt_or_ge k c with y | y
    · have := ih y
      split
      · split <;> omega
      · exact this
    · have : k = c := by omega
      subst this
      rw [if_pos hb]
      split <;> omega
section
variable {N : Nat} {w : Wd} {v : Vw}
def kPr : List Nat := [66, 22, 40, 41, 43, 44, 45]
/-- what step i has prepared, for the parts before c -/
def prT (w0 w : Wd) (v : Vw) (p S i c : Nat) : Prop :=
  (∀ k, k < c → S.testBit k = true → gI w 43 k i = nI (utN v p k (v 0 5 + i) (v 0 6) - v 0 5) ∧ (∀ a, a ≤ pc (v 3 k) → gI w 40 0 (slO i k a) = nI (chO v p i k a))) ∧
  (∀ k j, j ≠ i → gI w 43 k j = gI w0 43 k j) ∧ (∀ j k a, j ≠ i → k < 8 → a ≤ 8 → gI w 40 0 (slO j k a) = gI w0 40 0 (slO j k a)) ∧
  (∀ k, k < 8 → gI w 44 0 k = if k < c ∧ S.testBit k = true then nI (if (gI w0 44 0 k).toInt.toNat < mxO v p i k then mxO v p i k else (gI w0 44 0 k).toInt.toNat) else gI w0 44 0 k)
theorem c_prep20 {w0 : Wd} (hR : RC w0 0 v) (hF : WF v) (hL : WL v) (h5 : v 0 5 ≤ 1000) (hT : ∀ j, v 18 j ≤ v 0 5) (hN : 100 ≤ N) {p i S : Nat} (hp : p < v 0 1) (hi : i < 8) (hS : S < 2 ^ 8) (h9 : gI w0 9 0 1 = nI p) (h92 : gI w0 9 0 2 = nI S) (h44 : ∀ k, k < 8 → ∃ x, x ≤ 100 ∧ gI w0 44 0 k = nI x)
    {Q : Wd → Prop} (K : Int32 → Wd → Option Wd) (hK : ∀ w, Fr kPr w0 w → (∀ j, gI w 41 0 j = gI w0 41 0 j) → (∀ j, gL w 45 0 j = gL w0 45 0 j) → prT w0 w v p S i (v 0 0) → Ok (K (nI (stM v p S i (v 0 0))) w) Q) :
    ∀ fuel c w, c ≤ v 0 0 → v 0 0 - c < fuel → Fr [66, 22, 40, 43, 44] w0 w → prT w0 w v p S i c → Ok (fX5_prepare_20 N (nI i) fuel K (nI (v 0 5 + i)) (nI (stM v p S i c)) (nI c) w) Q := by
  have h1 := WF_people hF
  have h2 := WF_parts hF
  intro fuel
  induction fuel with
  | zero => intro c _ _ h; omega
  | succ f ih =>
    intro c w hc hf f0 hP
    obtain ⟨p1, p2, p3, p4⟩ := hP
    have R0 := RC_fr f0 hR
    have f9 : gI w 9 0 1 = nI p := ((f0 9 0 1 rfl).1).trans h9
    have f92 : gI w 9 0 2 = nI S := ((f0 9 0 2 rfl).1).trans h92
    have e1 : nI c + (1 : Int32) = nI (c + 1) := nI_add c 1
    rcases Nat.lt_or_ge c (v 0 0) with y | y
    · have lt : (nI c < gI w 8 (gR w 13 0 0) 0) = True := eq_true (by rw [TC_parts R0.1]; exact (nI_ltI (by omega) (by omega)).mpr y)
      have eb : (gI w 9 0 2 >>> (nI c &&& (31 : Int32))) &&& (1 : Int32) = zB (S.testBit c) := by rw [f92]; exact bit_zB (by omega) (by omega)
      have en := stM v p S i (c + 1)
      cases hb : S.testBit c with
      | false =>
        have q : ((gI w 9 0 2 >>> (nI c &&& (31 : Int32))) &&& (1 : Int32) = 0) = True := eq_true (by rw [eb, hb]; rfl)
        simp only [fX5_prepare_20, ↓lt, ↓q, ↓e1, ↓reduceIte, callW_eq]
        have es : stM v p S i (c + 1) = stM v p S i c := by rw [stM, hb]; simp
        rw [← es]
        refine ih (c + 1) w (by omega) (by omega) f0 ⟨fun k hk hb' => ?_, p2, p3, fun k hk => ?_⟩
        · rcases Nat.lt_or_ge k c with u | u
          · exact p1 k u hb'
          · have : k = c := by omega
            subst this
            rw [hb] at hb'; cases hb'
        · rw [p4 k hk]
          by_cases u : k = c
          · subst u
            rw [if_neg (fun z => by omega), if_neg (fun z => by rw [hb] at z; cases z.2)]
          · by_cases u2 : k < c ∧ S.testBit k = true
            · rw [if_pos u2, if_pos (show k < c + 1 ∧ S.testBit k = true from ⟨by omega, u2.2⟩)]
            · rw [if_neg u2, if_neg (fun z => u2 ⟨by omega, z.2⟩)]
      | true =>
        have q : ((gI w 9 0 2 >>> (nI c &&& (31 : Int32))) &&& (1 : Int32) = 0) = False := eq_false (by rw [eb, hb]; decide)
        have lq : ldR (nI c) 8 0 = some c := by rw [ldRn (by omega) (by omega)]; rfl
        have gu : pX9_knownUntil N 0 (gI w 9 0 1) (nI c) (nI (v 0 5 + i)) w = some (nI (utN v p c (v 0 5 + i) (v 0 6)), w) := by
          rw [f9]
          exact c_knownUntil R0 hF hN hp (by omega) (by omega)
        have hge := utN_ge v p c (v 0 5 + i) (v 0 6)
        have es : nI (utN v p c (v 0 5 + i) (v 0 6)) - gI w 13 0 1 = nI (utN v p c (v 0 5 + i) (v 0 6) - v 0 5) := by
          rw [SC_night R0.2]
          have e : utN v p c (v 0 5 + i) (v 0 6) = utN v p c (v 0 5 + i) (v 0 6) - v 0 5 + v 0 5 := by omega
          conv => lhs; arg 1; rw [e, ← nI_add]
          exact Int32.add_sub_cancel _ _
        have s3 : ∀ x, stI w 43 c (nI i) 8 x = some (setI w 43 c i x) := fun x => stn (by omega) (by omega)
        simp only [fX5_prepare_20, ↓lt, ↓q, ↓bnd lq, ↓cbnd gu, ↓es, ↓bnd (s3 _), ↓reduceIte, callW_eq]
        have f3 : Fr [66, 22, 40, 43, 44] w0 (setI w 43 c i (nI (utN v p c (v 0 5 + i) (v 0 6) - v 0 5))) := Fr_setI f0 rfl
        generalize hw3 : setI w 43 c i (nI (utN v p c (v 0 5 + i) (v 0 6) - v 0 5)) = w3 at f3
        have R3 := RC_fr f3 hR
        refine ok_bind (c_fill (N := N) R3 hF hL h5 hT hN hp hi y (((f3 9 0 1 rfl).1).trans h9)) ?_
        rintro ⟨x, w4⟩ ⟨j1, j2, j3, j4⟩
        simp only at j1 j2 j3 j4
        subst j4
        obtain ⟨x0, hx0, ex0⟩ := h44 c (by omega)
        have hmx : mxO v p i c ≤ 100 := mxA_le hF p i c _
        have a44 : ∀ k, gI w4 44 0 k = gI w 44 0 k := fun k => by rw [(j1 44 0 k rfl).1, ← hw3]; rfl
        have l5 : ldI w4 44 0 (nI c) 8 = some (nI x0) := by rw [ldn (by omega) (by omega), a44, p4 c (by omega), if_neg (fun z => by omega), ex0]
        have g6 : pJ9_max_7cf53 N (nI x0) (nI (mxA v p i c (pc (v 3 c) + 1))) w4 = some (nI (if x0 < mxO v p i c then mxO v p i c else x0), w4) := c_max (by omega) (show mxO v p i c < 2 ^ 31 by omega)
        have s7 : ∀ x, stI w4 44 0 (nI c) 8 x = some (setI w4 44 0 c x) := fun x => stn (by omega) (by omega)
        have hst := stM_le hF p S i c
        have g8 : ∀ w, pJ9_max_7cf53 N (nI (stM v p S i c)) (nI (mxA v p i c (pc (v 3 c) + 1))) w = some (nI (stM v p S i (c + 1)), w) := fun w => by
          have := c_max (N := N) (w := w) (a := stM v p S i c) (b := mxO v p i c) (by omega) (by omega)
          rw [stM, if_pos hb]
          exact this
        rw [l5]
        simp only [Option.bind_some]
        rw [g6]
        simp only [Option.bind_some]
        rw [s7]
        simp only [Option.bind_some]
        rw [g8]
        simp only [Option.bind_some]
        rw [e1]
        refine ih (c + 1) _ (by omega) (by omega) (Fr_setI (Fr_trans f3 (Fr_mono j1 rfl)) rfl) ⟨fun k hk hb' => ?_, fun k j hj => ?_, fun j k a hj hk ha => ?_, fun k hk => ?_⟩
        · rw [gg_I, if_neg (by omega), (j1 43 k i rfl).1, ← hw3, gg_I]
          by_cases u : k = c
          · subst u
            refine ⟨by rw [if_pos ⟨rfl, rfl, rfl⟩], fun a ha => ?_⟩
            rw [gg_I, if_neg (by omega)]
            exact j2 a ha
          · refine ⟨by rw [if_neg (fun z => u z.2.1)]; exact (p1 k (by omega) hb').1, fun a ha => ?_⟩
            have hpa : pc (v 3 k) ≤ 8 := pc_lt (WF_beside8 hF k)
            rw [gg_I, if_neg (by omega), j3 _ (fun a' ha' => by unfold slO; omega), ← hw3, gg_I, if_neg (by omega)]
            exact (p1 k (by omega) hb').2 a ha
        · rw [gg_I, if_neg (by omega), (j1 43 k j rfl).1, ← hw3, gg_I, if_neg (fun z => hj z.2.2)]
          exact p2 k j hj
        · rw [gg_I, if_neg (by omega), j3 _ (fun a' ha' => by unfold slO; omega), ← hw3, gg_I, if_neg (by omega)]
          exact p3 j k a hj hk ha
        · rw [gg_I]
          by_cases u : k = c
          · subst u
            have hx : (gI w0 44 0 k).toInt.toNat = x0 := by rw [ex0, nI_toInt (by omega)]; rfl
            rw [if_pos ⟨rfl, rfl, rfl⟩, if_pos (show k < k + 1 ∧ S.testBit k = true from ⟨by omega, hb⟩), hx]
          · rw [if_neg (fun z => u z.2.2), a44, p4 k hk]
            by_cases u2 : k < c ∧ S.testBit k = true
            · rw [if_pos u2, if_pos (show k < c + 1 ∧ S.testBit k = true from ⟨by omega, u2.2⟩)]
            · rw [if_neg u2, if_neg (fun z => u2 ⟨by omega, z.2⟩)]
    · have : c = v 0 0 := by omega
      subst this
      have lt : (nI (v 0 0) < gI w 8 (gR w 13 0 0) 0) = False := eq_false (fun z => by
        rw [TC_parts R0.1] at z
        have := (nI_ltI (by omega) (by omega)).mp z
        omega)
      simp only [fX5_prepare_20, ↓lt, ↓reduceIte]
      exact hK w (Fr_mono f0 rfl) (fun j => (f0 41 0 j rfl).1) (fun j => (f0 45 0 j rfl).2.1) ⟨p1, p2, p3, p4⟩
end

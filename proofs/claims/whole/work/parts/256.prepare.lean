/-! ===== the class: what it prepares for a step ===== -/
/-- up to which step a part learned on step i is known -/
def unO (v : Vw) (p i k : Nat) : Nat := utN v p k (v 0 5 + i) (v 0 6) - v 0 5
theorem unO_ge (v : Vw) (p i k : Nat) : i ≤ unO v p i k := by
  have := utN_ge v p k (v 0 5 + i) (v 0 6)
  unfold unO; omega
theorem unO_le {v : Vw} (hF : WF v) (p i k : Nat) : unO v p i k ≤ i + 1000 := by
  have := utN_le v p k (v 0 5 + i) (v 0 6)
  have := WF_forget hF p
  unfold unO; omega
section
variable {N : Nat} {w : Wd} {v : Vw}
def kPr : List Nat := [66, 22, 40, 41, 43, 44, 10007]
def kPs : List Nat := [66, 22, 40, 43, 44, 10007]
/-- what step i has prepared, for the parts before c; l: the parts of L that are known still at the last step -/
def prT (w0 w : Wd) (v : Vw) (p S n L i c : Nat) : Prop :=
  (∀ k, k < c → S.testBit k = true → gI w 43 k i = nI (unO v p i k) ∧ (∀ a, a ≤ pc (v 3 k) → gI w 40 0 (slO i k a) = nI (chO v p i k a))) ∧
  (∀ k j, j ≠ i → gI w 43 k j = gI w0 43 k j) ∧ (∀ j k a, j ≠ i → k < 8 → a ≤ 8 → gI w 40 0 (slO j k a) = gI w0 40 0 (slO j k a)) ∧
  (∃ x, x < 2 ^ 31 ∧ gI w 44 0 i = nI x ∧ ∀ k, k < c → S.testBit k = true → unO v p i k ≤ x) ∧ (∀ j, j ≠ i → gI w 44 0 j = gI w0 44 0 j) ∧
  (∃ l, l < 2 ^ 8 ∧ gI w 9 0 7 = nI l ∧ ∀ k, l.testBit k = true → L.testBit k = true ∧ (k < c → S.testBit k = true → n ≤ unO v p i k + 1))
theorem c_prep23 {w0 : Wd} (hR : RC w0 0 v) (hF : WF v) (hL : WL v) (h5 : v 0 5 ≤ 1000) (hT : ∀ j, v 18 j ≤ v 0 5) (hN : 100 ≤ N) {p i S n L : Nat} (hp : p < v 0 1) (hi : i < 8) (hn1 : 1 ≤ n) (hn : n ≤ 8) (hS : S < 2 ^ 8) (h9 : gI w0 9 0 1 = nI p) (h92 : gI w0 9 0 2 = nI S) (h12 : gI w0 9 0 12 = nI n) :
    ∀ fuel c w, c ≤ v 0 0 → v 0 0 - c < fuel → Fr kPs w0 w → prT w0 w v p S n L i c → Ok (fX5_prepare_23 N (nI i) fuel (nI (v 0 5 + i)) (nI c) w) (fun w' => Fr kPs w0 w' ∧ prT w0 w' v p S n L i (v 0 0)) := by
  have h1 := WF_people hF
  have h2 := WF_parts hF
  intro fuel
  induction fuel with
  | zero => intro c _ _ h; omega
  | succ f ih =>
    intro c w hc hf f0 hP
    obtain ⟨p1, p2, p3, p4, p5, p6⟩ := hP
    have R0 := RC_fr f0 hR
    have f9 : gI w 9 0 1 = nI p := ((f0 9 0 1 rfl).1).trans h9
    have f92 : gI w 9 0 2 = nI S := ((f0 9 0 2 rfl).1).trans h92
    have e1 : nI c + (1 : Int32) = nI (c + 1) := nI_add c 1
    rcases Nat.lt_or_ge c (v 0 0) with y | y
    · have lt : (nI c < gI w 8 (gR w 13 0 0) 0) = True := eq_true (by rw [TC_parts R0.1]; exact (nI_ltI (by omega) (by omega)).mpr y)
      have eb : (gI w 9 0 2 >>> (nI c &&& (31 : Int32))) &&& (1 : Int32) = zB (S.testBit c) := by rw [f92]; exact bit_zB (by omega) (by omega)
      cases hb : S.testBit c with
      | false =>
        have q : ((gI w 9 0 2 >>> (nI c &&& (31 : Int32))) &&& (1 : Int32) = 0) = True := eq_true (by rw [eb, hb]; rfl)
        have nc : ∀ k, k < c + 1 → S.testBit k = true → k < c := fun k hk hb' => by
          rcases Nat.lt_or_ge k c with u | u
          · exact u
          · have : k = c := by omega
            subst this
            rw [hb] at hb'; cases hb'
        simp only [fX5_prepare_23, ↓lt, ↓q, ↓e1, ↓reduceIte, callW_eq]
        obtain ⟨x, x1, x2, x3⟩ := p4
        obtain ⟨l, l1, l2, l3⟩ := p6
        exact ih (c + 1) w (by omega) (by omega) f0 ⟨fun k hk hb' => p1 k (nc k hk hb') hb', p2, p3, ⟨x, x1, x2, fun k hk hb' => x3 k (nc k hk hb') hb'⟩, p5, ⟨l, l1, l2, fun k hk => ⟨(l3 k hk).1, fun a b => (l3 k hk).2 (nc k a b) b⟩⟩⟩
      | true =>
        have q : ((gI w 9 0 2 >>> (nI c &&& (31 : Int32))) &&& (1 : Int32) = 0) = False := eq_false (by rw [eb, hb]; decide)
        obtain ⟨x, x1, x2, x3⟩ := p4
        obtain ⟨l, l1, l2, l3⟩ := p6
        have hu := unO_le hF p i c
        have lq : ldR (nI c) 8 0 = some c := by rw [ldRn (by omega) (by omega)]; rfl
        have gu : pX9_knownUntil N 0 (gI w 9 0 1) (nI c) (nI (v 0 5 + i)) w = some (nI (utN v p c (v 0 5 + i) (v 0 6)), w) := by
          rw [f9]
          exact c_knownUntil R0 hF hN hp (by omega) (by omega)
        have hge := utN_ge v p c (v 0 5 + i) (v 0 6)
        have es : nI (utN v p c (v 0 5 + i) (v 0 6)) - gI w 13 0 1 = nI (unO v p i c) := by
          rw [SC_night R0.2]
          have e : utN v p c (v 0 5 + i) (v 0 6) = utN v p c (v 0 5 + i) (v 0 6) - v 0 5 + v 0 5 := by omega
          conv => lhs; arg 1; rw [e, ← nI_add]
          exact Int32.add_sub_cancel _ _
        have s3 : ∀ x, stI w 43 c (nI i) 8 x = some (setI w 43 c i x) := fun x => stn (by omega) (by omega)
        simp only [fX5_prepare_23, ↓lt, ↓q, ↓bnd lq, ↓cbnd gu, ↓es, ↓bnd (s3 _), ↓reduceIte]
        have f3 : Fr kPs w0 (setI w 43 c i (nI (unO v p i c))) := Fr_setI f0 rfl
        have a43 : ∀ k j, gI (setI w 43 c i (nI (unO v p i c))) 43 k j = if k = c ∧ j = i then nI (unO v p i c) else gI w 43 k j := fun k j => by
          rw [gg_I]
          by_cases z : k = c ∧ j = i
          · rw [if_pos ⟨rfl, z.1, z.2⟩, if_pos z]
          · rw [if_neg (fun u => z u.2), if_neg z]
        have a40 : ∀ j, gI (setI w 43 c i (nI (unO v p i c))) 40 0 j = gI w 40 0 j := fun j => by rw [gg_I, if_neg (by omega)]
        have a44 : ∀ j, gI (setI w 43 c i (nI (unO v p i c))) 44 0 j = gI w 44 0 j := fun j => by rw [gg_I, if_neg (by omega)]
        have a7 : gI (setI w 43 c i (nI (unO v p i c))) 9 0 7 = gI w 9 0 7 := by rw [gg_I, if_neg (by omega)]
        generalize setI w 43 c i (nI (unO v p i c)) = w3 at f3 a43 a40 a44 a7
        have x4 : ldI w3 44 0 (nI i) 8 = some (nI x) := by rw [ldn (by omega) (by omega), a44, x2]
        have x6 : ldI w3 43 c (nI i) 8 = some (nI (unO v p i c)) := by rw [ldn (by omega) (by omega), a43, if_pos ⟨rfl, rfl⟩]
        have g7 : pJ9_max_7cf53 N (nI x) (nI (unO v p i c)) w3 = some (nI (if x < unO v p i c then unO v p i c else x), w3) := c_max x1 (by omega)
        have s8 : ∀ z, stI w3 44 0 (nI i) 8 z = some (setI w3 44 0 i z) := fun z => stn (by omega) (by omega)
        generalize hm : (if x < unO v p i c then unO v p i c else x) = m at g7
        have hm1 : m < 2 ^ 31 := by rw [← hm]; split <;> omega
        have hm2 : x ≤ m := by rw [← hm]; split <;> omega
        have hm3 : unO v p i c ≤ m := by rw [← hm]; split <;> omega
        simp only [↓bnd x4, ↓bnd lq, ↓bnd x6, ↓cbnd g7, ↓bnd (s8 _)]
        have f8 : Fr kPs w0 (setI w3 44 0 i (nI m)) := Fr_setI f3 rfl
        have b43 : ∀ k j, gI (setI w3 44 0 i (nI m)) 43 k j = if k = c ∧ j = i then nI (unO v p i c) else gI w 43 k j := fun k j => by rw [gg_I, if_neg (by omega)]; exact a43 k j
        have b40 : ∀ j, gI (setI w3 44 0 i (nI m)) 40 0 j = gI w 40 0 j := fun j => by rw [gg_I, if_neg (by omega)]; exact a40 j
        have b44 : ∀ j, gI (setI w3 44 0 i (nI m)) 44 0 j = if j = i then nI m else gI w 44 0 j := fun j => by
          rw [gg_I]
          by_cases z : j = i
          · rw [if_pos ⟨rfl, rfl, z⟩, if_pos z]
          · rw [if_neg (fun u => z u.2.2), if_neg z]; exact a44 j
        have b7 : gI (setI w3 44 0 i (nI m)) 9 0 7 = nI l := by rw [gg_I, if_neg (by omega), a7, l2]
        generalize setI w3 44 0 i (nI m) = w8 at f8 b43 b40 b44 b7
        have x10 : ldI w8 43 c (nI i) 8 = some (nI (unO v p i c)) := by rw [ldn (by omega) (by omega), b43, if_pos ⟨rfl, rfl⟩]
        simp only [↓bnd lq, ↓bnd x10]
        have f12 : gI w8 9 0 12 = nI n := ((f8 9 0 12 rfl).1).trans h12
        have ed : gI w8 9 0 12 - (1 : Int32) = nI (n - 1) := by
          rw [f12]
          exact (dn_sub n).trans (if_neg (by omega))
        /- behind the test -/
        have fin : ∀ w9 l', Fr kPs w0 w9 → (∀ k j, gI w9 43 k j = if k = c ∧ j = i then nI (unO v p i c) else gI w 43 k j) → (∀ j, gI w9 40 0 j = gI w 40 0 j) → (∀ j, gI w9 44 0 j = if j = i then nI m else gI w 44 0 j) → gI w9 9 0 7 = nI l' → l' < 2 ^ 8 → (∀ k, l'.testBit k = true → L.testBit k = true ∧ (k < c + 1 → S.testBit k = true → n ≤ unO v p i k + 1)) → Ok (fX5_prepare_89 N (nI i) (fX5_prepare_23 N (nI i) f) (nI (v 0 5 + i)) (nI c) w9) (fun w' => Fr kPs w0 w' ∧ prT w0 w' v p S n L i (v 0 0)) := by
          intro w9 l' f9' c43 c40 c44 c7 cl1 cl2
          have R9 := RC_fr f9' hR
          unfold fX5_prepare_89
          rw [callW_eq]
          refine ok_bind (c_fill (N := N) R9 hF hL h5 hT hN hp hi y (((f9' 9 0 1 rfl).1).trans h9)) ?_
          rintro w10 ⟨j1, j2, j3⟩
          have d43 : ∀ k j, gI w10 43 k j = if k = c ∧ j = i then nI (unO v p i c) else gI w 43 k j := fun k j => ((j1 43 k j rfl).1).trans (c43 k j)
          have d44 : ∀ j, gI w10 44 0 j = if j = i then nI m else gI w 44 0 j := fun j => ((j1 44 0 j rfl).1).trans (c44 j)
          have d7 : gI w10 9 0 7 = nI l' := ((j1 9 0 7 rfl).1).trans c7
          rw [e1]
          refine ih (c + 1) w10 (by omega) (by omega) (Fr_trans f9' (Fr_mono j1 rfl)) ⟨fun k hk hb' => ?_, fun k j hj => ?_, fun j k a hj hk ha => ?_, ⟨m, hm1, ?_, fun k hk hb' => ?_⟩, fun j hj => ?_, ⟨l', cl1, d7, cl2⟩⟩
          · rw [d43]
            by_cases u : k = c
            · subst u
              exact ⟨if_pos ⟨rfl, rfl⟩, j2⟩
            · rw [if_neg (fun z => u z.1)]
              have hpa : pc (v 3 k) ≤ 8 := pc_lt (WF_beside8 hF k)
              have hq := p1 k (by omega) hb'
              refine ⟨hq.1, fun a ha => ?_⟩
              rw [j3 _ (fun a' ha' => by unfold slO; omega), c40]
              exact hq.2 a ha
          · rw [d43, if_neg (fun z => hj z.2)]
            exact p2 k j hj
          · rw [j3 _ (fun a' ha' => by unfold slO; omega), c40]
            exact p3 j k a hj hk ha
          · rw [d44, if_pos rfl]
          · rcases Nat.lt_or_ge k c with u | u
            · have := x3 k u hb'
              omega
            · have : k = c := by omega
              subst this; exact hm3
          · rw [d44, if_neg hj]; exact p5 j hj
        by_cases z : unO v p i c < n - 1
        · have lt2 : (nI (unO v p i c) < gI w8 9 0 12 - (1 : Int32)) = True := eq_true (by rw [ed]; exact (nI_ltI (by omega) (by omega)).mpr z)
          have e7 : gI w8 9 0 7 &&& (((1 : Int32) <<< (nI c &&& (31 : Int32))) ^^^ (-1 : Int32)) = nI (l ^^^ (l &&& 2 ^ c)) := by
            have e2 : (1 : Int32) <<< (nI c &&& (31 : Int32)) = nI (2 ^ c) := by
              rw [li1, li31, nz_and]
              exact nz_shl (by omega)
            rw [b7, e2]
            exact nz_not (by omega)
          simp only [↓lt2, ↓e7, ↓reduceIte]
          rw [callW_eq]
          refine fin (setI w8 9 0 7 (nI (l ^^^ (l &&& 2 ^ c)))) (l ^^^ (l &&& 2 ^ c)) (Fr_setI f8 rfl) (fun k j => by rw [gg_I, if_neg (by omega)]; exact b43 k j) (fun j => by rw [gg_I, if_neg (by omega)]; exact b40 j) (fun j => by rw [gg_I, if_neg (by omega)]; exact b44 j) (by rw [gg_I, if_pos ⟨rfl, rfl, rfl⟩]) (andnot_lt l1) (fun k hk => ?_)
          rw [bit_andnot, Bool.and_eq_true, Nat.testBit_two_pow] at hk
          have hkc : c ≠ k := fun e => by
            have := hk.2
            rw [decide_eq_true e] at this
            cases this
          exact ⟨(l3 k hk.1).1, fun a b => (l3 k hk.1).2 (by omega) b⟩
        · have lt2 : (nI (unO v p i c) < gI w8 9 0 12 - (1 : Int32)) = False := eq_false (fun u => by
            rw [ed] at u
            exact z ((nI_ltI (by omega) (by omega)).mp u))
          simp only [↓lt2, ↓reduceIte]
          rw [callW_eq]
          refine fin w8 l f8 b43 b40 b44 b7 l1 (fun k hk => ⟨(l3 k hk).1, fun a b => ?_⟩)
          rcases Nat.lt_or_ge k c with u | u
          · exact (l3 k hk).2 u b
          · have : k = c := by omega
            subst this; omega
    · have : c = v 0 0 := by omega
      subst this
      have lt : (nI (v 0 0) < gI w 8 (gR w 13 0 0) 0) = False := eq_false (fun z => by
        rw [TC_parts R0.1] at z
        have := (nI_ltI (by omega) (by omega)).mp z
        omega)
      simp only [fX5_prepare_23, ↓lt, ↓reduceIte]
      exact ok_some ⟨f0, p1, p2, p3, p4, p5, p6⟩
end

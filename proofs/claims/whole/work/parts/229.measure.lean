/-! ===== the class's table of ways with guides ===== -/
def lXT (w : Wd) (X : Nat → Nat → Nat) (M : Nat → Nat) : Prop := (∀ k g, k < 8 → g < 6 → gI w 25 k g = nI (X k g)) ∧ ∀ k, k < 8 → gI w 26 0 k = nI (M k)
def MJ (D : Nat → Nat) (X : Nat → Nat → Nat) (M : Nat → Nat) : Prop :=
  (∀ k g, k < 8 → g < 6 → X k g ≤ 1048576 ∧ lT D k g ≤ X k g ∧ M k ≤ X k g) ∧ (∀ k, k < 8 → M k ≤ 1048576 ∧ (M k = 1048576 ∨ ∃ g, g < 6 ∧ M k = X k g))
def lb (X : Nat → Nat → Nat) (M : Nat → Nat) (E : Nat → Bool) (g : Nat) : Nat → Nat
  | 0 => 1048576
  | n + 1 => if E n = true then (if 1 + (if M n + 16 < X n g then M n + 16 else X n g) < lb X M E g n then 1 + (if M n + 16 < X n g then M n + 16 else X n g) else lb X M E g n) else lb X M E g n
theorem lb_spec (X : Nat → Nat → Nat) (M : Nat → Nat) (E : Nat → Bool) (g n : Nat) : lb X M E g n ≤ 1048576 ∧ (∀ k, k < n → E k = true → lb X M E g n ≤ 1 + X k g ∧ lb X M E g n ≤ 1 + M k + 16) ∧ (lb X M E g n = 1048576 ∨ ∃ k, k < n ∧ E k = true ∧ (lb X M E g n = 1 + X k g ∨ lb X M E g n = 1 + M k + 16)) := by
  induction n with
  | zero => exact ⟨Nat.le_refl _, fun k h => by omega, Or.inl rfl⟩
  | succ n ih =>
    obtain ⟨i1, i2, i3⟩ := ih
    rw [lb]
    cases hE : E n with
    | false =>
      simp only [Bool.false_eq_true, if_false]
      refine ⟨i1, fun k hk he => ?_, ?_⟩
      · rcases Nat.lt_or_ge k n with q | q
        · exact i2 k q he
        · have : k = n := by omega
          subst this; rw [hE] at he; cases he
      · rcases i3 with i3 | ⟨k, a, b, c⟩
        · exact Or.inl i3
        · exact Or.inr ⟨k, by omega, b, c⟩
    | true =>
      simp only [if_true]
      have hy : ∃ Y, Y = (if M n + 16 < X n g then M n + 16 else X n g) ∧ Y ≤ X n g ∧ Y ≤ M n + 16 ∧ (Y = X n g ∨ Y = M n + 16) := by
        refine ⟨_, rfl, ?_⟩
        split <;> omega
      obtain ⟨Y, hY, y1, y2, y3⟩ := hy
      rw [← hY]
      by_cases q : 1 + Y < lb X M E g n
      · rw [if_pos q]
        refine ⟨by omega, fun k hk he => ?_, Or.inr ⟨n, by omega, hE, by omega⟩⟩
        rcases Nat.lt_or_ge k n with z | z
        · have := i2 k z he; omega
        · have : k = n := by omega
          subst this; omega
      · rw [if_neg q]
        refine ⟨i1, fun k hk he => ?_, ?_⟩
        · rcases Nat.lt_or_ge k n with z | z
          · exact i2 k z he
          · have : k = n := by omega
            subst this; omega
        · rcases i3 with i3 | ⟨k, a, b, c⟩
          · exact Or.inl i3
          · exact Or.inr ⟨k, by omega, b, c⟩
section
variable {N : Nat} {w : Wd} {v : Vw} {kn : Nat → Nat} {to : Nat} {D : Nat → Nat}
theorem l8 {k : Nat} (h : k < 8) : ldR (nI k) 8 0 = some k := by rw [ldRn h (by omega)]; rfl
theorem c_min {a b : Nat} (ha : a < 2 ^ 31) (hb : b < 2 ^ 31) : pJ9_min_7cf53 N (nI a) (nI b) w = some (nI (if b < a then b else a), w) := by
  rw [pJ9_min_7cf53]
  by_cases q : b < a
  · rw [if_pos ((nI_ltI hb ha).mpr q), if_pos q]
  · rw [if_neg (fun z => q ((nI_ltI hb ha).mp z)), if_neg q]
theorem c_leastBehind (hR : RC w 0 v) (hF : WF v) (hN : 100 ≤ N) {X : Nat → Nat → Nat} {M : Nat → Nat} (hX : lXT w X M) (hM : MJ D X M) {k g : Nat} (hk : k < v 0 0) (hg : g < 6) :
    pX2_leastBehind N (nI k) (nI g) w = some (nI (lb X M (fun n => (v 3 k).testBit n) g (v 0 0)), w) := by
  have h2 := WF_parts hF
  have hb8 := WF_beside8 hF k
  have key : ∀ fuel c, c ≤ v 0 0 → v 0 0 - c < fuel → fX2_leastBehind_4 N (nI k) (nI g) fuel (nI (lb X M (fun n => (v 3 k).testBit n) g c)) (nI c) w = some (nI (lb X M (fun n => (v 3 k).testBit n) g (v 0 0)), w) := by
    intro fuel
    induction fuel with
    | zero => intro c _ h; omega
    | succ f ih =>
      intro c hc hf
      have e1 : nI c + (1 : Int32) = nI (c + 1) := nI_add c 1
      rcases Nat.lt_or_ge c (v 0 0) with h | h
      · have lt : (nI c < gI w 8 (gR w 13 0 0) 0) = True := eq_true (by rw [TC_parts hR.1]; exact (nI_ltI (by omega) (by omega)).mpr h)
        have l1 : ldI w 32 (gR w 13 0 0) (nI k) 8 = some (nI (v 3 k)) := by rw [ldn (by omega) (by omega), TC_beside hR.1 k hk]
        have eb : ((nI (v 3 k) >>> (nI c &&& (31 : Int32))) &&& (1 : Int32)) = zB ((v 3 k).testBit c) := by
          rw [li31, li1, nz_and, nz_bit (by omega) (by omega)]; rfl
        have e := ih (c + 1) (by omega) (by omega)
        rw [lb] at e
        cases z : (v 3 k).testBit c with
        | false =>
          rw [z] at eb
          have z0 : (zB false = 0) = True := eq_true rfl
          simp only [fX2_leastBehind_4, ↓lt, ↓bnd l1, ↓eb, ↓z0, ↓reduceIte, callW_eq, ↓e1]
          simpa [z] using e
        | true =>
          rw [z] at eb
          have z0 : (zB true = 0) = False := eq_false (by decide)
          have l2 := l8 (show c < 8 by omega)
          have l3 : ldI w 25 c (nI g) 6 = some (nI (X c g)) := by rw [ldn hg (by omega), hX.1 c g (by omega) hg]
          have l4 : ldI w 26 0 (nI c) 8 = some (nI (M c)) := by rw [ldn (by omega) (by omega), hX.2 c (by omega)]
          have b1 := (hM.1 c g (by omega) hg).1
          have b2 := (hM.2 c (by omega)).1
          have b3 := (lb_spec X M (fun n => (v 3 k).testBit n) g c).1
          have g5 := c_min (N := N) (w := w) (a := X c g) (b := M c + 16) (by omega) (by omega)
          have e16 : nI (M c) + (16 : Int32) = nI (M c + 16) := nI_add _ 16
          rw [← e16] at g5
          have g6 := c_min (N := N) (w := w) (a := lb X M (fun n => (v 3 k).testBit n) g c) (b := 1 + (if M c + 16 < X c g then M c + 16 else X c g)) (by omega) (by split <;> omega)
          have e17 : (1 : Int32) + nI (if M c + 16 < X c g then M c + 16 else X c g) = nI (1 + (if M c + 16 < X c g then M c + 16 else X c g)) := nI_add 1 _
          rw [← e17] at g6
          simp only [fX2_leastBehind_4, ↓lt, ↓bnd l1, ↓eb, ↓z0, ↓bnd l2, ↓bnd l3, ↓bnd l4, ↓cbnd g5, ↓cbnd g6, ↓reduceIte, callW_eq, ↓e1]
          simpa [z] using e
      · have : c = v 0 0 := by omega
        subst this
        have lt : (nI (v 0 0) < gI w 8 (gR w 13 0 0) 0) = False := eq_false (by rw [TC_parts hR.1]; exact fun z => by have := (nI_ltI (by omega) (by omega)).mp z; omega)
        simp only [fX2_leastBehind_4, ↓lt, ↓reduceIte]
  unfold pX2_leastBehind
  rw [callW_eq, li0]
  exact key N 0 (by omega) (by omega)
/-- a least number from behind is sound -/
theorem lb_sound (hF : WF v) (hD : FD v kn to D) (ht : to < 8) {X : Nat → Nat → Nat} {M : Nat → Nat} (hM : MJ D X M) {k g : Nat} (hk : k < 8) (hg : g < 6) (hn : (kn g).testBit k = true) : lT D k g ≤ lb X M (fun n => (v 3 k).testBit n) g (v 0 0) := by
  have h2 := WF_parts hF
  have hb := ph_bd (D (7 * k + g))
  rcases (lb_spec X M (fun n => (v 3 k).testBit n) g (v 0 0)).2.2 with e | ⟨n, a, b, c⟩
  · rw [e]; exact hb
  · have h1 := lT_le hD ht hk (show g < 7 by omega) (show n < 8 by omega) (show g < 7 by omega) hn b
    rw [if_pos rfl] at h1
    have h3 := (hM.1 n g (by omega) hg).2.1
    rcases c with c | c
    · omega
    · rcases (hM.2 n (by omega)).2 with q | ⟨g', hg', q⟩
      · have : lT D k g ≤ 1048576 := hb
        omega
      · have h4 := lT_le hD ht hk (show g < 7 by omega) (show n < 8 by omega) (show g' < 7 by omega) hn b
        have h5 := (hM.1 n g' (by omega) hg').2.1
        split at h4 <;> omega
def kM2 : List Nat := [25, 26]
theorem c_isKnown {k g : Nat} (hk : k < 32) (hg : g < 6) (hkn : gI w 23 0 g = nI (kn g)) (h8 : kn g < 2 ^ 8) : pX2_isKnown N (nI k) (nI g) w = some (zB ((kn g).testBit k), w) := by
  have l1 : ldI w 23 0 (nI g) 6 = some (nI (kn g)) := by rw [ldn hg (by omega), hkn]
  have eb : ((nI (kn g) >>> (nI k &&& (31 : Int32))) &&& (1 : Int32)) = zB ((kn g).testBit k) := by
    rw [li31, li1, nz_and, nz_bit (by omega) (by omega)]; rfl
  cases z : (kn g).testBit k with
  | false =>
    rw [z] at eb
    have z0 : (zB false = 0) = True := eq_true rfl
    simp only [pX2_isKnown, ↓bnd l1, ↓eb, ↓z0, ↓reduceIte]
    rfl
  | true =>
    rw [z] at eb
    have z0 : (zB true = 0) = False := eq_false (by decide)
    simp only [pX2_isKnown, ↓bnd l1, ↓eb, ↓z0, ↓reduceIte]
    rfl
def sJ (w0 : Wd) (v : Vw) (kn : Nat → Nat) (D : Nat → Nat) (X0 : Nat → Nat → Nat) (M0 : Nat → Nat) (k d m : Nat) (w : Wd) : Prop :=
  Fr kM2 w0 w ∧ ∃ X M, lXT w X M ∧ MJ D X M ∧ (∀ k g, k < 8 → g < 6 → X k g ≤ X0 k g) ∧ (∀ k, k < 8 → M k ≤ M0 k) ∧ (m = 0 → (∀ k g, k < 8 → g < 6 → X k g = X0 k g) ∧ ∀ k, k < 8 → M k = M0 k) ∧
    ∀ g n, g < d → n < 8 → (kn g).testBit k = true → (v 3 k).testBit n = true → X k g ≤ 1 + X0 n g ∧ X k g ≤ 1 + M0 n + 16
theorem c_shorten {w0 : Wd} (hR0 : RC w0 0 v) (hF : WF v) (hD : FD v kn to D) (ht : to < 8) (hN : 100 ≤ N) (hkn : ∀ g, g < v 0 1 → gI w0 23 0 g = nI (kn g)) (h8 : ∀ g, kn g < 2 ^ 8) {X0 : Nat → Nat → Nat} {M0 : Nat → Nat} (hX0 : lXT w0 X0 M0) (hM0 : MJ D X0 M0) {k : Nat} (hk : k < v 0 0) :
    Ok (pX2_shorten N (nI k) w0) (fun r => ∃ m, m ≤ 1 ∧ r.1 = nI m ∧ sJ w0 v kn D X0 M0 k (v 0 1) m r.2) := by
  have h1 := WF_people hF
  have h2 := WF_parts hF
  have key : ∀ fuel d m w, d ≤ v 0 1 → v 0 1 - d < fuel → m ≤ 1 → sJ w0 v kn D X0 M0 k d m w → Ok (fX2_shorten_4 N (nI k) fuel (nI m) (nI d) w) (fun r => ∃ m, m ≤ 1 ∧ r.1 = nI m ∧ sJ w0 v kn D X0 M0 k (v 0 1) m r.2) := by
    intro fuel
    induction fuel with
    | zero => intro d m w _ h; omega
    | succ f ih =>
      intro d m w hd hf hm hI
      obtain ⟨i1, X, M, i2, i3, i4, i5, i6, i7⟩ := hI
      have hR := RC_fr i1 hR0
      have e1 : nI d + (1 : Int32) = nI (d + 1) := nI_add d 1
      rcases Nat.lt_or_ge d (v 0 1) with h | h
      · have lt : (nI d < gI w 10 (gR w 13 0 0) 0) = True := eq_true (by rw [TC_people hR.1]; exact (nI_ltI (by omega) (by omega)).mpr h)
        have gk := c_isKnown (N := N) (w := w) (kn := kn) (k := k) (g := d) (by omega) (by omega) (((i1 23 0 d rfl).1).trans (hkn d h)) (h8 d)
        have hxd := i3.1 k d (by omega) (by omega)
        have hmk := (i3.2 k (by omega)).1
        have l1 := l8 (show k < 8 by omega)
        have l2 : ldI w 25 k (nI d) 6 = some (nI (X k d)) := by rw [ldn (by omega) (by omega), i2.1 k d (by omega) (by omega)]
        /- once the new number stands -/
        have fin : ∀ Y, Y ≤ 1048576 → (Y < X k d → lT D k d ≤ Y) → ((kn d).testBit k = true → ∀ n, n < 8 → (v 3 k).testBit n = true → Y ≤ 1 + X n d ∧ Y ≤ 1 + M n + 16) →
            Ok (fX2_shorten_22 N (nI k) (fX2_shorten_4 N (nI k) f) (nI m) (nI d) (nI Y) w) (fun r => ∃ m, m ≤ 1 ∧ r.1 = nI m ∧ sJ w0 v kn D X0 M0 k (v 0 1) m r.2) := by
          intro Y hY hs hc
          have hf1 : v 0 1 - (d + 1) < f := by omega
          by_cases q : Y < X k d
          · have q' : (nI Y < nI (X k d)) = True := eq_true ((nI_ltI (by omega) (by omega)).mpr q)
            have s4 : stI w 25 k (nI d) 6 (nI Y) = some (setI w 25 k d (nI Y)) := stn (by omega) (by omega)
            have l5 : ldI (setI w 25 k d (nI Y)) 26 0 (nI k) 8 = some (nI (M k)) := by rw [ldn (by omega) (by omega), gg_I, if_neg (by omega), i2.2 k (by omega)]
            have g6 := c_min (N := N) (w := setI w 25 k d (nI Y)) (a := M k) (b := Y) (by omega) (by omega)
            have s7 : ∀ x, stI (setI w 25 k d (nI Y)) 26 0 (nI k) 8 x = some (setI (setI w 25 k d (nI Y)) 26 0 k x) := fun x => stn (by omega) (by omega)
            simp only [fX2_shorten_22, ↓bnd l1, ↓bnd l2, ↓q', ↓bnd s4, ↓bnd l5, ↓cbnd g6, ↓bnd (s7 _), ↓reduceIte, ↓e1, li1]
            refine ih (d + 1) 1 _ (by omega) hf1 (by omega) ⟨Fr_setI (Fr_setI i1 rfl) rfl, fun k' g' => if k' = k ∧ g' = d then Y else X k' g', fun k' => if k' = k then (if Y < M k then Y else M k) else M k', ⟨?_, ?_⟩, ⟨?_, ?_⟩, ?_, ?_, ?_, ?_⟩
            · intro k' g' a b
              dsimp only
              rw [gg_I, if_neg (by omega), gg_I]
              by_cases y : k' = k ∧ g' = d
              · rw [if_pos ⟨rfl, y.1, y.2⟩, if_pos y]
              · rw [if_neg (fun z => y ⟨z.2.1, z.2.2⟩), if_neg y]; exact i2.1 k' g' a b
            · intro k' a
              dsimp only
              rw [gg_I]
              by_cases y : k' = k
              · rw [if_pos ⟨rfl, rfl, y⟩, if_pos y]
              · rw [if_neg (fun z => y z.2.2), gg_I, if_neg (by omega), if_neg y]; exact i2.2 k' a
            · intro k' g' a b
              have old := i3.1 k' g' a b
              dsimp only
              by_cases y : k' = k
              · subst y
                by_cases y2 : g' = d
                · subst y2
                  simp only [and_self, if_true]
                  refine ⟨hY, hs q, ?_⟩
                  split <;> omega
                · simp only [y2, and_false, if_false, if_true]
                  refine ⟨old.1, old.2.1, ?_⟩
                  split <;> omega
              · simp only [y, false_and, if_false]; exact old
            · intro k' a
              obtain ⟨o1, o2⟩ := i3.2 k' a
              dsimp only
              by_cases y : k' = k
              · subst y
                simp only [if_true]
                by_cases y3 : Y < M k'
                · rw [if_pos y3]
                  clear o2
                  exact ⟨by omega, Or.inr ⟨d, by omega, by simp⟩⟩
                · rw [if_neg y3]
                  refine ⟨o1, ?_⟩
                  rcases o2 with z | ⟨g', a1, a2⟩
                  · exact Or.inl z
                  · right
                    by_cases y4 : g' = d
                    · subst y4
                      omega
                    · exact ⟨g', a1, by simp [y4, a2]⟩
              · simp only [y, if_false]
                refine ⟨o1, ?_⟩
                rcases o2 with z | ⟨g', a1, a2⟩
                · exact Or.inl z
                · exact Or.inr ⟨g', a1, by simp [y, a2]⟩
            · intro k' g' a b
              have := i4 k' g' a b
              dsimp only
              by_cases y : k' = k ∧ g' = d
              · rw [if_pos y]
                obtain ⟨rfl, rfl⟩ := y
                omega
              · rw [if_neg y]; exact this
            · intro k' a
              have := i5 k' a
              dsimp only
              by_cases y : k' = k
              · subst y
                rw [if_pos rfl]
                split <;> omega
              · rw [if_neg y]; exact this
            · intro z; omega
            · intro g' n a b c1 c2
              dsimp only
              by_cases y : g' = d
              · subst y
                rw [if_pos ⟨rfl, rfl⟩]
                have := hc c1 n b c2
                have t1 := i4 n g' b (by omega)
                have t2 := i5 n b
                omega
              · rw [if_neg (fun z => y z.2)]
                exact i7 g' n (by omega) b c1 c2
          · have q' : (nI Y < nI (X k d)) = False := eq_false (fun z => q ((nI_ltI (by omega) (by omega)).mp z))
            simp only [fX2_shorten_22, ↓bnd l1, ↓bnd l2, ↓q', ↓reduceIte, ↓e1]
            refine ih (d + 1) m w (by omega) hf1 hm ⟨i1, X, M, i2, i3, i4, i5, i6, fun g' n a b c1 c2 => ?_⟩
            by_cases y : g' = d
            · subst y
              have := hc c1 n b c2
              have t1 := i4 n g' b (by omega)
              have t2 := i5 n b
              omega
            · exact i7 g' n (by omega) b c1 c2
        cases z : (kn d).testBit k with
        | false =>
          rw [z] at gk
          have z0 : (zB false = 0) = True := eq_true rfl
          simp only [fX2_shorten_4, ↓lt, ↓cbnd gk, ↓z0, ↓reduceIte, callW_eq, li1048576]
          exact fin 1048576 (by omega) (fun q => by omega) (fun y => by rw [z] at y; cases y)
        | true =>
          rw [z] at gk
          have z0 : (zB true = 0) = False := eq_false (by decide)
          have gl := c_leastBehind (N := N) hR hF hN i2 i3 hk (show d < 6 by omega)
          obtain ⟨s1, s2, s3⟩ := lb_spec X M (fun n => (v 3 k).testBit n) d (v 0 0)
          simp only [fX2_shorten_4, ↓lt, ↓cbnd gk, ↓z0, ↓cbnd gl, ↓reduceIte, callW_eq]
          refine fin _ s1 (fun _ => lb_sound hF hD ht i3 (by omega) (by omega) z) (fun _ n hn he => ?_)
          exact s2 n (adj_lt hF he).2 he
      · have : d = v 0 1 := by omega
        subst this
        have lt : (nI (v 0 1) < gI w 10 (gR w 13 0 0) 0) = False := eq_false (by rw [TC_people hR.1]; exact fun z => by have := (nI_ltI (by omega) (by omega)).mp z; omega)
        have hz : retZ (nI m) w = some (nI m, w) := by
          rcases (show m = 0 ∨ m = 1 by omega) with rfl | rfl <;> rfl
        simp only [fX2_shorten_4, ↓lt, ↓reduceIte, hz]
        exact ok_some ⟨m, hm, rfl, i1, X, M, i2, i3, i4, i5, i6, i7⟩
  unfold pX2_shorten
  rw [callW_eq, li0]
  exact key N 0 0 w0 (by omega) (by omega) (by omega) ⟨Fr_refl _ _, X0, M0, hX0, hM0, fun _ _ _ _ => Nat.le_refl _, fun _ _ => Nat.le_refl _, fun _ => ⟨fun _ _ _ _ => rfl, fun _ _ => rfl⟩, fun g n h => by omega⟩
end

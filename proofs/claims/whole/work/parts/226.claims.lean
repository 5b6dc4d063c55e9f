/-! ===== claims. e : Vw beside v; row 0: 3 how many; rows 4, 5, 6: who, when, where ===== -/
theorem wk_rev {A : Nat → Bool} {E : Nat → Nat → Bool} (hs : ∀ a b, E a b = E b a) : ∀ n a b, wk A E n a b → wk A E n b a := by
  intro n
  induction n with
  | zero => intro a b h; exact ⟨h.1.symm, h.1 ▸ h.2⟩
  | succ n ih =>
    intro a b h
    obtain ⟨hA, c, gc, e⟩ := h
    have h1 : wk A E 1 b c := ⟨wk_end gc, b, ⟨rfl, hA⟩, by rw [hs]; exact e⟩
    have := wk_cat h1 (ih a c gc)
    rw [Nat.add_comm] at this
    exact this
theorem gD_le {g : Nat → Nat} {P al f t n : Nat} (hg : ∀ c t, (g c).testBit t = true → c < P) (hn : n < 8) (h : wk (fun k => al.testBit k) (fun c b => (g c).testBit b) n f t) : gD g P al f t ≤ n := by
  have hb : (rch g P al f n).testBit t = true := (rch_iff hg n t).mpr ⟨n, Nat.le_refl _, h⟩
  rcases fnd_spec (fun s => (rch g P al f s).testBit t) 8 0 with q | q
  · rw [q.2 n (by omega) (by omega)] at hb; cases hb
  · rcases Nat.lt_or_ge n (fnd (fun s => (rch g P al f s).testBit t) 8 0) with y | y
    · rw [q.2.2.2 n (by omega) y] at hb; cases hb
    · exact y
theorem gD_get {g : Nat → Nat} {P al f t : Nat} (hg : ∀ c t, (g c).testBit t = true → c < P) (h : gD g P al f t < 8) : ∃ n, n ≤ gD g P al f t ∧ wk (fun k => al.testBit k) (fun c b => (g c).testBit b) n f t := by
  rcases fnd_spec (fun s => (rch g P al f s).testBit t) 8 0 with q | q
  · have : gD g P al f t = 99 := q.1
    omega
  · exact (rch_iff hg _ t).mp q.2.2.1
theorem gD_sym {v : Vw} (hF : WF v) {al : Nat} (hal : al < 2 ^ 8) (a b : Nat) : gD (v 3) (v 0 0) al a b = gD (v 3) (v 0 0) al b a := by
  have hs : ∀ a b, (v 3 a).testBit b = (v 3 b).testBit a := WF_sym hF
  have half : ∀ a b, gD (v 3) (v 0 0) al a b ≤ gD (v 3) (v 0 0) al b a := by
    intro a b
    rcases gD_lt (v 3) (v 0 0) al b a with h | h
    · obtain ⟨n, hn, hw⟩ := gD_get (adj_hg hF) h
      exact Nat.le_trans (gD_le (adj_hg hF) (by omega) (wk_rev hs n b a hw)) hn
    · rcases gD_lt (v 3) (v 0 0) al a b with q | q <;> omega
  exact Nat.le_antisymm (half a b) (half b a)
theorem beq_cm (a b : Nat) : (a == b) = (b == a) := by
  by_cases h : a = b
  · subst h; rfl
  · have h' : b ≠ a := fun z => h z.symm
    have e1 : (a == b) = false := beq_eq_false_iff_ne.mpr h
    have e2 : (b == a) = false := beq_eq_false_iff_ne.mpr h'
    rw [e1, e2]
def cn (v e : Vw) (a b : Nat) : Bool := a != b && (e 5 a == e 5 b && (if e 4 a = e 4 b then e 6 a != e 6 b else sNear v (e 6 a) (e 6 b)))
theorem cn_sym {v : Vw} (hF : WF v) (e : Vw) (a b : Nat) : cn v e a b = cn v e b a := by
  have h1 : (a != b) = (b != a) := by rw [bne, bne, beq_cm]
  have h2 : (e 5 a == e 5 b) = (e 5 b == e 5 a) := beq_cm _ _
  have h3 : (e 6 a != e 6 b) = (e 6 b != e 6 a) := by rw [bne, bne, beq_cm]
  have h4 : sNear v (e 6 a) (e 6 b) = sNear v (e 6 b) (e 6 a) := by rw [sNear, sNear, gD_sym hF (al_lt hF)]
  unfold cn
  rw [h1, h2, h3, h4]
  by_cases q : e 4 a = e 4 b
  · rw [if_pos q, if_pos q.symm]
  · rw [if_neg q, if_neg (fun z => q z.symm)]
def WC (v e : Vw) : Prop := e 0 3 ≤ 12 ∧ ∀ c, c < e 0 3 → e 4 c < 6 ∧ e 5 c ≤ 999 ∧ e 6 c < v 0 0
def CC (w : Wd) (v e : Vw) : Prop := gI w 4 0 0 = nI (e 0 3) ∧ ∀ c, c < e 0 3 → gI w 17 0 c = nI (e 4 c) ∧ gI w 18 0 c = nI (e 5 c) ∧ gI w 19 0 c = nI (e 6 c) ∧ gI w 20 0 c = nI (mkB (cn v e c) (e 0 3))
def CM (w : Wd) (e : Vw) : Prop := gI w 16 0 93 = nI (e 0 3) ∧ ∀ c, c < e 0 3 → gI w 121 0 c = nI (e 4 c) ∧ gI w 122 0 c = nI (e 5 c) ∧ gI w 123 0 c = nI (e 6 c)
/-- one more claim -/
def ce (e : Vw) (p n k : Nat) : Vw := fun r j => if r = 0 ∧ j = 3 then e 0 3 + 1 else if r = 4 ∧ j = e 0 3 then p else if r = 5 ∧ j = e 0 3 then n else if r = 6 ∧ j = e 0 3 then k else e r j
theorem ce_facts (e : Vw) (p n k : Nat) : ce e p n k 0 3 = e 0 3 + 1 ∧ ce e p n k 4 (e 0 3) = p ∧ ce e p n k 5 (e 0 3) = n ∧ ce e p n k 6 (e 0 3) = k ∧ (∀ c, c < e 0 3 → ce e p n k 4 c = e 4 c ∧ ce e p n k 5 c = e 5 c ∧ ce e p n k 6 c = e 6 c) := by
  refine ⟨by simp [ce], by simp [ce], by simp [ce], by simp [ce], fun c hc => ?_⟩
  have : ¬ c = e 0 3 := by omega
  exact ⟨by simp [ce, this], by simp [ce, this], by simp [ce, this]⟩
theorem ce_cn (v e : Vw) (p n k : Nat) {a b : Nat} (ha : a < e 0 3) (hb : b < e 0 3) : cn v (ce e p n k) a b = cn v e a b := by
  obtain ⟨_, _, _, _, f⟩ := ce_facts e p n k
  obtain ⟨a1, a2, a3⟩ := f a ha
  obtain ⟨b1, b2, b3⟩ := f b hb
  unfold cn
  rw [a1, a2, a3, b1, b2, b3]
section
variable {N : Nat} {w : Wd} {v e : Vw} {m : Nat}
def kCl : List Nat := [5000, 17, 18, 19, 20]
theorem c_clash (T : TC w m v) (hF : WF v) (hN : 100 ≤ N) (hW : WC v e) {a b : Nat} (ha : a < e 0 3) (hb : b < e 0 3) (hab : a ≠ b) (h5 : e 5 a = e 5 b)
    (hx : ∀ c, c < e 0 3 → gI w 17 0 c = nI (e 4 c) ∧ gI w 19 0 c = nI (e 6 c)) : pX0_clash N m (nI a) (nI b) w = some (zB (cn v e a b), w) := by
  have h2 := WF_parts hF
  have hw := hW.1
  obtain ⟨a1, a2, a3⟩ := hW.2 a ha
  obtain ⟨b1, b2, b3⟩ := hW.2 b hb
  have l1 : ldI w 17 0 (nI a) 12 = some (nI (e 4 a)) := by rw [ldn (by omega) (by omega), (hx a ha).1]
  have l2 : ldI w 17 0 (nI b) 12 = some (nI (e 4 b)) := by rw [ldn (by omega) (by omega), (hx b hb).1]
  have l3 : ldI w 19 0 (nI a) 12 = some (nI (e 6 a)) := by rw [ldn (by omega) (by omega), (hx a ha).2]
  have l4 : ldI w 19 0 (nI b) 12 = some (nI (e 6 b)) := by rw [ldn (by omega) (by omega), (hx b hb).2]
  have hcn : cn v e a b = if e 4 a = e 4 b then e 6 a != e 6 b else sNear v (e 6 a) (e 6 b) := by
    unfold cn
    have q1 : (a != b) = true := by simp [hab]
    have q2 : (e 5 a == e 5 b) = true := by simp [h5]
    rw [q1, q2, Bool.true_and, Bool.true_and]
  rw [hcn]
  by_cases q : e 4 a = e 4 b
  · have q' : (nI (e 4 a) = nI (e 4 b)) = True := eq_true (by rw [q])
    rw [if_pos q]
    by_cases y : e 6 a = e 6 b
    · have y' : (nI (e 6 a) = nI (e 6 b)) = True := eq_true (by rw [y])
      simp only [pX0_clash, ↓bnd l1, ↓bnd l2, ↓q', ↓bnd l3, ↓bnd l4, ↓y', ↓reduceIte]
      rw [y]; simp; rfl
    · have y' : (nI (e 6 a) = nI (e 6 b)) = False := eq_false (fun z => y ((nI_eq (by omega) (by omega)).mp z))
      have yb : (e 6 a != e 6 b) = true := by simp [y]
      simp only [pX0_clash, ↓bnd l1, ↓bnd l2, ↓q', ↓bnd l3, ↓bnd l4, ↓y', ↓reduceIte]
      rw [yb]; rfl
  · have q' : (nI (e 4 a) = nI (e 4 b)) = False := eq_false (fun z => q ((nI_eq (by omega) (by omega)).mp z))
    have gn := c_isNear (N := N) T hF hN (f := e 6 a) (t := e 6 b) (by omega) (by omega)
    rw [if_neg q]
    simp only [pX0_clash, ↓bnd l1, ↓bnd l2, ↓q', ↓bnd l3, ↓bnd l4, ↓cbnd gn, ↓reduceIte, retZ_b]
    rfl
theorem c_add12 (hC : CC w v e) (h12 : e 0 3 = 12) (a2 a3 a4 : Int32) : pX0_add N m a2 a3 a4 w = some (-nI 1, w) := by
  have lt : (gI w 4 0 0 < (12 : Int32)) = False := eq_false (by rw [hC.1, h12]; decide)
  simp only [pX0_add, ↓lt, ↓reduceIte]
  rfl
theorem c_add (T : TC w m v) (hF : WF v) (hN : 100 ≤ N) (hW : WC v e) (hC : CC w v e) {p n k : Nat} (hp : p < 6) (hn : n ≤ 999) (hk : k < v 0 0) (h12 : e 0 3 ≠ 12) :
    Ok (pX0_add N m (nI p) (nI n) (nI k) w) (fun r => Fr kCl w r.2 ∧ CC r.2 v (ce e p n k) ∧ WC v (ce e p n k) ∧ r.1 = nI (e 0 3)) := by
  have hw := hW.1
  obtain ⟨c1, c2, c3, c4, c5⟩ := ce_facts e p n k
  · have hlt : e 0 3 < 12 := by omega
    have lt : (gI w 4 0 0 < (12 : Int32)) = True := eq_true (by rw [hC.1]; exact (nI_ltI (a := e 0 3) (b := 12) (by omega) (by omega)).mpr hlt)
    have hW' : WC v (ce e p n k) := by
      refine ⟨by rw [c1]; omega, fun c hc => ?_⟩
      rw [c1] at hc
      by_cases y : c = e 0 3
      · subst y; rw [c2, c3, c4]; exact ⟨hp, hn, hk⟩
      · have := c5 c (by omega)
        rw [this.1, this.2.1, this.2.2]
        exact hW.2 c (by omega)
    have s1 : ∀ (W : Wd) kk x, stI W kk 0 (gI w 4 0 0) 12 x = some (setI W kk 0 (e 0 3) x) := fun W kk x => by rw [hC.1]; exact stn (by omega) (by omega)
    simp only [pX0_add, ↓lt, ↓bnd (s1 _ _ _), ↓reduceIte, callW_eq]
    generalize hw4 : setI (setI (setI (setI w 17 0 (e 0 3) (nI p)) 18 0 (e 0 3) (nI n)) 19 0 (e 0 3) (nI k)) 20 0 (e 0 3) (0 : Int32) = w4
    have f4 : Fr kCl w w4 := by rw [← hw4]; exact Fr_setI (Fr_setI (Fr_setI (Fr_setI (Fr_refl _ _) rfl) rfl) rfl) rfl
    have rows : ∀ c, c < e 0 3 + 1 → gI w4 17 0 c = nI (ce e p n k 4 c) ∧ gI w4 18 0 c = nI (ce e p n k 5 c) ∧ gI w4 19 0 c = nI (ce e p n k 6 c) := by
      intro c hc
      by_cases y : c = e 0 3
      · subst y
        rw [c2, c3, c4, ← hw4]
        refine ⟨?_, ?_, ?_⟩
        · rw [gg_I, if_neg (by omega), gg_I, if_neg (by omega), gg_I, if_neg (by omega), gg_I, if_pos ⟨rfl, rfl, rfl⟩]
        · rw [gg_I, if_neg (by omega), gg_I, if_neg (by omega), gg_I, if_pos ⟨rfl, rfl, rfl⟩]
        · rw [gg_I, if_neg (by omega), gg_I, if_pos ⟨rfl, rfl, rfl⟩]
      · obtain ⟨d1, d2, d3⟩ := c5 c (by omega)
        obtain ⟨g1, g2, g3, g4⟩ := hC.2 c (by omega)
        rw [d1, d2, d3, ← hw4]
        refine ⟨?_, ?_, ?_⟩
        · rw [gg_I, if_neg (by omega), gg_I, if_neg (by omega), gg_I, if_neg (by omega), gg_I, if_neg (by omega)]; exact g1
        · rw [gg_I, if_neg (by omega), gg_I, if_neg (by omega), gg_I, if_neg (by omega), gg_I, if_neg (by omega)]; exact g2
        · rw [gg_I, if_neg (by omega), gg_I, if_neg (by omega), gg_I, if_neg (by omega), gg_I, if_neg (by omega)]; exact g3
    have key : ∀ fuel c w5, c ≤ e 0 3 → e 0 3 - c < fuel → (Fr [20] w4 w5 ∧ gI w5 20 0 (e 0 3) = nI (mkB (cn v (ce e p n k) (e 0 3)) c) ∧ ∀ j, j < e 0 3 → gI w5 20 0 j = nI (mkB (cn v (ce e p n k) j) (if j < c then e 0 3 + 1 else e 0 3))) →
        Ok (fX0_add_31 N m (nI n) fuel (fX0_add_68 N) (nI (e 0 3)) (nI c) w5) (fun r => Fr kCl w r.2 ∧ CC r.2 v (ce e p n k) ∧ WC v (ce e p n k) ∧ r.1 = nI (e 0 3)) := by
      intro fuel
      induction fuel with
      | zero => intro c _ _ h; omega
      | succ f ih =>
        intro c w5 hc hf hI
        obtain ⟨i1, i2, i3⟩ := hI
        have T5 : TC w5 m v := TC_fr (Fr_trans f4 (Fr_mono i1 (l' := kCl) rfl)) T
        have e1 : nI c + (1 : Int32) = nI (c + 1) := nI_add c 1
        have rows5 : ∀ c, c < e 0 3 + 1 → gI w5 17 0 c = nI (ce e p n k 4 c) ∧ gI w5 18 0 c = nI (ce e p n k 5 c) ∧ gI w5 19 0 c = nI (ce e p n k 6 c) := fun c hc => by
          rw [(i1 17 0 c rfl).1, (i1 18 0 c rfl).1, (i1 19 0 c rfl).1]; exact rows c hc
        rcases Nat.lt_or_ge c (e 0 3) with h | h
        · have lt : (nI c < nI (e 0 3)) = True := eq_true ((nI_ltI (by omega) (by omega)).mpr h)
          have l1 : ldI w5 18 0 (nI c) 12 = some (nI (ce e p n k 5 c)) := by rw [ldn (by omega) (by omega), (rows5 c (by omega)).2.1]
          have hn5 := (hW'.2 c (by rw [c1]; omega)).2.1
          have stay : cn v (ce e p n k) (e 0 3) c = false → Ok (fX0_add_31 N m (nI n) f (fX0_add_68 N) (nI (e 0 3)) (nI (c + 1)) w5) (fun r => Fr kCl w r.2 ∧ CC r.2 v (ce e p n k) ∧ WC v (ce e p n k) ∧ r.1 = nI (e 0 3)) := by
            intro hz
            refine ih (c + 1) w5 (by omega) (by omega) ⟨i1, ?_, fun j hj => ?_⟩
            · rw [i2, mkB, hz]; simp
            · rw [i3 j hj]
              by_cases y : j = c
              · subst y
                rw [if_neg (by omega), if_pos (by omega), mkB, cn_sym hF, hz]
                simp
              · by_cases y2 : j < c
                · rw [if_pos y2, if_pos (by omega)]
                · rw [if_neg y2, if_neg (by omega)]
          by_cases q : ce e p n k 5 c = n
          · have q' : (nI (ce e p n k 5 c) = nI n) = True := eq_true (by rw [q])
            have gc := c_clash (N := N) (e := ce e p n k) T5 hF hN hW' (a := e 0 3) (b := c) (by rw [c1]; omega) (by rw [c1]; omega) (by omega) (by rw [c3, q]) (fun c hc => ⟨(rows5 c (by rw [c1] at hc; omega)).1, (rows5 c (by rw [c1] at hc; omega)).2.2⟩)
            cases z : cn v (ce e p n k) (e 0 3) c with
            | false =>
              rw [z] at gc
              have z0 : (zB false = 0) = True := eq_true rfl
              simp only [fX0_add_31, ↓lt, ↓bnd l1, ↓q', ↓cbnd gc, ↓z0, ↓reduceIte, callW_eq, ↓e1]
              exact stay z
            | true =>
              rw [z] at gc
              have z0 : (zB true = 0) = False := eq_false (by decide)
              have l3 : ldI w5 20 0 (nI (e 0 3)) 12 = some (nI (mkB (cn v (ce e p n k) (e 0 3)) c)) := by rw [ldn (by omega) (by omega), i2]
              have x1 : nI (mkB (cn v (ce e p n k) (e 0 3)) c) ||| ((1 : Int32) <<< (nI c &&& (31 : Int32))) = nI (mkB (cn v (ce e p n k) (e 0 3)) c ||| 2 ^ c) := by
                rw [li1, li31, nz_and, nz_shl (by omega), nz_or]
              have l4 : stI w5 20 0 (nI (e 0 3)) 12 (nI (mkB (cn v (ce e p n k) (e 0 3)) c) ||| ((1 : Int32) <<< (nI c &&& (31 : Int32)))) = some (setI w5 20 0 (e 0 3) (nI (mkB (cn v (ce e p n k) (e 0 3)) c ||| 2 ^ c))) := by rw [x1]; exact stn (by omega) (by omega)
              have hcj := i3 c h
              rw [if_neg (by omega)] at hcj
              have l5 : ldI (setI w5 20 0 (e 0 3) (nI (mkB (cn v (ce e p n k) (e 0 3)) c ||| 2 ^ c))) 20 0 (nI c) 12 = some (nI (mkB (cn v (ce e p n k) c) (e 0 3))) := by
                rw [ldn (by omega) (by omega), gg_I, if_neg (fun z => by have := z.2.2; omega), hcj]
              have x2 : nI (mkB (cn v (ce e p n k) c) (e 0 3)) ||| ((1 : Int32) <<< (nI (e 0 3) &&& (31 : Int32))) = nI (mkB (cn v (ce e p n k) c) (e 0 3) ||| 2 ^ e 0 3) := by
                rw [li1, li31, nz_and, nz_shl (by omega), nz_or]
              have l6 : stI (setI w5 20 0 (e 0 3) (nI (mkB (cn v (ce e p n k) (e 0 3)) c ||| 2 ^ c))) 20 0 (nI c) 12 (nI (mkB (cn v (ce e p n k) c) (e 0 3)) ||| ((1 : Int32) <<< (nI (e 0 3) &&& (31 : Int32)))) = some (setI (setI w5 20 0 (e 0 3) (nI (mkB (cn v (ce e p n k) (e 0 3)) c ||| 2 ^ c))) 20 0 c (nI (mkB (cn v (ce e p n k) c) (e 0 3) ||| 2 ^ e 0 3))) := by rw [x2]; exact stn (by omega) (by omega)
              simp only [fX0_add_31, ↓lt, ↓bnd l1, ↓q', ↓cbnd gc, ↓z0, ↓bnd l3, ↓bnd l4, ↓bnd l5, ↓bnd l6, ↓reduceIte, callW_eq, ↓e1]
              refine ih (c + 1) _ (by omega) (by omega) ⟨Fr_setI (Fr_setI i1 rfl) rfl, ?_, fun j hj => ?_⟩
              · rw [gg_I, if_neg (fun z => by have := z.2.2; omega), gg_I, if_pos ⟨rfl, rfl, rfl⟩, mkB, z]; simp
              · rw [gg_I]
                by_cases y : j = c
                · subst y
                  rw [if_pos ⟨rfl, rfl, rfl⟩, if_pos (by omega), mkB, cn_sym hF, z]; simp
                · rw [if_neg (fun z => y z.2.2), gg_I, if_neg (fun z => by have := z.2.2; omega), i3 j hj]
                  by_cases y2 : j < c
                  · rw [if_pos y2, if_pos (by omega)]
                  · rw [if_neg y2, if_neg (by omega)]
          · have q' : (nI (ce e p n k 5 c) = nI n) = False := eq_false (fun z => q ((nI_eq (by omega) (by omega)).mp z))
            simp only [fX0_add_31, ↓lt, ↓bnd l1, ↓q', ↓reduceIte, callW_eq, ↓e1]
            refine stay ?_
            unfold cn
            have : (ce e p n k 5 (e 0 3) == ce e p n k 5 c) = false := by rw [c3]; simp; omega
            rw [this]; simp
        · have : c = e 0 3 := by omega
          subst this
          have lt : (nI (e 0 3) < nI (e 0 3)) = False := eq_false (fun z => by have := (nI_ltI (by omega) (by omega)).mp z; omega)
          simp only [fX0_add_31, fX0_add_68, ↓lt, ↓reduceIte]
          have e4 : gI w5 4 0 0 = nI (e 0 3) := by
            rw [(i1 4 0 0 rfl).1, ← hw4, gg_I, if_neg (by omega), gg_I, if_neg (by omega), gg_I, if_neg (by omega), gg_I, if_neg (by omega)]; exact hC.1
          rw [e4, li1, nI_add]
          refine ok_some ⟨Fr_setI (Fr_trans f4 (Fr_mono i1 rfl)) rfl, ⟨?_, fun c hc => ?_⟩, hW', rfl⟩
          · rw [gg_I, if_pos ⟨rfl, rfl, rfl⟩, c1]
          · rw [c1] at hc ⊢
            obtain ⟨r1, r2, r3⟩ := rows5 c hc
            refine ⟨?_, ?_, ?_, ?_⟩
            · rw [gg_I, if_neg (by omega)]; exact r1
            · rw [gg_I, if_neg (by omega)]; exact r2
            · rw [gg_I, if_neg (by omega)]; exact r3
            · rw [gg_I, if_neg (by omega)]
              by_cases y : c = e 0 3
              · subst y
                have : cn v (ce e p n k) (e 0 3) (e 0 3) = false := by simp [cn]
                rw [i2, mkB, this]; simp
              · rw [i3 c (by omega), if_pos (by omega)]
    rw [hC.1, li0]
    refine key N 0 w4 (by omega) (by omega) ⟨Fr_refl _ _, ?_, fun j hj => ?_⟩
    · rw [← hw4, gg_I, if_pos ⟨rfl, rfl, rfl⟩]; rfl
    · rw [if_neg (by omega), ← hw4, gg_I, if_neg (fun z => by have := z.2.2; omega), gg_I, if_neg (by omega), gg_I, if_neg (by omega), gg_I, if_neg (by omega), (hC.2 j hj).2.2.2]
      congr 1
      exact mkB_ext (fun b hb => (ce_cn v e p n k hj hb).symm)
end

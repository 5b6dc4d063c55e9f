/-! ===== ways in a graph of at most 8 ===== -/
def wk (A : Nat → Bool) (E : Nat → Nat → Bool) : Nat → Nat → Nat → Prop
  | 0, a, b => a = b ∧ A a = true
  | n + 1, a, b => A b = true ∧ ∃ c, wk A E n a c ∧ E c b = true
def wm (A : Nat → Bool) (E : Nat → Nat → Bool) (m : Nat) : Nat → Nat → Nat → Prop
  | 0, a, b => a = b ∧ A a = true
  | n + 1, a, b => A b = true ∧ ∃ c, wm A E m n a c ∧ (n = 0 ∨ c < m) ∧ E c b = true
theorem wk_end {A : Nat → Bool} {E : Nat → Nat → Bool} {n a b : Nat} (h : wk A E n a b) : A b = true := by
  cases n with
  | zero => exact h.1 ▸ h.2
  | succ n => exact h.1
theorem wm_end {A : Nat → Bool} {E : Nat → Nat → Bool} {m n a b : Nat} (h : wm A E m n a b) : A b = true := by
  cases n with
  | zero => exact h.1 ▸ h.2
  | succ n => exact h.1
theorem wk_cat {A : Nat → Bool} {E : Nat → Nat → Bool} {i a m : Nat} (h : wk A E i a m) : ∀ {j b : Nat}, wk A E j m b → wk A E (i + j) a b := by
  intro j
  induction j with
  | zero => intro b g; exact g.1 ▸ h
  | succ j ih => intro b g; obtain ⟨hA, c, gc, e⟩ := g; exact ⟨hA, c, ih gc, e⟩
theorem wm_of_wk {A : Nat → Bool} {E : Nat → Nat → Bool} (hE : ∀ c b, E c b = true → c < 8) : ∀ {n a b : Nat}, wk A E n a b → wm A E 8 n a b := by
  intro n
  induction n with
  | zero => intro a b h; exact h
  | succ n ih => intro a b h; obtain ⟨hA, c, gc, e⟩ := h; exact ⟨hA, c, ih gc, Or.inr (hE c b e), e⟩
theorem wm_split {A : Nat → Bool} {E : Nat → Nat → Bool} {m a : Nat} : ∀ {n b : Nat}, wm A E (m + 1) n a b → wm A E m n a b ∨ ∃ i j, i + j ≤ n ∧ wm A E m i a m ∧ wm A E m j m b := by
  intro n
  induction n with
  | zero => intro b h; exact Or.inl h
  | succ n ih =>
    intro b h
    obtain ⟨hA, c, gc, hc, e⟩ := h
    rcases Nat.eq_zero_or_pos n with hn | hn
    · subst hn
      exact Or.inl ⟨hA, c, gc, Or.inl rfl, e⟩
    · have hc' : c < m + 1 := by omega
      rcases ih gc with g | ⟨i, j, hij, gi, gj⟩
      · rcases Nat.lt_or_ge c m with q | q
        · exact Or.inl ⟨hA, c, g, Or.inr q, e⟩
        · have : c = m := by omega
          subst this
          exact Or.inr ⟨n, 1, Nat.le_refl _, g, hA, c, ⟨rfl, wm_end g⟩, Or.inl rfl, e⟩
      · rcases Nat.lt_or_ge c m with q | q
        · exact Or.inr ⟨i, j + 1, by omega, gi, hA, c, gj, Or.inr q, e⟩
        · have : c = m := by omega
          subst this
          exact Or.inr ⟨i, 1, by omega, gi, hA, c, ⟨rfl, wm_end gi⟩, Or.inl rfl, e⟩
/-- what rows of a table of ways say: each is a way, none with steps below m is shorter -/
def Sn (A : Nat → Bool) (E : Nat → Nat → Bool) (r : Nat → Nat → Nat) : Prop := ∀ a b, a < 8 → b < 8 → r a b ≤ 99 ∧ (r a b < 99 → wk A E (r a b) a b)
def Cm (A : Nat → Bool) (E : Nat → Nat → Bool) (m : Nat) (r : Nat → Nat → Nat) : Prop := ∀ n a b, a < 8 → b < 8 → wm A E m n a b → r a b ≤ n
theorem cm_step {A : Nat → Bool} {E : Nat → Nat → Bool} {m : Nat} {rs r : Nat → Nat → Nat} (hm : m < 8) (h : Cm A E m rs) (h1 : ∀ a b, a < 8 → b < 8 → r a b ≤ rs a b) (h2 : ∀ a b, a < 8 → b < 8 → r a b ≤ rs a m + rs m b) : Cm A E (m + 1) r := by
  intro n a b ha hb g
  rcases wm_split g with g | ⟨i, j, hij, gi, gj⟩
  · exact Nat.le_trans (h1 a b ha hb) (h n a b ha hb g)
  · have e1 := h i a m ha hm gi
    have e2 := h j m b hm hb gj
    have := h2 a b ha hb
    omega
/-! sets that grow -/
def orB (x : Nat) (g : Nat → Nat) (f : Nat → Bool) : Nat → Nat
  | 0 => x
  | n + 1 => orB x g f n ||| if f n then g n else 0
theorem orB_bit (x : Nat) (g : Nat → Nat) (f : Nat → Bool) (n t : Nat) : (orB x g f n).testBit t = (x.testBit t || anyB (fun p => f p && (g p).testBit t) n) := by
  induction n with
  | zero => simp [orB, anyB]
  | succ n ih =>
    rw [orB, Nat.testBit_or, ih, anyB]
    cases f n <;> simp [Bool.or_assoc]
theorem orB_lt {x : Nat} {g : Nat → Nat} {f : Nat → Bool} {m : Nat} (hx : x < 2 ^ m) (hg : ∀ p, g p < 2 ^ m) (n : Nat) : orB x g f n < 2 ^ m := by
  induction n with
  | zero => exact hx
  | succ n ih =>
    rw [orB]
    apply Nat.or_lt_two_pow ih
    split
    · exact hg n
    · exact Nat.two_pow_pos _
def stp1 (g : Nat → Nat) (P al x : Nat) : Nat := orB x g (fun p => x.testBit p) P &&& al
def rch (g : Nat → Nat) (P al f : Nat) : Nat → Nat
  | 0 => 2 ^ f &&& al
  | s + 1 => stp1 g P al (rch g P al f s)
theorem rch_iff {g : Nat → Nat} {P al f : Nat} (hg : ∀ c t, (g c).testBit t = true → c < P) : ∀ s t, (rch g P al f s).testBit t = true ↔ ∃ n, n ≤ s ∧ wk (fun k => al.testBit k) (fun c b => (g c).testBit b) n f t := by
  intro s
  induction s with
  | zero =>
    intro t
    rw [rch, Nat.testBit_and, Nat.testBit_two_pow]
    constructor
    · intro h
      simp only [Bool.and_eq_true, decide_eq_true_eq] at h
      exact ⟨0, Nat.le_refl _, h.1, h.1 ▸ h.2⟩
    · rintro ⟨n, hn, h⟩
      have : n = 0 := by omega
      subst this
      obtain ⟨e, h⟩ := h
      subst e
      simpa using h
  | succ s ih =>
    intro t
    rw [rch, stp1, Nat.testBit_and, orB_bit, Bool.and_eq_true, Bool.or_eq_true, anyB_true]
    constructor
    · rintro ⟨h | ⟨p, hp, h⟩, ha⟩
      · obtain ⟨n, hn, h⟩ := (ih t).mp h
        exact ⟨n, by omega, h⟩
      · rw [Bool.and_eq_true] at h
        obtain ⟨n, hn, h'⟩ := (ih p).mp h.1
        exact ⟨n + 1, by omega, ha, p, h', h.2⟩
    · rintro ⟨n, hn, h⟩
      refine ⟨?_, wk_end h⟩
      rcases Nat.lt_or_ge s n with q | q
      · have : n = s + 1 := by omega
        subst this
        obtain ⟨hA, c, gc, e⟩ := h
        exact Or.inr ⟨c, hg c t e, by rw [Bool.and_eq_true]; exact ⟨(ih c).mpr ⟨s, Nat.le_refl _, gc⟩, e⟩⟩
      · exact Or.inl ((ih t).mpr ⟨n, q, h⟩)
theorem cnt_mono {f g : Nat → Bool} {n : Nat} (h : ∀ k, k < n → f k = true → g k = true) : cnt f n ≤ cnt g n := by
  induction n with
  | zero => exact Nat.le_refl _
  | succ n ih =>
    have := ih (fun k hk => h k (by omega))
    have h2 := h n (by omega)
    rw [cnt, cnt]
    cases hf : f n with
    | false => simp; omega
    | true => simp [h2 hf]; omega
theorem cnt_lt {f g : Nat → Bool} {n k : Nat} (h : ∀ k, k < n → f k = true → g k = true) (hk : k < n) (hf : f k = false) (hg : g k = true) : cnt f n < cnt g n := by
  induction n with
  | zero => omega
  | succ n ih =>
    rw [cnt, cnt]
    rcases Nat.lt_or_ge k n with q | q
    · have := ih (fun k hk => h k (by omega)) q
      have h2 := h n (by omega)
      cases hf : f n with
      | false => simp; omega
      | true => simp [h2 hf]; omega
    · have : k = n := by omega
      subst this
      have := cnt_mono (f := f) (g := g) (n := k) (fun k hk => h k (by omega))
      simp [hf, hg]; omega
theorem cnt_pos {f : Nat → Bool} {n k : Nat} (hk : k < n) (hf : f k = true) : 1 ≤ cnt f n := by
  have := cnt_lt (f := fun _ => false) (g := f) (n := n) (k := k) (fun _ _ h => by cases h) hk rfl hf
  omega
/-- a set within 8 that grows by a rule stands still from the seventh step on -/
theorem grow7 {A : Nat → Nat} {F : Nat → Nat} (hF : ∀ s, A (s + 1) = F (A s)) (hm : ∀ s t, (A s).testBit t = true → (A (s + 1)).testBit t = true) (h8 : ∀ s t, (A s).testBit t = true → t < 8) (h0 : ∃ t, (A 0).testBit t = true) (n t : Nat) (h : (A n).testBit t = true) : (A 7).testBit t = true := by
  have mono : ∀ d s t, (A s).testBit t = true → (A (s + d)).testBit t = true := by
    intro d
    induction d with
    | zero => intro s t h; exact h
    | succ d ih => intro s t h; exact hm _ _ (ih s t h)
  have still : ∀ j, A (j + 1) = A j → ∀ d, A (j + d) = A j := by
    intro j hj d
    induction d with
    | zero => rfl
    | succ d ih => rw [← Nat.add_assoc, hF, ih, ← hF, hj]
  have main : ∀ s, (∃ j, j ≤ s ∧ A (j + 1) = A j) ∨ s + 1 + cnt (fun k => (A 0).testBit k) 8 ≤ cnt (fun k => (A (s + 1)).testBit k) 8 := by
    have stepc : ∀ s, A (s + 1) = A s ∨ cnt (fun k => (A s).testBit k) 8 < cnt (fun k => (A (s + 1)).testBit k) 8 := by
      intro s
      by_cases e : A (s + 1) = A s
      · exact Or.inl e
      · right
        have : ∃ t, (A (s + 1)).testBit t ≠ (A s).testBit t := by
          apply Classical.byContradiction
          intro q
          apply e
          apply Nat.eq_of_testBit_eq
          intro t
          apply Classical.byContradiction
          intro q2
          exact q ⟨t, q2⟩
        obtain ⟨t, ht⟩ := this
        have h1 : (A s).testBit t = false := by
          cases q : (A s).testBit t with
          | false => rfl
          | true => exact absurd ((hm s t q).trans q.symm) ht
        have h2 : (A (s + 1)).testBit t = true := by
          cases q : (A (s + 1)).testBit t with
          | true => rfl
          | false => exact absurd (q.trans h1.symm) ht
        exact cnt_lt (fun k _ hk => hm s k hk) (h8 _ _ h2) h1 h2
    intro s
    induction s with
    | zero =>
      rcases stepc 0 with e | e
      · exact Or.inl ⟨0, Nat.le_refl _, e⟩
      · right; omega
    | succ s ih =>
      rcases ih with ⟨j, hj, e⟩ | ih
      · exact Or.inl ⟨j, by omega, e⟩
      · rcases stepc (s + 1) with e | e
        · exact Or.inl ⟨s + 1, Nat.le_refl _, e⟩
        · right; omega
  rcases main 7 with ⟨j, hj, e⟩ | q
  · rcases Nat.lt_or_ge n j with c | c
    · exact (show n + (7 - n) = 7 by omega) ▸ mono (7 - n) n t h
    · have e1 := still j e (n - j)
      have e2 := still j e (7 - j)
      rw [show j + (n - j) = n by omega] at e1
      rw [show j + (7 - j) = 7 by omega] at e2
      rw [e2, ← e1]
      exact h
  · have h1 := cnt_le (fun k => (A (7 + 1)).testBit k) 8
    obtain ⟨t0, ht0⟩ := h0
    have h2 := cnt_pos (f := fun k => (A 0).testBit k) (h8 0 t0 ht0) ht0
    omega
theorem rch_mono (g : Nat → Nat) (P al f s t : Nat) (h : (rch g P al f s).testBit t = true) : (rch g P al f (s + 1)).testBit t = true := by
  have ha : al.testBit t = true := by
    cases s with
    | zero => rw [rch, Nat.testBit_and, Bool.and_eq_true] at h; exact h.2
    | succ s => rw [rch, stp1, Nat.testBit_and, Bool.and_eq_true] at h; exact h.2
  rw [rch, stp1, Nat.testBit_and, orB_bit, h, ha]
  rfl
theorem rch_al {g : Nat → Nat} {P al f s t : Nat} (h : (rch g P al f s).testBit t = true) : al.testBit t = true := by
  cases s with
  | zero => rw [rch, Nat.testBit_and, Bool.and_eq_true] at h; exact h.2
  | succ s => rw [rch, stp1, Nat.testBit_and, Bool.and_eq_true] at h; exact h.2
theorem rch7 {g : Nat → Nat} {P al f : Nat} (hal : al < 2 ^ 8) (hg : ∀ c t, (g c).testBit t = true → c < P) {n t : Nat} (h : wk (fun k => al.testBit k) (fun c b => (g c).testBit b) n f t) : (rch g P al f 7).testBit t = true := by
  have hn : (rch g P al f n).testBit t = true := (rch_iff hg n t).mpr ⟨n, Nat.le_refl _, h⟩
  have h8 : ∀ s t, (rch g P al f s).testBit t = true → t < 8 := by
    intro s t h
    have := rch_al h
    apply Classical.byContradiction
    intro q
    rw [bit_hi hal (by omega)] at this
    cases this
  refine grow7 (A := rch g P al f) (F := stp1 g P al) (fun s => rfl) (fun s t => rch_mono g P al f s t) h8 ?_ n t hn
  have start : ∀ n t, wk (fun k => al.testBit k) (fun c b => (g c).testBit b) n f t → al.testBit f = true := by
    intro n
    induction n with
    | zero => intro t h; exact h.2
    | succ n ih => intro t h; obtain ⟨_, c, gc, _⟩ := h; exact ih c gc
  exact ⟨f, by rw [rch, Nat.testBit_and, Nat.testBit_two_pow, start n t h]; simp⟩
/-- the first of 8 at which it holds; 99: none -/
def fnd (P : Nat → Bool) : Nat → Nat → Nat
  | 0, _ => 99
  | n + 1, s => if P s then s else fnd P n (s + 1)
theorem fnd_spec (P : Nat → Bool) : ∀ n s, (fnd P n s = 99 ∧ ∀ k, s ≤ k → k < s + n → P k = false) ∨ (s ≤ fnd P n s ∧ fnd P n s < s + n ∧ P (fnd P n s) = true ∧ ∀ k, s ≤ k → k < fnd P n s → P k = false) := by
  intro n
  induction n with
  | zero => intro s; exact Or.inl ⟨rfl, fun k h1 h2 => by omega⟩
  | succ n ih =>
    intro s
    rw [fnd]
    cases hP : P s with
    | true => simp only [if_true]; exact Or.inr ⟨Nat.le_refl _, by omega, hP, fun k h1 h2 => by omega⟩
    | false =>
      simp only [Bool.false_eq_true, if_false]
      rcases ih (s + 1) with ⟨a, b⟩ | ⟨a, b, c, d⟩
      · refine Or.inl ⟨a, fun k h1 h2 => ?_⟩
        rcases Nat.lt_or_ge s k with q | q
        · exact b k (by omega) (by omega)
        · have : k = s := by omega
          subst this; exact hP
      · refine Or.inr ⟨by omega, by omega, c, fun k h1 h2 => ?_⟩
        rcases Nat.lt_or_ge s k with q | q
        · exact d k (by omega) h2
        · have : k = s := by omega
          subst this; exact hP
def gD (g : Nat → Nat) (P al f t : Nat) : Nat := fnd (fun s => (rch g P al f s).testBit t) 8 0
theorem gD_lt (g : Nat → Nat) (P al f t : Nat) : gD g P al f t < 8 ∨ gD g P al f t = 99 := by
  rcases fnd_spec (fun s => (rch g P al f s).testBit t) 8 0 with h | h
  · exact Or.inr h.1
  · exact Or.inl (by have := h.2.1; simpa [gD] using this)
theorem gD_wk {g : Nat → Nat} {P al f t : Nat} (hal : al < 2 ^ 8) (hg : ∀ c t, (g c).testBit t = true → c < P) : (gD g P al f t ≠ 99) ↔ ∃ n, wk (fun k => al.testBit k) (fun c b => (g c).testBit b) n f t := by
  rcases fnd_spec (fun s => (rch g P al f s).testBit t) 8 0 with h | h
  · constructor
    · intro q; exact absurd h.1 q
    · rintro ⟨n, hn⟩
      have := h.2 7 (by omega) (by omega)
      simp only [rch7 hal hg hn] at this
      cases this
  · constructor
    · intro _
      obtain ⟨n, _, hn⟩ := (rch_iff hg _ t).mp h.2.2.1
      exact ⟨n, hn⟩
    · intro _ q
      have h1 := h.2.1
      simp only [gD] at q
      omega
/-- the table's number is the one of the sets -/
theorem gD_tab {g : Nat → Nat} {P al f t : Nat} {r : Nat → Nat → Nat} (hP : P ≤ 8) (hal : al < 2 ^ 8) (hg : ∀ c t, (g c).testBit t = true → c < P) (hf : f < 8) (ht : t < 8)
    (hs : Sn (fun k => al.testBit k) (fun c b => (g c).testBit b) r) (hc : Cm (fun k => al.testBit k) (fun c b => (g c).testBit b) 8 r) : r f t = gD g P al f t := by
  have h0 := hs f t hf ht
  have le : ∀ n, wk (fun k => al.testBit k) (fun c b => (g c).testBit b) n f t → r f t ≤ n := fun n hn => hc n f t hf ht (wm_of_wk (fun c b e => by have := hg c b e; omega) hn)
  rcases fnd_spec (fun s => (rch g P al f s).testBit t) 8 0 with h | h
  · show r f t = fnd _ _ _
    rw [h.1]
    apply Classical.byContradiction
    intro q
    have hw := h0.2 (by omega)
    have := h.2 7 (by omega) (by omega)
    simp only [rch7 hal hg hw] at this
    cases this
  · show r f t = fnd _ _ _
    obtain ⟨n, hn, hw⟩ := (rch_iff hg _ t).mp h.2.2.1
    have h1 := le n hw
    apply Classical.byContradiction
    intro q
    have hw2 := h0.2 (by have := h.2.1; omega)
    have h3 := (rch_iff hg (r f t) t).mpr ⟨r f t, Nat.le_refl _, hw2⟩
    have := h.2.2.2 (r f t) (by omega) (by omega)
    simp only [h3] at this
    cases this

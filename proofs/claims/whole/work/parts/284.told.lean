/-! ===== parts that were told, as both read them ===== -/
section
variable {N : Nat} {w w' w0 w1 : Wd} {b : Nat → Nat} {n m d k : Nat} {u : Vw}
def nmC (w : Wd) (d : Nat) (u : Vw) : Prop := gI w 8 d 0 = nI (u 0 0) ∧ ∀ j, j < u 0 0 → gI w 30 d j = nI (u 1 j)
def nmM (w : Wd) (u : Vw) : Prop := gI w 16 0 20 = nI (u 0 0) ∧ ∀ j, j < u 0 0 → gI w 75 0 (8 + j) = nI (u 1 j)
theorem nmC_fr {l : List Nat} (f : Fr l w w') (h : nmC w d u) (hl : dis l [9000, 30] = true := by decide) : nmC w' d u :=
  ⟨by rw [Fr_I f hl (by decide)]; exact h.1, fun j hj => by rw [Fr_I f hl (by rfl)]; exact h.2 j hj⟩
theorem nmM_fr {l : List Nat} (f : Fr l w w') (h : nmM w u) (hl : dis l [17020, 75] = true := by decide) : nmM w' u :=
  ⟨by rw [Fr_I f hl (by decide)]; exact h.1, fun j hj => by rw [Fr_I f hl (by rfl)]; exact h.2 j hj⟩
/-- which part the token names -/
def ptN (u : Vw) (b : Nat → Nat) (n k : Nat) : Nat := nwN (u 1) (u 0 0) b n k
def ptF (u : Vw) (b : Nat → Nat) (n k : Nat) : Nat := if tK b n k = 62 then (if ptN u b n k < u 0 0 then 0 else 4) else 1
theorem ptF_lt (h : ptF u b n k = 0) : ptN u b n k < u 0 0 ∧ tK b n k = 62 := by
  unfold ptF at h
  by_cases y : tK b n k = 62
  · rw [if_pos y] at h
    by_cases z : ptN u b n k < u 0 0
    · exact ⟨z, y⟩
    · rw [if_neg z] at h; omega
  · rw [if_neg y] at h; omega
theorem c_told (h : JC w b n m d k) (hN : 100 ≤ N) (hn : nmC w d u) (h8 : u 0 0 ≤ 8) (hz : ptF u b n k = 0) : pX7_toldPart N w = some (nI (ptN u b n k), w) := by
  obtain ⟨hlt, y⟩ := ptF_lt hz
  have q : (gI w 14 0 8 = (-4 : Int32)) = True := (JC_is h (c := 62) (by omega)).trans (eq_true y)
  have e := JC_val h y
  have ed := h.2.2.2.2
  have gi := c_indexOf (N := N) (w := w) (k0 := 30) (i0 := d) (n := u 0 0) (L := 8) (x := gI w 14 0 10) hN rfl (by omega) (by omega)
  rw [nmI_ext (g := fun j => nI (u 1 j)) (u 0 0) 0 (fun j _ hj => hn.2 j (by omega)), nmI_N, e] at gi
  rw [if_pos (by rw [Nat.zero_add]; exact hlt)] at gi
  have gi2 : pX11_indexOf N 30 (gR w 11 0 1) (gI w 8 (gR w 11 0 1) 0) (gI w 14 0 10) w = some (nI (ptN u b n k), w) := by
    rw [ed, hn.1, e]
    exact gi
  have t : (nI (ptN u b n k) = (-1 : Int32)) = False := eq_false (nz_ne1 (by omega))
  simp only [pX7_toldPart, ↓q, ↓cbnd gi2, ↓t, ↓reduceIte]
theorem c_toldF (h : JC w b n m d k) (hN : 100 ≤ N) (hn : nmC w d u) (h8 : u 0 0 ≤ 8) (hz : ptF u b n k ≠ 0) : Ok (pX7_toldPart N w) (fun x => x.1 = (-1 : Int32) ∧ flC w x.2 (ptF u b n k) (tP b n k)) := by
  have hz' := hz
  unfold ptF at hz ⊢
  by_cases y : tK b n k = 62
  · rw [if_pos y] at hz ⊢
    have q : (gI w 14 0 8 = (-4 : Int32)) = True := (JC_is h (c := 62) (by omega)).trans (eq_true y)
    have e := JC_val h y
    have ed := h.2.2.2.2
    have hno : ¬ ptN u b n k < u 0 0 := fun z => by rw [if_pos z] at hz; exact hz rfl
    have gi := c_indexOf (N := N) (w := w) (k0 := 30) (i0 := d) (n := u 0 0) (L := 8) (x := gI w 14 0 10) hN rfl (by omega) (by omega)
    rw [nmI_ext (g := fun j => nI (u 1 j)) (u 0 0) 0 (fun j _ hj => hn.2 j (by omega)), nmI_N, e] at gi
    rw [if_neg (by rw [Nat.zero_add]; exact hno)] at gi
    have gi2 : pX11_indexOf N 30 (gR w 11 0 1) (gI w 8 (gR w 11 0 1) 0) (gI w 14 0 10) w = some ((-1 : Int32), w) := by
      rw [ed, hn.1, e]
      exact gi
    have t : ((-1 : Int32) = (-1 : Int32)) = True := eq_true rfl
    rw [if_neg hno]
    simp only [pX7_toldPart, ↓q, ↓cbnd gi2, ↓t, ↓reduceIte, callW_eq]
    refine ok_bind (c_fail h 4) ?_
    rintro ⟨x, w1⟩ ⟨_, h2⟩
    exact ok_some ⟨rfl, h2⟩
  · have q : (gI w 14 0 8 = (-4 : Int32)) = False := (JC_is h (c := 62) (by omega)).trans (eq_false y)
    rw [if_neg y]
    simp only [pX7_toldPart, ↓q, ↓reduceIte, callW_eq]
    refine ok_bind (c_fail h 1) ?_
    rintro ⟨x, w1⟩ ⟨_, h2⟩
    exact ok_some ⟨rfl, h2⟩
theorem c_rtold (h : JC w b n m d k) (hN : 100 ≤ N) (hn : nmC w d u) (h8 : u 0 0 ≤ 8) (hz : ptF u b n k = 0) : Ok (pX7_readToldPart N w) (fun x => x.1 = nI (ptN u b n k) ∧ Fr kAd w x.2 ∧ JC x.2 b n m d (k + 1)) := by
  have g := c_told h hN hn h8 hz
  obtain ⟨hlt, y⟩ := ptF_lt hz
  have t : (nI (ptN u b n k) = (-1 : Int32)) = False := eq_false (nz_ne1 (by omega))
  simp only [pX7_readToldPart, ↓cbnd g, ↓t, ↓reduceIte, callW_eq]
  refine ok_bind (c_adv (N := N) h (by omega)) ?_
  rintro w1 ⟨f, j⟩
  exact ok_some ⟨rfl, f, j⟩
theorem c_rtoldF (h : JC w b n m d k) (hN : 100 ≤ N) (hn : nmC w d u) (h8 : u 0 0 ≤ 8) (hz : ptF u b n k ≠ 0) : Ok (pX7_readToldPart N w) (fun x => x.1 = (-1 : Int32) ∧ flC w x.2 (ptF u b n k) (tP b n k)) := by
  simp only [pX7_readToldPart, callW_eq]
  refine ok_bind (c_toldF h hN hn h8 hz) ?_
  rintro ⟨x, w1⟩ ⟨e, h2⟩
  simp only at e h2
  subst e
  exact ok_some ⟨rfl, h2⟩
/-- a part that isn't among B -/
def otF (u : Vw) (B : Nat) (b : Nat → Nat) (n k : Nat) : Nat := if ptF u b n k = 0 then (if B.testBit (ptN u b n k) then 3 else 0) else ptF u b n k
theorem otF_0 {B : Nat} (h : otF u B b n k = 0) : ptF u b n k = 0 ∧ B.testBit (ptN u b n k) = false := by
  unfold otF at h
  by_cases y : ptF u b n k = 0
  · rw [if_pos y] at h
    refine ⟨y, ?_⟩
    cases hb : B.testBit (ptN u b n k) with
    | false => rfl
    | true => rw [hb, if_pos rfl] at h; omega
  · rw [if_neg y] at h; exact absurd h y
theorem b31 {B q : Nat} (hB : B < 2 ^ 31) (hq : q < 32) : ((nI B >>> (nI q &&& (31 : Int32))) &&& (1 : Int32) = 0) = (B.testBit q = false) := by
  have := nz_bit (x := B) (k := q) hB hq
  rw [show (31 : Int32) = nI 31 from rfl, nz_and, show (1 : Int32) = nI 1 from rfl, this]
  exact propext (nz_b1 _)
theorem s31 {q : Nat} (hq : q < 31) : (1 : Int32) <<< (nI q &&& (31 : Int32)) = nI (2 ^ q) := by
  rw [show (31 : Int32) = nI 31 from rfl, nz_and]
  exact nz_shl (by omega)
theorem c_other (h : JC w b n m d k) (hN : 100 ≤ N) (hn : nmC w d u) (h8 : u 0 0 ≤ 8) {B : Nat} (hB : B < 2 ^ 31) (hz : otF u B b n k = 0) : Ok (pX7_readOtherPart N (nI B) w) (fun x => x.1 = nI (2 ^ ptN u b n k) ∧ Fr kAd w x.2 ∧ JC x.2 b n m d (k + 1)) := by
  obtain ⟨hz1, hb⟩ := otF_0 hz
  have g := c_told h hN hn h8 hz1
  obtain ⟨hlt, y⟩ := ptF_lt hz1
  have t : (nI (ptN u b n k) = (-1 : Int32)) = False := eq_false (nz_ne1 (by omega))
  have q : ((nI B >>> (nI (ptN u b n k) &&& (31 : Int32))) &&& (1 : Int32) = 0) = True := (b31 hB (by omega)).trans (eq_true hb)
  have e := s31 (q := ptN u b n k) (by omega)
  simp only [pX7_readOtherPart, ↓cbnd g, ↓t, ↓q, ↓e, ↓reduceIte, callW_eq]
  refine ok_bind (c_adv (N := N) h (by omega)) ?_
  rintro w1 ⟨f, j⟩
  exact ok_some ⟨rfl, f, j⟩
theorem c_otherF (h : JC w b n m d k) (hN : 100 ≤ N) (hn : nmC w d u) (h8 : u 0 0 ≤ 8) {B : Nat} (hB : B < 2 ^ 31) (hz : otF u B b n k ≠ 0) : Ok (pX7_readOtherPart N (nI B) w) (fun x => x.1 = (0 : Int32) ∧ flC w x.2 (otF u B b n k) (tP b n k)) := by
  unfold otF at hz ⊢
  by_cases y : ptF u b n k = 0
  · rw [if_pos y] at hz ⊢
    have g := c_told h hN hn h8 y
    obtain ⟨hlt, y2⟩ := ptF_lt y
    have hb : B.testBit (ptN u b n k) = true := by
      cases hb : B.testBit (ptN u b n k) with
      | true => rfl
      | false => rw [hb] at hz; exact absurd rfl hz
    have t : (nI (ptN u b n k) = (-1 : Int32)) = False := eq_false (nz_ne1 (by omega))
    have q : ((nI B >>> (nI (ptN u b n k) &&& (31 : Int32))) &&& (1 : Int32) = 0) = False := (b31 hB (by omega)).trans (eq_false (by rw [hb]; decide))
    rw [hb, if_pos rfl]
    simp only [pX7_readOtherPart, ↓cbnd g, ↓t, ↓q, ↓reduceIte, callW_eq]
    refine ok_bind (c_fail h 3) ?_
    rintro ⟨x, w1⟩ ⟨_, h2⟩
    exact ok_some ⟨rfl, h2⟩
  · rw [if_neg y]
    simp only [pX7_readOtherPart, callW_eq]
    refine ok_bind (c_toldF h hN hn h8 y) ?_
    rintro ⟨x, w1⟩ ⟨e, h2⟩
    simp only at e h2
    subst e
    exact ok_some ⟨rfl, h2⟩
/-- the reference -/
theorem m_met (h : JM w b n k) (hN : 100 ≤ N) (hn : nmM w u) (h8 : u 0 0 ≤ 8) (hz : ptF u b n k = 0) : pX12_partMet N w = some ((1 : Int32), setI w 16 0 11 (nI (ptN u b n k))) := by
  obtain ⟨hlt, y⟩ := ptF_lt hz
  have q : (gI w 16 0 8 = (2 : Int32)) = True := eq_true ((JM_8 h).2.2.1.mpr y)
  have e := ((JM_kd h).2.2.2.1 y).2
  have gi := m_find (N := N) (w := w) (k0 := 75) (o := 8) (n := u 0 0) (L := 16) (x := gI w 16 0 9) hN rfl (by omega) (by omega)
  rw [nmI_ext (g := fun j => nI (u 1 j)) (u 0 0) 0 (fun j _ hj => hn.2 j (by omega)), nmI_N, e] at gi
  rw [if_pos (by rw [Nat.zero_add]; exact hlt)] at gi
  have gi2 : pX12_find N 75 0 (8 : Int32) (gI w 16 0 20) (gI w 16 0 9) w = some (nI (ptN u b n k), w) := by
    rw [hn.1, e]
    exact gi
  have t : (gI (setI w 16 0 11 (nI (ptN u b n k))) 16 0 11 < 0) = False := eq_false (by
    rw [gg_I, if_pos ⟨rfl, rfl, rfl⟩]
    exact nz_ge0 (by omega))
  simp only [pX12_partMet, ↓q, ↓cbnd gi2, ↓t, ↓reduceIte]
def kFn : List Nat := [17004, 17005, 17011]
def flN (w w' : Wd) (f p : Nat) : Prop := Fr kFn w w' ∧ gI w' 16 0 4 = nI f ∧ gI w' 16 0 5 = nI p
theorem flM_N {f p : Nat} (h : flM w w' f p) : flN w w' f p := ⟨Fr_mono h.1 rfl, h.2⟩
theorem m_metF (h : JM w b n k) (hN : 100 ≤ N) (hn : nmM w u) (h8 : u 0 0 ≤ 8) (hz : ptF u b n k ≠ 0) : Ok (pX12_partMet N w) (fun x => x.1 = (0 : Int32) ∧ flN w x.2 (ptF u b n k) (tP b n k)) := by
  unfold ptF at hz ⊢
  by_cases y : tK b n k = 62
  · rw [if_pos y] at hz ⊢
    have q : (gI w 16 0 8 = (2 : Int32)) = True := eq_true ((JM_8 h).2.2.1.mpr y)
    have e := ((JM_kd h).2.2.2.1 y).2
    have hno : ¬ ptN u b n k < u 0 0 := fun z => by rw [if_pos z] at hz; exact hz rfl
    have gi := m_find (N := N) (w := w) (k0 := 75) (o := 8) (n := u 0 0) (L := 16) (x := gI w 16 0 9) hN rfl (by omega) (by omega)
    rw [nmI_ext (g := fun j => nI (u 1 j)) (u 0 0) 0 (fun j _ hj => hn.2 j (by omega)), nmI_N, e] at gi
    rw [if_neg (by rw [Nat.zero_add]; exact hno)] at gi
    have gi2 : pX12_find N 75 0 (8 : Int32) (gI w 16 0 20) (gI w 16 0 9) w = some ((-1 : Int32), w) := by
      rw [hn.1, e]
      exact gi
    have t : (gI (setI w 16 0 11 (-1 : Int32)) 16 0 11 < 0) = True := eq_true (by
      rw [gg_I, if_pos ⟨rfl, rfl, rfl⟩]
      decide)
    rw [if_neg hno]
    simp only [pX12_partMet, ↓q, ↓cbnd gi2, ↓t, ↓reduceIte, callW_eq]
    have f1 : Fr [17011] w (setI w 16 0 11 (-1 : Int32)) := Fr_setI (Fr_refl _ _) rfl
    refine ok_bind (m_wrong (JM_fr f1 h) 4) ?_
    rintro ⟨x, w1⟩ ⟨e1, h2⟩
    simp only at e1 h2
    subst e1
    exact ok_some ⟨rfl, Fr_trans (Fr_mono f1 rfl) (Fr_mono h2.1 rfl), h2.2⟩
  · have q : (gI w 16 0 8 = (2 : Int32)) = False := eq_false (fun z => y ((JM_8 h).2.2.1.mp z))
    rw [if_neg y]
    simp only [pX12_partMet, ↓q, ↓reduceIte]
    exact ok_mono (m_wrongZ h 1) (fun x hx => ⟨hx.1, flM_N hx.2⟩)
theorem m_part1 (h : JM w b n k) (hN : 1000 ≤ N) (hn : nmM w u) (h8 : u 0 0 ≤ 8) (hz : ptF u b n k = 0) : Ok (pX12_partRead1 N w) (fun x => x.1 = (1 : Int32) ∧ Fr kNu w x.2 ∧ JM x.2 b n (k + 1) ∧ gI x.2 16 0 11 = nI (ptN u b n k)) := by
  have g := m_met (N := N) h (by omega) hn h8 hz
  have f1 : Fr [17011] w (setI w 16 0 11 (nI (ptN u b n k))) := Fr_setI (Fr_refl _ _) rfl
  simp only [pX12_partRead1, ↓cbnd g, ↓n1_0, ↓reduceIte, callW_eq]
  refine ok_bind (m_adv (N := N) (JM_fr f1 h) hN) ?_
  rintro w1 ⟨f, j⟩
  refine ok_some ⟨rfl, Fr_trans (Fr_mono f1 rfl) (Fr_mono f rfl), j, ?_⟩
  rw [(f 16 0 11 rfl).1, gg_I, if_pos ⟨rfl, rfl, rfl⟩]
theorem m_part1F (h : JM w b n k) (hN : 100 ≤ N) (hn : nmM w u) (h8 : u 0 0 ≤ 8) (hz : ptF u b n k ≠ 0) : Ok (pX12_partRead1 N w) (fun x => x.1 = (0 : Int32) ∧ flN w x.2 (ptF u b n k) (tP b n k)) := by
  simp only [pX12_partRead1, callW_eq]
  refine ok_bind (m_metF h hN hn h8 hz) ?_
  rintro ⟨x, w1⟩ ⟨e, h2⟩
  simp only at e h2
  subst e
  exact ok_some ⟨rfl, h2⟩
end

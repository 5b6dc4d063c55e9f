/-! ===== the reference: hands to come and the guides ===== -/
section
variable {v : Vw} {kn : Nat → Nat} {to : Nat} {D : Nat → Nat} {f : Nat}
def lfG (v : Vw) (kn D : Nat → Nat) (f : Nat) : Nat → Nat
  | 0 => lsF D f 7 / 100
  | i + 1 => hnF v kn D f (lsF D f 7 % 100) (lsF D f 7 % 100 - 1 - i) (gS v D f (lsF D f 7 % 100) i)
def exG (v : Vw) (D : Nat → Nat) (f : Nat) : Nat → Nat → Nat
  | 0, _ => 0
  | i + 1, g => c1 (gS v D f (lsF D f 7 % 100) i) g
def xG (v : Vw) (kn D : Nat → Nat) (f k g : Nat) : Nat := hnF v kn D f (lsF D f 7 % 100) (lsF D f 7 % 100 - 1 - k) g + exG v D f k g
theorem lfG_le (hD : FD v kn to D) (ht : to < 8) (hf : f < 8) (hb : lsF D f 7 < 99999) (k : Nat) : lfG v kn D f k ≤ 99 := by
  have := FD_best hD ht hf hb
  cases k with
  | zero => rw [lfG]; omega
  | succ i => exact hnF_le _ _ _ _ _ _ _
theorem gS_first (hF : WF v) (hD : FD v kn to D) (ht : to < 8) (hf : f < v 0 0) (hb : lsF D f 7 < 99999) {k : Nat} (hk : k < lsF D f 7 % 100) : xG v kn D f k (gS v D f (lsF D f 7 % 100) k) = lfG v kn D f k ∧ ∀ g, g < gS v D f (lsF D f 7 % 100) k → xG v kn D f k g ≠ lfG v kn D f k := by
  obtain ⟨a1, a2⟩ := gS_facts hF hD ht hf hb k hk
  cases k with
  | zero =>
    rcases fnd_spec (fun g => (bS v D f (lsF D f 7 % 100) (lsF D f 7 % 100 - 1)).testBit g) 7 0 with q | q
    · have : gS v D f (lsF D f 7 % 100) 0 = 99 := q.1
      omega
    · refine ⟨?_, fun g hg => ?_⟩
      · have := (guide0 hF hD ht hf hb a1).mp a2
        exact this
      · have h3 := q.2.2.2 g (by omega) hg
        intro e
        have : (bS v D f (lsF D f 7 % 100) (lsF D f 7 % 100 - 1)).testBit g = true := (guide0 hF hD ht hf hb (by omega)).mpr e
        rw [h3] at this
        cases this
  | succ i =>
    obtain ⟨b1, b2⟩ := gS_facts hF hD ht hf hb i (by omega)
    rcases fnd_spec (fun h => (bS v D f (lsF D f 7 % 100) (lsF D f 7 % 100 - 1 - (i + 1))).testBit h && isBst D (wyS v D f i).1 (gS v D f (lsF D f 7 % 100) i) (wyS v D f (i + 1)).1 h) 7 0 with q | q
    · have : gS v D f (lsF D f 7 % 100) (i + 1) = 99 := q.1
      omega
    · refine ⟨(guide1 hF hD ht hf hb hk b1 a1 b2).mp q.2.2.1, fun g hg => ?_⟩
      have h3 := q.2.2.2 g (by omega) hg
      intro e
      have := (guide1 hF hD ht hf hb hk b1 (show g < 7 by omega) b2).mpr e
      rw [this] at h3
      cases h3
end
section
variable {N : Nat} {w : Wd} {H : Nat → Nat}
theorem m_g24 {L k g : Nat} (h82 : gI w 16 0 82 = nI L) (hL : L ≤ 8) (hk : k + 1 < L) (hH : ∀ h, h < 7 → gI w 115 0 (7 * (k + 1) + h) = nI (H h) ∧ H h ≤ 99) (hg : g < 7) (K : Int32 → Int32 → Int32 → Wd → Option Wd) : ∀ fuel c, c ≤ 7 → 7 - c < fuel →
    fX12_layGuides_24 N fuel K (nI k) (nI g) (nI (mnF (fun h => H h + c1 g h) 99 c)) (nI c) w = K (nI k) (nI g) (nI (mnF (fun h => H h + c1 g h) 99 7)) w := by
  intro fuel
  induction fuel with
  | zero => intro c _ h; omega
  | succ f ih =>
    intro c hc hf
    rcases Nat.lt_or_ge c 7 with q | q
    · have lt : (nI c < (7 : Int32)) = True := eq_true ((nI_ltI (a := c) (b := 7) (by omega) (by omega)).mpr q)
      have lt2 : (nI k < gI w 16 0 82 - (1 : Int32)) = True := eq_true (by
        have e : nI L - (1 : Int32) = nI (L - 1) := by
          have : L = (L - 1) + 1 := by omega
          rw [this]; exact nI_pred _
        rw [h82, e]
        exact (nI_ltI (by omega) (by omega)).mpr (by omega))
      have hs := (hH c q).2
      have hm := (mnF_spec (fun h => H h + c1 g h) 99 c).1
      have l1 : ldI w 115 0 ((7 : Int32) * nI k + (7 : Int32) + nI c) 63 = some (nI (H c)) := by
        rw [li7, pk_mul, nI_add, nI_add, ldn (by omega) (by omega), show 7 * k + 7 + c = 7 * (k + 1) + c by omega, (hH c q).1]
      have e1 : nI c + (1 : Int32) = nI (c + 1) := nI_add c 1
      have e := ih (c + 1) (by omega) (by omega)
      rw [mnF] at e
      have go : ∀ z, c1 g c = z → fX12_layGuides_49 N (fX12_layGuides_24 N f K) (nI k) (nI g) (nI (mnF (fun h => H h + c1 g h) 99 c)) (nI c) (nI z) (nI (H c)) w = K (nI k) (nI g) (nI (mnF (fun h => H h + c1 g h) 99 7)) w := by
        intro z hz
        have hz1 : z ≤ 1 := by rw [← hz]; unfold c1; split <;> omega
        rw [hz] at e
        have ea : nI (H c) + nI z = nI (H c + z) := nI_add _ _
        by_cases y : H c + z < mnF (fun h => H h + c1 g h) 99 c
        · have y' : (nI (H c + z) < nI (mnF (fun h => H h + c1 g h) 99 c)) = True := eq_true ((nI_ltI (by omega) (by omega)).mpr y)
          simp only [fX12_layGuides_49, ↓ea, y', ↓e1, ↓reduceIte]
          rw [if_pos y] at e
          exact e
        · have y' : (nI (H c + z) < nI (mnF (fun h => H h + c1 g h) 99 c)) = False := eq_false (fun u => y ((nI_ltI (by omega) (by omega)).mp u))
          simp only [fX12_layGuides_49, ↓ea, y', ↓e1, ↓reduceIte]
          rw [if_neg y] at e
          exact e
      by_cases y : g = c
      · have y' : (nI g = nI c) = True := eq_true (by rw [y])
        simp only [fX12_layGuides_24, lt, ↓lt2, ↓bnd l1, y', ↓reduceIte, callW_eq]
        exact go 0 (if_pos y)
      · have y' : (nI g = nI c) = False := eq_false (fun u => y ((nI_eq (by omega) (by omega)).mp u))
        simp only [fX12_layGuides_24, lt, ↓lt2, ↓bnd l1, y', ↓reduceIte, callW_eq]
        exact go 1 (if_neg y)
    · have : c = 7 := by omega
      subst this
      have lt : (nI 7 < (7 : Int32)) = False := eq_false (by decide)
      simp only [fX12_layGuides_24, lt, ↓reduceIte]
end
section
variable {N : Nat} {v : Vw} {kn : Nat → Nat} {to : Nat} {D : Nat → Nat} {f : Nat}
def haT (w : Wd) (v : Vw) (kn D : Nat → Nat) (f L : Nat) (P : Nat → Nat → Prop) : Prop := ∀ k g, k < L → g < 7 → P k g → gI w 115 0 (7 * k + g) = nI (hnF v kn D f L (L - 1 - k) g)
theorem m_g9 {w0 : Wd} {L k : Nat} (hN : 100 ≤ N) (h82 : gI w0 16 0 82 = nI L) (hL : L ≤ 8) (hk : k < L) (hkn : ∀ g, g < 7 → gI w0 111 0 g = nI (kn g) ∧ kn g < 2 ^ 8) (hW : ∀ i, i < L → gI w0 113 0 i = nI (wyS v D f i).1 ∧ (wyS v D f i).1 < 8)
    {Q : Wd → Prop} (K : Int32 → Wd → Option Wd) (hK : ∀ w', (Fr [115] w0 w' ∧ haT w' v kn D f L (fun k' _ => k ≤ k')) → Ok (K (nI k) w') Q) :
    ∀ fuel c w, c ≤ 7 → 7 - c < fuel → (Fr [115] w0 w ∧ haT w v kn D f L (fun k' g => k < k' ∨ (k' = k ∧ g < c))) → Ok (fX12_layGuides_9 N fuel K (nI k) (nI c) w) Q := by
  intro fuel
  induction fuel with
  | zero => intro c _ _ h; omega
  | succ fu ih =>
    intro c w hc hf hI
    obtain ⟨i1, i2⟩ := hI
    have f82 : gI w 16 0 82 = nI L := ((i1 16 0 82 rfl).1).trans h82
    have eL : nI L - (1 : Int32) = nI (L - 1) := by
      have : L = (L - 1) + 1 := by omega
      rw [this]; exact nI_pred _
    rcases Nat.lt_or_ge c 7 with q | q
    · have lt : (nI c < (7 : Int32)) = True := eq_true ((nI_ltI (a := c) (b := 7) (by omega) (by omega)).mpr q)
      have hk8 := (hkn c q).2
      have hw := (hW k hk).2
      have l1 : ldI w 111 0 (nI c) 7 = some (nI (kn c)) := by rw [ldn (by omega) (by omega), (i1 111 0 c rfl).1, (hkn c q).1]
      have l2 : ldI w 113 0 (nI k) 9 = some (nI (wyS v D f k).1) := by rw [ldn (by omega) (by omega), (i1 113 0 k rfl).1, (hW k hk).1]
      have go := m_isOf (N := N) (w := w) (x := kn c) (k := (wyS v D f k).1) (by omega) (by omega)
      have s1 : ∀ x, stI w 115 0 ((7 : Int32) * nI k + nI c) 63 x = some (setI w 115 0 (7 * k + c) x) := fun x => by rw [li7, pk_mul, nI_add]; exact stn (by omega) (by omega)
      have e1 : nI c + (1 : Int32) = nI (c + 1) := nI_add c 1
      have e := ih (c + 1) (setI w 115 0 (7 * k + c) (nI (hnF v kn D f L (L - 1 - k) c))) (by omega) (by omega) ⟨Fr_setI i1 rfl, fun k' g hk' hg hp => by
        rw [gg_I]
        by_cases y : 7 * k' + g = 7 * k + c
        · have y1 : k' = k := by omega
          have y2 : g = c := by omega
          subst y1; subst y2
          rw [if_pos ⟨rfl, rfl, rfl⟩]
        · rw [if_neg (fun z => y z.2.2)]
          refine i2 k' g hk' hg ?_
          rcases hp with hp | hp
          · exact Or.inl hp
          · refine Or.inr ⟨hp.1, ?_⟩
            have := hp.1
            have := hp.2
            omega⟩
      have fin : ∀ x, (if (kn c).testBit (wyS v D f k).1 = true then x else 99) = hnF v kn D f L (L - 1 - k) c → Ok (fX12_layGuides_60 N (fX12_layGuides_9 N fu K) (nI k) (nI c) (nI x) w) Q := by
        intro x hx
        rw [← hx] at e
        by_cases y : (kn c).testBit (wyS v D f k).1 = true
        · rw [y] at go
          have z0 : (zB true = (0 : Int32)) = False := eq_false (by decide)
          rw [if_pos y] at e
          simp only [fX12_layGuides_60, ↓bnd l1, ↓bnd l2, ↓cbnd go, z0, ↓bnd (s1 _), ↓e1, ↓reduceIte]
          exact e
        · rw [if_neg y] at e
          rw [Bool.not_eq_true] at y
          rw [y] at go
          have z0 : (zB false = (0 : Int32)) = True := eq_true (by decide)
          simp only [fX12_layGuides_60, ↓bnd l1, ↓bnd l2, ↓cbnd go, z0, ↓bnd (s1 _), ↓e1, ↓reduceIte]
          exact e
      by_cases y : k = L - 1
      · have y' : (nI k = gI w 16 0 82 - (1 : Int32)) = True := eq_true (by rw [f82, eL, y])
        have c0 : (nI 0 < (7 : Int32)) = True := eq_true (by decide)
        have y2 : (nI k < gI w 16 0 82 - (1 : Int32)) = False := eq_false (by
          rw [f82, eL]
          exact fun z => by
            have := (nI_ltI (by omega) (by omega)).mp z
            omega)
        obtain ⟨N', hN'⟩ : ∃ n, N = n + 1 := ⟨N - 1, by omega⟩
        have e24 : fX12_layGuides_24 N N (fX12_layGuides_60 N (fX12_layGuides_9 N fu K)) (nI k) (nI c) (nI 0) (nI 0) w = fX12_layGuides_60 N (fX12_layGuides_9 N fu K) (nI k) (nI c) (nI 0) w := by
          conv => lhs; arg 2; rw [hN']
          simp only [fX12_layGuides_24, c0, ↓y2, ↓reduceIte]
        simp only [fX12_layGuides_9, lt, ↓y', ↓reduceIte, callW_eq]
        rw [li0, e24]
        refine fin 0 ?_
        have : L - 1 - k = 0 := by omega
        rw [this, hnF, ← y]
      · have y' : (nI k = gI w 16 0 82 - (1 : Int32)) = False := eq_false (by rw [f82, eL]; exact fun z => y ((nI_eq (by omega) (by omega)).mp z))
        have hj : L - 1 - k = (L - 1 - (k + 1)) + 1 := by omega
        have e24 := m_g24 (N := N) (w := w) (H := hnF v kn D f L (L - 1 - (k + 1))) (k := k) (g := c) f82 hL (by omega) (fun h hh => ⟨i2 (k + 1) h (by omega) hh (Or.inl (by omega)), hnF_le _ _ _ _ _ _ _⟩) q (fX12_layGuides_60 N (fX12_layGuides_9 N fu K)) N 0 (by omega) (by omega)
        have e99 : (99 : Int32) = nI (mnF (fun h => hnF v kn D f L (L - 1 - (k + 1)) h + c1 c h) 99 0) := rfl
        simp only [fX12_layGuides_9, lt, ↓y', ↓reduceIte, callW_eq]
        rw [li0, e99, e24]
        refine fin _ ?_
        rw [hj, hnF, show L - 1 - (L - 1 - (k + 1) + 1) = k by omega]
    · have : c = 7 := by omega
      subst this
      have lt : (nI 7 < (7 : Int32)) = False := eq_false (by decide)
      simp only [fX12_layGuides_9, lt, ↓reduceIte]
      refine hK w ⟨i1, fun k' g hk' hg hp => i2 k' g hk' hg ?_⟩
      have hp' : k ≤ k' := hp
      rcases Nat.lt_or_ge k k' with z | z
      · exact Or.inl z
      · exact Or.inr ⟨by omega, hg⟩
theorem m_g96 {w : Wd} (hN : 100 ≤ N) (hF : WF v) (hD : FD v kn to D) (ht : to < 8) (hf : f < v 0 0) (hb : lsF D f 7 < 99999) {k : Nat} (hk : k < lsF D f 7 % 100) (hH : ∀ g, g < 7 → gI w 115 0 (7 * k + g) = nI (hnF v kn D f (lsF D f 7 % 100) (lsF D f 7 % 100 - 1 - k) g)) (hG : ∀ i, i < k → gI w 114 0 i = nI (gS v D f (lsF D f 7 % 100) i)) (K : Int32 → Int32 → Wd → Option Wd) :
    ∀ fuel c, c ≤ gS v D f (lsF D f 7 % 100) k → 7 - c < fuel → fX12_layGuides_96 N fuel K (nI (lfG v kn D f k)) (nI k) (nI c) w = K (nI k) (nI (gS v D f (lsF D f 7 % 100) k)) w := by
  have h2 := WF_parts hF
  have hB := FD_best hD ht (show f < 8 by omega) hb
  have hg7 := (gS_facts hF hD ht hf hb k hk).1
  obtain ⟨n1, n2⟩ := gS_first hF hD ht hf hb hk
  have hl := lfG_le hD ht (show f < 8 by omega) hb k
  intro fuel
  induction fuel with
  | zero => intro c _ h; omega
  | succ fu ih =>
    intro c hc hfu
    have hh := hnF_le v kn D f (lsF D f 7 % 100) (lsF D f 7 % 100 - 1 - k) c
    have l1 : ldI w 115 0 ((7 : Int32) * nI k + nI c) 63 = some (nI (hnF v kn D f (lsF D f 7 % 100) (lsF D f 7 % 100 - 1 - k) c)) := by rw [li7, pk_mul, nI_add, ldn (by omega) (by omega), hH c (by omega)]
    have e1 : nI c + (1 : Int32) = nI (c + 1) := nI_add c 1
    have fin : ∀ z, exG v D f k c = z → z ≤ 1 → (if nI (hnF v kn D f (lsF D f 7 % 100) (lsF D f 7 % 100 - 1 - k) c) + nI z = nI (lfG v kn D f k) then K (nI k) (nI c) w else fX12_layGuides_96 N fu K (nI (lfG v kn D f k)) (nI k) (nI (c + 1)) w) = K (nI k) (nI (gS v D f (lsF D f 7 % 100) k)) w := by
      intro z hz hz1
      have hx : xG v kn D f k c = hnF v kn D f (lsF D f 7 % 100) (lsF D f 7 % 100 - 1 - k) c + z := by rw [xG, hz]
      rcases Nat.lt_or_ge c (gS v D f (lsF D f 7 % 100) k) with y | y
      · have hne := n2 c y
        rw [hx] at hne
        rw [nI_add, if_neg (fun u => hne ((nI_eq (by omega) (by omega)).mp u))]
        exact ih (c + 1) (by omega) (by omega)
      · have : c = gS v D f (lsF D f 7 % 100) k := by omega
        rw [← this, hx] at n1
        rw [nI_add, n1, if_pos rfl, ← this]
    cases k with
    | zero =>
      have k0 : (0 < nI 0) = False := eq_false (by decide)
      simp only [fX12_layGuides_96, ↓bnd l1, ↓k0, ↓e1, ↓reduceIte, callW_eq]
      exact fin 0 rfl (by omega)
    | succ i =>
      have k0 : (0 < nI (i + 1)) = True := eq_true ((nI_ltI (a := 0) (b := i + 1) (by omega) (by omega)).mpr (by omega))
      have em : nI (i + 1) - (1 : Int32) = nI i := nI_pred i
      have hgi := (gS_facts hF hD ht hf hb i (by omega)).1
      have l2 : ldI w 114 0 (nI (i + 1) - (1 : Int32)) 9 = some (nI (gS v D f (lsF D f 7 % 100) i)) := by rw [em, ldn (by omega) (by omega), hG i (by omega)]
      by_cases y : gS v D f (lsF D f 7 % 100) i = c
      · have y' : (nI (gS v D f (lsF D f 7 % 100) i) = nI c) = True := eq_true (by rw [y])
        simp only [fX12_layGuides_96, ↓bnd l1, ↓k0, ↓bnd l2, y', ↓e1, ↓reduceIte, callW_eq]
        exact fin 0 (if_pos y) (by omega)
      · have y' : (nI (gS v D f (lsF D f 7 % 100) i) = nI c) = False := eq_false (fun u => y ((nI_eq (by omega) (by omega)).mp u))
        simp only [fX12_layGuides_96, ↓bnd l1, ↓k0, ↓bnd l2, y', ↓e1, ↓reduceIte, callW_eq]
        exact fin 1 (if_neg y) (by omega)
end

/-! ===== the reference: the guides of the way ===== -/
section
variable {N : Nat} {v : Vw} {kn : Nat → Nat} {to : Nat} {D : Nat → Nat} {f : Nat}
theorem m_layGuides {w : Wd} (hN : 100 ≤ N) (hF : WF v) (hD : FD v kn to D) (ht : to < 8) (hf : f < v 0 0) (hb : lsF D f 7 < 99999) (h82 : gI w 16 0 82 = nI (lsF D f 7 % 100)) (h83 : gI w 16 0 83 = nI (lsF D f 7 / 100)) (hkn : ∀ g, g < 7 → gI w 111 0 g = nI (kn g) ∧ kn g < 2 ^ 8) (hW : ∀ i, i < lsF D f 7 % 100 → gI w 113 0 i = nI (wyS v D f i).1) :
    Ok (pX12_layGuides N w) (fun w' => Fr [114, 115] w w' ∧ ∀ i, i < lsF D f 7 % 100 → gI w' 114 0 i = nI (gS v D f (lsF D f 7 % 100) i)) := by
  have h2 := WF_parts hF
  have hB := FD_best hD ht (show f < 8 by omega) hb
  have hW8 : ∀ i, i < lsF D f 7 % 100 → (wyS v D f i).1 < 8 := fun i hi => by
    have := (way_facts hF hD ht hf hb i hi).1
    omega
  have k90 : ∀ fuel k w1, k ≤ lsF D f 7 % 100 → lsF D f 7 % 100 - k < fuel → (Fr [114, 115] w w1 ∧ haT w1 v kn D f (lsF D f 7 % 100) (fun _ _ => True) ∧ ∀ i, i < k → gI w1 114 0 i = nI (gS v D f (lsF D f 7 % 100) i)) → Ok (fX12_layGuides_90 N fuel (nI (lfG v kn D f k)) (nI k) w1) (fun w' => Fr [114, 115] w w' ∧ ∀ i, i < lsF D f 7 % 100 → gI w' 114 0 i = nI (gS v D f (lsF D f 7 % 100) i)) := by
    intro fuel
    induction fuel with
    | zero => intro c _ _ h; omega
    | succ fu ih =>
      intro k w1 hk hfu hI
      obtain ⟨i1, i2, i3⟩ := hI
      have f82 : gI w1 16 0 82 = nI (lsF D f 7 % 100) := ((i1 16 0 82 rfl).1).trans h82
      rcases Nat.lt_or_ge k (lsF D f 7 % 100) with q | q
      · have lt : (nI k < gI w1 16 0 82) = True := eq_true (by rw [f82]; exact (nI_ltI (by omega) (by omega)).mpr q)
        have hg7 := (gS_facts hF hD ht hf hb k q).1
        have e96 := m_g96 (N := N) (w := w1) hN hF hD ht hf hb q (fun g hg => i2 k g q hg trivial) i3 (fX12_layGuides_122 N (fX12_layGuides_90 N fu)) N 0 (by omega) (by omega)
        simp only [fX12_layGuides_90, ↓lt, ↓reduceIte, callW_eq]
        rw [li0, e96]
        have l1 : ldI w1 115 0 ((7 : Int32) * nI k + nI (gS v D f (lsF D f 7 % 100) k)) 63 = some (nI (lfG v kn D f (k + 1))) := by rw [li7, pk_mul, nI_add, ldn (by omega) (by omega), i2 k _ q hg7 trivial]; rfl
        have s1 : ∀ x, stI w1 114 0 (nI k) 9 x = some (setI w1 114 0 k x) := fun x => stn (by omega) (by omega)
        have e1 : nI k + (1 : Int32) = nI (k + 1) := nI_add k 1
        simp only [fX12_layGuides_122, ↓bnd l1, ↓bnd (s1 _), ↓e1]
        refine ih (k + 1) _ (by omega) (by omega) ⟨Fr_setI i1 rfl, fun k' g a b c => ?_, fun i hi => ?_⟩
        · rw [gg_I, if_neg (by omega)]; exact i2 k' g a b c
        · rw [gg_I]
          by_cases y : i = k
          · subst y; rw [if_pos ⟨rfl, rfl, rfl⟩]
          · rw [if_neg (fun z => y z.2.2)]; exact i3 i (by omega)
      · have : k = lsF D f 7 % 100 := by omega
        have lt : (nI k < gI w1 16 0 82) = False := eq_false (fun z => by
          rw [f82] at z
          have := (nI_ltI (by omega) (by omega)).mp z
          omega)
        simp only [fX12_layGuides_90, ↓lt, ↓reduceIte]
        rw [this] at i3
        exact ok_some ⟨i1, i3⟩
  have k5 : ∀ c fuel w1, c ≤ lsF D f 7 % 100 → c < fuel → (Fr [115] w w1 ∧ haT w1 v kn D f (lsF D f 7 % 100) (fun k' _ => c ≤ k')) → Ok (fX12_layGuides_5 N fuel (fX12_layGuides_85 N) (dn c) w1) (fun w' => Fr [114, 115] w w' ∧ ∀ i, i < lsF D f 7 % 100 → gI w' 114 0 i = nI (gS v D f (lsF D f 7 % 100) i)) := by
    intro c
    induction c with
    | zero =>
      intro fuel w1 _ hfu hI
      obtain ⟨i1, i2⟩ := hI
      obtain ⟨fu, rfl⟩ : ∃ n, fuel = n + 1 := ⟨fuel - 1, by omega⟩
      have lt : (dn 0 < 0) = True := eq_true nz_neg1
      have f83 : gI w1 16 0 83 = nI (lfG v kn D f 0) := ((i1 16 0 83 rfl).1).trans h83
      simp only [fX12_layGuides_5, fX12_layGuides_85, ↓lt, ↓reduceIte, callW_eq]
      rw [f83, li0]
      exact k90 N 0 w1 (by omega) (by omega) ⟨Fr_mono i1 rfl, fun k' g a b _ => i2 k' g a b (Nat.zero_le _), fun i h => by omega⟩
    | succ c ih =>
      intro fuel w1 hc hfu hI
      obtain ⟨i1, i2⟩ := hI
      obtain ⟨fu, rfl⟩ : ∃ n, fuel = n + 1 := ⟨fuel - 1, by omega⟩
      have ed : dn (c + 1) = nI c := if_neg (by omega)
      have lt : (nI c < 0) = False := eq_false (nz_ge0 (by omega))
      rw [ed]
      simp only [fX12_layGuides_5, ↓lt, ↓reduceIte, callW_eq]
      rw [li0]
      refine m_g9 (w0 := w1) (k := c) (kn := kn) hN (((i1 16 0 82 rfl).1).trans h82) (by omega) (by omega) (fun g hg => ⟨((i1 111 0 g rfl).1).trans (hkn g hg).1, (hkn g hg).2⟩) (fun i hi => ⟨((i1 113 0 i rfl).1).trans (hW i hi), hW8 i hi⟩) _ ?_ N 0 w1 (by omega) (by omega) ⟨Fr_refl _ _, fun k' g a b hp => i2 k' g a b ?_⟩
      · rintro w2 ⟨j1, j2⟩
        have e1 : nI c + (-1 : Int32) = dn c := dn_add c
        simp only [fX12_layGuides_83, ↓e1]
        exact ih fu w2 (by omega) (by omega) ⟨Fr_trans i1 j1, j2⟩
      · rcases hp with hp | hp
        · exact hp
        · have := hp.2
          omega
  unfold pX12_layGuides
  have e0 : gI w 16 0 82 - (1 : Int32) = dn (lsF D f 7 % 100) := by rw [h82]; exact dn_sub _
  rw [callW_eq, e0]
  exact k5 _ N w (by omega) (by omega) ⟨Fr_refl _ _, fun k g a b c => by omega⟩
end

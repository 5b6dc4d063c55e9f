/-! ===== the reference's next row ===== -/
section
variable {N : Nat} {w : Wd} {S n : Nat} {r : Nat → Nat}
def rwT (w : Wd) (n : Nat) (r : Nat → Nat) : Prop := ∀ j, j < n → gI w 119 0 j = nI (r j)
theorem arr_8 (hS : S < 2 ^ 8) (h : arr S n r) {j : Nat} (hj : j < n) : r j < 8 := bit_lt hS (h.1 j hj)
theorem m_turn (hR : rwT w n r) (hn : n ≤ 8) {a b : Nat} (ha : a < n) (hb : b < n) : Ok (pX12_turn N (nI a) (nI b) w) (fun w' => Fr [119] w w' ∧ rwT w' n (swp r a b)) := by
  have l1 : ldI w 119 0 (nI a) 8 = some (nI (r a)) := by rw [ldn (by omega) (by omega), hR a ha]
  have l2 : ldI w 119 0 (nI b) 8 = some (nI (r b)) := by rw [ldn (by omega) (by omega), hR b hb]
  have s1 : ∀ x, stI w 119 0 (nI a) 8 x = some (setI w 119 0 a x) := fun x => stn (by omega) (by omega)
  have s2 : ∀ w x, stI w 119 0 (nI b) 8 x = some (setI w 119 0 b x) := fun w x => stn (by omega) (by omega)
  simp only [pX12_turn, ↓bnd l1, ↓bnd l2, ↓bnd (s1 _), ↓bnd (s2 _ _)]
  refine ok_some ⟨Fr_setI (Fr_setI (Fr_refl _ _) rfl) rfl, fun j hj => ?_⟩
  rw [gg_I, gg_I]
  by_cases y : j = b
  · subst y
    rw [if_pos ⟨rfl, rfl, rfl⟩]
    by_cases z : j = a
    · subst z; rw [swp_a]
    · unfold swp; rw [if_neg z, if_pos rfl]
  · rw [if_neg (fun z => y z.2.2)]
    by_cases z : j = a
    · subst z; rw [if_pos ⟨rfl, rfl, rfl⟩, swp_a]
    · rw [if_neg (fun u => z u.2.2), swp_o r z y]; exact hR j hj
theorem m_nr50 {w0 : Wd} {k : Nat} {r1 : Nat → Nat} (hn : n ≤ 8) (hk : k + 1 < n) {Q : Int32 × Wd → Prop}
    (hQ : ∀ w q, Fr [119] w0 w → rwT w n q → arr S n q → (∀ j, j ≤ k → q j = r1 j) → (∀ j, k < j → j < n → q j = r1 (k + n - j)) → Q (nI 1, w)) :
    ∀ fuel a b w q, a + b = k + n → k < a → b < n → a ≤ b + 1 → b + 1 - a < fuel → Fr [119] w0 w → rwT w n q → arr S n q → (∀ j, j ≤ k → q j = r1 j) → (∀ j, k < j → j < a → q j = r1 (k + n - j)) → (∀ j, b < j → j < n → q j = r1 (k + n - j)) → (∀ j, a ≤ j → j ≤ b → q j = r1 j) →
    Ok (fX12_nextRow_50 N fuel (nI a) (nI b) w) Q := by
  intro fuel
  induction fuel with
  | zero => intro a b w q _ _ _ _ h; omega
  | succ f ih =>
    intro a b w q hab hka hbn hle hf f0 hR hA i1 i2 i3 i4
    rcases Nat.lt_or_ge a b with y | y
    · have lt : (nI a < nI b) = True := eq_true ((nI_ltI (by omega) (by omega)).mpr y)
      have e1 : nI a + (1 : Int32) = nI (a + 1) := nI_add a 1
      have e2 : nI b + (-1 : Int32) = nI (b - 1) := (dn_add b).trans (if_neg (by omega))
      simp only [fX12_nextRow_50, ↓lt, ↓reduceIte, ↓e1, ↓e2, callW_eq]
      refine ok_bind (m_turn (N := N) hR hn (show a < n by omega) hbn) ?_
      rintro w1 ⟨j1, j2⟩
      refine ih (a + 1) (b - 1) w1 (swp q a b) (by omega) (by omega) (by omega) (by omega) (by omega) (Fr_trans f0 j1) j2 (arr_swp hA (by omega) hbn) (fun j hj => ?_) (fun j h1 h2 => ?_) (fun j h1 h2 => ?_) (fun j h1 h2 => ?_)
      · rw [swp_o q (by omega) (by omega)]; exact i1 j hj
      · by_cases z : j = a
        · subst z
          rw [swp_a, i4 b (by omega) (by omega), show k + n - j = b by omega]
        · rw [swp_o q z (by omega)]; exact i2 j h1 (by omega)
      · by_cases z : j = b
        · subst z
          rw [swp_b q (by omega), i4 a (by omega) (by omega), show k + n - j = a by omega]
        · rw [swp_o q (by omega) z]; exact i3 j (by omega) h2
      · rw [swp_o q (by omega) (by omega)]; exact i4 j (by omega) (by omega)
    · have lt : (nI a < nI b) = False := eq_false (fun z => by
        have := (nI_ltI (by omega) (by omega)).mp z
        omega)
      simp only [fX12_nextRow_50, ↓lt, ↓reduceIte]
      refine ok_some (hQ w q f0 hR hA i1 (fun j h1 h2 => ?_))
      rcases Nat.lt_or_ge j a with z | z
      · exact i2 j h1 z
      · rcases Nat.lt_or_ge b j with u | u
        · exact i3 j u h2
        · rw [i4 j z u, show k + n - j = j by omega]
theorem m_nextRow (hN : 100 ≤ N) (hS : S < 2 ^ 8) (hn : n ≤ 8) (h1n : 1 ≤ n) (hR : rwT w n r) (hA : arr S n r) :
    Ok (pX12_nextRow N (nI n) w) (fun x => Fr [119] w x.2 ∧ ((x.1 = nI 0 ∧ ∀ s, arr S n s → ¬ lx n r s) ∨ (x.1 = nI 1 ∧ ∃ r', rwT x.2 n r' ∧ arr S n r' ∧ lx n r r' ∧ ∀ s, arr S n s → lx n r s → ¬ lx n s r'))) := by
  have h8 : ∀ j, j < n → r j < 8 := fun j hj => arr_8 hS hA hj
  have eN : nI n - (1 : Int32) = nI (n - 1) := (dn_sub n).trans (if_neg (by omega))
  have k27 : ∀ fuel i k, k + 1 < n → k < i → i < n → i < fuel → r k < r (k + 1) → (∀ j, k < j → j + 1 < n → r (j + 1) < r j) → (∀ j, i < j → j < n → r j < r k) →
      Ok (fX12_nextRow_27 N (nI n) fuel (fX12_nextRow_38 N (nI n)) (nI k) (nI i) w) (fun x => Fr [119] w x.2 ∧ ((x.1 = nI 0 ∧ ∀ s, arr S n s → ¬ lx n r s) ∨ (x.1 = nI 1 ∧ ∃ r', rwT x.2 n r' ∧ arr S n r' ∧ lx n r r' ∧ ∀ s, arr S n s → lx n r s → ¬ lx n s r'))) := by
    intro fuel
    induction fuel with
    | zero => intro i k _ _ _ h; omega
    | succ f ih =>
      intro i k hk hi hin hf hup hd hil
      have l1 : ldI w 119 0 (nI i) 8 = some (nI (r i)) := by rw [ldn (by omega) (by omega), hR i hin]
      have l2 : ldI w 119 0 (nI k) 8 = some (nI (r k)) := by rw [ldn (by omega) (by omega), hR k (by omega)]
      have a1 := h8 i hin
      have a2 := h8 k (by omega)
      have hne : r i ≠ r k := fun z => by
        have := arr_inj hA hin (by omega) z
        omega
      by_cases y : r i < r k
      · have lt : (nI (r i) < nI (r k)) = True := eq_true ((nI_ltI (by omega) (by omega)).mpr y)
        have e2 : nI i + (-1 : Int32) = nI (i - 1) := (dn_add i).trans (if_neg (by omega))
        have hik : i ≠ k + 1 := fun z => by rw [z] at y; omega
        simp only [fX12_nextRow_27, ↓bnd l1, ↓bnd l2, ↓lt, ↓reduceIte, ↓e2, callW_eq]
        refine ih (i - 1) k hk (by omega) (by omega) (by omega) hup hd (fun j h1 h2 => ?_)
        rcases Nat.lt_or_ge i j with z | z
        · exact hil j z h2
        · have : j = i := by omega
          subst this; exact y
      · have lt : (nI (r i) < nI (r k)) = False := eq_false (fun z => y ((nI_ltI (by omega) (by omega)).mp z))
        have hri : r k < r i := by omega
        simp only [fX12_nextRow_27, fX12_nextRow_38, ↓bnd l1, ↓bnd l2, ↓lt, ↓reduceIte, callW_eq]
        refine ok_bind (m_turn (N := N) hR hn (show k < n by omega) hin) ?_
        rintro w1 ⟨j1, j2⟩
        have hA1 := arr_swp hA (show k < n by omega) hin
        have hd1 : ∀ j, k < j → j + 1 < n → swp r k i (j + 1) < swp r k i j := fun j p1 p2 => by
          have base := hd j p1 p2
          by_cases u : j = i
          · subst u
            rw [swp_b r (by omega), swp_o r (by omega) (by omega)]
            exact hil (j + 1) (by omega) p2
          · by_cases v : j + 1 = i
            · rw [v, swp_b r (by omega), swp_o r (by omega) u]
              rw [v] at base
              omega
            · rw [swp_o r (by omega) v, swp_o r (by omega) u]
              exact base
        have e1 : nI k + (1 : Int32) = nI (k + 1) := nI_add k 1
        rw [e1, eN]
        refine m_nr50 (N := N) (S := S) (w0 := w1) (k := k) (r1 := swp r k i) hn hk ?_ N (k + 1) (n - 1) w1 (swp r k i) (by omega) (by omega) (by omega) (by omega) (by omega) (Fr_refl _ _) j2 hA1 (fun j hj => rfl) (fun j p1 p2 => by omega) (fun j p1 p2 => by omega) (fun j p1 p2 => rfl)
        intro w2 q f2 hq hAq q1 q2
        have qa : ∀ j, j < k → q j = r j := fun j hj => by rw [q1 j (by omega), swp_o r (by omega) (by omega)]
        have qb : q k = r i := by rw [q1 k (by omega), swp_a]
        have qc : ∀ j, k < j → j + 1 < n → q j < q (j + 1) := fun j p1 p2 => by
          rw [q2 j p1 (by omega), q2 (j + 1) (by omega) p2]
          have := hd1 (k + n - (j + 1)) (by omega) (by omega)
          rw [show k + n - (j + 1) + 1 = k + n - j by omega] at this
          exact this
        refine ⟨Fr_trans j1 f2, Or.inr ⟨rfl, q, hq, hAq, next_up (S := S) hk hi hin hri qa qb, fun s hs hl => next_least hA hAq hk hd hi hin hil qa qb qc hs hl⟩⟩
  have k4 : ∀ c fuel, c + 1 ≤ n → c < fuel → (∀ j, c ≤ j → j + 1 < n → r (j + 1) < r j) → Ok (fX12_nextRow_4 N (nI n) fuel (fX12_nextRow_19 N (nI n)) (dn c) w) (fun x => Fr [119] w x.2 ∧ ((x.1 = nI 0 ∧ ∀ s, arr S n s → ¬ lx n r s) ∨ (x.1 = nI 1 ∧ ∃ r', rwT x.2 n r' ∧ arr S n r' ∧ lx n r r' ∧ ∀ s, arr S n s → lx n r s → ¬ lx n s r'))) := by
    intro c
    induction c with
    | zero =>
      intro fuel _ hf hd
      obtain ⟨fu, rfl⟩ : ∃ m, fuel = m + 1 := ⟨fuel - 1, by omega⟩
      have lt : (dn 0 < 0) = True := eq_true nz_neg1
      simp only [fX12_nextRow_4, fX12_nextRow_19, ↓lt, ↓reduceIte]
      exact ok_some ⟨Fr_refl _ _, Or.inl ⟨rfl, fun s hs => desc_last hA (fun j hj => hd j (by omega) hj) hs⟩⟩
    | succ c ih =>
      intro fuel hc hf hd
      obtain ⟨fu, rfl⟩ : ∃ m, fuel = m + 1 := ⟨fuel - 1, by omega⟩
      have ed : dn (c + 1) = nI c := if_neg (by omega)
      have lt : (nI c < 0) = False := eq_false (nz_ge0 (by omega))
      have l1 : ldI w 119 0 (nI c) 8 = some (nI (r c)) := by rw [ldn (by omega) (by omega), hR c (by omega)]
      have l2 : ldI w 119 0 (nI c + (1 : Int32)) 8 = some (nI (r (c + 1))) := by rw [li1, nI_add, ldn (by omega) (by omega), hR (c + 1) (by omega)]
      have a1 := h8 c (by omega)
      have a2 := h8 (c + 1) (by omega)
      rw [ed]
      by_cases y : r (c + 1) < r c
      · have lt2 : (nI (r (c + 1)) < nI (r c)) = True := eq_true ((nI_ltI (by omega) (by omega)).mpr y)
        have e2 : nI c + (-1 : Int32) = dn c := dn_add c
        simp only [fX12_nextRow_4, ↓lt, ↓bnd l1, ↓bnd l2, ↓lt2, ↓reduceIte, ↓e2, callW_eq]
        refine ih fu (by omega) (by omega) (fun j h1 h2 => ?_)
        rcases Nat.lt_or_ge c j with z | z
        · exact hd j z h2
        · have : j = c := by omega
          subst this; exact y
      · have lt2 : (nI (r (c + 1)) < nI (r c)) = False := eq_false (fun z => y ((nI_ltI (by omega) (by omega)).mp z))
        have hne := hA.2.1 c (c + 1) (by omega) (by omega)
        simp only [fX12_nextRow_4, fX12_nextRow_19, ↓lt, ↓bnd l1, ↓bnd l2, ↓lt2, ↓reduceIte, callW_eq]
        rw [eN]
        exact k27 N (n - 1) c (by omega) (by omega) (by omega) (by omega) (by omega) (fun j h1 h2 => hd j h1 h2) (fun j h1 h2 => by omega)
  have e0 : nI n - (2 : Int32) = dn (n - 1) := by
    have : ∀ c, c < 8 → nI (c + 1) - (2 : Int32) = dn c := by decide
    have := this (n - 1) (by omega)
    rw [show n - 1 + 1 = n by omega] at this
    exact this
  unfold pX12_nextRow
  rw [callW_eq, e0]
  exact k4 (n - 1) N (by omega) (by omega) (fun j h1 h2 => by omega)
end

/-! ===== the reference lays the way ===== -/
section
variable {N : Nat} {w : Wd} {v : Vw}
theorem spN_sp (v : Vw) (kn D : Nat → Nat) (f i g : Nat) : spN (spF v kn D f i) kn (wyS v D f (i + 1)).1 g = spF v kn D f (i + 1) g := rfl
/-- what layWay leaves -/
def wayT (w : Wd) (v : Vw) (D : Nat → Nat) (f : Nat) : Prop := gI w 16 0 82 = nI (lsF D f 7 % 100) ∧ ∀ i, i < lsF D f 7 % 100 → gI w 113 0 i = nI (wyS v D f i).1 ∧ gI w 114 0 i = nI (gS v D f (lsF D f 7 % 100) i)
def kWy : List Nat := [112, 113, 114, 115, 116, 117, 17082, 17083]
theorem m_w59 (T : TM w v) (hF : WF v) (hN : 100 ≤ N) {kn D : Nat → Nat} {to f : Nat} (hD : FD v kn to D) (ht : to < 8) (hf : f < v 0 0) (hb : lsF D f 7 < 99999) (hDw : ∀ s, s < 56 → gI w 112 0 s = nI (D s)) {i : Nat} (hi : i + 1 < lsF D f 7 % 100) (hS : ∀ g, g < 7 → gI w 116 0 g = nI (spF v kn D f i g)) (hW : gI w 113 0 i = nI (wyS v D f i).1) (K : Int32 → Int32 → Int32 → Wd → Option (Int32 × Wd)) :
    ∀ fuel c, c ≤ (wyS v D f (i + 1)).1 → 8 - c < fuel → fX12_layWay_59 N fuel K (nI (lsF D f 7)) (nI (i + 1)) (nI c) w = K (nI (lsF D f 7)) (nI (i + 1)) (nI (wyS v D f (i + 1)).1) w := by
  have h2 := WF_parts hF
  have hB := FD_best hD ht (show f < 8 by omega) hb
  have w1 := (way_facts hF hD ht hf hb i (by omega)).1
  obtain ⟨w2, w3, _⟩ := way_facts hF hD ht hf hb (i + 1) hi
  obtain ⟨adj, enx, first⟩ := way_adj hF hD ht hf hb hi
  have em : nI (i + 1) - (1 : Int32) = nI i := nI_pred i
  have l1 : ldI w 113 0 (nI (i + 1) - (1 : Int32)) 9 = some (nI (wyS v D f i).1) := by rw [em, ldn (by omega) (by omega), hW]
  intro fuel
  induction fuel with
  | zero => intro c _ h; omega
  | succ fu ih =>
    intro c hc hfu
    have go := m_goesOn (N := N) (w := w) (S := spF v kn D f i) T hF hN (fun s hs => ⟨hDw s hs, (hD.1 s hs).1⟩) (fun g hg => ⟨hS g hg, spF_le v kn D f i g⟩) (i := i) (k := (wyS v D f i).1) (m := c) (best := lsF D f 7) (by omega) w1 (by omega) (by omega)
    rw [gOn_cand hF hD ht hf hb (show i < lsF D f 7 % 100 by omega) (show c < 8 by omega), ← em] at go
    have e1 : nI c + (1 : Int32) = nI (c + 1) := nI_add c 1
    rcases Nat.lt_or_ge c (wyS v D f (i + 1)).1 with q | q
    · rw [first c q] at go
      have z0 : (zB false = (0 : Int32)) = True := eq_true (by decide)
      simp only [fX12_layWay_59, ↓bnd l1, ↓cbnd go, z0, ↓e1, ↓reduceIte, callW_eq]
      exact ih (c + 1) (by omega) (by omega)
    · have hc' : c = (wyS v D f (i + 1)).1 := by omega
      have : ((v 3 (wyS v D f i).1).testBit c && nxS D (wyS v D f i).1 (wyS v D f i).2 c != 0) = true := by
        rw [hc', ← enx, adj, Bool.true_and, bne_iff_ne]
        exact w3
      rw [this] at go
      have z0 : (zB true = (0 : Int32)) = False := eq_false (by decide)
      simp only [fX12_layWay_59, ↓bnd l1, ↓cbnd go, z0, ↓reduceIte]
      rw [hc']
theorem m_layWay (T : TM w v) (hF : WF v) (hN : 2 ^ 23 ≤ N) {kn : Nat → Nat} (hkn : ∀ g, g < 7 → gI w 111 0 g = nI (kn g) ∧ kn g < 2 ^ 8) {q : Nat} (hq : q < v 0 2) :
    Ok (pX12_layWay N (nI q) w) (fun r => Fr kWy w r.2 ∧ ∃ D : Nat → Nat, FD v kn (v 10 q) D ∧ (if lsF D (v 9 q) 7 < 99999 then r.1 = nI 1 ∧ wayT r.2 v D (v 9 q) else r.1 = nI 0)) := by
  have h2 := WF_parts hF
  have h3 := WF_parties hF
  have hf := WF_pfrom hF q hq
  have ht := WF_pto hF q hq
  unfold pX12_layWay
  rw [callW_eq]
  refine ok_bind (m_leastOf T hF hN hkn hq) ?_
  rintro ⟨x, w1⟩ ⟨j1, D, j2, j3, j4⟩
  simp only at j1 j2 j4
  subst j4
  have hle := (lsF_le D (v 9 q) 7).1
  by_cases hb : lsF D (v 9 q) 7 < 99999
  · have lt : (nI (lsF D (v 9 q) 7) < (99999 : Int32)) = True := eq_true ((nI_ltI (b := 99999) (by omega) (by omega)).mpr hb)
    have hB := FD_best j3 (show v 10 q < 8 by omega) (show v 9 q < 8 by omega) hb
    have ed : nI (lsF D (v 9 q) 7) / (100 : Int32) = nI (lsF D (v 9 q) 7 / 100) := pk_div (a := lsF D (v 9 q) 7) (d := 100) (by omega) (by omega) (by omega)
    have er : nI (lsF D (v 9 q) 7) - nI (lsF D (v 9 q) 7 / 100) * (100 : Int32) = nI (lsF D (v 9 q) 7 % 100) := by
      rw [li100, pk_mul]
      have e : lsF D (v 9 q) 7 = lsF D (v 9 q) 7 % 100 + lsF D (v 9 q) 7 / 100 * 100 := by omega
      conv => lhs; arg 1; rw [e, ← nI_add]
      exact Int32.add_sub_cancel _ _
    generalize hw2 : setI (setI w1 16 0 82 (nI (lsF D (v 9 q) 7 % 100))) 16 0 83 (nI (lsF D (v 9 q) 7 / 100)) = w2
    have F2 : Fr kWy w w2 := by
      rw [← hw2]
      exact Fr_setI (Fr_setI (Fr_mono j1 rfl) rfl) rfl
    have T2 : TM w2 v := TM_fr F2 T
    have a82 : gI w2 16 0 82 = nI (lsF D (v 9 q) 7 % 100) := by rw [← hw2]; rfl
    have a83 : gI w2 16 0 83 = nI (lsF D (v 9 q) 7 / 100) := by rw [← hw2]; rfl
    have a112 : ∀ s, s < 56 → gI w2 112 0 s = nI (D s) := fun s hs => by rw [← hw2]; exact j2 s hs
    have l2 : ldI w2 84 0 (nI q) 16 = some (nI (v 9 q)) := by rw [ldn (by omega) (by omega), TM_pfrom T2 q hq]
    have s3 : ∀ x, stI w2 113 0 (0 : Int32) 9 x = some (setI w2 113 0 0 x) := fun x => stn (j := 0) (by omega) (by omega)
    simp only [lt, ↓reduceIte, ↓ed, ↓er, ↓hw2, ↓bnd l2, ↓bnd (s3 _), callW_eq]
    have F3 : Fr kWy w (setI w2 113 0 0 (nI (v 9 q))) := Fr_setI F2 rfl
    have a113 : gI (setI w2 113 0 0 (nI (v 9 q))) 113 0 0 = nI (wyS v D (v 9 q) 0).1 := rfl
    have G3 : Fr [113, 114, 115, 116, 117] w2 (setI w2 113 0 0 (nI (v 9 q))) := Fr_setI (Fr_refl _ _) rfl
    have G3' : gI (setI w2 113 0 0 (nI (v 9 q))) 113 0 0 = nI (wyS v D (v 9 q) 0).1 := rfl
    generalize setI w2 113 0 0 (nI (v 9 q)) = w3 at *
    have hkn2 : ∀ g, g < 7 → gI w2 111 0 g = nI (kn g) := fun g hg => ((F2 111 0 g rfl).1).trans (hkn g hg).1
    have k53 : ∀ n i fuel w4, i + n + 1 = lsF D (v 9 q) 7 % 100 → n < fuel → (Fr [113, 114, 115, 116, 117] w2 w4 ∧ (∀ j, j ≤ i → gI w4 113 0 j = nI (wyS v D (v 9 q) j).1) ∧ ∀ g, g < 7 → gI w4 116 0 g = nI (spF v kn D (v 9 q) i g)) → Ok (fX12_layWay_53 N fuel (fX12_layWay_85 N) (nI (lsF D (v 9 q) 7)) (nI (i + 1)) w4) (fun r => Fr kWy w r.2 ∧ ∃ D : Nat → Nat, FD v kn (v 10 q) D ∧ (if lsF D (v 9 q) 7 < 99999 then r.1 = nI 1 ∧ wayT r.2 v D (v 9 q) else r.1 = nI 0)) := by
      intro n
      induction n with
      | zero =>
        intro i fuel w4 hi hfu hI
        obtain ⟨i1, i2, i3⟩ := hI
        obtain ⟨fu, rfl⟩ : ∃ m, fuel = m + 1 := ⟨fuel - 1, by omega⟩
        have b82 : gI w4 16 0 82 = nI (lsF D (v 9 q) 7 % 100) := ((i1 16 0 82 rfl).1).trans a82
        have lt : (nI (i + 1) < gI w4 16 0 82) = False := eq_false (fun z => by
          rw [b82] at z
          have := (nI_ltI (by omega) (by omega)).mp z
          omega)
        simp only [fX12_layWay_53, fX12_layWay_85, ↓lt, ↓reduceIte, callW_eq]
        refine ok_bind (m_layGuides (N := N) (w := w4) (kn := kn) (by omega) hF j3 (by omega) hf hb b82 (((i1 16 0 83 rfl).1).trans a83) (fun g hg => ⟨((i1 111 0 g rfl).1).trans (hkn2 g hg), (hkn g hg).2⟩) (fun j hj => i2 j (by omega))) ?_
        rintro w5 ⟨p1, p2⟩
        refine ok_some ⟨Fr_trans F2 (Fr_trans (Fr_mono i1 rfl) (Fr_mono p1 rfl)), D, j3, ?_⟩
        rw [if_pos hb]
        refine ⟨rfl, ((p1 16 0 82 rfl).1).trans b82, fun j hj => ⟨((p1 113 0 j rfl).1).trans (i2 j (by omega)), p2 j hj⟩⟩
      | succ n ih =>
        intro i fuel w4 hi hfu hI
        obtain ⟨i1, i2, i3⟩ := hI
        obtain ⟨fu, rfl⟩ : ∃ m, fuel = m + 1 := ⟨fuel - 1, by omega⟩
        have b82 : gI w4 16 0 82 = nI (lsF D (v 9 q) 7 % 100) := ((i1 16 0 82 rfl).1).trans a82
        have lt : (nI (i + 1) < gI w4 16 0 82) = True := eq_true (by
          rw [b82]
          exact (nI_ltI (by omega) (by omega)).mpr (by omega))
        have wf := (way_facts hF j3 (show v 10 q < 8 by omega) hf hb (i + 1) (by omega)).1
        have e59 := m_w59 (N := N) (w := w4) (TM_fr i1 T2) hF (by omega) j3 (by omega) hf hb (fun s hs => ((i1 112 0 s rfl).1).trans (a112 s hs)) (show i + 1 < _ by omega) i3 (i2 i (by omega)) (fX12_layWay_75 N (fX12_layWay_53 N fu (fX12_layWay_85 N))) N 0 (by omega) (by omega)
        simp only [fX12_layWay_53, ↓lt, ↓reduceIte, callW_eq]
        rw [li0, e59]
        have s1 : ∀ x, stI w4 113 0 (nI (i + 1)) 9 x = some (setI w4 113 0 (i + 1) x) := fun x => stn (by omega) (by omega)
        have e1 : nI (i + 1) + (1 : Int32) = nI (i + 1 + 1) := nI_add (i + 1) 1
        simp only [fX12_layWay_75, ↓bnd (s1 _), ↓e1, callW_eq]
        refine ok_bind (m_laySpent (N := N) (S := spF v kn D (v 9 q) i) (kn := kn) (by omega) (fun g hg => ⟨by rw [gg_I, if_neg (by omega)]; exact i3 g hg, spF_le v kn D _ i g⟩) (fun g hg => ⟨by rw [gg_I, if_neg (by omega)]; exact ((i1 111 0 g rfl).1).trans (hkn2 g hg), (hkn g hg).2⟩) (show (wyS v D (v 9 q) (i + 1)).1 < 8 by omega)) ?_
        rintro w5 ⟨p1, p2⟩
        refine ih (i + 1) fu w5 (by omega) (by omega) ⟨Fr_trans (Fr_setI i1 rfl) (Fr_mono p1 rfl), fun j hj => ?_, fun g hg => p2 g hg⟩
        rw [(p1 113 0 j rfl).1, gg_I]
        by_cases y : j = i + 1
        · subst y; rw [if_pos ⟨rfl, rfl, rfl⟩]
        · rw [if_neg (fun z => y z.2.2)]; exact i2 j (by omega)
    have k29 : ∀ fuel c w4, c ≤ 7 → 7 - c < fuel → (Fr [113, 114, 115, 116, 117] w2 w4 ∧ gI w4 113 0 0 = nI (wyS v D (v 9 q) 0).1 ∧ ∀ g, g < c → gI w4 116 0 g = nI (spF v kn D (v 9 q) 0 g)) → Ok (fX12_layWay_29 N fuel (fX12_layWay_51 N) (nI (lsF D (v 9 q) 7)) (nI c) w4) (fun r => Fr kWy w r.2 ∧ ∃ D : Nat → Nat, FD v kn (v 10 q) D ∧ (if lsF D (v 9 q) 7 < 99999 then r.1 = nI 1 ∧ wayT r.2 v D (v 9 q) else r.1 = nI 0)) := by
      intro fuel
      induction fuel with
      | zero => intro c _ _ h; omega
      | succ fu ih =>
        intro c w4 hc hfu hI
        obtain ⟨i1, i2, i3⟩ := hI
        rcases Nat.lt_or_ge c 7 with y | y
        · have lt : (nI c < (7 : Int32)) = True := eq_true ((nI_ltI (a := c) (b := 7) (by omega) (by omega)).mpr y)
          have hk8 := (hkn c y).2
          have l1 : ldI w4 111 0 (nI c) 7 = some (nI (kn c)) := by rw [ldn (by omega) (by omega), (i1 111 0 c rfl).1, hkn2 c y]
          have l3 : ldI w4 113 0 (0 : Int32) 9 = some (nI (v 9 q)) := by
            rw [li0, ldn (by omega) (by omega), i2]; rfl
          have go := m_isOf (N := N) (w := w4) (x := kn c) (k := v 9 q) (by omega) (by omega)
          have s1 : ∀ x, stI w4 116 0 (nI c) 7 x = some (setI w4 116 0 c x) := fun x => stn (by omega) (by omega)
          have e1 : nI c + (1 : Int32) = nI (c + 1) := nI_add c 1
          have e := ih (c + 1) (setI w4 116 0 c (nI (spF v kn D (v 9 q) 0 c))) (by omega) (by omega) ⟨Fr_setI i1 rfl, by rw [gg_I, if_neg (by omega)]; exact i2, fun g hg => by
            rw [gg_I]
            by_cases z : g = c
            · subst z; rw [if_pos ⟨rfl, rfl, rfl⟩]
            · rw [if_neg (fun u => z u.2.2)]; exact i3 g (by omega)⟩
          by_cases z : (kn c).testBit (v 9 q) = true
          · have es : spF v kn D (v 9 q) 0 c = 0 := if_pos z
            rw [z] at go
            rw [es] at e
            have z0 : (zB true = (0 : Int32)) = False := eq_false (by decide)
            simp only [fX12_layWay_29, lt, ↓bnd l1, ↓bnd l3, ↓cbnd go, z0, ↓bnd (s1 _), ↓e1, ↓reduceIte, callW_eq]
            exact e
          · have es : spF v kn D (v 9 q) 0 c = 99 := if_neg z
            rw [Bool.not_eq_true] at z
            rw [z] at go
            rw [es] at e
            have z0 : (zB false = (0 : Int32)) = True := eq_true (by decide)
            simp only [fX12_layWay_29, lt, ↓bnd l1, ↓bnd l3, ↓cbnd go, z0, ↓bnd (s1 _), ↓e1, ↓reduceIte, callW_eq]
            exact e
        · have : c = 7 := by omega
          subst this
          have lt : (nI 7 < (7 : Int32)) = False := eq_false (by decide)
          simp only [fX12_layWay_29, fX12_layWay_51, lt, ↓reduceIte, callW_eq]
          exact k53 (lsF D (v 9 q) 7 % 100 - 1) 0 N w4 (by omega) (by omega) ⟨i1, fun j hj => by
            have : j = 0 := by omega
            subst this; exact i2, i3⟩
    rw [li0]
    exact k29 N 0 w3 (by omega) (by omega) ⟨G3, G3', fun g h => by omega⟩
  · have lt : (nI (lsF D (v 9 q) 7) < (99999 : Int32)) = False := eq_false (fun z => hb ((nI_ltI (b := 99999) (by omega) (by omega)).mp z))
    simp only [lt, ↓reduceIte]
    refine ok_some ⟨Fr_mono j1 rfl, D, j3, ?_⟩
    rw [if_neg hb]
    rfl
end

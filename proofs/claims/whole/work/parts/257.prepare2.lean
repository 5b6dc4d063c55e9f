/-! ===== the class: the tables behind d steps ===== -/
section
variable {N : Nat} {w : Wd} {v : Vw}
def orT (w : Wd) (v : Vw) (p S n d : Nat) : Prop :=
  (∀ i, i < d → gI w 41 0 i = nI (sBits v p (v 0 5 + i))) ∧
  (∀ i k, i < d → k < v 0 0 → S.testBit k = true → gI w 43 k i = nI (unO v p i k) ∧ (∀ a, a ≤ pc (v 3 k) → gI w 40 0 (slO i k a) = nI (chO v p i k a))) ∧
  (∀ i, i < d → ∃ x, x < 2 ^ 31 ∧ gI w 44 0 i = nI x ∧ ∀ k, k < v 0 0 → S.testBit k = true → unO v p i k ≤ x) ∧
  (∃ l, l < 2 ^ 8 ∧ gI w 9 0 7 = nI l ∧ ∀ k, l.testBit k = true → S.testBit k = true ∧ ∀ i, i < d → n ≤ unO v p i k + 1)
theorem c_prepare (hR : RC w 0 v) (hF : WF v) (hL : WL v) (h5 : v 0 5 ≤ 1000) (hT : ∀ j, v 18 j ≤ v 0 5) (hN : 100 ≤ N) {p S n d : Nat} (hp : p < v 0 1) (hn : n ≤ 8) (hd : d < n) (hS : S < 2 ^ v 0 0) (h9 : gI w 9 0 1 = nI p) (h92 : gI w 9 0 2 = nI S) (h12 : gI w 9 0 12 = nI n) (hO : orT w v p S n d) :
    Ok (pX5_prepare N (nI d) w) (fun w' => Fr kPr w w' ∧ orT w' v p S n (d + 1)) := by
  have h1 := WF_people hF
  have h2 := WF_parts hF
  have hS8 : S < 2 ^ 8 := Nat.lt_of_lt_of_le hS (Nat.pow_le_pow_right (by omega) h2)
  obtain ⟨o1, o2, o3, l, l1, l2, l3⟩ := hO
  have en : gI w 13 0 1 + nI d = nI (v 0 5 + d) := by rw [SC_night hR.2, nI_add]
  have gk : pX9_knownBits N 0 (gI w 9 0 1) (gI w 13 0 1 + nI d) w = some (nI (sBits v p (v 0 5 + d)), w) := by
    rw [h9, en]
    exact c_known hR hF hN hp (by omega)
  have s2 : ∀ x, stI w 41 0 (nI d) 8 x = some (setI w 41 0 d x) := fun x => stn (by omega) (by omega)
  have s3 : ∀ w' x, stI w' 44 0 (nI d) 8 x = some (setI w' 44 0 d x) := fun w' x => stn (by omega) (by omega)
  simp only [pX5_prepare, ↓cbnd gk, ↓bnd (s2 _), ↓bnd (s3 _ _), ↓en]
  rw [callW_eq]
  have f2 : Fr [41, 44] w (setI (setI w 41 0 d (nI (sBits v p (v 0 5 + d)))) 44 0 d (0 : Int32)) := Fr_setI (Fr_setI (Fr_refl _ _) rfl) rfl
  have a41 : ∀ j, gI (setI (setI w 41 0 d (nI (sBits v p (v 0 5 + d)))) 44 0 d (0 : Int32)) 41 0 j = if j = d then nI (sBits v p (v 0 5 + d)) else gI w 41 0 j := fun j => by
    rw [gg_I, if_neg (by omega), gg_I]
    by_cases y : j = d
    · rw [if_pos ⟨rfl, rfl, y⟩, if_pos y]
    · rw [if_neg (fun z => y z.2.2), if_neg y]
  have a44 : ∀ j, gI (setI (setI w 41 0 d (nI (sBits v p (v 0 5 + d)))) 44 0 d (0 : Int32)) 44 0 j = if j = d then nI 0 else gI w 44 0 j := fun j => by
    rw [gg_I]
    by_cases y : j = d
    · rw [if_pos ⟨rfl, rfl, y⟩, if_pos y]; rfl
    · rw [if_neg (fun z => y z.2.2), if_neg y, gg_I, if_neg (by omega)]
  generalize setI (setI w 41 0 d (nI (sBits v p (v 0 5 + d)))) 44 0 d (0 : Int32) = w2 at f2 a41 a44
  have hz : (0 : Int32) = nI 0 := rfl
  rw [hz]
  refine ok_mono (c_prep23 (N := N) (w0 := w2) (S := S) (p := p) (i := d) (n := n) (L := l) (RC_fr f2 hR) hF hL h5 hT hN hp (by omega) (by omega) hn hS8 (((f2 9 0 1 rfl).1).trans h9) (((f2 9 0 2 rfl).1).trans h92) (((f2 9 0 12 rfl).1).trans h12) N 0 w2 (by omega) (by omega) (Fr_refl _ _) ⟨fun k hk => by omega, fun _ _ _ => rfl, fun _ _ _ _ _ _ => rfl, ⟨0, by omega, by rw [a44, if_pos rfl], fun k hk => by omega⟩, fun _ _ => rfl, ⟨l, l1, ((f2 9 0 7 rfl).1).trans l2, fun k hk => ⟨hk, fun a => by omega⟩⟩⟩) (fun w3 h3 => ?_)
  obtain ⟨f3, p1, p2, p3, p4, p5, p6⟩ := h3
  refine ⟨Fr_trans (Fr_mono f2 rfl) (Fr_mono f3 rfl), fun j hj => ?_, fun j k hj hk hb => ?_, fun j hj => ?_, ?_⟩
  · rw [(f3 41 0 j rfl).1, a41]
    by_cases y : j = d
    · rw [if_pos y, y]
    · rw [if_neg y]; exact o1 j (by omega)
  · by_cases y : j = d
    · subst y
      exact p1 k hk hb
    · have hpa : pc (v 3 k) ≤ 8 := pc_lt (WF_beside8 hF k)
      refine ⟨by rw [p2 k j y, (f2 43 k j rfl).1]; exact (o2 j k (by omega) hk hb).1, fun a ha => ?_⟩
      rw [p3 j k a y (by omega) (by omega), (f2 40 0 _ rfl).1]
      exact (o2 j k (by omega) hk hb).2 a ha
  · by_cases y : j = d
    · subst y
      exact p4
    · obtain ⟨x, x1, x2, x3⟩ := o3 j (by omega)
      exact ⟨x, x1, by rw [p5 j y, a44, if_neg y]; exact x2, x3⟩
  · obtain ⟨l', l1', l2', l3'⟩ := p6
    refine ⟨l', l1', l2', fun k hk => ⟨(l3 k (l3' k hk).1).1, fun j hj => ?_⟩⟩
    have hSk := (l3 k (l3' k hk).1).1
    by_cases y : j = d
    · subst y
      exact (l3' k hk).2 (bit_lt hS hSk) hSk
    · exact (l3 k (l3' k hk).1).2 j (by omega)
end

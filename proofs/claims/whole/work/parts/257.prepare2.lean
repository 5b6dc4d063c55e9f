/-! ===== the class: all steps from the last on ===== -/
def pmO (v : Vw) (p S n : Nat) : Nat → Nat → Nat
  | 0, _ => 0
  | d + 1, k => if S.testBit k = true then (if pmO v p S n d k < mxO v p (n - (d + 1)) k then mxO v p (n - (d + 1)) k else pmO v p S n d k) else pmO v p S n d k
def smO (v : Vw) (p S n : Nat) : Nat → Nat
  | 0 => 1
  | d + 1 => smO v p S n d * stM v p S (n - (d + 1)) (v 0 0)
theorem pmO_le {v : Vw} (hF : WF v) (p S n d k : Nat) : pmO v p S n d k ≤ 100 := by
  induction d with
  | zero => exact Nat.zero_le _
  | succ d ih =>
    have e : mxO v p (n - (d + 1)) k ≤ 100 := mxA_le hF p (n - (d + 1)) k (pc (v 3 k) + 1)
    rw [pmO]
    split
    · split <;> omega
    · exact ih
section
variable {N : Nat} {w : Wd} {v : Vw}
def orT (w : Wd) (v : Vw) (p S n d : Nat) : Prop :=
  (∀ i, n - d ≤ i → i < n → gI w 41 0 i = nI (sBits v p (v 0 5 + i))) ∧
  (∀ i k, n - d ≤ i → i < n → k < v 0 0 → S.testBit k = true → gI w 43 k i = nI (utN v p k (v 0 5 + i) (v 0 6) - v 0 5) ∧ (∀ a, a ≤ pc (v 3 k) → gI w 40 0 (slO i k a) = nI (chO v p i k a))) ∧
  (∀ k, k < 8 → gI w 44 0 k = nI (pmO v p S n d k)) ∧
  (∀ e, e ≤ d → gL w 45 0 (n - e) = lN (smO v p S n e))
theorem c_prepare (hR : RC w 0 v) (hF : WF v) (hL : WL v) (h5 : v 0 5 ≤ 1000) (hT : ∀ j, v 18 j ≤ v 0 5) (hN : 100 ≤ N) {p S n d : Nat} (hp : p < v 0 1) (hn : n ≤ 8) (hd : d + 1 ≤ n) (hS : S < 2 ^ v 0 0) (h9 : gI w 9 0 1 = nI p) (h92 : gI w 9 0 2 = nI S) (hO : orT w v p S n d) :
    Ok (pX5_prepare N (nI (n - (d + 1))) w) (fun w' => Fr kPr w w' ∧ orT w' v p S n (d + 1)) := by
  have h1 := WF_people hF
  have h2 := WF_parts hF
  have hS8 : S < 2 ^ 8 := Nat.lt_of_lt_of_le hS (Nat.pow_le_pow_right (by omega) h2)
  obtain ⟨o1, o2, o3, o4⟩ := hO
  generalize hi : n - (d + 1) = i
  have hin : i + 1 = n - d := by omega
  have en : gI w 13 0 1 + nI i = nI (v 0 5 + i) := by rw [SC_night hR.2, nI_add]
  have gk : pX9_knownBits N 0 (gI w 9 0 1) (gI w 13 0 1 + nI i) w = some (nI (sBits v p (v 0 5 + i)), w) := by
    rw [h9, en]
    exact c_known hR hF hN hp (by omega)
  have s2 : ∀ x, stI w 41 0 (nI i) 8 x = some (setI w 41 0 i x) := fun x => stn (by omega) (by omega)
  simp only [pX5_prepare, ↓cbnd gk, ↓bnd (s2 _), ↓en, callW_eq]
  have f2 : Fr [41] w (setI w 41 0 i (nI (sBits v p (v 0 5 + i)))) := Fr_setI (Fr_refl _ _) rfl
  have a41 : ∀ j, gI (setI w 41 0 i (nI (sBits v p (v 0 5 + i)))) 41 0 j = if j = i then nI (sBits v p (v 0 5 + i)) else gI w 41 0 j := fun j => by
    rw [gg_I]
    by_cases y : j = i
    · subst y; rw [if_pos ⟨rfl, rfl, rfl⟩, if_pos rfl]
    · rw [if_neg (fun z => y z.2.2), if_neg y]
  generalize setI w 41 0 i (nI (sBits v p (v 0 5 + i))) = w2 at f2 a41
  refine c_prep20 (N := N) (w0 := w2) (S := S) (p := p) (i := i) (RC_fr f2 hR) hF hL h5 hT hN hp (by omega) hS8 (((f2 9 0 1 rfl).1).trans h9) (((f2 9 0 2 rfl).1).trans h92) (fun k hk => ⟨pmO v p S n d k, pmO_le hF p S n d k, ((f2 44 0 k rfl).1).trans (o3 k hk)⟩) _ (fun w3 f3 b41 b45 hP => ?_) N 0 w2 (by omega) (by omega) (Fr_refl _ _) ⟨fun k hk => by omega, fun _ _ _ => rfl, fun _ _ _ _ _ _ => rfl, fun k hk => by rw [if_neg (fun z => by omega)]⟩
  obtain ⟨p1, p2, p3, p4⟩ := hP
  have c45 : ∀ j, gL w3 45 0 j = gL w 45 0 j := fun j => (b45 j).trans (f2 45 0 j rfl).2.1
  have hst := stM_le hF p S i (v 0 0)
  have l1 : ldL w3 45 0 (nI i + (1 : Int32)) 9 = some (lN (smO v p S n d)) := by
    rw [li1, nI_add, ldLn (by omega) (by omega), c45, hin, o4 d (Nat.le_refl _)]
  have em : lN (smO v p S n d) * (nI (stM v p S i (v 0 0))).toInt64 = lN (smO v p S n (d + 1)) := by
    rw [nI_l (by omega), lN_mul, smO, hi]
  have s3 : ∀ x, stL w3 45 0 (nI i) 9 x = some (setL w3 45 0 i x) := fun x => stLn (by omega) (by omega)
  simp only [fX5_prepare_71, ↓bnd l1, ↓em, ↓bnd (s3 _)]
  refine ok_some ⟨Fr_setL (Fr_trans (Fr_mono f2 rfl) f3) rfl, fun j hj1 hj2 => ?_, fun j k hj1 hj2 hk hb => ?_, fun k hk => ?_, fun e he => ?_⟩
  · rw [gg_IL, b41, a41]
    by_cases y : j = i
    · rw [if_pos y, y]
    · rw [if_neg y]; exact o1 j (by omega) hj2
  · rw [gg_IL]
    by_cases y : j = i
    · subst y
      exact ⟨(p1 k hk hb).1, fun a ha => by rw [gg_IL]; exact (p1 k hk hb).2 a ha⟩
    · have hpa : pc (v 3 k) ≤ 8 := pc_lt (WF_beside8 hF k)
      refine ⟨by rw [p2 k j y, (f2 43 k j rfl).1]; exact (o2 j k (by omega) hj2 hk hb).1, fun a ha => ?_⟩
      rw [gg_IL, p3 j k a y (by omega) (by omega), (f2 40 0 _ rfl).1]
      exact (o2 j k (by omega) hj2 hk hb).2 a ha
  · have hx : gI w2 44 0 k = nI (pmO v p S n d k) := ((f2 44 0 k rfl).1).trans (o3 k hk)
    have hle := pmO_le hF p S n d k
    have hxn : (gI w2 44 0 k).toInt.toNat = pmO v p S n d k := by rw [hx, nI_toInt (by omega)]; rfl
    rw [gg_IL, p4 k hk, hxn, hx, pmO, hi]
    by_cases y : S.testBit k = true
    · have hkP : k < v 0 0 := bit_lt hS y
      rw [if_pos ⟨hkP, y⟩, if_pos y]
    · rw [if_neg (fun z => y z.2), if_neg y]
  · rw [gg_L]
    by_cases y : e = d + 1
    · subst y
      rw [if_pos ⟨rfl, rfl, hi⟩]
    · rw [if_neg (fun z => by have := z.2.2; omega), c45]
      exact o4 e (by omega)
end

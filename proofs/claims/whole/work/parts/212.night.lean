/-! ===== a night goes by ===== -/
def sNear (v : Vw) (a b : Nat) : Bool := decide (gD (v 3) (v 0 0) (2 ^ v 0 0 - 1) a b ≤ v 0 4)
def sSpo (v : Vw) (p : Nat) : Bool := anyB (fun q => q != p && (v 19 q != 0 && sNear v (v 19 p - 1) (v 19 q - 1))) (v 0 1)
def rnd (z : Int64) : Int64 := (z * (1103515245 : Int64) + (12345 : Int64)) &&& (2147483647 : Int64)
def dice (z : Int64) : Int64 := z / (65536 : Int64) - z / (65536 : Int64) / (100 : Int64) * (100 : Int64)
def npP (v0 : Vw) (n p : Nat) (s : Vw × Int64) : Vw × Int64 :=
  if v0 19 p = 0 then s
  else if dice (rnd s.2) < lN (sCh v0 p (v0 19 p - 1) n (sAr v0 p (v0 19 p - 1) n) (v0 18 p)) then
    (if sSpo v0 p then up2 s.1 18 p (v0 18 p + 1) else up2 (up2 s.1 18 p (v0 18 p + 1)) 16 (8 * p + (v0 19 p - 1)) (n + 2), rnd s.2)
  else (up2 s.1 17 p 1, rnd s.2)
def npN (v0 : Vw) (n : Nat) (z : Int64) : Nat → Vw × Int64
  | 0 => (v0, z)
  | p + 1 => npP v0 n p (npN v0 n z p)
def noLost (v : Vw) : Vw := fun r j => if r = 19 then 0 else v r j
def sNgt (v : Vw) (z : Int64) : Vw := up2 (noLost (npN v (v 0 5) z (v 0 1)).1) 0 5 (v 0 5 + 1)
def sNgz (v : Vw) (z : Int64) : Int64 := (npN v (v 0 5) z (v 0 1)).2
/-- what a night that is under way keeps -/
theorem np_keep {v0 : Vw} (h8 : ∀ p, v0 19 p ≤ 8) (n : Nat) (z : Int64) : ∀ p, (∀ r j, r ≠ 16 → r ≠ 17 → r ≠ 18 → (npN v0 n z p).1 r j = v0 r j) ∧
    (∀ q k, p ≤ q → k < 8 → (npN v0 n z p).1 16 (8 * q + k) = v0 16 (8 * q + k)) ∧ (∀ q, p ≤ q → (npN v0 n z p).1 17 q = v0 17 q) ∧ (∀ q, p ≤ q → (npN v0 n z p).1 18 q = v0 18 q) := by
  intro p
  induction p with
  | zero => exact ⟨fun _ _ _ _ _ => rfl, fun _ _ _ _ => rfl, fun _ _ => rfl, fun _ _ => rfl⟩
  | succ p ih =>
    obtain ⟨i1, i2, i3, i4⟩ := ih
    rw [npN, npP]
    split
    · exact ⟨i1, fun q k h => i2 q k (by omega), fun q h => i3 q (by omega), fun q h => i4 q (by omega)⟩
    · split
      · simp only
        split
        · refine ⟨fun r j a b c => ?_, fun q k h hk => ?_, fun q h => ?_, fun q h => ?_⟩
          · rw [up2_ne c]; exact i1 r j a b c
          · rw [up2_ne (by omega)]; exact i2 q k (by omega) hk
          · rw [up2_ne (by omega)]; exact i3 q (by omega)
          · rw [up2_nj (by omega)]; exact i4 q (by omega)
        · refine ⟨fun r j a b c => ?_, fun q k h hk => ?_, fun q h => ?_, fun q h => ?_⟩
          · rw [up2_ne a, up2_ne c]; exact i1 r j a b c
          · have := h8 p
            rw [up2_nj (by omega), up2_ne (by omega)]; exact i2 q k (by omega) hk
          · rw [up2_ne (by omega), up2_ne (by omega)]; exact i3 q (by omega)
          · rw [up2_ne (by omega), up2_nj (by omega)]; exact i4 q (by omega)
      · simp only
        refine ⟨fun r j a b c => ?_, fun q k h hk => ?_, fun q h => ?_, fun q h => ?_⟩
        · rw [up2_ne b]; exact i1 r j a b c
        · rw [up2_ne (by omega)]; exact i2 q k (by omega) hk
        · rw [up2_nj (by omega)]; exact i3 q (by omega)
        · rw [up2_ne (by omega)]; exact i4 q (by omega)

theorem sKnow_ext {v v' : Vw} {p k n : Nat} (h : ∀ r j, r ≠ 16 → r ≠ 17 → r ≠ 18 → v' r j = v r j) (h16 : v' 16 (8 * p + k) = v 16 (8 * p + k)) (h17 : v' 17 p = v 17 p) : sKnow v' p k n = sKnow v p k n := by
  have e14 : ∀ j, v' 14 j = v 14 j := fun j => h 14 j (by omega) (by omega) (by omega)
  have e15 : ∀ j, v' 15 j = v 15 j := fun j => h 15 j (by omega) (by omega) (by omega)
  have ek : ∀ L, sKill v' L k n = sKill v L k n := by
    intro L
    funext s
    simp only [sKill, e14, e15]
  simp only [sKnow, sThere, sLrn, h16, h17, ek, h 6 p (by omega) (by omega) (by omega), h 7 p (by omega) (by omega) (by omega), h 8 p (by omega) (by omega) (by omega), h 0 6 (by omega) (by omega) (by omega)]
theorem sBits_ext {v v' : Vw} {p n : Nat} (h8 : v 0 0 ≤ 8) (h : ∀ r j, r ≠ 16 → r ≠ 17 → r ≠ 18 → v' r j = v r j) (h16 : ∀ k, k < 8 → v' 16 (8 * p + k) = v 16 (8 * p + k)) (h17 : v' 17 p = v 17 p) : sBits v' p n = sBits v p n := by
  unfold sBits
  rw [h 0 0 (by omega) (by omega) (by omega)]
  exact mkB_ext (fun k hk => sKnow_ext h (h16 k (by omega)) h17)
theorem sWant_mr {v v' : Vw} (h : ∀ r j, mr r j → v' r j = v r j) (k n : Nat) : sWant v' k n = sWant v k n := by
  have e9 : ∀ j, v' 9 j = v 9 j := fun j => h 9 j (by simp [mr])
  have e10 : ∀ j, v' 10 j = v 10 j := fun j => h 10 j (by simp [mr])
  have e11 : ∀ j, v' 11 j = v 11 j := fun j => h 11 j (by simp [mr])
  simp only [sWant, e9, e10, e11, h 0 2 (by simp [mr])]
theorem sNm_mr {v v' : Vw} (h : ∀ r j, mr r j → v' r j = v r j) (p k n ar ti : Nat) : sNm v' p k n ar ti = sNm v p k n ar ti := by
  have e13 : ∀ j, v' 13 j = v 13 j := fun j => h 13 j (by simp [mr])
  funext x
  unfold sNm
  split
  · rw [h 2 k (by simp [mr])]
  · rfl
  · simp only [sWea, h 0 3 (by simp [mr]), e13]
  · rfl
  · rw [sWant_mr h]
  · rw [h 5 p (by simp [mr])]
  · rfl
theorem sLaw_mr {v v' : Vw} (h : ∀ r j, mr r j → v' r j = v r j) (a p k n ar ti : Nat) : sLaw v' a p k n ar ti = sLaw v a p k n ar ti := by
  rw [sLaw, sLaw, sNm_mr h, lK_ext h, lX_ext h, h 20 a (by simp [mr])]
theorem sCh_mr {v v' : Vw} (h : ∀ r j, mr r j → v' r j = v r j) (p k n ar ti : Nat) : sCh v' p k n ar ti = sCh v p k n ar ti := by
  rw [sCh, sCh, sLaw_mr h, h 20 0 (by simp [mr]), h 2 k (by simp [mr])]
theorem sNear_mr {v v' : Vw} (h : ∀ r j, mr r j → v' r j = v r j) (a b : Nat) : sNear v' a b = sNear v a b := by
  have e3 : v' 3 = v 3 := by funext j; exact h 3 j (by simp [mr])
  rw [sNear, sNear, h 0 0 (by simp [mr]), h 0 4 (by simp [mr]), e3]
theorem lst_m1 {L : Nat} (h : L < 2 ^ 30) : lst L = -nI 1 ↔ L = 0 := by
  match L with
  | 0 => simp [lst]
  | n + 1 => simp only [lst]; exact ⟨fun e => absurd e (nz_ne1 (by omega)), fun e => by omega⟩
theorem lst_neg {L : Nat} (h : L < 2 ^ 30) : lst L < nI 0 ↔ L = 0 := by
  match L with
  | 0 => simp only [lst]; exact ⟨fun _ => trivial, fun _ => nz_neg1⟩
  | n + 1 => simp only [lst]; exact ⟨fun e => absurd e (nz_ge0 (by omega)), fun e => by omega⟩
theorem lst_pos {L : Nat} (h : L ≠ 0) : lst L = nI (L - 1) := by
  match L with
  | 0 => exact absurd rfl h
  | n + 1 => rfl
/-- WF while a night is under way -/
theorem np_WF {v0 : Vw} (hF : WF v0) (hT : ∀ j, v0 18 j ≤ v0 0 5) {n : Nat} (hn : n ≤ 1050) (z : Int64) : ∀ p, WF (npN v0 n z p).1 ∧ ∀ j, (npN v0 n z p).1 18 j ≤ v0 0 5 + 1 := by
  have h19 : ∀ p, v0 19 p ≤ 8 := fun p => Nat.le_trans (WF_lost hF p) (WF_parts hF)
  have hN := WF_night hF
  have key : ∀ p, (∀ j, (npN v0 n z p).1 16 j ≤ 1052) ∧ (∀ j, (npN v0 n z p).1 17 j ≤ 1) ∧ (∀ j, (npN v0 n z p).1 18 j ≤ v0 0 5 + 1) := by
    intro p
    induction p with
    | zero => exact ⟨WF_learned hF, WF_gone hF, fun j => Nat.le_succ_of_le (hT j)⟩
    | succ p ih =>
      obtain ⟨i1, i2, i3⟩ := ih
      have hTp := hT p
      rw [npN, npP]
      split
      · exact ⟨i1, i2, i3⟩
      · split
        · simp only
          split
          · refine ⟨fun j => ?_, fun j => ?_, fun j => ?_⟩
            · rw [up2_ne (by omega)]; exact i1 j
            · rw [up2_ne (by omega)]; exact i2 j
            · unfold up2; split; omega; exact i3 j
          · refine ⟨fun j => ?_, fun j => ?_, fun j => ?_⟩
            · rw [up2]; split; omega; rw [up2_ne (by omega)]; exact i1 j
            · rw [up2_ne (by omega), up2_ne (by omega)]; exact i2 j
            · rw [up2_ne (by omega)]; unfold up2; split; omega; exact i3 j
        · simp only
          refine ⟨fun j => ?_, fun j => ?_, fun j => ?_⟩
          · rw [up2_ne (by omega)]; exact i1 j
          · unfold up2; split; omega; exact i2 j
          · rw [up2_ne (by omega)]; exact i3 j
  intro p
  obtain ⟨k1, k2, k3⟩ := key p
  obtain ⟨g1, _, _, _⟩ := np_keep h19 n z p
  refine ⟨WF_ext (fun r j h => g1 r j (by unfold mr at h; omega) (by unfold mr at h; omega) (by unfold mr at h; omega)) hF ?_ ?_ ?_ ?_ ?_ k1 k2 ?_ ?_, k3⟩
  · rw [g1 0 5 (by omega) (by omega) (by omega)]; exact hN
  · rw [g1 0 6 (by omega) (by omega) (by omega)]; exact WF_slides hF
  · intro s hs; rw [g1 14 s (by omega) (by omega) (by omega)]; rw [g1 0 6 (by omega) (by omega) (by omega)] at hs; exact WF_spart hF s hs
  · intro s; rw [g1 14 s (by omega) (by omega) (by omega)]; exact WF_bd hF 14 s
  · intro s; rw [g1 15 s (by omega) (by omega) (by omega)]; exact WF_snight hF s
  · intro j; have := k3 j; omega
  · intro s; rw [g1 19 s (by omega) (by omega) (by omega)]; exact WF_lost hF s

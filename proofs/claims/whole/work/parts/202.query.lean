/-! ===== what the state says: there, known, wanted ===== -/
def anyB (f : Nat → Bool) : Nat → Bool
  | 0 => false
  | n + 1 => anyB f n || f n
theorem anyB_ext {f g : Nat → Bool} {n : Nat} (h : ∀ k, k < n → f k = g k) : anyB f n = anyB g n := by
  induction n with
  | zero => rfl
  | succ n ih => rw [anyB, anyB, ih (fun k hk => h k (by omega)), h n (by omega)]
theorem anyB_false {f : Nat → Bool} {n : Nat} : anyB f n = false ↔ ∀ k, k < n → f k = false := by
  induction n with
  | zero => simp [anyB]
  | succ n ih =>
    rw [anyB, Bool.or_eq_false_iff, ih]
    constructor
    · rintro ⟨a, b⟩ k hk
      rcases Nat.lt_or_ge k n with h | h
      · exact a k h
      · have : k = n := by omega
        subst this; exact b
    · intro h
      exact ⟨fun k hk => h k (by omega), h n (by omega)⟩
theorem anyB_true {f : Nat → Bool} {n : Nat} : anyB f n = true ↔ ∃ k, k < n ∧ f k = true := by
  constructor
  · intro h
    apply Classical.byContradiction
    intro q
    have : anyB f n = false := anyB_false.mpr (fun k hk => by
      cases hf : f k with
      | false => rfl
      | true => exact absurd ⟨k, hk, hf⟩ q)
    rw [this] at h; cases h
  · rintro ⟨k, hk, hf⟩
    cases h : anyB f n with
    | true => rfl
    | false => rw [anyB_false.mp h k hk] at hf; cases hf
def sThere (v : Vw) (p n : Nat) : Bool := v 17 p == 0 && (decide (v 6 p ≤ n) && decide (n < v 7 p))
def sKill (v : Vw) (L k n s : Nat) : Bool := v 14 s == k && (decide (v 15 s ≤ n) && (L == 1 || decide (L - 2 < v 15 s)))
def sLrn (v : Vw) (p k n : Nat) : Bool := decide (1 ≤ v 16 (8 * p + k)) && (decide (v 16 (8 * p + k) - 2 ≤ n) && decide (n - (v 16 (8 * p + k) - 2) ≤ v 8 p))
def sKnow (v : Vw) (p k n : Nat) : Bool := sThere v p n && (sLrn v p k n && !anyB (sKill v (v 16 (8 * p + k)) k n) (v 0 6))
def sBits (v : Vw) (p n : Nat) : Nat := mkB (fun k => sKnow v p k n) (v 0 0)
def sWant (v : Vw) (k n : Nat) : Nat := cnt (fun q => decide (n ≤ v 11 q) && (v 9 q == k || v 10 q == k)) (v 0 2)
section
variable {N : Nat} {w : Wd} {i : Nat} {v : Vw}
theorem c_isThere (hR : RC w i v) (hF : WF v) {p n : Nat} (hp : p < v 0 1) (hn : n < 2 ^ 30) : pX9_isThere N i (nI p) (nI n) w = some (zB (sThere v p n), w) := by
  obtain ⟨T, S⟩ := hR
  have h1 := WF_people hF
  have h2 := WF_bd hF
  have a1 := h2 6 p
  have a2 := h2 7 p
  have hm := mkB_lt (fun p => v 17 p == 1) (v 0 1)
  have hm' : mkB (fun p => v 17 p == 1) (v 0 1) < 2 ^ 31 := Nat.lt_of_lt_of_le hm (Nat.pow_le_pow_right (by omega) (by omega))
  have h17 := WF_gone hF p
  unfold pX9_isThere
  rw [SC_gone S, li31, li1, li0, nz_bit hm' (by omega), nz_b1, mkB_bit]
  rw [ldn (by omega) (by omega), ldn (by omega) (by omega), TC_from T p hp, TC_till T p hp]
  simp only [Option.bind_some, nI_ltI (show n < 2 ^ 31 by omega) (show v 6 p < 2 ^ 31 by omega), nI_ltI (show n < 2 ^ 31 by omega) (show v 7 p < 2 ^ 31 by omega)]
  unfold sThere zB
  by_cases c1 : v 17 p = 1
  · simp [c1, hp]
  · have c2 : v 17 p = 0 := by omega
    by_cases c3 : n < v 6 p
    · simp [c2, c3, hp, show ¬ v 6 p ≤ n by omega]
    · by_cases c4 : n < v 7 p
      · simp [c2, c3, c4, hp, show v 6 p ≤ n by omega]
      · simp [c2, c3, c4, hp]
theorem c_wanted_loop (T : TC w i v) (hF : WF v) {k n : Nat} (hk : k < 2 ^ 30) (hn : n < 2 ^ 30) : ∀ fuel c s, c ≤ v 0 2 → v 0 2 - c < fuel → s = cnt (fun q => decide (n ≤ v 11 q) && (v 9 q == k || v 10 q == k)) c → fX4_wantedOn_4 N i (nI k) (nI n) fuel (nI s) (nI c) w = some (nI (sWant v k n), w) := by
  have h2 := WF_bd hF
  have h3 := WF_parties hF
  refine lupI (fun fuel s c => fX4_wantedOn_4 N i (nI k) (nI n) fuel (nI s) (nI c) w) (fun c s => s = cnt (fun q => decide (n ≤ v 11 q) && (v 9 q == k || v 10 q == k)) c) (v 0 2) (fun o => o = some (nI (sWant v k n), w)) ?_ ?_
  · intro f c s hc hs hk'
    have b1 := h2 11 c
    have b2 := h2 9 c
    have b3 := h2 10 c
    have e := hk' (cnt (fun q => decide (n ≤ v 11 q) && (v 9 q == k || v 10 q == k)) (c + 1)) rfl
    simp only [cnt, ← hs] at e
    simp only [fX4_wantedOn_4, TC_parties T, nI_ltI (show c < 2 ^ 31 by omega) (show v 0 2 < 2 ^ 31 by omega), hc, if_true, ldn (show c < 8 by omega) (show 8 < 2 ^ 31 by omega), Option.bind_some, TC_pnight T c hc, TC_pfrom T c hc, TC_pto T c hc, callW_eq, li1, nI_add, nI_ltI (show v 11 c < 2 ^ 31 by omega) (show n < 2 ^ 31 by omega), nI_eq (show v 9 c < 2 ^ 31 by omega) (show k < 2 ^ 31 by omega), nI_eq (show v 10 c < 2 ^ 31 by omega) (show k < 2 ^ 31 by omega)]
    by_cases c1 : v 11 c < n
    · simp only [c1, if_true]
      simpa [show ¬ n ≤ v 11 c by omega] using e
    · by_cases c2 : v 9 c = k
      · simp only [c1, c2, if_true, if_false]
        simpa [show n ≤ v 11 c by omega, c2] using e
      · by_cases c3 : v 10 c = k
        · simp only [c1, c2, c3, if_true, if_false]
          simpa [show n ≤ v 11 c by omega, c2, c3] using e
        · simp only [c1, c2, c3, if_false]
          simpa [show n ≤ v 11 c by omega, c2, c3] using e
  · intro f s hs
    simp only [fX4_wantedOn_4, TC_parties T, nI_ltI (show v 0 2 < 2 ^ 31 by omega) (show v 0 2 < 2 ^ 31 by omega), Nat.lt_irrefl, if_false, hs, sWant]
theorem c_wanted (T : TC w i v) (hF : WF v) (hN : 100 ≤ N) {k n : Nat} (hk : k < 2 ^ 30) (hn : n < 2 ^ 30) : pX4_wantedOn N i (nI k) (nI n) w = some (nI (sWant v k n), w) := by
  have h3 := WF_parties hF
  unfold pX4_wantedOn
  rw [callW_eq, li0]
  exact c_wanted_loop T hF hk hn N 0 0 (by omega) (by omega) rfl
end

/-! ===== what the state says: there, known, wanted ===== -/
def anyB (f : Nat → Bool) : Nat → Bool
  | 0 => false
  | n + 1 => anyB f n || f n
theorem anyB_ext {f g : Nat → Bool} {n : Nat} (h : ∀ k, k < n → f k = g k) : anyB f n = anyB g n := by
  induction n with
  | zero => rfl
  | succ n ih => rw [anyB, anyB, ih (fun k hk => h k (by omega)), h n (by omega)]
theorem anyB_false {f : Nat → Bool} {n : Nat} : anyB f n = false ↔ ∀ k, k < n → f k = false := by
  induction n with
  | zero => simp [anyB]
  | succ n ih =>
    rw [anyB, Bool.or_eq_false_iff, ih]
    constructor
    · rintro ⟨a, b⟩ k hk
      rcases Nat.lt_or_ge k n with h | h
      · exact a k h
      · have : k = n := by omega
        subst this; exact b
    · intro h
      exact ⟨fun k hk => h k (by omega), h n (by omega)⟩
theorem anyB_true {f : Nat → Bool} {n : Nat} : anyB f n = true ↔ ∃ k, k < n ∧ f k = true := by
  constructor
  · intro h
    apply Classical.byContradiction
    intro q
    have : anyB f n = false := anyB_false.mpr (fun k hk => by
      cases hf : f k with
      | false => rfl
      | true => exact absurd ⟨k, hk, hf⟩ q)
    rw [this] at h; cases h
  · rintro ⟨k, hk, hf⟩
    cases h : anyB f n with
    | true => rfl
    | false => rw [anyB_false.mp h k hk] at hf; cases hf
def sThere (v : Vw) (p n : Nat) : Bool := v 17 p == 0 && (decide (v 6 p ≤ n) && decide (n < v 7 p))
def sKill (v : Vw) (L k n s : Nat) : Bool := v 14 s == k && (decide (v 15 s ≤ n) && (L == 1 || decide (L - 2 < v 15 s)))
def sLrn (v : Vw) (p k n : Nat) : Bool := decide (1 ≤ v 16 (8 * p + k)) && (decide (v 16 (8 * p + k) - 2 ≤ n) && decide (n - (v 16 (8 * p + k) - 2) ≤ v 8 p))
def sKnow (v : Vw) (p k n : Nat) : Bool := sThere v p n && (sLrn v p k n && !anyB (sKill v (v 16 (8 * p + k)) k n) (v 0 6))
def sBits (v : Vw) (p n : Nat) : Nat := mkB (fun k => sKnow v p k n) (v 0 0)
def sWant (v : Vw) (k n : Nat) : Nat := cnt (fun q => decide (n ≤ v 11 q) && (v 9 q == k || v 10 q == k)) (v 0 2)
section
variable {N : Nat} {w : Wd} {i : Nat} {v : Vw}
theorem c_isThere (hR : RC w i v) (hF : WF v) {p n : Nat} (hp : p < v 0 1) (hn : n < 2 ^ 30) : pX9_isThere N i (nI p) (nI n) w = some (zB (sThere v p n), w) := by
  obtain ⟨T, S⟩ := hR
  have h1 := WF_people hF
  have a1 := WF_from hF p
  have a2 := WF_till hF p
  have hm := mkB_lt (fun p => v 17 p == 1) (v 0 1)
  have hm' : mkB (fun p => v 17 p == 1) (v 0 1) < 2 ^ 31 := Nat.lt_of_lt_of_le hm (Nat.pow_le_pow_right (by omega) (by omega))
  have h17 := WF_gone hF p
  simp (disch := first | assumption | omega) only [pX9_isThere, SC_gone S, TC_from T, TC_till T, mkB_bit, nz_bit, nz_b1, nz_b2, nz_shl, nz_not, nz_and, nz_or, ldn, ldLn, ldRn, stn, stLn, cpn, nI_ltI, nI_leI, nI_eq, callW_eq, Option.bind_some, li0, li1, li2, li3, li4, li5, li6, li7, li8, li9, li10, li11, li12, li13, li14, li15, li16, li17, li18, li19, li20, li21, li22, li23, li24, li25, li26, li27, li28, li29, li30, li31, li32, li33, li34, li35, li36, li37, li38, li39, li40, li41, li42, li43, li44, li45, li47, li48, li50, li56, li57, li59, li60, li61, li62, li63, li64, li90, li96, li97, li99, li100, li122, li200, li255, li256, li900, li999, li1000, li9999, li65536, li99999, li1000000, li1048576, gg_I, gg_LI, gg_RI, gg_L, gg_IL, gg_RL, gg_R, gg_IR, gg_LR, gg_row, gg_Lrow, gg_Rrow, nI_add, pk_mul, Nat.reduceEqDiff, Nat.reduceAdd, Nat.reduceSub, Nat.reduceMul, Nat.reducePow, Nat.reduceLT, Nat.reduceLeDiff, ↓reduceIte, reduceCtorEq, and_true, true_and, and_false, false_and, and_self, not_true_eq_false, not_false_eq_true, if_true, if_false]
  unfold sThere zB
  grind
theorem c_wanted_loop (T : TC w i v) (hF : WF v) {k n : Nat} (hk : k < 2 ^ 30) (hn : n < 2 ^ 30) : ∀ fuel c s, c ≤ v 0 2 → v 0 2 - c < fuel → s = cnt (fun q => decide (n ≤ v 11 q) && (v 9 q == k || v 10 q == k)) c → fX4_wantedOn_4 N i (nI k) (nI n) fuel (nI s) (nI c) w = some (nI (sWant v k n), w) := by
  have h3 := WF_parties hF
  refine lupI (fun fuel s c => fX4_wantedOn_4 N i (nI k) (nI n) fuel (nI s) (nI c) w) (fun c s => s = cnt (fun q => decide (n ≤ v 11 q) && (v 9 q == k || v 10 q == k)) c) (v 0 2) (fun o => o = some (nI (sWant v k n), w)) ?_ ?_
  · intro f c s hc hs hk'
    have b1 := WF_bd hF 11 c
    have b2 := WF_bd hF 9 c
    have b3 := WF_bd hF 10 c
    have e := hk' (cnt (fun q => decide (n ≤ v 11 q) && (v 9 q == k || v 10 q == k)) (c + 1)) rfl
    simp only [cnt, ← hs] at e
    simp (disch := first | assumption | omega) only [fX4_wantedOn_4, TC_parties T, TC_pnight T, TC_pfrom T, TC_pto T, ldn, nI_ltI, nI_eq, hc, callW_eq, Option.bind_some, li0, li1, li2, li3, li4, li5, li6, li7, li8, li9, li10, li11, li12, li13, li14, li15, li16, li17, li18, li19, li20, li21, li22, li23, li24, li25, li26, li27, li28, li29, li30, li31, li32, li33, li34, li35, li36, li37, li38, li39, li40, li41, li42, li43, li44, li45, li47, li48, li50, li56, li57, li59, li60, li61, li62, li63, li64, li90, li96, li97, li99, li100, li122, li200, li255, li256, li900, li999, li1000, li9999, li65536, li99999, li1000000, li1048576, gg_I, gg_LI, gg_RI, gg_L, gg_IL, gg_RL, gg_R, gg_IR, gg_LR, gg_row, gg_Lrow, gg_Rrow, nI_add, pk_mul, Nat.reduceEqDiff, Nat.reduceAdd, Nat.reduceSub, Nat.reduceMul, Nat.reducePow, Nat.reduceLT, Nat.reduceLeDiff, ↓reduceIte, reduceCtorEq, and_true, true_and, and_false, false_and, and_self, not_true_eq_false, not_false_eq_true, if_true, if_false]
    grind
  · intro f s hs
    have h2 := WF_bd hF 0 2
    simp (disch := first | assumption | omega) only [fX4_wantedOn_4, TC_parties T, nI_ltI, Nat.lt_irrefl, if_false, hs, sWant]
theorem c_wanted (T : TC w i v) (hF : WF v) (hN : 100 ≤ N) {k n : Nat} (hk : k < 2 ^ 30) (hn : n < 2 ^ 30) : pX4_wantedOn N i (nI k) (nI n) w = some (nI (sWant v k n), w) := by
  have h3 := WF_parties hF
  unfold pX4_wantedOn
  rw [callW_eq, li0]
  exact c_wanted_loop T hF hk hn N 0 0 (by omega) (by omega) rfl
end

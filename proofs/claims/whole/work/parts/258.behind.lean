/-! ===== the class: the most that is left ===== -/
theorem and2_iff {x c : Nat} : x &&& 2 ^ c = 0 ↔ x.testBit c = false := by
  constructor
  · intro h
    have h1 : (x &&& 2 ^ c).testBit c = false := by rw [h, Nat.zero_testBit]
    rw [Nat.testBit_and, Nat.testBit_two_pow_self, Bool.and_true] at h1
    exact h1
  · intro h
    apply Nat.eq_of_testBit_eq
    intro i
    rw [Nat.testBit_and, Nat.testBit_two_pow, Nat.zero_testBit]
    by_cases y : c = i
    · subst y; rw [h]; rfl
    · simp [y]
theorem free_iff {S us c : Nat} (hS : S < 2 ^ 8) (hc : c < 8) : (nI S &&& (nI us ^^^ (-1 : Int32))) &&& ((1 : Int32) <<< (nI c &&& (31 : Int32))) = 0 ↔ (S.testBit c && !us.testBit c) = false := by
  have e1 : nI S &&& (nI us ^^^ (-1 : Int32)) = nI (S ^^^ (S &&& us)) := nz_not (by omega)
  have hlt : S ^^^ (S &&& us) < 2 ^ 8 := andnot_lt hS
  have e2 : (1 : Int32) <<< (nI c &&& (31 : Int32)) = nI (2 ^ c) := by
    rw [li1, li31, nz_and]
    exact nz_shl (by omega)
  have hle : (S ^^^ (S &&& us)) &&& 2 ^ c ≤ S ^^^ (S &&& us) := Nat.and_le_left
  rw [e1, e2, nz_and, show (0 : Int32) = nI 0 from rfl, nI_eq (by omega) (by omega), and2_iff, bit_andnot]
def pbO (v : Vw) (p S n us : Nat) : Nat → Nat
  | 0 => 1
  | c + 1 => if (S.testBit c && !us.testBit c) = true then pbO v p S n us c * pmO v p S n n c else pbO v p S n us c
def mbO (v : Vw) (p S n st us : Nat) : Nat := if smO v p S n (n - st) < pbO v p S n us (v 0 0) then smO v p S n (n - st) else pbO v p S n us (v 0 0)
theorem pbO_le {v : Vw} (hF : WF v) (p S n us c : Nat) : pbO v p S n us c ≤ 100 ^ c := by
  induction c with
  | zero => exact Nat.le_refl _
  | succ c ih =>
    have h1 := pmO_le hF p S n n c
    have h2 : pbO v p S n us c * pmO v p S n n c ≤ 100 ^ c * 100 := Nat.mul_le_mul ih h1
    rw [pbO, Nat.pow_succ]
    split
    · exact h2
    · omega
theorem smO_le {v : Vw} (hF : WF v) (p S n d : Nat) : smO v p S n d ≤ 100 ^ d := by
  induction d with
  | zero => exact Nat.le_refl _
  | succ d ih =>
    rw [smO, Nat.pow_succ]
    exact Nat.mul_le_mul ih (stM_le hF p S _ _)
theorem p100 {c : Nat} (h : c ≤ 8) {x : Nat} (hx : x ≤ 100 ^ c) : x < 2 ^ 60 := by
  have h2 : 100 ^ c ≤ 100 ^ 8 := Nat.pow_le_pow_right (by omega) h
  have h3 : 100 ^ 8 < 2 ^ 60 := by decide
  omega
section
variable {N : Nat} {w : Wd} {v : Vw}
theorem c_mostBehind (hR : RC w 0 v) (hF : WF v) (hN : 100 ≤ N) {p S n st us : Nat} (hn : n ≤ 8) (hst : st ≤ n) (hS : S < 2 ^ 8) (h92 : gI w 9 0 2 = nI S) (hO : orT w v p S n n) : pX5_mostBehind N (nI st) (nI us) w = some (lN (mbO v p S n st us), w) := by
  have h2 := WF_parts hF
  obtain ⟨o1, o2, o3, o4⟩ := hO
  have key : ∀ fuel c, c ≤ v 0 0 → v 0 0 - c < fuel → fX5_mostBehind_4 N (nI st) (nI us) fuel (fX5_mostBehind_31 N (nI st)) (lN (pbO v p S n us c)) (nI c) w = some (lN (mbO v p S n st us), w) := by
    intro fuel
    induction fuel with
    | zero => intro c _ h; omega
    | succ f ih =>
      intro c hc hf
      have e1 : nI c + (1 : Int32) = nI (c + 1) := nI_add c 1
      rcases Nat.lt_or_ge c (v 0 0) with y | y
      · have lt : (nI c < gI w 8 (gR w 13 0 0) 0) = True := eq_true (by rw [TC_parts hR.1]; exact (nI_ltI (by omega) (by omega)).mpr y)
        have en := ih (c + 1) (by omega) (by omega)
        rw [pbO] at en
        cases hb : (S.testBit c && !us.testBit c) with
        | false =>
          have q : ((gI w 9 0 2 &&& (nI us ^^^ (-1 : Int32))) &&& ((1 : Int32) <<< (nI c &&& (31 : Int32))) = 0) = True := eq_true (by rw [h92]; exact (free_iff hS (by omega)).mpr hb)
          rw [hb, if_neg (by decide)] at en
          simp only [fX5_mostBehind_4, ↓lt, ↓q, ↓e1, ↓reduceIte, callW_eq]
          exact en
        | true =>
          have q : ((gI w 9 0 2 &&& (nI us ^^^ (-1 : Int32))) &&& ((1 : Int32) <<< (nI c &&& (31 : Int32))) = 0) = False := eq_false (fun z => by
            rw [h92] at z
            have := (free_iff hS (by omega)).mp z
            rw [hb] at this
            cases this)
          have l1 : ldI w 44 0 (nI c) 8 = some (nI (pmO v p S n n c)) := by rw [ldn (by omega) (by omega), o3 c (by omega)]
          have hle := pmO_le hF p S n n c
          have em : lN (pbO v p S n us c) * (nI (pmO v p S n n c)).toInt64 = lN (pbO v p S n us c * pmO v p S n n c) := by rw [nI_l (by omega), lN_mul]
          rw [hb, if_pos rfl] at en
          simp only [fX5_mostBehind_4, ↓lt, ↓q, ↓bnd l1, ↓em, ↓e1, ↓reduceIte, callW_eq]
          exact en
      · have : c = v 0 0 := by omega
        subst this
        have lt : (nI (v 0 0) < gI w 8 (gR w 13 0 0) 0) = False := eq_false (fun z => by
          rw [TC_parts hR.1] at z
          have := (nI_ltI (by omega) (by omega)).mp z
          omega)
        have l1 : ldL w 45 0 (nI st) 9 = some (lN (smO v p S n (n - st))) := by
          have := o4 (n - st) (by omega)
          rw [show n - (n - st) = st by omega] at this
          rw [ldLn (by omega) (by omega), this]
        have b1 := p100 h2 (pbO_le hF p S n us (v 0 0))
        have b2 := p100 (show n - st ≤ 8 by omega) (smO_le hF p S n (n - st))
        have gm : pJ9_min_f86c9 N (lN (pbO v p S n us (v 0 0))) (lN (smO v p S n (n - st))) w = some (lN (mbO v p S n st us), w) := by
          unfold pJ9_min_f86c9 mbO
          by_cases z : smO v p S n (n - st) < pbO v p S n us (v 0 0)
          · rw [if_pos ((lg_gt _ _).mpr ((lNb_lt b2 b1).mpr z)), if_pos z]
          · rw [if_neg (fun u => z ((lNb_lt b2 b1).mp ((lg_gt _ _).mp u))), if_neg z]
        simp only [fX5_mostBehind_4, fX5_mostBehind_31, ↓lt, ↓bnd l1, ↓cbnd gm, ↓reduceIte]
  unfold pX5_mostBehind
  rw [callW_eq]
  exact key N 0 (by omega) (by omega)
end

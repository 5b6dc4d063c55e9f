/-! ===== masters pick ===== -/
def sRt (v : Vw) (ms p k n : Nat) : Int64 :=
  if ms = 0 then (if sAr v p k n = 0 then 0 else 1) else if ms = 1 then lN (sWant v k n)
  else if ms = 2 then lN (sCh v p k n (sAr v p k n) (v 18 p)) else (sLaw v 1 p k n (sAr v p k n) (v 18 p)).getD 0
abbrev PkS : Type := Nat × Nat × Int64
def pkK (v : Vw) (ms n p : Nat) (s : PkS) : Nat → PkS
  | 0 => s
  | k + 1 => if (sThere v p n && !sKnow v p k n) = true ∧ ((pkK v ms n p s k).1 = 0 ∨ (pkK v ms n p s k).2.2 < sRt v ms p k n) then (p + 1, k, sRt v ms p k n) else pkK v ms n p s k
def pkP (v : Vw) (ms n : Nat) : Nat → PkS
  | 0 => (0, 0, -9223372036854775808)
  | p + 1 => pkK v ms n p (pkP v ms n p) (v 0 0)
def pkI (s : PkS) : Int32 := if s.1 = 0 then -nI 1 else nI s.2.1
/-- what a pick keeps -/
def pkW (v : Vw) (P : Nat) (s : PkS) : Prop := (s.1 = 0 → s.2.2 = -9223372036854775808) ∧ s.1 ≤ P ∧ (s.1 ≠ 0 → s.2.1 < v 0 0)
theorem pkK_W {v : Vw} {ms n p P : Nat} (hp : p < P) {s : PkS} (h : pkW v P s) : ∀ k, k ≤ v 0 0 → pkW v P (pkK v ms n p s k) := by
  intro k
  induction k with
  | zero => intro _; exact h
  | succ k ih =>
    intro hk
    rw [pkK]
    split
    · exact ⟨fun z => by simp at z, by simp; omega, fun _ => by simp; omega⟩
    · exact ih (by omega)
theorem pkW_mono {v : Vw} {P P' : Nat} {s : PkS} (h : pkW v P s) (hp : P ≤ P') : pkW v P' s := ⟨h.1, Nat.le_trans h.2.1 hp, h.2.2⟩
theorem pkP_W (v : Vw) (ms n : Nat) : ∀ p, pkW v p (pkP v ms n p) := by
  intro p
  induction p with
  | zero => exact ⟨fun _ => rfl, by simp [pkP], fun z => absurd rfl z⟩
  | succ p ih => exact pkK_W (by omega) (pkW_mono ih (by omega)) _ (Nat.le_refl _)
theorem pkK_no {v : Vw} {ms n p : Nat} {s : PkS} (k : Nat) : ∀ d, (∀ j, k ≤ j → j < k + d → (sThere v p n && !sKnow v p j n) = false) → pkK v ms n p s (k + d) = pkK v ms n p s k := by
  intro d
  induction d with
  | zero => intro _; rfl
  | succ d ih =>
    intro h
    rw [← Nat.add_assoc, pkK, h (k + d) (by omega) (by omega), if_neg (by simp)]
    exact ih (fun j h1 h2 => h j h1 (by omega))
theorem cnt_zero {f : Nat → Bool} {n : Nat} (h : cnt f n = 0) : ∀ k, k < n → f k = false := by
  intro k hk
  cases z : f k with
  | false => rfl
  | true => have := cnt_pos hk z; omega
theorem pc_zero {x : Nat} (hx : x < 4096) : pc x = 0 ↔ x = 0 := by
  constructor
  · intro h
    apply Nat.eq_of_testBit_eq
    intro k
    rw [Nat.zero_testBit]
    rcases Nat.lt_or_ge k 12 with q | q
    · exact cnt_zero h k q
    · exact bit_hi (n := 12) hx q
  · intro h
    subst h
    have : ∀ n, cnt (fun k => (0 : Nat).testBit k) n = 0 := by
      intro n
      induction n with
      | zero => rfl
      | succ n ih => rw [cnt, ih]; simp
    exact this 12
theorem sRt_bd {v : Vw} (hF : WF v) (hL : WL v) {ms p k n : Nat} (hn : n < 2 ^ 30) : bd12 (sRt v ms p k n) := by
  have h3 := WF_parties hF
  have hw := sWant_le v k n
  have hc := sCh_le hF p k n (sAr v p k n) (v 18 p)
  have hpc := pc_le (sBits v p n &&& v 3 k)
  unfold sRt
  split
  · exact bd_ite bd_0 bd_1
  · split
    · exact bd_N (by omega)
    · split
      · exact bd_N (by omega)
      · cases h : sLaw v 1 p k n (sAr v p k n) (v 18 p) with
        | none => exact bd_0
        | some x => exact sLaw_bd hF hL (by omega) (by omega) (by unfold sAr; omega) (WF_b31 hF _ _) h
theorem bd_min {x : Int64} (h : bd12 x) : (-9223372036854775808 : Int64) < x := by
  rw [Int64.lt_iff_toInt_lt, tmin]
  have := h.1
  omega
/-- the parts that one doesn't know (bits) -/
def opn (v : Vw) (p n : Nat) : Nat := if sThere v p n = true then (2 ^ v 0 0 - 1) ^^^ ((2 ^ v 0 0 - 1) &&& sBits v p n) else 0
theorem opn_bit (v : Vw) (p n k : Nat) : (opn v p n).testBit k = (decide (k < v 0 0) && (sThere v p n && !sKnow v p k n)) := by
  unfold opn
  split
  · rename_i h
    rw [bit_andnot, Nat.testBit_two_pow_sub_one, sBits, mkB_bit, h]
    by_cases q : k < v 0 0
    · simp [q]
    · simp [q]
  · rename_i h
    have : sThere v p n = false := by
      cases z : sThere v p n with
      | false => rfl
      | true => exact absurd z h
    simp [this]
theorem opn_lt {v : Vw} (hF : WF v) (p n : Nat) : opn v p n < 2 ^ 8 := by
  unfold opn
  split
  · exact andnot_lt (al_lt hF)
  · omega
section
variable {N : Nat} {w : Wd} {i : Nat} {v : Vw}
theorem c_lawTonight (hR : RC w i v) (hF : WF v) (hL : WL v) (hN : 100 ≤ N) {a p k : Nat} (ha : a < 2) (hp : p < v 0 1) (hk : k < v 0 0) :
    Ok (pX9_lawTonight N i (2 * gR w 13 i 0 + a) (nI p) (nI k) w) (fun r => Fr [66, 22] w r.2 ∧ r.1 = (sLaw v a p k (v 0 5) (sAr v p k (v 0 5)) (v 18 p)).getD (-9223372036854775808 : Int64)) := by
  have h1 := WF_people hF
  have hn := WF_night hF
  have hpc := pc_le (sBits v p (v 0 5) &&& v 3 k)
  have g := c_around (N := N) hR hF hN hp hk
  have S := hR.2
  have l2 : ldI w 60 i (nI p) 6 = some (nI (v 18 p)) := by rw [ldn (by omega) (by omega), SC_times S p hp]
  have en : gI w 13 i 1 = nI (v 0 5) := SC_night S
  simp only [pX9_lawTonight, ↓cbnd g, ↓bnd l2, callW_eq, en]
  refine c_lawV hR hF hL hN ha hp hk (n := v 0 5) (by omega) (by unfold sAr; omega) (WF_b31 hF _ _) ?_
  intro w' f
  exact ok_some ⟨f, rfl⟩
theorem c_rate (hR : RC w i v) (hF : WF v) (hL : WL v) (hN : 100 ≤ N) {ms p k : Nat} (hms : ms < 4) (hp : p < v 0 1) (hk : k < v 0 0) :
    Ok (pX3_rate N i (nI ms) (nI p) (nI k) (nI (sAr v p k (v 0 5))) w) (fun r => Fr [66, 22] w r.2 ∧ r.1 = sRt v ms p k (v 0 5)) := by
  have h1 := WF_people hF
  have h3 := WF_parties hF
  have hn := WF_night hF
  have hpc := pc_le (sBits v p (v 0 5) &&& v 3 k)
  have har : sAr v p k (v 0 5) < 2 ^ 31 := by unfold sAr; omega
  have S := hR.2
  have T := hR.1
  have en : gI w 13 i 1 = nI (v 0 5) := SC_night S
  have hms4 : ms = 0 ∨ ms = 1 ∨ ms = 2 ∨ ms = 3 := by omega
  rcases hms4 with rfl | rfl | rfl | rfl
  · have c0 : (nI 0 = (0 : Int32)) = True := eq_true rfl
    unfold sRt
    simp only [pX3_rate, ↓c0, ↓reduceIte]
    by_cases q : sAr v p k (v 0 5) = 0
    · have q' : ((0 : Int32) < nI (sAr v p k (v 0 5))) = False := eq_false (by rw [q]; decide)
      simp only [↓q', ↓reduceIte, q]
      exact ok_some ⟨Fr_refl _ _, rfl⟩
    · have q' : ((0 : Int32) < nI (sAr v p k (v 0 5))) = True := eq_true ((nI_ltI (a := 0) (by omega) har).mpr (by omega))
      simp only [↓q', ↓reduceIte, q]
      exact ok_some ⟨Fr_refl _ _, rfl⟩
  · have c0 : (nI 1 = (0 : Int32)) = False := eq_false (by decide)
    have c1 : (nI 1 = (1 : Int32)) = True := eq_true rfl
    have g := c_wanted (N := N) T hF hN (k := k) (n := v 0 5) (by have := WF_parts hF; omega) (by omega)
    have hw := sWant_le v k (v 0 5)
    rw [← en] at g
    simp only [pX3_rate, ↓c0, ↓c1, ↓cbnd g, ↓reduceIte]
    refine ok_some ⟨Fr_refl _ _, ?_⟩
    show (nI (sWant v k (v 0 5))).toInt64 = _
    rw [nI_l (by omega)]
    rfl
  · have c0 : (nI 2 = (0 : Int32)) = False := eq_false (by decide)
    have c1 : (nI 2 = (1 : Int32)) = False := eq_false (by decide)
    have c2 : (nI 2 = (2 : Int32)) = True := eq_true rfl
    have l2 : ldI w 60 i (nI p) 6 = some (nI (v 18 p)) := by rw [ldn (by omega) (by omega), SC_times S p hp]
    simp only [pX3_rate, ↓c0, ↓c1, ↓c2, ↓bnd l2, ↓reduceIte, callW_eq, en]
    refine ok_bind (c_chanceOn hR hF hL hN hp hk (n := v 0 5) (by omega) har (WF_b31 hF _ _)) ?_
    rintro ⟨x, w1⟩ ⟨j1, j2⟩
    simp only at j1 j2
    subst j2
    have hc := sCh_le hF p k (v 0 5) (sAr v p k (v 0 5)) (v 18 p)
    refine ok_some ⟨j1, ?_⟩
    show (nI _).toInt64 = _
    rw [nI_l (by omega)]
    rfl
  · have c0 : (nI 3 = (0 : Int32)) = False := eq_false (by decide)
    have c1 : (nI 3 = (1 : Int32)) = False := eq_false (by decide)
    have c2 : (nI 3 = (2 : Int32)) = False := eq_false (by decide)
    simp only [pX3_rate, ↓c0, ↓c1, ↓c2, ↓reduceIte, callW_eq]
    refine ok_bind (c_lawTonight hR hF hL hN (a := 1) (by omega) hp hk) ?_
    rintro ⟨x, w1⟩ ⟨j1, j2⟩
    simp only at j1 j2
    have e3 : sRt v 3 p k (v 0 5) = (sLaw v 1 p k (v 0 5) (sAr v p k (v 0 5)) (v 18 p)).getD 0 := rfl
    rw [e3]
    cases h : sLaw v 1 p k (v 0 5) (sAr v p k (v 0 5)) (v 18 p) with
    | none =>
      rw [h] at j2
      subst j2
      simp only [lg_eq, Option.getD_none, if_true]
      exact ok_some ⟨j1, rfl⟩
    | some y =>
      rw [h] at j2
      have j2' : x = y := j2
      subst j2'
      have hbd := sLaw_bd hF hL (by omega) (by omega) har (WF_b31 hF _ _) h
      have nm : ¬ x = (-9223372036854775808 : Int64) := by
        intro q
        have := hbd.1
        rw [q, tmin] at this
        omega
      simp only [lg_eq, nm, if_false]
      exact ok_some ⟨j1, rfl⟩
def kCh : List Nat := [8001, 8002, 66, 22]
theorem c_ch40 {w0 : Wd} (hR0 : RC w0 i v) (hF : WF v) (hL : WL v) (hN : 100 ≤ N) {ms p : Nat} (hms : ms < 4) (hp : p < v 0 1) {s : PkS} (hs : pkW v (v 0 1) s) {Q : Int32 × Wd → Prop} (k85 : Int64 → Int32 → Wd → Option (Int32 × Wd))
    (hk : ∀ w, (Fr kCh w0 w ∧ gI w 7 0 1 = lst (pkK v ms (v 0 5) p s (v 0 0)).1 ∧ gI w 7 0 2 = pkI (pkK v ms (v 0 5) p s (v 0 0))) → Ok (k85 (pkK v ms (v 0 5) p s (v 0 0)).2.2 (nI p) w) Q) :
    ∀ fuel c w, c ≤ v 0 0 → v 0 0 - c < fuel → (Fr kCh w0 w ∧ gI w 7 0 1 = lst (pkK v ms (v 0 5) p s c).1 ∧ gI w 7 0 2 = pkI (pkK v ms (v 0 5) p s c)) →
    Ok (fX3_choose_40 N i (nI ms) fuel k85 (pkK v ms (v 0 5) p s c).2.2 (nI p) (nI (sBits v p (v 0 5))) (nI (opn v p (v 0 5))) (nI c) w) Q := by
  have h1 := WF_people hF
  have h2 := WF_parts hF
  have hn := WF_night hF
  have hs8 := sBits_lt hF p (v 0 5)
  have ho8 := opn_lt hF p (v 0 5)
  intro fuel
  induction fuel with
  | zero => intro c _ _ h; omega
  | succ f ih =>
    intro c w hc hf hI
    obtain ⟨i1, i2, i3⟩ := hI
    have hR := RC_fr i1 hR0
    have hW := pkK_W (ms := ms) (n := v 0 5) hp hs c hc
    rcases Nat.lt_or_ge c (v 0 0) with h | h
    · have lt : (nI c < gI w 8 (gR w 13 i 0) 0) = True := eq_true (by rw [TC_parts hR.1]; exact (nI_ltI (by omega) (by omega)).mpr h)
      by_cases p0 : opn v p (v 0 5) = 0
      · have p0' : (nI (opn v p (v 0 5)) = 0) = True := eq_true (by rw [p0]; rfl)
        simp only [fX3_choose_40, ↓lt, ↓p0', ↓reduceIte]
        have := pkK_no (v := v) (ms := ms) (n := v 0 5) (p := p) (s := s) c (v 0 0 - c) (fun j h3 h4 => by
          have := opn_bit v p (v 0 5) j
          rw [p0] at this
          have hj : decide (j < v 0 0) = true := by simp; omega
          rw [hj, Bool.true_and, Nat.zero_testBit] at this
          exact this.symm)
        rw [show c + (v 0 0 - c) = v 0 0 by omega] at this
        rw [← this] at i2 i3 ⊢
        exact hk w ⟨i1, i2, i3⟩
      · have p0' : (nI (opn v p (v 0 5)) = 0) = False := eq_false (fun z => p0 ((nI_eq (by omega) (by omega)).mp (show _ = nI 0 from z)))
        have l1 : ldI w 32 (gR w 13 i 0) (nI c) 8 = some (nI (v 3 c)) := by rw [ldn (by omega) (by omega), TC_beside hR.1 c h]
        have gb : pJ6_bitCount_0f7a4 N (nI (v 3 c) &&& nI (sBits v p (v 0 5))) w = some (nI (sAr v p c (v 0 5)), w) := by
          have := and_lt8 (y := v 3 c) hs8
          rw [nz_and, Nat.and_comm, c_bits (by omega)]
          rfl
        have eb : ((nI (opn v p (v 0 5)) >>> (nI c &&& (31 : Int32))) &&& (1 : Int32)) = zB (sThere v p (v 0 5) && !sKnow v p c (v 0 5)) := by
          rw [li31, li1, nz_and, nz_bit (by omega) (by omega), opn_bit]
          have hj : decide (c < v 0 0) = true := by simp [h]
          rw [hj, Bool.true_and]; rfl
        have stay : ∀ w1, (Fr kCh w0 w1 ∧ gI w1 7 0 1 = gI w 7 0 1 ∧ gI w1 7 0 2 = gI w 7 0 2) → pkK v ms (v 0 5) p s (c + 1) = pkK v ms (v 0 5) p s c → Ok (fX3_choose_40 N i (nI ms) f k85 (pkK v ms (v 0 5) p s c).2.2 (nI p) (nI (sBits v p (v 0 5))) (nI (opn v p (v 0 5))) (nI (c + 1)) w1) Q := by
          intro w1 h3 he
          have := ih (c + 1) w1 (by omega) (by omega) ⟨h3.1, by rw [h3.2.1, he]; exact i2, by rw [h3.2.2, he]; exact i3⟩
          rw [he] at this
          exact this
        cases z : (sThere v p (v 0 5) && !sKnow v p c (v 0 5)) with
        | false =>
          rw [z] at eb
          have z0 : (zB false = 0) = True := eq_true rfl
          have c0 : ((0 : Int32) < lg_cmp (pkK v ms (v 0 5) p s c).2.2 (pkK v ms (v 0 5) p s c).2.2) = False := eq_false (by
            rw [lg_gt, Int64.lt_iff_toInt_lt]; omega)
          simp only [fX3_choose_40, fX3_choose_70, ↓lt, ↓p0', ↓bnd l1, ↓cbnd gb, ↓eb, ↓z0, ↓c0, ↓reduceIte, callW_eq, li1, nI_add]
          exact stay w ⟨i1, rfl, rfl⟩ (by rw [pkK, z, if_neg (by simp)])
        | true =>
          rw [z] at eb
          have z0 : (zB true = 0) = False := eq_false (by decide)
          simp only [fX3_choose_40, ↓lt, ↓p0', ↓bnd l1, ↓cbnd gb, ↓eb, ↓z0, ↓reduceIte, callW_eq]
          refine ok_bind (c_rate hR hF hL hN hms hp h) ?_
          rintro ⟨x, w1⟩ ⟨j1, j2⟩
          simp only at j1 j2
          subst j2
          have hbd := sRt_bd hF hL (ms := ms) (p := p) (k := c) (n := v 0 5) (by omega)
          by_cases q : (pkK v ms (v 0 5) p s c).2.2 < sRt v ms p c (v 0 5)
          · have c0 : ((0 : Int32) < lg_cmp (sRt v ms p c (v 0 5)) (pkK v ms (v 0 5) p s c).2.2) = True := eq_true ((lg_gt _ _).mpr q)
            have e := ih (c + 1) (setI (setI w1 7 0 1 (nI p)) 7 0 2 (nI c)) (by omega) (by omega)
            rw [pkK, z, if_pos ⟨rfl, Or.inr q⟩] at e
            simp only [fX3_choose_70, ↓c0, ↓reduceIte, li1, nI_add]
            refine e ⟨Fr_setI (Fr_setI (Fr_trans i1 (Fr_mono j1 rfl)) rfl) rfl, ?_, ?_⟩
            · rw [gg_I, if_neg (by omega), gg_I, if_pos ⟨rfl, rfl, rfl⟩]; rfl
            · rw [gg_I, if_pos ⟨rfl, rfl, rfl⟩, pkI, if_neg (by simp)]
          · have c0 : ((0 : Int32) < lg_cmp (sRt v ms p c (v 0 5)) (pkK v ms (v 0 5) p s c).2.2) = False := eq_false (fun y => q ((lg_gt _ _).mp y))
            simp only [fX3_choose_70, ↓c0, ↓reduceIte, li1, nI_add]
            refine stay w1 ⟨Fr_trans i1 (Fr_mono j1 rfl), (j1 7 0 1 rfl).1, (j1 7 0 2 rfl).1⟩ ?_
            rw [pkK, if_neg]
            rintro ⟨_, y | y⟩
            · have := hW.1 y
              rw [this] at q
              exact q (bd_min hbd)
            · exact q y
    · have : c = v 0 0 := by omega
      subst this
      have lt : (nI (v 0 0) < gI w 8 (gR w 13 i 0) 0) = False := eq_false (by rw [TC_parts hR.1]; exact fun z => by have := (nI_ltI (by omega) (by omega)).mp z; omega)
      simp only [fX3_choose_40, ↓lt, ↓reduceIte]
      exact hk w ⟨i1, i2, i3⟩
theorem c_choose (hR : RC w i v) (hF : WF v) (hL : WL v) (hN : 100 ≤ N) {ms : Nat} (hms : ms < 4) :
    Ok (pX3_choose N i (nI ms) w) (fun r => Fr kCh w r.2 ∧ gI r.2 7 0 1 = lst (pkP v ms (v 0 5) (v 0 1)).1 ∧ gI r.2 7 0 2 = pkI (pkP v ms (v 0 5) (v 0 1)) ∧ r.1 = zB (decide ((pkP v ms (v 0 5) (v 0 1)).1 ≠ 0))) := by
  have h1 := WF_people hF
  have h2 := WF_parts hF
  have hn := WF_night hF
  have key : ∀ fuel c w1, c ≤ v 0 1 → v 0 1 - c < fuel → (Fr kCh w w1 ∧ gI w1 7 0 1 = lst (pkP v ms (v 0 5) c).1 ∧ gI w1 7 0 2 = pkI (pkP v ms (v 0 5) c)) →
      Ok (fX3_choose_10 N i (nI ms) fuel (fX3_choose_87 N) (pkP v ms (v 0 5) c).2.2 (nI c) w1) (fun r => Fr kCh w r.2 ∧ gI r.2 7 0 1 = lst (pkP v ms (v 0 5) (v 0 1)).1 ∧ gI r.2 7 0 2 = pkI (pkP v ms (v 0 5) (v 0 1)) ∧ r.1 = zB (decide ((pkP v ms (v 0 5) (v 0 1)).1 ≠ 0))) := by
    intro fuel
    induction fuel with
    | zero => intro c _ _ h; omega
    | succ f ih =>
      intro c w1 hc hf hI
      obtain ⟨i1, i2, i3⟩ := hI
      have hR1 := RC_fr i1 hR
      rcases Nat.lt_or_ge c (v 0 1) with h | h
      · have lt : (nI c < gI w1 10 (gR w1 13 i 0) 0) = True := eq_true (by rw [TC_people hR1.1]; exact (nI_ltI (by omega) (by omega)).mpr h)
        have en : gI w1 13 i 1 = nI (v 0 5) := SC_night hR1.2
        have g1 := c_known (N := N) hR1 hF hN h (n := v 0 5) (by omega)
        have g2 := c_isThere (N := N) hR1 hF h (n := v 0 5) (by omega)
        have g3 := c_allParts (N := N) hR1.1 hF
        rw [← en] at g1 g2
        have go : Ok (fX3_choose_40 N i (nI ms) N (fX3_choose_85 N i (nI ms) (fX3_choose_10 N i (nI ms) f (fX3_choose_87 N))) (pkP v ms (v 0 5) c).2.2 (nI c) (nI (sBits v c (v 0 5))) (nI (opn v c (v 0 5))) (nI 0) w1) (fun r => Fr kCh w r.2 ∧ gI r.2 7 0 1 = lst (pkP v ms (v 0 5) (v 0 1)).1 ∧ gI r.2 7 0 2 = pkI (pkP v ms (v 0 5) (v 0 1)) ∧ r.1 = zB (decide ((pkP v ms (v 0 5) (v 0 1)).1 ≠ 0))) := by
          refine c_ch40 (w0 := w1) hR1 hF hL hN hms h (pkW_mono (pkP_W v ms (v 0 5) c) (by omega)) _ ?_ N 0 w1 (by omega) (by omega) ⟨Fr_refl _ _, i2, i3⟩
          rintro w2 ⟨j1, j2, j3⟩
          simp only [fX3_choose_85, li1, nI_add]
          exact ih (c + 1) w2 (by omega) (by omega) ⟨Fr_trans i1 j1, j2, j3⟩
        cases z : sThere v c (v 0 5) with
        | false =>
          rw [z] at g2
          have z0 : (zB false = 0) = True := eq_true rfl
          simp only [fX3_choose_10, ↓lt, ↓cbnd g1, ↓cbnd g2, ↓z0, ↓reduceIte, callW_eq, li0]
          have : opn v c (v 0 5) = 0 := by rw [opn, z, if_neg (by simp)]
          rw [this] at go
          exact go
        | true =>
          rw [z] at g2
          have z0 : (zB true = 0) = False := eq_false (by decide)
          have eo : nI (2 ^ v 0 0 - 1) &&& (nI (sBits v c (v 0 5)) ^^^ (-1 : Int32)) = nI (opn v c (v 0 5)) := by
            have := al_lt hF
            rw [li1, nz_not (by omega), opn, z, if_pos rfl]
          simp only [fX3_choose_10, ↓lt, ↓cbnd g1, ↓cbnd g2, ↓z0, ↓cbnd g3, ↓reduceIte, callW_eq, ↓eo, li0]
          exact go
      · have : c = v 0 1 := by omega
        subst this
        have lt : (nI (v 0 1) < gI w1 10 (gR w1 13 i 0) 0) = False := eq_false (by rw [TC_people hR1.1]; exact fun z => by have := (nI_ltI (by omega) (by omega)).mp z; omega)
        have hW := pkP_W v ms (v 0 5) (v 0 1)
        have hm := lst_m1 (L := (pkP v ms (v 0 5) (v 0 1)).1) (by have := hW.2.1; omega)
        by_cases q : (pkP v ms (v 0 5) (v 0 1)).1 = 0
        · have q' : (gI w1 7 0 1 = (-1 : Int32)) = True := eq_true (by rw [i2]; exact hm.mpr q)
          simp only [fX3_choose_10, fX3_choose_87, ↓lt, ↓q', ↓reduceIte]
          exact ok_some ⟨i1, i2, i3, by simp [q]; rfl⟩
        · have q' : (gI w1 7 0 1 = (-1 : Int32)) = False := eq_false (by rw [i2]; exact fun y => q (hm.mp y))
          simp only [fX3_choose_10, fX3_choose_87, ↓lt, ↓q', ↓reduceIte]
          exact ok_some ⟨i1, i2, i3, by simp [q]; rfl⟩
  unfold pX3_choose
  rw [callW_eq, li0]
  refine key N 0 _ (by omega) (by omega) ⟨Fr_setI (Fr_setI (Fr_refl _ _) rfl) rfl, ?_, ?_⟩
  · rw [gg_I, if_neg (by omega), gg_I, if_pos ⟨rfl, rfl, rfl⟩]; rfl
  · rw [gg_I, if_pos ⟨rfl, rfl, rfl⟩]; rfl
end

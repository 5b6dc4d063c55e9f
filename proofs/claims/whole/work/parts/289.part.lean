/-! ===== line: part ===== -/
section
variable {N : Nat} {w w' w0 w1 wc wm : Wd} {b : Nat → Nat} {n m d k i : Nat} {u u' : Vw}
/-- beside, with part P beside those of B -/
def bsU (u : Vw) (B P q : Nat) : Nat := u 3 q ||| (if B.testBit q then 2 ^ P else 0)
def ptU (u : Vw) (nm od B : Nat) : Vw := fun r j => if r = 3 then (if j = u 0 0 then B else bsU u B (u 0 0) j) else app u 0 (fun r => if r = 1 then nm else od) r j
theorem bsU_lt {B P q : Nat} (h : u 3 q < 2 ^ P) : bsU u B P q < 2 ^ (P + 1) := by
  unfold bsU
  apply Nat.or_lt_two_pow
  · exact Nat.lt_of_lt_of_le h (Nat.pow_le_pow_right (by omega) (by omega))
  · split
    · exact Nat.pow_lt_pow_right (by omega) (by omega)
    · exact Nat.two_pow_pos _
theorem bsU_bit {B P q c : Nat} : (bsU u B P q).testBit c = ((u 3 q).testBit c || (B.testBit q && decide (P = c))) := by
  unfold bsU
  rw [Nat.testBit_or]
  cases hb : B.testBit q with
  | true => rw [if_pos rfl, Nat.testBit_two_pow, Bool.true_and]
  | false => rw [if_neg (by decide), Nat.zero_testBit, Bool.false_and]
theorem ptU_c {nm od B : Nat} : ptU u nm od B 0 0 = u 0 0 + 1 := by unfold ptU; rw [if_neg (by omega), app_c]
theorem ptU_n {nm od B j : Nat} (h : j ≠ 0) : ptU u nm od B 0 j = u 0 j := by unfold ptU; rw [if_neg (by omega), app_n h]
theorem ptU_r {nm od B r j : Nat} (h : r ≠ 3) (h0 : r ≠ 0) (hg : grp r ≠ 0) : ptU u nm od B r j = u r j := by unfold ptU; rw [if_neg h, app_r h0 hg]
theorem WU_part {nm od B : Nat} (hU : WU u) (h8 : u 0 0 < 8) (hnm : nm < 2 ^ 30) (hod : od ≤ 100) (hB : B < 2 ^ u 0 0) : WU (ptU u nm od B) := by
  obtain ⟨⟨U0, U1, U2, U3, U4, U6, U7⟩, UB, US, UG, UL⟩ := hU
  have z3 : ∀ q, (u 3 q).testBit (u 0 0) = false := fun q => bit_hi (US.1 q) (Nat.le_refl _)
  refine ⟨⟨by rw [ptU_c]; omega, by rw [ptU_n (by omega)]; exact U1, by rw [ptU_n (by omega)]; exact U2, by rw [ptU_n (by omega)]; exact U3, by rw [ptU_n (by omega)]; exact U4, by rw [ptU_n (by omega)]; exact U6, by rw [ptU_n (by omega)]; exact U7⟩, fun r j hg hj => ?_, ⟨fun j => ?_, fun a c => ?_⟩, ⟨?_, ?_, ?_⟩, WLu_e (fun r j h1 h2 => ptU_r (by omega) (by omega) (by rw [grp_hi h1 h2]; omega)) UL⟩
  · have h3 : r ≠ 3 := fun z => by rw [z] at hg; exact absurd hg (by decide)
    have e : ∀ r j, r ≠ 3 → ptU u nm od B r j = app u 0 (fun r => if r = 1 then nm else od) r j := fun r j h => by unfold ptU; rw [if_neg h]
    rw [e 0 _ (by omega)] at hj
    rw [e r j h3, e 0 0 (by omega)]
    refine BDu_app UB (by omega) (fun r hg => ?_) r j hg hj
    rcases (grp_inv r).1 hg with rfl | rfl
    · exact hnm
    · show od < bdR (u 0 0) 2
      have : bdR (u 0 0) 2 = 101 := rfl
      omega
  · rw [ptU_c]
    show (if (3 : Nat) = 3 then (if j = u 0 0 then B else bsU u B (u 0 0) j) else _) < _
    rw [if_pos rfl]
    split
    · exact Nat.lt_of_lt_of_le hB (Nat.pow_le_pow_right (by omega) (by omega))
    · exact bsU_lt (US.1 j)
  · show (if (3 : Nat) = 3 then (if a = u 0 0 then B else bsU u B (u 0 0) a) else _).testBit c = (if (3 : Nat) = 3 then (if c = u 0 0 then B else bsU u B (u 0 0) c) else _).testBit a
    rw [if_pos rfl, if_pos rfl]
    by_cases ya : a = u 0 0
    · by_cases yc : c = u 0 0
      · rw [if_pos ya, if_pos yc, ya, yc]
      · rw [if_pos ya, if_neg yc, bsU_bit, ya, z3, Bool.false_or, decide_eq_true rfl, Bool.and_true]
    · by_cases yc : c = u 0 0
      · rw [if_neg ya, if_pos yc, bsU_bit, yc, z3, Bool.false_or, decide_eq_true rfl, Bool.and_true]
      · rw [if_neg ya, if_neg yc, bsU_bit, bsU_bit, decide_eq_false (fun z => yc z.symm), decide_eq_false (fun z => ya z.symm), Bool.and_false, Bool.and_false, Bool.or_false, Bool.or_false]
        exact US.2 a c
  · rw [ptU_r (by omega) (by omega) (by decide)]; exact UG.1
  · rw [ptU_r (by omega) (by omega) (by decide)]; exact UG.2.1
  · rw [ptU_r (by omega) (by omega) (by decide)]; exact UG.2.2
/-- the class adds a part -/
theorem c_ap19 {B P : Nat} (hP : P < 8) (hB : B < 2 ^ P) (h3 : ∀ q, u 3 q < 2 ^ P) {Q : Wd → Prop} (K : Wd → Option Wd) {w0 : Wd} (h0 : gI w0 8 d 0 = nI P) (hb0 : ∀ q, q < P → gI w0 32 d q = nI (u 3 q)) (hK : ∀ w, FC d w0 w → Fr [32] w0 w → gI w 32 d P = gI w0 32 d P → (∀ q, q < P → gI w 32 d q = nI (bsU u B P q)) → Ok (K w) Q) :
    ∀ r c fuel w, c + r = P → r < fuel → FC d w0 w → Fr [32] w0 w → gI w 32 d P = gI w0 32 d P → (∀ q, q < P → gI w 32 d q = nI (if q < c then bsU u B P q else u 3 q)) → Ok (fX4_addPart_19 N d (nI B) fuel K (nI c) w) Q := by
  intro r
  have hB31 : B < 2 ^ 31 := Nat.lt_of_lt_of_le hB (Nat.pow_le_pow_right (by omega) (by omega))
  induction r with
  | zero =>
    intro c fuel w hc hf F f hP2 hv
    obtain ⟨f1, rfl⟩ : ∃ z, fuel = z + 1 := ⟨fuel - 1, by omega⟩
    have e : c = P := by omega
    subst e
    have e0 : gI w 8 d 0 = nI c := by rw [(f 8 d 0 rfl).1]; exact h0
    have lt : (nI c < gI w 8 d 0) = False := eq_false (fun z => by
      rw [e0] at z
      have := (nI_ltI (by omega) (by omega)).mp z
      omega)
    simp only [fX4_addPart_19, ↓lt, ↓reduceIte]
    refine hK w F f hP2 (fun q hq => ?_)
    rw [hv q hq, if_pos hq]
  | succ r ih =>
    intro c fuel w hc hf F f hP2 hv
    obtain ⟨f1, rfl⟩ : ∃ z, fuel = z + 1 := ⟨fuel - 1, by omega⟩
    have e0 : gI w 8 d 0 = nI P := by rw [(f 8 d 0 rfl).1]; exact h0
    have lt : (nI c < gI w 8 d 0) = True := eq_true (by rw [e0]; exact (nI_ltI (by omega) (by omega)).mpr (by omega))
    have e1 : nI c + (1 : Int32) = nI (c + 1) := nI_add _ 1
    have vc : gI w 32 d c = nI (u 3 c) := by rw [hv c (by omega), if_neg (by omega)]
    cases hb : B.testBit c with
    | false =>
      have q : ((nI B >>> (nI c &&& (31 : Int32))) &&& (1 : Int32) = 0) = True := (b31 hB31 (by omega)).trans (eq_true hb)
      simp only [fX4_addPart_19, ↓lt, ↓q, ↓e1, ↓reduceIte, callW_eq]
      refine ih (c + 1) f1 w (by omega) (by omega) F f hP2 (fun q hq => ?_)
      rw [hv q hq]
      by_cases y : q < c
      · rw [if_pos y, if_pos (by omega)]
      · rw [if_neg y]
        by_cases y2 : q = c
        · subst y2
          rw [if_pos (by omega)]
          congr 1
          unfold bsU
          rw [hb, if_neg (by decide), Nat.or_zero]
        · rw [if_neg (by omega)]
    | true =>
      have q : ((nI B >>> (nI c &&& (31 : Int32))) &&& (1 : Int32) = 0) = False := (b31 hB31 (by omega)).trans (eq_false (by rw [hb]; decide))
      have l1 : ldI w 32 d (nI c) 8 = some (nI (u 3 c)) := by rw [ldn (by omega) (by omega), vc]
      have ev : nI (u 3 c) ||| ((1 : Int32) <<< (gI w 8 d 0 &&& (31 : Int32))) = nI (bsU u B P c) := by
        rw [e0, s31 (by omega), nz_or]
        congr 1
        unfold bsU
        rw [hb, if_pos rfl]
      have s1 : stI w 32 d (nI c) 8 (nI (u 3 c) ||| ((1 : Int32) <<< (gI w 8 d 0 &&& (31 : Int32)))) = some (setI w 32 d c (nI (bsU u B P c))) := by rw [ev]; exact stn (by omega) (by omega)
      simp only [fX4_addPart_19, ↓lt, ↓q, ↓bnd l1, ↓bnd s1, ↓e1, ↓reduceIte, callW_eq]
      refine ih (c + 1) f1 _ (by omega) (by omega) (FC_setI F rfl (Or.inr rfl)) (Fr_setI f rfl) (by rw [gg_I, if_neg (by omega)]; exact hP2) (fun q hq => ?_)
      by_cases y2 : q = c
      · subst y2
        rw [gg_I, if_pos ⟨rfl, rfl, rfl⟩, if_pos (by omega)]
      · rw [gg_I, if_neg (fun z => y2 z.2.2), hv q hq]
        by_cases y : q < c
        · rw [if_pos y, if_pos (by omega)]
        · rw [if_neg y, if_neg (by omega)]
theorem c_addPart (D : DC w d u) (hU : WU u) (h8 : u 0 0 < 8) (hN : 100 ≤ N) {B nm od : Nat} (hB : B < 2 ^ u 0 0) (hnm : gI w 30 d (u 0 0) = nI nm) : Ok (pX4_addPart N d (nI od) (nI B) w) (fun w' => FC d w w' ∧ Fr [31, 32, 9000] w w' ∧ DC w' d (ptU u nm od B)) := by
  have e0 : gI w 8 d 0 = nI (u 0 0) := D.2.1 (8, 0, 0) (by decide)
  have lt : (gI w 8 d 0 < (8 : Int32)) = True := eq_true (by rw [e0]; exact (nI_ltI (b := 8) (by omega) (by omega)).mpr h8)
  have s1 : stI w 31 d (gI w 8 d 0) 8 (nI od) = some (setI w 31 d (u 0 0) (nI od)) := by rw [e0]; exact stn h8 (by omega)
  have e1 : gI (setI w 31 d (u 0 0) (nI od)) 8 d 0 = nI (u 0 0) := by rw [gg_I, if_neg (by omega)]; exact e0
  have s2 : stI (setI w 31 d (u 0 0) (nI od)) 32 d (gI (setI w 31 d (u 0 0) (nI od)) 8 d 0) 8 (nI B) = some (setI (setI w 31 d (u 0 0) (nI od)) 32 d (u 0 0) (nI B)) := by rw [e1]; exact stn h8 (by omega)
  simp only [pX4_addPart, ↓lt, ↓bnd s1, ↓bnd s2, ↓reduceIte, callW_eq]
  have f1 : Fr [31, 32] w (setI (setI w 31 d (u 0 0) (nI od)) 32 d (u 0 0) (nI B)) := Fr_setI (Fr_setI (Fr_refl _ _) rfl) rfl
  have F1 : FC d w (setI (setI w 31 d (u 0 0) (nI od)) 32 d (u 0 0) (nI B)) := FC_setI (FC_setI (FC_refl d w) rfl (Or.inr rfl)) rfl (Or.inr rfl)
  have a31 : gI (setI (setI w 31 d (u 0 0) (nI od)) 32 d (u 0 0) (nI B)) 31 d (u 0 0) = nI od := by rw [gg_I, if_neg (by omega), gg_I, if_pos ⟨rfl, rfl, rfl⟩]
  have a32 : gI (setI (setI w 31 d (u 0 0) (nI od)) 32 d (u 0 0) (nI B)) 32 d (u 0 0) = nI B := by rw [gg_I, if_pos ⟨rfl, rfl, rfl⟩]
  have K1 : KP dTc d u w (setI (setI w 31 d (u 0 0) (nI od)) 32 d (u 0 0) (nI B)) := KP_trans (KP_set (c := 0) (o := 0) (by decide) (by omega)) (KP_Fr okTc (l := [32]) (Fr_setI (Fr_refl _ _) rfl) (by decide))
  have b32 : ∀ q, q < u 0 0 → gI (setI (setI w 31 d (u 0 0) (nI od)) 32 d (u 0 0) (nI B)) 32 d q = nI (u 3 q) := fun q hq => by
    rw [gg_I, if_neg (by omega), gg_I, if_neg (by omega)]
    exact D.2.2.1 q hq
  have c80 : gI (setI (setI w 31 d (u 0 0) (nI od)) 32 d (u 0 0) (nI B)) 8 d 0 = nI (u 0 0) := by rw [(f1 8 d 0 rfl).1]; exact e0
  generalize setI (setI w 31 d (u 0 0) (nI od)) 32 d (u 0 0) (nI B) = w1 at f1 F1 a31 a32 K1 b32 c80
  rw [li0]
  refine c_ap19 (N := N) (u := u) h8 hB hU.2.2.1.1 _ c80 b32 (fun w2 F2 f2 hP2 hv => ?_) (u 0 0) 0 N w1 (by omega) (by omega) (FC_refl d w1) (Fr_refl _ _) rfl (fun q hq => by rw [if_neg (by omega)]; exact b32 q hq)
  have e2 : gI w2 8 d 0 + (1 : Int32) = nI (u 0 0 + 1) := by rw [(f2 8 d 0 rfl).1, c80]; exact nI_add _ 1
  simp only [fX4_addPart_42, ↓e2]
  have f3 : Fr [9000] w2 (setI w2 8 d 0 (nI (u 0 0 + 1))) := Fr_setI (Fr_refl _ _) rfl
  have F : Fr [31, 32, 9000] w (setI w2 8 d 0 (nI (u 0 0 + 1))) := Fr_trans (Fr_mono f1 rfl) (Fr_trans (Fr_mono f2 rfl) (Fr_mono f3 rfl))
  have hU' := hU
  obtain ⟨⟨U0, U1, U2, U3, U4, U6, U7⟩, UB, US, UG, UL⟩ := hU'
  obtain ⟨h1, h2, h3, h4, ⟨h5, h6, h7⟩, h8'⟩ := D
  have eA : ∀ r j, r ≠ 3 → ptU u nm od B r j = app u 0 (fun r => if r = 1 then nm else od) r j := fun r j h => by unfold ptU; rw [if_neg h]
  have hD : DR (setI w2 8 d 0 (nI (u 0 0 + 1))) dTc d (app u 0 (fun r => if r = 1 then nm else od)) := by
    refine DR_app okTc h1 (KP_trans K1 (KP_trans (KP_Fr okTc f2 (by decide)) (KP_Fr okTc f3 (by decide)))) ?_
    intro e he hc
    have : e = (30, 1, 0, 0) ∨ e = (31, 2, 0, 0) := (by decide : ∀ e, e ∈ dTc → e.2.2.1 = 0 → e = (30, 1, 0, 0) ∨ e = (31, 2, 0, 0)) e he hc
    rcases this with rfl | rfl
    · show gI _ 30 d (0 + u 0 0) = nI nm
      rw [Nat.zero_add, (F 30 d _ rfl).1]; exact hnm
    · show gI _ 31 d (0 + u 0 0) = nI od
      rw [Nat.zero_add, (f3 31 d _ rfl).1, (f2 31 d _ rfl).1]; exact a31
  refine ok_some ⟨FC_setI (FC_trans F1 F2) rfl (Or.inr rfl), F, fun e he j hj => ?_, fun e he => ?_, fun j hj => ?_, fun j p1 p2 => ?_, ⟨?_, ?_, ?_⟩, LC_e (fun r j p1 p2 => ptU_r (by omega) (by omega) (by rw [grp_hi p1 p2]; omega)) (LC_fr F h8')⟩
  · have g := okT_of okTc he
    have n3 : e.2.1 ≠ 3 := fun z => by rw [z] at g; have : grp 3 = 99 := by decide
                                       omega
    rw [eA 0 _ (by omega)] at hj
    rw [eA _ _ n3]
    exact hD e he j hj
  · by_cases z : e.2.2 = 0
    · have : e = (8, 0, 0) := (by decide : ∀ e, e ∈ dFc → e.2.2 = 0 → e = (8, 0, 0)) e he z
      subst this
      show gI _ 8 d 0 = nI (ptU u nm od B 0 0)
      rw [ptU_c, gg_I, if_pos ⟨rfl, rfl, rfl⟩]
    · rw [ptU_n z, DF_oth (l := [31, 32, 9000]) (c := 0) F (by decide) e he z]
      exact h2 e he
  · rw [ptU_c] at hj
    show gI _ 32 d j = nI (if (3 : Nat) = 3 then (if j = u 0 0 then B else bsU u B (u 0 0) j) else _)
    rw [if_pos rfl, (f3 32 d _ rfl).1]
    by_cases y : j = u 0 0
    · rw [if_pos y, y, hP2]; exact a32
    · rw [if_neg y]; exact hv j (by omega)
  · rw [ptU_n (by omega)] at p1
    exact PDf_fr F h4 (by decide) j p1 p2
  · rw [ptU_r (by omega) (by omega) (by decide), (F 8 d 16 rfl).1]; exact h5
  · rw [ptU_r (by omega) (by omega) (by decide), (F 11 0 2 rfl).1]; exact h6
  · rw [ptU_r (by omega) (by omega) (by decide), (F 11 0 3 rfl).1]; exact h7
end

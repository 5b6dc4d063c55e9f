/-! ===== seasons ===== -/
def prQ (v : Vw) (n al : Nat) (s : Int32 × Nat) : Nat → Int32 × Nat
  | 0 => s
  | q + 1 => if (v 11 q == n && gL8 v al q) = true then ((prQ v n al s q).1 + nI (v 12 q), (prQ v n al s q).2 + 1) else prQ v n al s q
abbrev SnS : Type := Vw × Int64 × Int32 × Nat
def snv (v : Vw) (k : PkS) : Vw := if k.1 = 0 then v else up2 v 19 (k.1 - 1) (k.2.1 + 1)
def snx (v : Vw) (k : PkS) (x : Int32) : Int32 := if k.1 = 0 then x else x - nI (v 5 (k.1 - 1))
def sn1 (ms : Nat) (s : SnS) : SnS :=
  (sNgt (snv s.1 (pkP s.1 ms (s.1 0 5) (s.1 0 1))) s.2.1, sNgz (snv s.1 (pkP s.1 ms (s.1 0 5) (s.1 0 1))) s.2.1,
   snx s.1 (pkP s.1 ms (s.1 0 5) (s.1 0 1)) (prQ s.1 (s.1 0 5) (sAny s.1 (s.1 0 5)) (s.2.2.1, s.2.2.2) (s.1 0 2)).1,
   (prQ s.1 (s.1 0 5) (sAny s.1 (s.1 0 5)) (s.2.2.1, s.2.2.2) (s.1 0 2)).2)
def snN (ms : Nat) (s : SnS) : Nat → SnS
  | 0 => s
  | n + 1 => sn1 ms (snN ms s n)
theorem SC_set19 {w : Wd} {i : Nat} {v : Vw} (S : SC w i v) (p k : Nat) : SC (setI w 63 i p (nI k)) i (up2 v 19 p (k + 1)) := by
  refine ⟨(SC_night S :), (SC_slides S :), (SC_spart S :), (SC_snight S :), (SC_learned S :), (SC_gone S :), (SC_times S :), ?_⟩
  intro j hj
  rw [gg_I]
  by_cases q : j = p
  · subst q; rw [if_pos ⟨rfl, rfl, rfl⟩, up2_eq]; rfl
  · rw [if_neg (fun z => q z.2.2), up2_nj q]; exact SC_lost S j hj
theorem SM_set19 {w : Wd} {b : Nat} {v : Vw} (S : SM w b v) (p k : Nat) : SM (setI w 105 0 (6 * b + p) (nI k)) b (up2 v 19 p (k + 1)) := by
  refine ⟨(SM_learned S :), (SM_fresh S :), (SM_gone S :), (SM_times S :), ?_⟩
  intro j hj
  rw [gg_I]
  by_cases q : j = p
  · subst q; rw [if_pos ⟨rfl, rfl, rfl⟩, up2_eq]; rfl
  · rw [if_neg (fun z => q (by have := z.2.2; omega)), up2_nj q]; exact SM_lost S j hj
theorem WF_set19 {v : Vw} (hF : WF v) {p k : Nat} (hk : k ≤ v 0 0) : WF (up2 v 19 p k) := by
  refine WF_ext (mr_up (by omega) (by omega)) hF (WF_night hF :) (WF_slides hF :) (WF_spart hF :) (fun s => WF_bd hF 14 s) (WF_snight hF :) (WF_learned hF :) (WF_gone hF :) (WF_times hF :) ?_
  intro j
  unfold up2
  split
  · exact hk
  · exact WF_lost hF j
theorem noLost_mr (v : Vw) : ∀ r j, mr r j → noLost v r j = v r j := by
  intro r j h
  exact if_neg (by unfold mr at h; omega)
theorem WF_noLost {v : Vw} (hF : WF v) : WF (noLost v) :=
  WF_ext (noLost_mr v) hF (WF_night hF :) (WF_slides hF :) (WF_spart hF :) (fun s => WF_bd hF 14 s) (WF_snight hF :) (WF_learned hF :) (WF_gone hF :) (WF_times hF :) (fun _ => by show 0 ≤ _; omega)
/-- the text's rows and slides stay -/
def sx (v' v : Vw) : Prop := (∀ r j, mr r j → v' r j = v r j) ∧ v' 0 6 = v 0 6 ∧ (∀ j, v' 14 j = v 14 j) ∧ (∀ j, v' 15 j = v 15 j)
theorem sx_trans {a b c : Vw} (h : sx a b) (h2 : sx b c) : sx a c := ⟨fun r j q => (h.1 r j q).trans (h2.1 r j q), h.2.1.trans h2.2.1, fun j => (h.2.2.1 j).trans (h2.2.2.1 j), fun j => (h.2.2.2 j).trans (h2.2.2.2 j)⟩
theorem sNgt_sx {v : Vw} (h8 : ∀ p, v 19 p ≤ 8) (z : Int64) : sx (sNgt v z) v := by
  obtain ⟨g1, _, _, _⟩ := np_keep h8 (v 0 5) z (v 0 1)
  have en : ∀ r j, (r ≠ 0 ∨ j ≠ 5) → r ≠ 19 → sNgt v z r j = (npN v (v 0 5) z (v 0 1)).1 r j := by
    intro r j h h2
    unfold sNgt
    rw [up2, if_neg (by omega), noLost, if_neg h2]
  refine ⟨sNgt_mr h8 z, ?_, fun j => ?_, fun j => ?_⟩
  · rw [en 0 6 (by omega) (by omega)]; exact g1 0 6 (by omega) (by omega) (by omega)
  · rw [en 14 j (by omega) (by omega)]; exact g1 14 j (by omega) (by omega) (by omega)
  · rw [en 15 j (by omega) (by omega)]; exact g1 15 j (by omega) (by omega) (by omega)
theorem snv_facts {v : Vw} (hF : WF v) (hL : WL v) (hT : ∀ j, v 18 j ≤ v 0 5) {k : PkS} (hk : pkW v (v 0 1) k) : WF (snv v k) ∧ WL (snv v k) ∧ (∀ j, snv v k 18 j ≤ snv v k 0 5) ∧ sx (snv v k) v ∧ snv v k 0 5 = v 0 5 := by
  unfold snv
  split
  · exact ⟨hF, hL, hT, ⟨fun _ _ _ => rfl, rfl, fun _ => rfl, fun _ => rfl⟩, rfl⟩
  · rename_i h
    have := hk.2.2 h
    have hmr : ∀ r j, mr r j → up2 v 19 (k.1 - 1) (k.2.1 + 1) r j = v r j := mr_up (by omega) (by omega)
    refine ⟨WF_set19 hF (by omega), WL_ext hmr hL, fun j => ?_, ⟨hmr, up2_ne (by omega), fun j => up2_ne (by omega), fun j => up2_ne (by omega)⟩, up2_ne (by omega)⟩
    rw [up2_ne (by omega), up2_ne (by omega)]
    exact hT j
/-- what each night of a season keeps -/
theorem snN_facts {v : Vw} (hF : WF v) (hL : WL v) (hT : ∀ j, v 18 j ≤ v 0 5) (ms : Nat) (z : Int64) (x : Int32) (l : Nat) : ∀ n, v 0 5 + n ≤ 1050 → WF (snN ms (v, z, x, l) n).1 ∧ WL (snN ms (v, z, x, l) n).1 ∧ (∀ j, (snN ms (v, z, x, l) n).1 18 j ≤ (snN ms (v, z, x, l) n).1 0 5) ∧ sx (snN ms (v, z, x, l) n).1 v ∧ (snN ms (v, z, x, l) n).1 0 5 = v 0 5 + n := by
  intro n
  induction n with
  | zero => intro _; exact ⟨hF, hL, hT, ⟨fun _ _ _ => rfl, rfl, fun _ => rfl, fun _ => rfl⟩, rfl⟩
  | succ n ih =>
    intro hn
    obtain ⟨i1, i2, i3, i4, i5⟩ := ih (by omega)
    rw [snN]
    generalize snN ms (v, z, x, l) n = s at *
    obtain ⟨j1, j2, j3, j4, j5⟩ := snv_facts i1 i2 i3 (pkP_W s.1 ms (s.1 0 5) (s.1 0 1))
    have h8 : ∀ p, snv s.1 (pkP s.1 ms (s.1 0 5) (s.1 0 1)) 19 p ≤ 8 := fun p => Nat.le_trans (WF_lost j1 p) (WF_parts j1)
    obtain ⟨k1, k2⟩ := sNgt_WF j1 j3 (by omega) s.2.1
    have ks := sNgt_sx h8 s.2.1
    have e5 : sNgt (snv s.1 (pkP s.1 ms (s.1 0 5) (s.1 0 1))) s.2.1 0 5 = snv s.1 (pkP s.1 ms (s.1 0 5) (s.1 0 1)) 0 5 + 1 := by unfold sNgt; exact up2_eq
    refine ⟨k1, WL_ext ks.1 j2, k2, sx_trans ks (sx_trans j4 i4), ?_⟩
    refine e5.trans ?_
    rw [j5, i5]
    omega
theorem pc_mkB (f : Nat → Bool) {n : Nat} (hn : n ≤ 12) : pc (mkB f n) = cnt f n := by
  have key : ∀ m, m ≤ n → cnt (fun k => (mkB f n).testBit k) m = cnt f m := by
    intro m hm
    apply cnt_ext
    intro k hk
    rw [mkB_bit]
    simp; omega
  have tail : ∀ d, cnt (fun k => (mkB f n).testBit k) (n + d) = cnt (fun k => (mkB f n).testBit k) n := by
    intro d
    induction d with
    | zero => rfl
    | succ d ih =>
      have hz : decide (n + d < n) = false := by simp
      rw [← Nat.add_assoc, cnt, ih, mkB_bit, hz]
      simp
  have := tail (12 - n)
  rw [show n + (12 - n) = 12 by omega] at this
  rw [pc, this, key n (Nat.le_refl _)]
section
variable {N : Nat} {w : Wd} {v : Vw}
theorem c_leadParties (hR : RC w 2 v) (hF : WF v) (hN : 100 ≤ N) {x : Int32} {l : Nat} (hx : gI w 7 0 3 = x) (hl : gI w 7 0 4 = nI l) :
    Ok (pX3_leadParties N w) (fun w' => Fr [8003, 8004] w w' ∧ gI w' 7 0 3 = (prQ v (v 0 5) (sAny v (v 0 5)) (x, l) (v 0 2)).1 ∧ gI w' 7 0 4 = nI (prQ v (v 0 5) (sAny v (v 0 5)) (x, l) (v 0 2)).2) := by
  have h3 := WF_parties hF
  have hn := WF_night hF
  have en : gI w 13 2 1 = nI (v 0 5) := SC_night hR.2
  have g := c_knownByAny (N := N) hR hF hN (n := v 0 5) (by omega)
  have key : ∀ fuel c w1, c ≤ v 0 2 → v 0 2 - c < fuel → (Fr [8003, 8004] w w1 ∧ gI w1 7 0 3 = (prQ v (v 0 5) (sAny v (v 0 5)) (x, l) c).1 ∧ gI w1 7 0 4 = nI (prQ v (v 0 5) (sAny v (v 0 5)) (x, l) c).2) →
      Ok (fX3_leadParties_13 N fuel (gR w 13 2 0) (nI (sAny v (v 0 5))) (nI c) w1) (fun w' => Fr [8003, 8004] w w' ∧ gI w' 7 0 3 = (prQ v (v 0 5) (sAny v (v 0 5)) (x, l) (v 0 2)).1 ∧ gI w' 7 0 4 = nI (prQ v (v 0 5) (sAny v (v 0 5)) (x, l) (v 0 2)).2) := by
    intro fuel
    induction fuel with
    | zero => intro c _ _ h; omega
    | succ f ih =>
      intro c w1 hc hf hI
      obtain ⟨i1, i2, i3⟩ := hI
      have hR1 := RC_fr i1 hR
      have hm1 : gR w1 13 2 0 = gR w 13 2 0 := (i1 13 2 0 rfl).2.2
      have T1 : TC w1 (gR w 13 2 0) v := hm1 ▸ hR1.1
      have en1 : gI w1 13 2 1 = nI (v 0 5) := SC_night hR1.2
      rcases Nat.lt_or_ge c (v 0 2) with h | h
      · have lt : (nI c < gI w1 8 (gR w 13 2 0) 5) = True := eq_true (by rw [TC_parties T1]; exact (nI_ltI (by omega) (by omega)).mpr h)
        have l1 : ldI w1 35 (gR w 13 2 0) (nI c) 8 = some (nI (v 11 c)) := by rw [ldn (by omega) (by omega), TC_pnight T1 c h]
        have l3 : ldI w1 36 (gR w 13 2 0) (nI c) 8 = some (nI (v 12 c)) := by rw [ldn (by omega) (by omega), TC_price T1 c h]
        have hpn := WF_pnight hF c
        by_cases q : v 11 c = v 0 5
        · have q' : (nI (v 11 c) = gI w1 13 2 1) = True := eq_true (by rw [q, en1])
          have gl := c_isLed (N := N) T1 hF hN h (sAny_lt hF (v 0 5))
          cases z : gL8 v (sAny v (v 0 5)) c with
          | false =>
            rw [z] at gl
            have z0 : (zB false = 0) = True := eq_true rfl
            simp only [fX3_leadParties_13, ↓lt, ↓bnd l1, ↓q', ↓cbnd gl, ↓z0, ↓reduceIte, callW_eq]
            have e1 : nI c + (1 : Int32) = nI (c + 1) := nI_add c 1
            rw [e1]
            have he : prQ v (v 0 5) (sAny v (v 0 5)) (x, l) (c + 1) = prQ v (v 0 5) (sAny v (v 0 5)) (x, l) c := by rw [prQ, z, if_neg (by simp)]
            exact ih (c + 1) w1 (by omega) (by omega) (by rw [he]; exact ⟨i1, i2, i3⟩)
          | true =>
            rw [z] at gl
            have z0 : (zB true = 0) = False := eq_false (by decide)
            simp only [fX3_leadParties_13, ↓lt, ↓bnd l1, ↓q', ↓cbnd gl, ↓z0, ↓bnd l3, ↓reduceIte, callW_eq]
            have e1 : nI c + (1 : Int32) = nI (c + 1) := nI_add c 1
            rw [e1]
            have he : prQ v (v 0 5) (sAny v (v 0 5)) (x, l) (c + 1) = ((prQ v (v 0 5) (sAny v (v 0 5)) (x, l) c).1 + nI (v 12 c), (prQ v (v 0 5) (sAny v (v 0 5)) (x, l) c).2 + 1) := by
              rw [prQ, if_pos]
              rw [z, q]; simp
            refine ih (c + 1) _ (by omega) (by omega) ⟨Fr_setI (Fr_setI i1 rfl) rfl, ?_, ?_⟩
            · rw [he, gg_I, if_neg (by omega), gg_I, if_pos ⟨rfl, rfl, rfl⟩, i2]
            · rw [he, gg_I, if_pos ⟨rfl, rfl, rfl⟩, gg_I, if_neg (by omega), i3]
              exact nI_add _ 1
        · have q' : (nI (v 11 c) = gI w1 13 2 1) = False := eq_false (by rw [en1]; exact fun z => q ((nI_eq (by omega) (by omega)).mp z))
          simp only [fX3_leadParties_13, ↓lt, ↓bnd l1, ↓q', ↓reduceIte, callW_eq]
          have e1 : nI c + (1 : Int32) = nI (c + 1) := nI_add c 1
          rw [e1]
          have he : prQ v (v 0 5) (sAny v (v 0 5)) (x, l) (c + 1) = prQ v (v 0 5) (sAny v (v 0 5)) (x, l) c := by
            rw [prQ, if_neg]
            have : (v 11 c == v 0 5) = false := by simp [q]
            rw [this]; simp
          exact ih (c + 1) w1 (by omega) (by omega) (by rw [he]; exact ⟨i1, i2, i3⟩)
      · have : c = v 0 2 := by omega
        subst this
        have lt : (nI (v 0 2) < gI w1 8 (gR w 13 2 0) 5) = False := eq_false (by rw [TC_parties T1]; exact fun z => by have := (nI_ltI (by omega) (by omega)).mp z; omega)
        simp only [fX3_leadParties_13, ↓lt, ↓reduceIte]
        exact ok_some ⟨i1, i2, i3⟩
  rw [← en] at g
  simp only [pX3_leadParties, ↓cbnd g, callW_eq, li0]
  exact key N 0 w (by omega) (by omega) ⟨Fr_refl _ _, hx, hl⟩
def kPl : List Nat := [14000, 14001, 14002, 14003, 14007, 60, 62, 63, 64, 65, 66, 22, 8001, 8002, 8003, 8004]
theorem c_play (hR : RC w 0 v) (hF : WF v) (hL : WL v) (hT : ∀ j, v 18 j ≤ v 0 5) (h1000 : v 0 5 ≤ 1000) (hN : 100 ≤ N) {ms n : Nat} (hms : ms < 4) (hn : n ≤ 50) {sd : Int32} :
    Ok (pX3_play N 0 (nI ms) sd (nI n) w) (fun w' => Fr kPl w w' ∧ SFr 2 w w' ∧ RC w' 2 (snN ms (noLost v, sd.toInt64, nI 0, 0) n).1 ∧ gI w' 7 0 3 = (snN ms (noLost v, sd.toInt64, nI 0, 0) n).2.2.1 ∧ gI w' 7 0 4 = nI (snN ms (noLost v, sd.toInt64, nI 0, 0) n).2.2.2) := by
  have h1 := WF_people hF
  have facts := snN_facts (WF_noLost hF) (WL_ext (noLost_mr v) hL) (v := noLost v) (fun j => hT j) ms sd.toInt64 (nI 0) 0
  have h05 : noLost v 0 5 = v 0 5 := rfl
  rw [h05] at facts
  have key : ∀ fuel c w1, c ≤ n → n - c < fuel → (Fr kPl w w1 ∧ SFr 2 w w1 ∧ RC w1 2 (snN ms (noLost v, sd.toInt64, nI 0, 0) c).1 ∧ gL w1 13 2 2 = (snN ms (noLost v, sd.toInt64, nI 0, 0) c).2.1 ∧ gI w1 7 0 3 = (snN ms (noLost v, sd.toInt64, nI 0, 0) c).2.2.1 ∧ gI w1 7 0 4 = nI (snN ms (noLost v, sd.toInt64, nI 0, 0) c).2.2.2) →
      Ok (fX3_play_20 N (nI ms) (nI n) fuel (nI c) w1) (fun w' => Fr kPl w w' ∧ SFr 2 w w' ∧ RC w' 2 (snN ms (noLost v, sd.toInt64, nI 0, 0) n).1 ∧ gI w' 7 0 3 = (snN ms (noLost v, sd.toInt64, nI 0, 0) n).2.2.1 ∧ gI w' 7 0 4 = nI (snN ms (noLost v, sd.toInt64, nI 0, 0) n).2.2.2) := by
    intro fuel
    induction fuel with
    | zero => intro c _ _ h; omega
    | succ f ih =>
      intro c w1 hc hf hI
      obtain ⟨i1, i2, i3, i4, i5, i6⟩ := hI
      rcases Nat.lt_or_ge c n with h | h
      · have lt : (nI c < nI n) = True := eq_true ((nI_ltI (by omega) (by omega)).mpr h)
        obtain ⟨b1, b2, b3, b4, b5⟩ := facts c (by omega)
        have es : snN ms (noLost v, sd.toInt64, nI 0, 0) (c + 1) = sn1 ms (snN ms (noLost v, sd.toInt64, nI 0, 0) c) := rfl
        generalize snN ms (noLost v, sd.toInt64, nI 0, 0) c = s at *
        have e1 : nI c + (1 : Int32) = nI (c + 1) := nI_add c 1
        simp only [fX3_play_20, ↓lt, ↓reduceIte, callW_eq, e1]
        refine ok_bind (c_leadParties i3 b1 hN i5 i6) ?_
        rintro w2 ⟨f2, x2, l2⟩
        have hR2 := RC_fr f2 i3
        refine ok_bind (c_choose hR2 b1 b2 hN hms) ?_
        rintro ⟨r, w3⟩ ⟨f3, p1, p2, p3⟩
        simp only at f3 p1 p2 p3
        have hR3 := RC_fr f3 hR2
        have hW := pkP_W s.1 ms (s.1 0 5) (s.1 0 1)
        obtain ⟨v1, v2, v3, v4, v5⟩ := snv_facts b1 b2 b3 hW
        have hp6 := WF_people b1
        have x3 : gI w3 7 0 3 = (prQ s.1 (s.1 0 5) (sAny s.1 (s.1 0 5)) (s.2.2.1, s.2.2.2) (s.1 0 2)).1 := ((f3 7 0 3 rfl).1).trans x2
        have l3 : gI w3 7 0 4 = nI (prQ s.1 (s.1 0 5) (sAny s.1 (s.1 0 5)) (s.2.2.1, s.2.2.2) (s.1 0 2)).2 := ((f3 7 0 4 rfl).1).trans l2
        have z3 : gL w3 13 2 2 = s.2.1 := by rw [(f3 13 2 2 rfl).2.1, (f2 13 2 2 rfl).2.1]; exact i4
        have fr3 : Fr kPl w w3 := Fr_trans i1 (Fr_trans (Fr_mono f2 rfl) (Fr_mono f3 rfl))
        have sf3 : SFr 2 w w3 := SFr_trans i2 (SFr_trans (SFr_fr f2) (SFr_fr f3 (h13 := by intro j; simp [kCh]; omega)))
        have goOn : ∀ w4, Fr kPl w w4 → SFr 2 w w4 → RC w4 2 (snv s.1 (pkP s.1 ms (s.1 0 5) (s.1 0 1))) → gL w4 13 2 2 = s.2.1 → gI w4 7 0 3 = snx s.1 (pkP s.1 ms (s.1 0 5) (s.1 0 1)) (prQ s.1 (s.1 0 5) (sAny s.1 (s.1 0 5)) (s.2.2.1, s.2.2.2) (s.1 0 2)).1 → gI w4 7 0 4 = nI (prQ s.1 (s.1 0 5) (sAny s.1 (s.1 0 5)) (s.2.2.1, s.2.2.2) (s.1 0 2)).2 →
            Ok ((pX9_goBy N 2 w4).bind fun w6 => fX3_play_20 N (nI ms) (nI n) f (nI (c + 1)) w6) (fun w' => Fr kPl w w' ∧ SFr 2 w w' ∧ RC w' 2 (snN ms (noLost v, sd.toInt64, nI 0, 0) n).1 ∧ gI w' 7 0 3 = (snN ms (noLost v, sd.toInt64, nI 0, 0) n).2.2.1 ∧ gI w' 7 0 4 = nI (snN ms (noLost v, sd.toInt64, nI 0, 0) n).2.2.2) := by
          intro w4 q1 q2 q3 q4 q5 q6
          refine ok_bind (c_goBy q3 v1 v2 v3 hN q4) ?_
          rintro w6 ⟨r1, r2, r3, r4⟩
          refine ih (c + 1) w6 (by omega) (by omega) ⟨Fr_trans q1 (Fr_mono r1 rfl), SFr_trans q2 r2, ?_, ?_, ?_, ?_⟩
          · rw [es]; exact r3
          · rw [es]; exact r4
          · rw [es, (r1 7 0 3 rfl).1]; exact q5
          · rw [es, (r1 7 0 4 rfl).1]; exact q6
        by_cases q0 : (pkP s.1 ms (s.1 0 5) (s.1 0 1)).1 = 0
        · have q0' : (r = 0) = True := eq_true (by rw [p3, q0]; rfl)
          simp only [↓q0', ↓reduceIte]
          refine goOn w3 fr3 sf3 ?_ z3 ?_ l3
          · rw [snv, if_pos q0]; exact hR3
          · rw [snx, if_pos q0]; exact x3
        · have q0' : (r = 0) = False := eq_false (by rw [p3]; simp [q0]; decide)
          have hle := hW.2.1
          have hlt := hW.2.2 q0
          have p1' : gI w3 7 0 1 = nI ((pkP s.1 ms (s.1 0 5) (s.1 0 1)).1 - 1) := by rw [p1, lst_pos q0]
          have p2' : gI w3 7 0 2 = nI (pkP s.1 ms (s.1 0 5) (s.1 0 1)).2.1 := by rw [p2, pkI, if_neg q0]
          have l4 : ldI w3 50 (gR w3 13 2 0) (gI w3 7 0 1) 6 = some (nI (s.1 5 ((pkP s.1 ms (s.1 0 5) (s.1 0 1)).1 - 1))) := by
            rw [p1', ldn (by omega) (by omega), TC_cost hR3.1 _ (by omega)]
          generalize hk : pkP s.1 ms (s.1 0 5) (s.1 0 1) = k at *
          generalize hx9 : (prQ s.1 (s.1 0 5) (sAny s.1 (s.1 0 5)) (s.2.2.1, s.2.2.2) (s.1 0 2)).1 = X at *
          have a1 : gI (setI w3 7 0 3 (gI w3 7 0 3 - nI (s.1 5 (k.1 - 1)))) 7 0 1 = nI (k.1 - 1) := by rw [gg_I, if_neg (by omega), p1']
          have a2 : gI (setI w3 7 0 3 (gI w3 7 0 3 - nI (s.1 5 (k.1 - 1)))) 7 0 2 = nI k.2.1 := by rw [gg_I, if_neg (by omega), p2']
          have s5 : stI (setI w3 7 0 3 (gI w3 7 0 3 - nI (s.1 5 (k.1 - 1)))) 63 2 (gI (setI w3 7 0 3 (gI w3 7 0 3 - nI (s.1 5 (k.1 - 1)))) 7 0 1) 6 (gI (setI w3 7 0 3 (gI w3 7 0 3 - nI (s.1 5 (k.1 - 1)))) 7 0 2) = some (setI (setI w3 7 0 3 (gI w3 7 0 3 - nI (s.1 5 (k.1 - 1)))) 63 2 (k.1 - 1) (nI k.2.1)) := by
            rw [a1, a2]; exact stn (by omega) (by omega)
          simp only [↓q0', ↓bnd l4, ↓bnd s5, ↓reduceIte]
          have fw : Fr [8003] w3 (setI w3 7 0 3 (gI w3 7 0 3 - nI (s.1 5 (k.1 - 1)))) := Fr_setI (Fr_refl _ _) rfl
          refine goOn _ (Fr_setI (Fr_setI fr3 rfl) rfl) (SFr_setI (SFr_trans sf3 (SFr_fr fw)) rfl) ?_ ?_ ?_ ?_
          · rw [snv, if_neg q0]
            refine ⟨?_, SC_set19 (SC_fr fw hR3.2) _ _⟩
            have er : gR (setI (setI w3 7 0 3 (gI w3 7 0 3 - nI (s.1 5 (k.1 - 1)))) 63 2 (k.1 - 1) (nI k.2.1)) 13 2 0 = gR w3 13 2 0 := rfl
            rw [er]
            exact TC_ext (mr_up (by omega) (by omega)) (TC_fr (Fr_setI (Fr_setI (Fr_refl [8003, 63] w3) rfl) rfl) hR3.1)
          · rw [gg_LI, gg_LI]; exact z3
          · rw [gg_I, if_neg (by omega), gg_I, if_pos ⟨rfl, rfl, rfl⟩, x3, snx, if_neg q0]
          · rw [gg_I, if_neg (by omega), gg_I, if_neg (by omega)]; exact l3
      · have : c = n := by omega
        subst this
        have lt : (nI c < nI c) = False := eq_false (fun z => by have := (nI_ltI (by omega) (by omega)).mp z; omega)
        simp only [fX3_play_20, ↓lt, ↓reduceIte]
        exact ok_some ⟨i1, i2, i3, i5, i6⟩
  unfold pX3_play
  rw [callW_eq]
  refine ok_bind (c_copyFrom (i0 := 2) (i1 := 0) (by omega) hR hF hN) ?_
  rintro w1 ⟨f1, s1, r1, z1, m1⟩
  rw [callW_eq]
  refine ok_bind (c_loseNobody hN) ?_
  rintro w2 ⟨f2, s2, r2⟩
  have hR2 := RC_noLost f2 r2 h1 r1
  rw [callW_eq, li0]
  have f3 : Fr [14002, 8003, 8004] w2 (setI (setI (setL w2 13 2 2 sd.toInt64) 7 0 3 (nI 0)) 7 0 4 (nI 0)) := Fr_setI (Fr_setI (Fr_setL (Fr_refl _ _) rfl) rfl) rfl
  have s3 : SFr 2 w2 (setI (setI (setL w2 13 2 2 sd.toInt64) 7 0 3 (nI 0)) 7 0 4 (nI 0)) :=
    SFr_trans (SFr_setL (SFr_refl _ _) rfl) (SFr_fr (Fr_setI (Fr_setI (Fr_refl [8003, 8004] (setL w2 13 2 2 sd.toInt64)) rfl) rfl))
  refine key N 0 _ (by omega) (by omega) ⟨Fr_trans (Fr_mono f1 rfl) (Fr_trans (Fr_mono f2 rfl) (Fr_mono f3 rfl)), SFr_trans s1 (SFr_trans s2 s3), RC_fr f3 hR2, ?_, ?_, ?_⟩
  · rw [gg_LI, gg_LI, gg_L, if_pos ⟨rfl, rfl, rfl⟩]; rfl
  · rw [gg_I, if_neg (by omega), gg_I, if_pos ⟨rfl, rfl, rfl⟩]; rfl
  · rw [gg_I, if_pos ⟨rfl, rfl, rfl⟩]; rfl
end

/-! ===== the class: a stand begins ===== -/
section
variable {N : Nat} {w w' w0 w1 wc wm : Wd} {b : Nat → Nat} {n m d k i : Nat} {u u' : Vw}
def f25 (u : Vw) (p : Nat) : Nat := if p < u 0 1 then u 25 p else 0
theorem f25_lt (hU : WU u) (p : Nat) : f25 u p < 256 := by
  unfold f25
  split
  · rename_i z; exact hU.2.1 25 p (by decide) z
  · omega
theorem c_49 (D : DC w d u) {p : Nat} (hp : p < 6) : gI w 49 d p = nI (f25 u p) := by
  unfold f25
  split
  · rename_i z
    have := D.1 (49, 25, 1, 0) (by decide) p z
    simp only [Nat.zero_add] at this
    exact this
  · rename_i z
    exact (D.2.2.2.1 p (by omega) hp).1
def lr0 (u : Vw) (p k : Nat) : Int32 := if (f25 u p).testBit k then (-1 : Int32) else (-2 : Int32)
theorem c_bg31 (hU : WU u) {p : Nat} (hp : p < 6) (hi : i ≤ 2) {Q : Wd → Prop} (K : Int32 → Wd → Option Wd) (h49 : gI w0 49 d p = nI (f25 u p)) (hK : ∀ w, Fr [62] w0 w → (∀ k, k < 8 → gI w 62 (p + 6 * i) k = lr0 u p k) → (∀ q k, q ≠ p + 6 * i → gI w 62 q k = gI w0 62 q k) → Ok (K (nI p) w) Q) :
    ∀ r c fuel w, c + r = 8 → r < fuel → Fr [62] w0 w → (∀ k, k < c → gI w 62 (p + 6 * i) k = lr0 u p k) → (∀ q k, q ≠ p + 6 * i → gI w 62 q k = gI w0 62 q k) → Ok (fX9_begin_31 N i d fuel K (nI p) (nI c) w) Q := by
  intro r
  induction r with
  | zero =>
    intro c fuel w hc hf f h1 h2
    obtain ⟨z, rfl⟩ : ∃ z, fuel = z + 1 := ⟨fuel - 1, by omega⟩
    have e : c = 8 := by omega
    subst e
    have lt : (nI 8 < (8 : Int32)) = False := eq_false (by decide)
    simp only [fX9_begin_31, ↓lt, ↓reduceIte]
    exact hK w f h1 h2
  | succ r ih =>
    intro c fuel w hc hf f h1 h2
    obtain ⟨z, rfl⟩ : ∃ z, fuel = z + 1 := ⟨fuel - 1, by omega⟩
    have lt : (nI c < (8 : Int32)) = True := eq_true ((nI_ltI (b := 8) (by omega) (by omega)).mpr (by omega))
    have e1 : nI c + (1 : Int32) = nI (c + 1) := nI_add _ 1
    have l1 : ldR (nI p) 6 i = some (p + 6 * i) := ldRn hp (by omega)
    have l2 : ldI w 49 d (nI p) 6 = some (nI (f25 u p)) := by rw [ldn hp (by omega), (f 49 d p rfl).1, h49]
    have hb := b31 (B := f25 u p) (q := c) (by have := f25_lt hU p; omega) (by omega)
    have st : ∀ x : Int32, stI w 62 (p + 6 * i) (nI c) 8 x = some (setI w 62 (p + 6 * i) c x) := fun x => stn (by omega) (by omega)
    have go : ∀ x : Int32, x = lr0 u p c → Ok (fX9_begin_31 N i d z K (nI p) (nI (c + 1)) (setI w 62 (p + 6 * i) c x)) Q := fun x hx => by
      refine ih (c + 1) z _ (by omega) (by omega) (Fr_setI f rfl) (fun k hk => ?_) (fun q k hq => ?_)
      · by_cases y : k = c
        · subst y
          rw [gg_I, if_pos ⟨rfl, rfl, rfl⟩, hx]
        · rw [gg_I, if_neg (by omega)]
          exact h1 k (by omega)
      · rw [gg_I, if_neg (fun y => hq y.2.1)]
        exact h2 q k hq
    cases ht : (f25 u p).testBit c with
    | true =>
      have q := hb.trans (eq_false (by rw [ht]; decide))
      have s := st (-1 : Int32)
      simp only [fX9_begin_31, ↓lt, ↓bnd l1, ↓bnd l2, ↓q, ↓bnd s, ↓e1, ↓reduceIte, callW_eq]
      exact go _ (by unfold lr0; rw [ht]; rfl)
    | false =>
      have q := hb.trans (eq_true ht)
      have s := st (-2 : Int32)
      simp only [fX9_begin_31, ↓lt, ↓bnd l1, ↓bnd l2, ↓q, ↓bnd s, ↓e1, ↓reduceIte, callW_eq]
      exact go _ (by unfold lr0; rw [ht]; rfl)
theorem c_bg16 (hN : 100 ≤ N) (hU : WU u) (hi : i ≤ 2) {Q : Wd → Prop} (K : Wd → Option Wd) (h49 : ∀ p, p < 6 → gI w0 49 d p = nI (f25 u p)) (hK : ∀ w, Fr [60, 62, 63] w0 w → (∀ p, p < 6 → gI w 60 i p = nI 0 ∧ gI w 63 i p = (-1 : Int32) ∧ ∀ k, k < 8 → gI w 62 (p + 6 * i) k = lr0 u p k) → Ok (K w) Q) :
    ∀ r c fuel w, c + r = 6 → r < fuel → Fr [60, 62, 63] w0 w → (∀ p, p < c → gI w 60 i p = nI 0 ∧ gI w 63 i p = (-1 : Int32) ∧ ∀ k, k < 8 → gI w 62 (p + 6 * i) k = lr0 u p k) → Ok (fX9_begin_16 N i d fuel K (nI c) w) Q := by
  intro r
  induction r with
  | zero =>
    intro c fuel w hc hf f h1
    obtain ⟨z, rfl⟩ : ∃ z, fuel = z + 1 := ⟨fuel - 1, by omega⟩
    have e : c = 6 := by omega
    subst e
    have lt : (nI 6 < (6 : Int32)) = False := eq_false (by decide)
    simp only [fX9_begin_16, ↓lt, ↓reduceIte]
    exact hK w f h1
  | succ r ih =>
    intro c fuel w hc hf f h1
    obtain ⟨z, rfl⟩ : ∃ z, fuel = z + 1 := ⟨fuel - 1, by omega⟩
    have lt : (nI c < (6 : Int32)) = True := eq_true ((nI_ltI (b := 6) (by omega) (by omega)).mpr (by omega))
    have s1 : stI w 60 i (nI c) 6 (0 : Int32) = some (setI w 60 i c (0 : Int32)) := stn (by omega) (by omega)
    have s2 : stI (setI w 60 i c (0 : Int32)) 63 i (nI c) 6 (-1 : Int32) = some (setI (setI w 60 i c (0 : Int32)) 63 i c (-1 : Int32)) := stn (by omega) (by omega)
    have f2 : Fr [60, 63] w (setI (setI w 60 i c (0 : Int32)) 63 i c (-1 : Int32)) := Fr_setI (Fr_setI (Fr_refl _ _) rfl) rfl
    have a60 : ∀ p, gI (setI (setI w 60 i c (0 : Int32)) 63 i c (-1 : Int32)) 60 i p = if p = c then nI 0 else gI w 60 i p := fun p => by
      rw [gg_I, if_neg (by omega), gg_I]
      by_cases y : p = c
      · rw [if_pos ⟨rfl, rfl, y⟩, if_pos y]; rfl
      · rw [if_neg (fun t => y t.2.2), if_neg y]
    have a63 : ∀ p, gI (setI (setI w 60 i c (0 : Int32)) 63 i c (-1 : Int32)) 63 i p = if p = c then (-1 : Int32) else gI w 63 i p := fun p => by
      rw [gg_I]
      by_cases y : p = c
      · rw [if_pos ⟨rfl, rfl, y⟩, if_pos y]
      · rw [if_neg (fun t => y t.2.2), if_neg y, gg_I, if_neg (by omega)]
    simp only [fX9_begin_16, ↓lt, ↓bnd s1, ↓bnd s2, ↓reduceIte, callW_eq]
    generalize setI (setI w 60 i c (0 : Int32)) 63 i c (-1 : Int32) = w2 at f2 a60 a63
    rw [li0]
    refine c_bg31 (N := N) (w0 := w2) hU (p := c) (by omega) hi _ (by rw [(f2 49 d c rfl).1, (f 49 d c rfl).1]; exact h49 c (by omega)) (fun w3 f3 g1 g2 => ?_) 8 0 N w2 (by omega) (by omega) (Fr_refl _ _) (fun k hk => absurd hk (Nat.not_lt_zero k)) (fun _ _ _ => rfl)
    have e1 : nI c + (1 : Int32) = nI (c + 1) := nI_add _ 1
    simp only [fX9_begin_55, ↓e1]
    refine ih (c + 1) z w3 (by omega) (by omega) (Fr_trans f (Fr_trans (Fr_mono f2 rfl) (Fr_mono f3 rfl))) (fun p hp => ?_)
    rw [(f3 60 i p rfl).1, (f3 63 i p rfl).1, a60, a63]
    by_cases y : p = c
    · subst y
      rw [if_pos rfl, if_pos rfl]
      exact ⟨rfl, rfl, g1⟩
    · obtain ⟨t1, t2, t3⟩ := h1 p (by omega)
      rw [if_neg y, if_neg y]
      refine ⟨t1, t2, fun k hk => ?_⟩
      rw [g2 _ _ (by omega), (f2 62 _ _ rfl).1]
      exact t3 k hk
theorem c_bg62 (D : DC w0 d u) (hU : WU u) : ∀ r c fuel w, c + r = u 0 6 → r < fuel → Fr [64, 65, 14007] w0 w → gI w 13 i 7 = nI c → (∀ j, j < c → gI w 64 i j = nI (u 14 j) ∧ gI w 65 i j = nI (u 15 j)) → Ok (fX9_begin_62 N i d fuel (nI c) w) (fun w' => Fr [64, 65, 14007] w0 w' ∧ gI w' 13 i 7 = nI (u 0 6) ∧ ∀ j, j < u 0 6 → gI w' 64 i j = nI (u 14 j) ∧ gI w' 65 i j = nI (u 15 j)) := by
  have U6 := hU.1.2.2.2.2.2.1
  have e12 : gI w0 8 d 12 = nI (u 0 6) := D.2.1 (8, 12, 6) (by decide)
  intro r
  induction r with
  | zero =>
    intro c fuel w hc hf f h7 h1
    obtain ⟨z, rfl⟩ : ∃ z, fuel = z + 1 := ⟨fuel - 1, by omega⟩
    have e : c = u 0 6 := by omega
    subst e
    have lt : (nI (u 0 6) < gI w 8 d 12) = False := eq_false (fun q => by
      rw [(f 8 d 12 rfl).1, e12] at q
      have := (nI_ltI (by omega) (by omega)).mp q
      omega)
    simp only [fX9_begin_62, ↓lt, ↓reduceIte]
    exact ok_some ⟨f, h7, h1⟩
  | succ r ih =>
    intro c fuel w hc hf f h7 h1
    obtain ⟨z, rfl⟩ : ∃ z, fuel = z + 1 := ⟨fuel - 1, by omega⟩
    have lt : (nI c < gI w 8 d 12) = True := eq_true (by rw [(f 8 d 12 rfl).1, e12]; exact (nI_ltI (by omega) (by omega)).mpr (by omega))
    have x1 := D.1 (38, 14, 6, 0) (by decide) c (show c < u 0 6 by omega)
    have x2 := D.1 (39, 15, 6, 0) (by decide) c (show c < u 0 6 by omega)
    simp only [Nat.zero_add] at x1 x2
    have l1 : ldI w 38 d (nI c) 4 = some (nI (u 14 c)) := by rw [ldn (by omega) (by omega), (f 38 d c rfl).1, x1]
    have l2 : ldI w 39 d (nI c) 4 = some (nI (u 15 c)) := by rw [ldn (by omega) (by omega), (f 39 d c rfl).1, x2]
    have lt2 : (gI w 13 i 7 < (12 : Int32)) = True := eq_true (by rw [h7]; exact (nI_ltI (b := 12) (by omega) (by omega)).mpr (by omega))
    have s1 : stI w 64 i (gI w 13 i 7) 12 (nI (u 14 c)) = some (setI w 64 i c (nI (u 14 c))) := by rw [h7]; exact stn (by omega) (by omega)
    have h7b : gI (setI w 64 i c (nI (u 14 c))) 13 i 7 = nI c := by rw [gg_I, if_neg (by omega)]; exact h7
    have s2 : stI (setI w 64 i c (nI (u 14 c))) 65 i (gI (setI w 64 i c (nI (u 14 c))) 13 i 7) 12 (nI (u 15 c)) = some (setI (setI w 64 i c (nI (u 14 c))) 65 i c (nI (u 15 c))) := by rw [h7b]; exact stn (by omega) (by omega)
    have e7 : gI (setI (setI w 64 i c (nI (u 14 c))) 65 i c (nI (u 15 c))) 13 i 7 + (1 : Int32) = nI (c + 1) := by rw [gg_I, if_neg (by omega), h7b]; exact nI_add _ 1
    have ga : pX9_addSlide N i (nI (u 14 c)) (nI (u 15 c)) w = some ((1 : Int32), setI (setI (setI w 64 i c (nI (u 14 c))) 65 i c (nI (u 15 c))) 13 i 7 (nI (c + 1))) := by
      simp only [pX9_addSlide, ↓lt2, ↓bnd s1, ↓bnd s2, ↓e7, ↓reduceIte]
    have e1 : nI c + (1 : Int32) = nI (c + 1) := nI_add _ 1
    simp only [fX9_begin_62, ↓lt, ↓bnd l1, ↓bnd l2, ↓cbnd ga, ↓e1, ↓reduceIte, callW_eq]
    refine ih (c + 1) z _ (by omega) (by omega) (Fr_setI (Fr_setI (Fr_setI f rfl) rfl) rfl) (by rw [gg_I, if_pos ⟨rfl, rfl, rfl⟩]) (fun j hj => ?_)
    rw [gg_I, if_neg (by omega), gg_I, if_neg (by omega), gg_I (k' := 65), if_neg (by omega)]
    by_cases y : j = c
    · subst y
      rw [gg_I, if_pos ⟨rfl, rfl, rfl⟩, gg_I, if_pos ⟨rfl, rfl, rfl⟩]
      exact ⟨rfl, rfl⟩
    · rw [gg_I, if_neg (by omega), gg_I, if_neg (by omega), gg_I, if_neg (by omega)]
      exact h1 j (by omega)
def kBg : List Nat := [14000, 14001, 14002, 14003, 14007, 60, 62, 63, 64, 65]
theorem c_sbegin (hN : 100 ≤ N) (hU : WU u) (D : DC w d u) (hi : i ≤ 2) : Ok (pX9_begin N i d w) (fun w' => Fr kBg w w' ∧ gR w' 13 i 0 = d ∧ gL w' 13 i 2 = (nI (u 26 0)).toInt64 ∧ SC w' i (vT u)) := by
  have e16 : gI (setI (setR w 13 i 0 d) 13 i 1 (0 : Int32)) 8 d 16 = nI (u 26 0) := by rw [gg_I, if_neg (by omega), gg_IR]; exact D.2.2.2.2.1.1
  unfold pX9_begin
  rw [callW_eq, e16, li0]
  have f1 : Fr kBg w (setI (setL (setI (setR w 13 i 0 d) 13 i 1 (nI 0)) 13 i 2 (nI (u 26 0)).toInt64) 13 i 3 (nI 0)) := Fr_setI (Fr_setL (Fr_setI (Fr_setR (Fr_refl _ _) rfl) rfl) rfl) rfl
  have r0 : gR (setI (setL (setI (setR w 13 i 0 d) 13 i 1 (nI 0)) 13 i 2 (nI (u 26 0)).toInt64) 13 i 3 (nI 0)) 13 i 0 = d := by rw [gg_RI, gg_RL, gg_RI, gg_R, if_pos ⟨rfl, rfl, rfl⟩]
  have l2 : gL (setI (setL (setI (setR w 13 i 0 d) 13 i 1 (nI 0)) 13 i 2 (nI (u 26 0)).toInt64) 13 i 3 (nI 0)) 13 i 2 = (nI (u 26 0)).toInt64 := by rw [gg_LI, gg_L, if_pos ⟨rfl, rfl, rfl⟩]
  have i1 : gI (setI (setL (setI (setR w 13 i 0 d) 13 i 1 (nI 0)) 13 i 2 (nI (u 26 0)).toInt64) 13 i 3 (nI 0)) 13 i 1 = nI 0 := by rw [gg_I, if_neg (by omega), gg_IL, gg_I, if_pos ⟨rfl, rfl, rfl⟩]
  have i3 : gI (setI (setL (setI (setR w 13 i 0 d) 13 i 1 (nI 0)) 13 i 2 (nI (u 26 0)).toInt64) 13 i 3 (nI 0)) 13 i 3 = nI 0 := by rw [gg_I, if_pos ⟨rfl, rfl, rfl⟩]
  generalize setI (setL (setI (setR w 13 i 0 d) 13 i 1 (nI 0)) 13 i 2 (nI (u 26 0)).toInt64) 13 i 3 (nI 0) = w1 at f1 r0 l2 i1 i3
  have D1 := DC_fr f1 D
  have U6 := hU.1.2.2.2.2.2.1
  refine c_bg16 (N := N) (w0 := w1) hN hU hi _ (fun p hp => c_49 D1 hp) (fun w2 f2 g2 => ?_) 6 0 N w1 (by omega) (by omega) (Fr_refl _ _) (fun p hp => absurd hp (Nat.not_lt_zero p))
  unfold fX9_begin_57
  rw [callW_eq, li0]
  have f3 : Fr [14007] w2 (setI w2 13 i 7 (nI 0)) := Fr_setI (Fr_refl _ _) rfl
  have h7 : gI (setI w2 13 i 7 (nI 0)) 13 i 7 = nI 0 := by rw [gg_I, if_pos ⟨rfl, rfl, rfl⟩]
  generalize setI w2 13 i 7 (nI 0) = w3 at f3 h7
  have f13 : Fr [60, 62, 63, 14007] w1 w3 := Fr_trans (Fr_mono f2 rfl) (Fr_mono f3 rfl)
  refine ok_mono (c_bg62 (N := N) (i := i) (w0 := w3) (DC_fr f13 D1) hU (u 0 6) 0 N w3 (by omega) (by omega) (Fr_refl _ _) h7 (fun j hj => absurd hj (Nat.not_lt_zero j))) ?_
  rintro w4 ⟨f4, g7, g4⟩
  have f14 : Fr [60, 62, 63, 14007, 64, 65] w1 w4 := Fr_trans (Fr_mono f13 rfl) (Fr_mono f4 rfl)
  refine ⟨Fr_trans f1 (Fr_mono f14 rfl), ?_, ?_, ?_, ?_, fun j hj => ?_, fun j hj => ?_, fun p kk hp hk => ?_, ?_, fun p hp => ?_, fun p hp => ?_⟩
  · rw [(f14 13 i 0 rfl).2.2]; exact r0
  · rw [(f14 13 i 2 rfl).2.1]; exact l2
  · rw [(f14 13 i 1 rfl).1, vT_05]; exact i1
  · rw [vT_0 (by omega) (by omega)]; exact g7
  · rw [vT_0 (by omega) (by omega)] at hj
    rw [vT_g (by decide) (by omega) hj]; exact (g4 j hj).1
  · rw [vT_0 (by omega) (by omega)] at hj
    rw [vT_g (by decide) (by omega) hj]; exact (g4 j hj).2
  · rw [vT_0 (by omega) (by omega)] at hp
    have U1 := hU.1.2.1
    rw [(f4 62 _ _ rfl).1, (f3 62 _ _ rfl).1, (g2 p (by omega)).2.2 kk hk, vT_16, show (8 * p + kk) / 8 = p by omega, show (8 * p + kk) % 8 = kk by omega]
    unfold lr0 f25
    rw [if_pos hp]
    cases ht : (u 25 p).testBit kk with
    | true => rw [if_pos rfl, if_pos ⟨hp, rfl⟩]; rfl
    | false => rw [if_neg (by decide), if_neg (fun z => by cases z.2)]; rfl
  · rw [(f14 13 i 3 rfl).1, i3]
    congr 1
    have : ∀ q, mkB (fun p => vT u 17 p == 1) q = 0 := fun q => by
      induction q with
      | zero => rfl
      | succ q ih => rw [mkB, ih, vT_17 (by omega), if_neg (by decide)]; rfl
    exact (this _).symm
  · rw [vT_0 (by omega) (by omega)] at hp
    have U1 := hU.1.2.1
    rw [(f4 60 _ _ rfl).1, (f3 60 _ _ rfl).1, (g2 p (by omega)).1, vT_17 (by omega)]
  · rw [vT_0 (by omega) (by omega)] at hp
    have U1 := hU.1.2.1
    rw [(f4 63 _ _ rfl).1, (f3 63 _ _ rfl).1, (g2 p (by omega)).2.1, vT_17 (by omega)]
    rfl
end

/-! ===== the state that a text leaves ===== -/
def vT (u : Vw) : Vw := fun r j =>
  if r = 0 then (if j ≤ 7 ∧ j ≠ 5 then u 0 j else 0)
  else if r = 3 then u 3 j
  else if r = 25 then 0
  else if grp r < 7 then (if j < u 0 (grp r) then u r j else 0)
  else if r = 16 then (if j / 8 < u 0 1 ∧ (u 25 (j / 8)).testBit (j % 8) = true then 1 else 0)
  else if r = 20 then (if j < 2 then u 20 j else 0)
  else if 21 ≤ r ∧ r ≤ 24 then (if j < u 20 ((r - 21) / 2) then u r j else 0)
  else 0
section
variable {N : Nat} {w w' w0 w1 wc wm : Wd} {b : Nat → Nat} {n m d k i : Nat} {u u' : Vw}
theorem vT_0 {j : Nat} (h : j ≤ 7) (h5 : j ≠ 5) : vT u 0 j = u 0 j := by unfold vT; rw [if_pos rfl, if_pos ⟨h, h5⟩]
theorem vT_05 : vT u 0 5 = 0 := by unfold vT; rw [if_pos rfl, if_neg (by omega)]
theorem vT_3 (j : Nat) : vT u 3 j = u 3 j := by unfold vT; rw [if_neg (by omega), if_pos rfl]
theorem vT_g {r j : Nat} (hg : grp r < 7) (h25 : r ≠ 25) (hj : j < u 0 (grp r)) : vT u r j = u r j := by
  have h3 : r ≠ 3 := fun z => by rw [z] at hg; exact absurd hg (by decide)
  unfold vT
  rw [if_neg (grp_0 hg), if_neg h3, if_neg h25, if_pos hg, if_pos hj]
theorem vT_b {r : Nat} (hU : WU u) (hg : grp r < 7) (h25 : r ≠ 25) (j : Nat) : vT u r j = 0 ∨ vT u r j < bdR (u 0 0) r := by
  have h3 : r ≠ 3 := fun z => by rw [z] at hg; exact absurd hg (by decide)
  by_cases hj : j < u 0 (grp r)
  · right
    rw [vT_g hg h25 hj]
    exact hU.2.1 r j hg hj
  · left
    unfold vT
    rw [if_neg (grp_0 hg), if_neg h3, if_neg h25, if_pos hg, if_neg hj]
theorem vT_16 (j : Nat) : vT u 16 j = if j / 8 < u 0 1 ∧ (u 25 (j / 8)).testBit (j % 8) = true then 1 else 0 := by
  unfold vT
  rw [if_neg (by omega), if_neg (by omega), if_neg (by omega), if_neg (by decide), if_pos rfl]
theorem vT_17 {r : Nat} (h : r = 17 ∨ r = 18 ∨ r = 19) (j : Nat) : vT u r j = 0 := by
  unfold vT
  rcases h with rfl | rfl | rfl
  · rw [if_neg (by omega), if_neg (by omega), if_neg (by omega), if_neg (by decide), if_neg (by omega), if_neg (by omega), if_neg (by omega)]
  · rw [if_neg (by omega), if_neg (by omega), if_neg (by omega), if_neg (by decide), if_neg (by omega), if_neg (by omega), if_neg (by omega)]
  · rw [if_neg (by omega), if_neg (by omega), if_neg (by omega), if_neg (by decide), if_neg (by omega), if_neg (by omega), if_neg (by omega)]
theorem vT_20 (a : Nat) : vT u 20 a = if a < 2 then u 20 a else 0 := by
  unfold vT
  rw [if_neg (by omega), if_neg (by omega), if_neg (by omega), if_neg (by decide), if_neg (by omega), if_pos rfl]
theorem vT_l {r : Nat} (h : 21 ≤ r) (h' : r ≤ 24) (j : Nat) : vT u r j = if j < u 20 ((r - 21) / 2) then u r j else 0 := by
  unfold vT
  rw [if_neg (by omega), if_neg (by omega), if_neg (by omega), if_neg (by rw [grp_hi (by omega) h']; omega), if_neg (by omega), if_neg (by omega), if_pos ⟨h, h'⟩]
theorem vT_hi {r : Nat} (h : r ≥ 25) (j : Nat) : vT u r j = 0 := by
  unfold vT
  rw [if_neg (by omega), if_neg (by omega)]
  by_cases y : r = 25
  · rw [if_pos y]
  · have hg : ¬ grp r < 7 := fun z => by have := grp_lt7 z; omega
    rw [if_neg y, if_neg hg, if_neg (by omega), if_neg (by omega), if_neg (by omega)]
theorem vT_lK {a : Nat} (ha : a < 2) (j : Nat) : lK (vT u) a j = if j < u 20 a then lK u a j else 0 := by
  unfold lK
  rw [vT_l (by omega) (by omega), show (21 + 2 * a - 21) / 2 = a by omega]
theorem vT_lX {a : Nat} (ha : a < 2) (j : Nat) : lX (vT u) a j = if j < u 20 a then lX u a j else 0 := by
  unfold lX
  rw [vT_l (by omega) (by omega), show (22 + 2 * a - 21) / 2 = a by omega]
theorem vT_sd {a : Nat} (ha : a < 2) {j : Nat} (hj : j ≤ u 20 a) : sd (lK (vT u) a) j = sd (lK u a) j := sd_ext j (fun i hi => by rw [vT_lK ha, if_pos (by omega)])
theorem vT_sp {a : Nat} (ha : a < 2) {j : Nat} (hj : j ≤ u 20 a) (t : Nat) : sp (lK (vT u) a) j t = sp (lK u a) j t := sp_ext j (fun i hi => by rw [vT_lK ha, if_pos (by omega)]) t
theorem bdR_30 {P r : Nat} (h : P ≤ 8) : bdR P r ≤ 2 ^ 30 := by
  unfold bdR
  split
  · omega
  split
  · omega
  split
  · omega
  split
  · omega
  split
  · omega
  split
  · omega
  split
  · omega
  · omega
theorem WF_vT (hU : WU u) : WF (vT u) := by
  have hU' := hU
  obtain ⟨⟨U0, U1, U2, U3, U4, U6, U7⟩, UB, US, UG, UL⟩ := hU'
  have e0 : ∀ j, j ≤ 7 → j ≠ 5 → vT u 0 j = u 0 j := fun j h1 h2 => vT_0 h1 h2
  have bd : ∀ r j, grp r < 7 → r ≠ 25 → vT u r j = 0 ∨ vT u r j < bdR (u 0 0) r := fun r j hg h => vT_b hU hg h j
  have p8 : 2 ^ u 0 0 ≤ 2 ^ 8 := Nat.pow_le_pow_right (by omega) U0
  refine ⟨?_, ?_, ?_, ?_, ?_, ?_, ?_, ?_, fun r j => ?_, fun j => ?_, fun j => ?_, fun a c => ?_, fun j => ?_, fun j => ?_, fun j => ?_, fun j => ?_, fun q hq => ?_, fun q hq => ?_, fun j => ?_, fun j => ?_, fun j => ?_, fun s hs => ?_, fun j => ?_, fun j => ?_, fun j => ?_, fun j => ?_, fun p => ?_, fun a => ?_, fun a j ha hj => ?_⟩
  · rw [e0 0 (by omega) (by omega)]; exact U0
  · rw [e0 1 (by omega) (by omega)]; exact U1
  · rw [e0 2 (by omega) (by omega)]; exact U2
  · rw [e0 3 (by omega) (by omega)]; exact U3
  · rw [e0 4 (by omega) (by omega)]; exact U4
  · rw [vT_05]; omega
  · rw [e0 6 (by omega) (by omega)]; omega
  · rw [e0 7 (by omega) (by omega)]; exact U7
  · by_cases y0 : r = 0
    · subst y0
      by_cases y : j ≤ 7 ∧ j ≠ 5
      · rw [e0 j y.1 y.2]
        have : j = 0 ∨ j = 1 ∨ j = 2 ∨ j = 3 ∨ j = 4 ∨ j = 6 ∨ j = 7 := by omega
        rcases this with rfl | rfl | rfl | rfl | rfl | rfl | rfl <;> omega
      · unfold vT; rw [if_pos rfl, if_neg y]; omega
    · by_cases y3 : r = 3
      · subst y3
        rw [vT_3]
        have := US.1 j
        omega
      · by_cases y25 : 25 ≤ r
        · rw [vT_hi y25]; omega
        · by_cases hg : grp r < 7
          · rcases bd r j hg (by omega) with z | z
            · rw [z]; omega
            · exact Nat.lt_of_lt_of_le z (bdR_30 U0)
          · by_cases y16 : r = 16
            · subst y16
              rw [vT_16]
              split <;> omega
            · by_cases y20 : r = 20
              · subst y20
                rw [vT_20]
                split
                · rename_i z
                  have := UL.1 j z
                  omega
                · omega
              · by_cases yl : 21 ≤ r ∧ r ≤ 24
                · rw [vT_l yl.1 yl.2]
                  split
                  · rename_i z
                    have ha : (r - 21) / 2 < 2 := by omega
                    have h2 := UL.2.1 ((r - 21) / 2) j ha z
                    have : r = 21 + 2 * ((r - 21) / 2) ∨ r = 22 + 2 * ((r - 21) / 2) := by omega
                    rcases this with q | q
                    · have e : u r j = lK u ((r - 21) / 2) j := by unfold lK; rw [← q]
                      omega
                    · have e : u r j = lX u ((r - 21) / 2) j := by unfold lX; rw [← q]
                      omega
                  · omega
                · unfold vT
                  rw [if_neg y0, if_neg y3, if_neg (by omega), if_neg hg, if_neg y16, if_neg y20, if_neg yl]
                  omega
  · have := bd 2 j (by decide) (by omega)
    have e : bdR (u 0 0) 2 = 101 := rfl
    omega
  · rw [vT_3, e0 0 (by omega) (by omega)]; exact US.1 j
  · rw [vT_3, vT_3]; exact US.2 a c
  · have := bd 5 j (by decide) (by omega)
    have e : bdR (u 0 0) 5 = 100 := rfl
    omega
  · have := bd 6 j (by decide) (by omega)
    have e : bdR (u 0 0) 6 = 1000 := rfl
    omega
  · have := bd 7 j (by decide) (by omega)
    have e : bdR (u 0 0) 7 = 1000 := rfl
    omega
  · have := bd 8 j (by decide) (by omega)
    have e : bdR (u 0 0) 8 = 1000 := rfl
    omega
  · rw [e0 2 (by omega) (by omega)] at hq
    rw [vT_g (by decide) (by omega) hq, e0 0 (by omega) (by omega)]
    exact UB 9 q (by decide) hq
  · rw [e0 2 (by omega) (by omega)] at hq
    rw [vT_g (by decide) (by omega) hq, e0 0 (by omega) (by omega)]
    exact UB 10 q (by decide) hq
  · have := bd 11 j (by decide) (by omega)
    have e : bdR (u 0 0) 11 = 1000 := rfl
    omega
  · have := bd 12 j (by decide) (by omega)
    have e : bdR (u 0 0) 12 = 100 := rfl
    omega
  · have := bd 13 j (by decide) (by omega)
    have e : bdR (u 0 0) 13 = 10 := rfl
    omega
  · rw [e0 6 (by omega) (by omega)] at hs
    rw [vT_g (by decide) (by omega) hs, e0 0 (by omega) (by omega)]
    exact UB 14 s (by decide) hs
  · have := bd 15 j (by decide) (by omega)
    have e : bdR (u 0 0) 15 = 1000 := rfl
    omega
  · rw [vT_16]
    split <;> omega
  · rw [vT_17 (by omega)]; omega
  · rw [vT_17 (by omega)]; omega
  · rw [vT_17 (by omega)]; omega
  · rw [vT_20]
    split
    · rename_i z; exact UL.1 a z
    · omega
  · rw [vT_20, if_pos ha] at hj
    have h1 := vT_lK (u := u) ha j
    have h2 := vT_lX (u := u) ha j
    rw [if_pos hj] at h1 h2
    unfold lK at h1
    unfold lX at h2
    rw [h1, h2]
    exact UL.2.1 a j ha hj
theorem WL_vT (hU : WU u) : WL (vT u) := fun a ha => by
  rw [vT_20, if_pos ha]
  have hL := hU.2.2.2.2.2.2 a ha
  refine ⟨fun j hj => ?_, fun h0 => ?_⟩
  · rw [vT_lK ha, if_pos hj, vT_sd ha (by omega)]
    exact hL.1 j hj
  · rw [vT_sd ha (Nat.le_refl _)]
    exact hL.2 h0
theorem TC_vT (D : DC w d u) : TC w d (vT u) := by
  obtain ⟨d1, d2, d3, d4, d5, d8⟩ := D
  have row : ∀ kk r c, (kk, r, c, 0) ∈ dTc → r ≠ 25 → c ≤ 7 → c ≠ 5 → ∀ j, j < vT u 0 c → gI w kk d j = nI (vT u r j) := fun kk r c he h25 hc hc5 j hj => by
    have g := okT_of okTc he
    simp only at g
    rw [vT_0 hc hc5] at hj
    rw [vT_g (by omega) h25 (by rw [g.1]; exact hj)]
    have := d1 (kk, r, c, 0) he j hj
    simp only [Nat.zero_add] at this
    exact this
  have fld : ∀ kk f c, (kk, f, c) ∈ dFc → c ≤ 7 → c ≠ 5 → gI w kk d f = nI (vT u 0 c) := fun kk f c he hc hc5 => by
    rw [vT_0 hc hc5]
    exact d2 (kk, f, c) he
  refine ⟨fld 8 0 0 (by decide) (by omega) (by omega), fld 10 0 1 (by decide) (by omega) (by omega), fld 8 5 2 (by decide) (by omega) (by omega), fld 8 10 3 (by decide) (by omega) (by omega), fld 8 15 4 (by decide) (by omega) (by omega), fld 8 17 7 (by decide) (by omega) (by omega), row 30 1 0 (by decide) (by omega) (by omega) (by omega), row 31 2 0 (by decide) (by omega) (by omega) (by omega), fun j hj => ?_, row 48 4 1 (by decide) (by omega) (by omega) (by omega), row 50 5 1 (by decide) (by omega) (by omega) (by omega), row 51 6 1 (by decide) (by omega) (by omega) (by omega), row 52 7 1 (by decide) (by omega) (by omega) (by omega), row 53 8 1 (by decide) (by omega) (by omega) (by omega), row 33 9 2 (by decide) (by omega) (by omega) (by omega), row 34 10 2 (by decide) (by omega) (by omega) (by omega), row 35 11 2 (by decide) (by omega) (by omega) (by omega), row 36 12 2 (by decide) (by omega) (by omega) (by omega), row 37 13 3 (by decide) (by omega) (by omega) (by omega), fun a ha => ?_, fun a j ha hj => ?_⟩
  · rw [vT_0 (by omega) (by omega)] at hj
    rw [vT_3]
    exact d3 j hj
  · rw [vT_20, if_pos ha]
    exact d8.1 a ha
  · rw [vT_20, if_pos ha] at hj
    have h1 := vT_lK (u := u) ha j
    have h2 := vT_lX (u := u) ha j
    rw [if_pos hj] at h1 h2
    unfold lK at h1
    unfold lX at h2
    rw [h1, h2]
    exact d8.2 a j ha hj
end

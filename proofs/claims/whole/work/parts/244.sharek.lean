/-! ===== share and worth ===== -/
section
variable {N : Nat} {w : Wd} {v : Vw}
theorem wo99 (g : Nat) (hg : g < 8) : nI g = (-1 : Int32) ↔ g = 99 := ⟨fun e => absurd e (nz_ne1 (by omega)), fun e => by omega⟩
theorem moT_wo {n p r fr : Nat} (hF : WF v) : moT v n p r fr = moT v n 99 r (rmv fr p) := by
  have h1 := WF_people hF
  exact mo_wo (fun q g => lead_wo n 99 q g (by omega) p) r fr
theorem c_sum {x : Int32} (h : gI w 56 0 63 = x) : pX8_sum N w = some (x, w) := by
  have l1 : ldR (0 : Int32) 9 0 = some 0 := ldRn (j := 0) (by omega) (by omega)
  have l2 : ldI w 56 0 (63 : Int32) 64 = some x := by rw [li63, ldn (by omega) (by omega), h]
  simp only [pX8_sum, ↓bnd l1, ↓bnd l2]
theorem m1_lt {a : Int32} (h : a < 0) (h1 : a ≠ (-1 : Int32)) : a < (-1 : Int32) := by
  rw [Int32.lt_iff_toInt_lt] at h ⊢
  have e0 : (0 : Int32).toInt = 0 := rfl
  have e1 : (-1 : Int32).toInt = -1 := rfl
  rw [e0] at h
  rw [e1]
  have : a.toInt ≠ -1 := fun z => h1 (Int32.toInt_inj.mp (by rw [z, e1]))
  omega
theorem k_share (C : Cu w v) (hN : 2 ^ 23 ≤ N) (a b : Int32) : Both (pX11_share N a b) (pX12_share N a b) w := by
  have hF := C.2.2.1
  have h3 := WF_parties hF
  have g1 := c_gNight (N := N) (w := w) a
  have g2 := c_gParty (N := N) C b
  have m1 : ∀ w1, pX12_isNight N a (setI w1 16 0 2 (0 : Int32)) = some (zB (isI a 1000), setI w1 16 0 2 (0 : Int32)) := fun w1 => m_gNight a
  cases ha : isI a 1000 with
  | false =>
    rw [ha] at g1 m1
    refine Both_mk (x := (-1 : Int32)) ?_ (fun w1 f1 => ?_)
    · simp only [pX11_share, ↓cbnd g1, ↓z2, ↓reduceIte]
      exact ok_some ⟨Fr_refl _ _, rfl⟩
    · simp only [pX12_share, ↓cbnd (m1 w1), ↓z2, ↓reduceIte]
      exact ok_some ⟨Fr_t, rfl⟩
  | true =>
    rw [ha] at g1 m1
    obtain ⟨n, hn, rfl⟩ := isI_t.mp ha
    by_cases hb : b = (-1 : Int32)
    · subst hb
      have e : ((-1 : Int32) = (-1 : Int32)) = True := eq_true rfl
      refine Both_mk (x := nI (moT v n 99 (v 0 2) 63)) ?_ (fun w1 f1 => ?_)
      · simp only [pX11_share, fX11_share_12, ↓cbnd g1, ↓z1, ↓e, ↓reduceIte, callW_eq]
        refine ok_bind (c_find (N := N) C.1 hF (by omega) (show n < 2 ^ 30 by omega) wo99) ?_
        rintro w2 ⟨j1, j2, j3⟩
        rw [c_sum j2]
        exact ok_some ⟨Fr_mono j1 rfl, rfl⟩
      · have C1 := Cu_t (Cu_fr f1 C)
        have lt1 : ((-1 : Int32) < (-1 : Int32)) = False := eq_false (by decide)
        have lt2 : ((-1 : Int32) < gI (setI w1 16 0 2 (0 : Int32)) 16 0 14) = True := eq_true (by
          rw [TM_parties C1.2.1.1]
          have : ∀ q, q < 9 → (-1 : Int32) < nI q := by decide
          exact this _ (by omega))
        have lt3 : ((-1 : Int32) < 0) = True := eq_true (by decide)
        simp only [pX12_share, ↓cbnd (m1 w1), ↓z1, ↓lt1, ↓lt2, ↓lt3, ↓reduceIte, callW_eq]
        refine ok_bind (m_layShares (N := N) (b := 0) rfl C1.2.1.1 C1.2.1.2.1 hF (by omega) (show n < 2 ^ 30 by omega)) ?_
        rintro w2 ⟨j1, j2, j3⟩
        have l3 : ldI w2 118 0 (63 : Int32) 576 = some (nI (moT v n 99 (v 0 2) 63)) := by
          have := j3 0 63 (by omega) (by omega) (by omega)
          rw [li63, ldn (by omega) (by omega)]
          exact congrArg some this
        simp only [↓bnd l3]
        exact ok_some ⟨Fr_trans Fr_t (Fr_mono j1 rfl), rfl⟩
    · have e : (b = (-1 : Int32)) = False := eq_false hb
      cases hp : isI b (v 0 2) with
      | false =>
        rw [hp] at g2
        refine Both_mk (x := (-1 : Int32)) ?_ (fun w1 f1 => ?_)
        · simp only [pX11_share, ↓cbnd g1, ↓z1, ↓e, ↓cbnd g2, ↓z2, ↓reduceIte]
          exact ok_some ⟨Fr_refl _ _, rfl⟩
        · have C1 := Cu_t (Cu_fr f1 C)
          by_cases hlt : b < (-1 : Int32)
          · have lt1 : (b < (-1 : Int32)) = True := eq_true hlt
            simp only [pX12_share, ↓cbnd (m1 w1), ↓z1, ↓lt1, ↓reduceIte]
            exact ok_some ⟨Fr_t, rfl⟩
          · have lt1 : (b < (-1 : Int32)) = False := eq_false hlt
            have lt2 : (b < gI (setI w1 16 0 2 (0 : Int32)) 16 0 14) = False := by
              rw [TM_parties C1.2.1.1]
              rcases isI_c b (v 0 2) (by omega) with ⟨x1, x2, x3⟩ | ⟨x1, x2⟩ | ⟨x1, x2, x3⟩
              · rw [hp] at x1; cases x1
              · exact absurd (m1_lt (by rw [x2]; trivial) hb) hlt
              · exact x3
            simp only [pX12_share, ↓cbnd (m1 w1), ↓z1, ↓lt1, ↓lt2, ↓reduceIte]
            exact ok_some ⟨Fr_t, rfl⟩
      | true =>
        rw [hp] at g2
        obtain ⟨q, hq, rfl⟩ := isI_t.mp hp
        refine Both_mk (x := dI (shP v n 99 q (shF v n 99 q))) ?_ (fun w1 f1 => ?_)
        · simp only [pX11_share, fX11_share_12, ↓cbnd g1, ↓z1, ↓e, ↓cbnd g2, ↓reduceIte, callW_eq]
          refine ok_bind (c_find (N := N) C.1 hF (by omega) (show n < 2 ^ 30 by omega) wo99) ?_
          rintro w2 ⟨j1, j2, j3⟩
          have l3 : ldI w2 59 0 (nI q) 8 = some (dI (shP v n 99 q (shF v n 99 q))) := by rw [ldn (by omega) (by omega), j3 q hq]
          simp only [↓bnd l3]
          exact ok_some ⟨Fr_mono j1 rfl, rfl⟩
        · have C1 := Cu_t (Cu_fr f1 C)
          have lt1 : (nI q < (-1 : Int32)) = False := eq_false (by
            have : ∀ q, q < 9 → ¬ nI q < (-1 : Int32) := by decide
            exact this _ (by omega))
          have lt2 : (nI q < gI (setI w1 16 0 2 (0 : Int32)) 16 0 14) = True := eq_true (by rw [TM_parties C1.2.1.1]; exact (nI_ltI (by omega) (by omega)).mpr hq)
          have lt3 : (nI q < 0) = False := eq_false (nz_ge0 (by omega))
          simp only [pX12_share, ↓cbnd (m1 w1), ↓z1, ↓lt1, ↓lt2, ↓lt3, ↓reduceIte, callW_eq]
          refine ok_bind (m_layShares (N := N) (b := 0) rfl C1.2.1.1 C1.2.1.2.1 hF (by omega) (show n < 2 ^ 30 by omega)) ?_
          rintro w2 ⟨j1, j2, j3⟩
          have gs := m_sharedBy (N := N) (TM_fr j1 C1.2.1.1) hF (by omega) (show n < 2 ^ 30 by omega) j2 j3 hq
          rw [gs]
          exact ok_some ⟨Fr_trans Fr_t (Fr_mono j1 rfl), rfl⟩
theorem k_worth (C : Cu w v) (hN : 2 ^ 23 ≤ N) (a b : Int32) : Both (pX11_worth N a b) (pX12_worth N a b) w := by
  have hF := C.2.2.1
  have h1 := WF_people hF
  have h3 := WF_parties hF
  have g1 := c_gWho (N := N) C a
  have g2 := c_gNight (N := N) (w := w) b
  have m1 : ∀ w1, Fr kQ w w1 → pX12_isPerson N a (setI w1 16 0 2 (0 : Int32)) = some (zB (isI a (v 0 1)), setI w1 16 0 2 (0 : Int32)) := fun w1 f1 => m_gWho (Cu_t (Cu_fr f1 C)) a
  have m2 : ∀ w1, pX12_isNight N b (setI w1 16 0 2 (0 : Int32)) = some (zB (isI b 1000), setI w1 16 0 2 (0 : Int32)) := fun w1 => m_gNight b
  cases ha : isI a (v 0 1) with
  | false =>
    rw [ha] at g1 m1
    refine Both_mk (x := (-1 : Int32)) ?_ (fun w1 f1 => ?_)
    · simp only [pX11_worth, ↓cbnd g1, ↓z2, ↓reduceIte]
      exact ok_some ⟨Fr_refl _ _, rfl⟩
    · simp only [pX12_worth, ↓cbnd (m1 w1 f1), ↓z2, ↓reduceIte]
      exact ok_some ⟨Fr_t, rfl⟩
  | true =>
    rw [ha] at g1 m1
    cases hb : isI b 1000 with
    | false =>
      rw [hb] at g2 m2
      refine Both_mk (x := (-1 : Int32)) ?_ (fun w1 f1 => ?_)
      · simp only [pX11_worth, ↓cbnd g1, ↓z1, ↓cbnd g2, ↓z2, ↓reduceIte]
        exact ok_some ⟨Fr_refl _ _, rfl⟩
      · simp only [pX12_worth, ↓cbnd (m1 w1 f1), ↓z1, ↓cbnd (m2 w1), ↓z2, ↓reduceIte]
        exact ok_some ⟨Fr_t, rfl⟩
    | true =>
      rw [hb] at g2 m2
      obtain ⟨p, hp, rfl⟩ := isI_t.mp ha
      obtain ⟨n, hn, rfl⟩ := isI_t.mp hb
      refine Both_mk (x := nI (moT v n 99 (v 0 2) 63) - nI (moT v n 99 (v 0 2) (rmv 63 p))) ?_ (fun w1 f1 => ?_)
      · simp only [pX11_worth, ↓cbnd g1, ↓z1, ↓cbnd g2, ↓reduceIte, callW_eq]
        refine ok_bind (c_find (N := N) C.1 hF (by omega) (show n < 2 ^ 30 by omega) wo99) ?_
        rintro w2 ⟨j1, j2, j3⟩
        rw [c_sum j2]
        simp only [Option.bind_some]
        have C2 : RC w2 0 v := RC_fr j1 C.1
        refine ok_bind (c_find (N := N) (a2 := nI p) (wo := p) C2 hF (by omega) (show n < 2 ^ 30 by omega) (fun g hg => nI_eq (by omega) (by omega))) ?_
        rintro w3 ⟨k1, k2, k3⟩
        rw [c_sum k2, moT_wo hF]
        exact ok_some ⟨Fr_trans (Fr_mono j1 rfl) (Fr_mono k1 rfl), rfl⟩
      · have C1 := Cu_t (Cu_fr f1 C)
        simp only [pX12_worth, ↓cbnd (m1 w1 f1), ↓z1, ↓cbnd (m2 w1), ↓reduceIte, callW_eq]
        refine ok_bind (m_layShares (N := N) (b := 0) rfl C1.2.1.1 C1.2.1.2.1 hF (by omega) (show n < 2 ^ 30 by omega)) ?_
        rintro w2 ⟨j1, j2, j3⟩
        have l3 : ldI w2 118 0 (63 : Int32) 576 = some (nI (moT v n 99 (v 0 2) 63)) := by
          have := j3 0 63 (by omega) (by omega) (by omega)
          rw [li63, ldn (by omega) (by omega)]
          exact congrArg some this
        have hr : rmv 63 p < 64 := rmv_lt (n := 6) (by omega)
        have l4 : ldI w2 118 0 ((63 : Int32) &&& (((1 : Int32) <<< (nI p &&& (31 : Int32))) ^^^ (-1 : Int32))) 576 = some (nI (moT v n 99 (v 0 2) (rmv 63 p))) := by
          have := j3 0 (rmv 63 p) (by omega) (by omega) hr
          have e : (63 : Int32) = nI 63 := rfl
          rw [e, e_not (by omega) (by omega), ldn (by omega) (by omega)]
          rw [Nat.mul_zero, Nat.zero_add] at this
          exact congrArg some this
        simp only [↓bnd l3, ↓bnd l4]
        exact ok_some ⟨Fr_trans Fr_t (Fr_mono j1 rfl), rfl⟩
end

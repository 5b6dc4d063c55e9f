/-! ===== call: text, both ===== -/
section
variable {N : Nat} {w w' w0 w1 wc wm : Wd} {b : Nat → Nat} {n m d e k i : Nat} {u u' v : Vw}
/-- the class, behind the reading -/
noncomputable def txT (N : Nat) (r2 : Int32 × Wd) : Option (Int32 × Wd) :=
  if r2.1 = 0 then some ((-1 : Int32), r2.2) else
  (callW (pX9_begin N 0 (gR (setR (setR r2.2 15 0 2 (gR r2.2 15 0 3)) 15 0 3 (gR r2.2 15 0 2)) 15 0 2)) (setR (setR r2.2 15 0 2 (gR r2.2 15 0 3)) 15 0 3 (gR r2.2 15 0 2))).bind fun w3 =>
  (callW (pX0_clear N) w3).bind fun w4 =>
  (callW (pX5_drop N) (setI (setI w4 15 0 7 (0 : Int32)) 15 0 8 (0 : Int32))).bind fun w5 =>
  some ((gI w5 11 0 7), w5)
theorem FL_Fr (h : FL d w w') : Fr kRl w w' := fun k i j hk => h k i j (Or.inl hk)
theorem s_text (h : Iv w v) (hN : 1000 ≤ N) (a : Int32) : Sp (pX11_text N a) (pX12_text N a) w := by
  have h' := h
  obtain ⟨i1, i2, i3, i4, i5, i6, i7, i8, i9, i10⟩ := h'
  obtain ⟨tl, by', t1, t2, t3, t4⟩ := i4
  by_cases y1 : a < 0
  · have q : (a < 0) = True := eq_true y1
    exact Sp_same h (r := (-2 : Int32)) (by simp only [pX11_text, ↓q, ↓reduceIte]) (by simp only [pX12_text, ↓q, ↓reduceIte])
  obtain ⟨n, hn31, rfl⟩ := a_nI a y1
  have q1 : (nI n < 0) = False := eq_false y1
  have g1 : gI (setI w 16 0 2 (0 : Int32)) 16 0 1 = nI tl := by rw [gg_I, if_neg (by omega)]; exact t3
  by_cases y2 : tl < n
  · have q2 : (gI w 15 0 1 < nI n) = True := eq_true (by rw [t2]; exact (nI_ltI (by omega) hn31).mpr y2)
    have q3 : (gI (setI w 16 0 2 (0 : Int32)) 16 0 1 < nI n) = True := eq_true (by rw [g1]; exact (nI_ltI (by omega) hn31).mpr y2)
    exact Sp_same h (r := (-2 : Int32)) (by simp only [pX11_text, ↓q1, ↓q2, ↓reduceIte]) (by simp only [pX12_text, ↓q1, ↓q3, ↓reduceIte])
  have hn9 : n ≤ 900 := by omega
  have q2 : (gI w 15 0 1 < nI n) = False := eq_false (fun z => y2 (by rw [t2] at z; exact (nI_ltI (by omega) hn31).mp z))
  have fa : Fr [16001] w (setI w 15 0 1 (0 : Int32)) := Fr_setI (Fr_refl _ _) rfl
  have ca1 : gI (setI w 15 0 1 (0 : Int32)) 15 0 1 = nI 0 := by rw [gg_I, if_pos ⟨rfl, rfl, rfl⟩]; rfl
  obtain ⟨d, hd⟩ : ∃ d, gR w 15 0 3 = d := ⟨_, rfl⟩
  have hda : gR (setI w 15 0 1 (0 : Int32)) 15 0 3 = d := by rw [gg_RI]; exact hd
  obtain ⟨w1, w2, m, e1, e2, J2, D2, l2, f2, k2⟩ := c_start (N := N) (w := setI w 15 0 1 (0 : Int32)) (b := by') (n := n) hN hn9 (WD_fr fa i10) (fun j hj => by
    rw [gg_I, if_neg (by omega)]
    have := t4 j (by omega)
    exact ⟨this.1, this.2.1⟩) hda
  have Ec : pX11_text N (nI n) w = (fX7_readText_25 N (nI n) N (nI 0) w2).bind (txT N) := by
    simp only [pX11_text, ↓q1, ↓q2, ↓cbnd e1, ↓reduceIte]
    rw [callW_eq, e2]
    rfl
  have hm0 : m ≤ 900 := J2.1.1
  -- the reading, from any world that the reference may begin with
  have run : ∀ wr, WD wr → (∀ j, j < n → by' j < 256 ∧ gI wr 73 0 j = nI (by' j)) → gI wr 16 0 1 = nI tl → ∃ wr2, pX12_text N (nI n) wr = fX12_text_32 N N (fX12_text_42 N) (nI 0) wr2 ∧ Fr kSm wr wr2 ∧ (∀ j, j < 2 → gI wr2 91 0 j = gI wr 91 0 j) ∧ gI wr2 16 0 1 = nI 0 ∧ (TxB d w2 wr2 (fX7_readText_25 N (nI n) N (nI 0) w2) (fX12_text_32 N N (fX12_text_42 N) (nI 0) wr2) ∨ TxG N by' n m d w2 wr2 (fX7_readText_25 N (nI n) N (nI 0) w2) (fX12_text_32 N N (fX12_text_42 N) (nI 0) wr2)) := fun wr hW hb ht => by
    obtain ⟨wr2, r1, r2, r3, r4, r5, r6⟩ := m_start (N := N) (w := wr) (b := by') (n := n) hN hn9 hW hb ht (by omega) t1
    exact ⟨wr2, r1, r4, r5, r6, j_tloop (N := N) hN hn9 m 0 0 N N w2 wr2 u0 (by omega) (by omega) (by omega) (Nat.zero_le _) J2 r2 D2 r3 WU_0 (FL_refl d w2) (FM_refl wr2) l2⟩
  have c21 : gI w2 15 0 1 = nI 0 := by rw [(f2 15 0 1 rfl).1]; exact ca1
  have b73 : ∀ j, j < n → by' j < 256 ∧ gI w 73 0 j = nI (by' j) := fun j hj => ⟨(t4 j (by omega)).1, (t4 j (by omega)).2.2⟩
  obtain ⟨wr2, _, _, _, _, R1⟩ := run w i10 b73 t3
  rcases R1 with ⟨f1, p1, ⟨⟨x, wx⟩, ec, ex, Fx, _, _⟩, _⟩ | ⟨k1, L1, u1, wx, _, _, hU1, ec, _, J1, _, D1, _, Fx, _, _⟩
  · simp only at ex Fx
    subst ex
    have Fc : Fr kTxc w wx := Fr_app2 fa (Fr_app2 f2 (FL_Fr Fx))
    have Dc : dis kTxc [67, 74, 73, 17001] = true := by decide +kernel
    obtain ⟨wq2, s1, s2, s3, s4, R2⟩ := run wx (WD_fr Fc i10 (dis_sub Dc (by decide))) (fun j hj => by rw [(Fc 73 0 j (dis_of Dc (k := 73) (by decide))).1]; exact b73 j hj) (by rw [(Fc 16 0 1 (dis_of Dc (k := 17001) (by decide))).1]; exact t3)
    rcases R2 with ⟨f', p', ⟨⟨x', wx'⟩, ec', ex', Fx', a8, a9⟩, ⟨⟨y, wE⟩, em, ey, Gm, q4, q5⟩⟩ | ⟨_, _, _, wx', _, _, _, ec', _⟩
    · simp only at ex' Fx' a8 a9 ey Gm q4 q5
      rw [ec] at ec'
      cases ec'
      subst ey
      refine ⟨(-1 : Int32), wx, wE, ?_, ?_, v, ?_⟩
      · rw [Ec, ec]
        simp only [Option.bind_some, txT, ↓n0_0, ↓reduceIte]
      · rw [s1, em]
      · refine Iv_bad h (d := d) hd (f := f') (p := nI p') Fc (fun kk i j h1 h2 h3 => ?_) ?_ a8 a9 (Fr_app2 s2 (FM_Fr Gm)) (fun kk j h1 h2 h3 => ?_) ?_ q4 q5
        · rw [(Fx kk i j (Or.inr ⟨h1, h2, h3⟩)).1, k2 kk i j h1 h2 h3]
          exact (fa kk i j (by
            have := ky_mK h1 h3
            simp only [List.contains_cons, List.contains_nil, Bool.or_false, beq_eq_false_iff_ne]
            omega)).1
        · rw [(Fx 15 0 1 (Or.inl (by decide))).1]; exact c21
        · rw [(Gm kk 0 j (Or.inr h3)).1]
          by_cases y : kk = 91
          · subst y
            exact s3 j h3
          · exact (s2 kk 0 j (by
              have e : ky kk j = kk := by unfold ky; rw [if_neg (by omega)]
              rw [e]
              unfold kSm
              simp only [List.contains_cons, List.contains_nil, Bool.or_false, Bool.or_eq_false_iff, beq_eq_false_iff_ne]
              omega)).1
        · rw [(Gm 16 0 1 (Or.inl (by decide))).1]; exact s4
    · rw [ec] at ec'
      exact absurd (congrArg Prod.fst (Option.some.inj ec')) (show ¬ ((0 : Int32) = (1 : Int32)) by decide)
  · have r3 : gR wx 15 0 3 = d := by rw [(Fx 15 0 3 (Or.inl (by decide))).2.2, (f2 15 0 3 rfl).2.2]; exact hda
    obtain ⟨e, he⟩ : ∃ e, gR w 15 0 2 = e := ⟨_, rfl⟩
    have hed : e ≤ 1 ∧ d = 1 - e := by
      have := i3.1
      have h2 := i3.2
      rw [he] at this h2
      rw [hd] at h2
      exact ⟨this, h2⟩
    have r2 : gR wx 15 0 2 = e := by rw [(Fx 15 0 2 (Or.inl (by decide))).2.2, (f2 15 0 2 rfl).2.2, gg_RI]; exact he
    have fS : Fr [16002, 16003] wx (setR (setR wx 15 0 2 d) 15 0 3 e) := Fr_setR (Fr_setR (Fr_refl _ _) rfl) rfl
    have S2 : gR (setR (setR wx 15 0 2 d) 15 0 3 e) 15 0 2 = d := by rw [gg_R, if_neg (by omega), gg_R, if_pos ⟨rfl, rfl, rfl⟩]
    have S3 : gR (setR (setR wx 15 0 2 d) 15 0 3 e) 15 0 3 = e := by rw [gg_R, if_pos ⟨rfl, rfl, rfl⟩]
    generalize hwS : setR (setR wx 15 0 2 d) 15 0 3 e = wS at fS S2 S3
    obtain ⟨w3, e3, f3, _, _, _⟩ := c_sbegin (N := N) (i := 0) (w := wS) (d := d) (by omega) hU1 (DC_fr fS D1) (by omega)
    have f4 : Fr [5000, 16007, 16008, 10001] w3 (setI (setI (setI (setI w3 4 0 0 (0 : Int32)) 15 0 7 (0 : Int32)) 15 0 8 (0 : Int32)) 9 0 1 (-1 : Int32)) := Fr_setI (Fr_setI (Fr_setI (Fr_setI (Fr_refl _ _) rfl) rfl) rfl) rfl
    have F40 : gI (setI (setI (setI (setI w3 4 0 0 (0 : Int32)) 15 0 7 (0 : Int32)) 15 0 8 (0 : Int32)) 9 0 1 (-1 : Int32)) 4 0 0 = nI 0 := by rw [gg_I, if_neg (by omega), gg_I, if_neg (by omega), gg_I, if_neg (by omega), gg_I, if_pos ⟨rfl, rfl, rfl⟩]; rfl
    have F57 : gI (setI (setI (setI (setI w3 4 0 0 (0 : Int32)) 15 0 7 (0 : Int32)) 15 0 8 (0 : Int32)) 9 0 1 (-1 : Int32)) 15 0 7 = nI 0 := by rw [gg_I, if_neg (by omega), gg_I, if_neg (by omega), gg_I, if_pos ⟨rfl, rfl, rfl⟩]; rfl
    have F58 : gI (setI (setI (setI (setI w3 4 0 0 (0 : Int32)) 15 0 7 (0 : Int32)) 15 0 8 (0 : Int32)) 9 0 1 (-1 : Int32)) 15 0 8 = nI 0 := by rw [gg_I, if_neg (by omega), gg_I, if_pos ⟨rfl, rfl, rfl⟩]; rfl
    have F91 : gI (setI (setI (setI (setI w3 4 0 0 (0 : Int32)) 15 0 7 (0 : Int32)) 15 0 8 (0 : Int32)) 9 0 1 (-1 : Int32)) 9 0 1 = (-1 : Int32) := by rw [gg_I, if_pos ⟨rfl, rfl, rfl⟩]
    have Et : txT N ((1 : Int32), wx) = some (gI (setI (setI (setI (setI w3 4 0 0 (0 : Int32)) 15 0 7 (0 : Int32)) 15 0 8 (0 : Int32)) 9 0 1 (-1 : Int32)) 11 0 7, setI (setI (setI (setI w3 4 0 0 (0 : Int32)) 15 0 7 (0 : Int32)) 15 0 8 (0 : Int32)) 9 0 1 (-1 : Int32)) := by
      unfold txT
      simp only [↓n1_0, ↓reduceIte, r3, r2, hwS, S2]
      rw [callW_eq, e3]
      simp only [Option.bind_some, pX0_clear, pX5_drop, callW_eq]
    generalize setI (setI (setI (setI w3 4 0 0 (0 : Int32)) 15 0 7 (0 : Int32)) 15 0 8 (0 : Int32)) 9 0 1 (-1 : Int32) = wF at f4 F40 F57 F58 F91 Et
    have fxF : Fr ([16002, 16003] ++ kBg ++ [5000, 16007, 16008, 10001]) wx wF := Fr_app2 (Fr_app2 fS f3) f4
    have Fc : Fr kTgc w wF := Fr_app2 (Fr_app2 fa (Fr_app2 f2 (FL_Fr Fx))) fxF
    have Dc : dis kTgc [67, 74, 73, 17001] = true := by decide +kernel
    obtain ⟨wq2, s1, s2, s3, s4, R2⟩ := run wF (WD_fr Fc i10 (dis_sub Dc (by decide))) (fun j hj => by rw [(Fc 73 0 j (dis_of Dc (k := 73) (by decide))).1]; exact b73 j hj) (by rw [(Fc 16 0 1 (dis_of Dc (k := 17001) (by decide))).1]; exact t3)
    rcases R2 with ⟨f', p', ⟨⟨x', wx'⟩, ec', ex', _⟩, _⟩ | ⟨k3, L3, u3, wx', wm3, h60, hU3, ec', em3, J3, Jm3, D3, Dm3, Fx3, Gm3, l7⟩
    · simp only at ex'
      rw [ec] at ec'
      cases ec'
      exact absurd ex' (by decide)
    · rw [ec] at ec'
      cases ec'
      obtain ⟨w3', e3', f3', g130, gl2, SC3⟩ := c_sbegin (N := N) (i := 0) (w := wS) (d := d) (by omega) hU3 (DC_fr fS D3) (by omega)
      rw [e3] at e3'
      cases e3'
      obtain ⟨wE, eK, Fk, hR, e64, e93, e74, e97, e106⟩ := m_keepText (N := N) (by omega) Dm3 hU3
      have DxF : dis ([16002, 16003] ++ kBg ++ [5000, 16007, 16008, 10001]) (kTC ++ [16001, 12007, 12008, 12009]) = true := by decide +kernel
      have qx : ∀ kk j, ([16001, 12007, 12008, 12009] : List Nat).contains (ky kk j) = true → gI wF kk 0 j = gI wx kk 0 j := fun kk j hk => (fxF kk 0 j (dis_of DxF (List.contains_iff_mem.mpr (List.mem_append_right _ (List.contains_iff_mem.mp hk))))).1
      refine ⟨nI L3, wF, wE, ?_, ?_, vT u3, ?_⟩
      · rw [Ec, ec]
        show txT N ((1 : Int32), wx) = _
        rw [Et, qx 11 7 (by decide), l7]
      · rw [s1, em3]
        unfold fX12_text_42
        rw [callW_eq, eK]
        rfl
      · have W34 : ∀ kk j, ([14000, 14002] : List Nat).contains (ky kk j) = true → gL wF kk 0 j = gL w3 kk 0 j ∧ gR wF kk 0 j = gR w3 kk 0 j := fun kk j hk => by
          have := f4 kk 0 j (dis_of (m := [14000, 14002]) (by decide) hk)
          exact ⟨this.2.1, this.2.2⟩
        refine Iv_good (d := d) (u := u3) h Fc hU3 (TC_fr fxF (TC_vT D3) (dis_sub DxF (by decide +kernel))) (SC_fr f4 SC3) ?_ ?_ (by omega) ?_ ?_ ?_ ?_ ?_ F40 F57 F58 F91 (Fr_app2 s2 (FM_Fr Gm3)) ?_ Jm3.2.1.2.1 Jm3.2.1.2.2 Fk hR e64 e93 e74 e97 e106
        · rw [(W34 13 0 (by decide)).2]; exact g130
        · rw [(f4 15 0 2 rfl).2.2, (f3 15 0 2 rfl).2.2]; exact S2
        · rw [(f4 15 0 3 rfl).2.2, (f3 15 0 3 rfl).2.2, S3]; omega
        · rw [(W34 13 2 (by decide)).1]; exact gl2
        · rw [qx 15 1 (by decide), (Fx 15 0 1 (Or.inl (by decide))).1]; exact c21
        · rw [qx 11 8 (by decide)]; exact J3.2.2.2.1.2.1
        · rw [qx 11 9 (by decide)]; exact J3.2.2.2.1.2.2
        · rw [(Gm3 16 0 1 (Or.inl (by decide))).1]; exact s4
end

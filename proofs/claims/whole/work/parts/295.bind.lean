/-! ===== laws: signs that have all that is theirs ===== -/
theorem nI_dec (s : Nat) : nI (s + 1) + (-1 : Int32) = nI s := by
  rw [← nI_add s 1, Int32.add_assoc, show nI 1 + (-1 : Int32) = 0 by decide, Int32.add_zero]
section
variable {N : Nat} {w w' w0 w1 wc wm : Wd} {b : Nat → Nat} {n m d k i : Nat} {u u' : Vw} {a f j s C op h : Nat} {K X st : Nat → Nat} {wt : Bool}
theorem CF_low {s' : Nat} (hc : CF w0 w d a j s C op K X st) (hs : s' ≤ s) : CF w0 (setI w 11 0 5 (nI s')) d a j s' C op K X st := by
  obtain ⟨h1, h2, h3, h4, h5, h6, h7, h8, h9⟩ := hc
  have g : Fr [12005] w (setI w 11 0 5 (nI s')) := Fr_setI (Fr_refl _ _) rfl
  refine ⟨FC_setI h1 rfl (Or.inl rfl), Fr_setI h2 rfl, ?_, fun i hi => ?_, fun c' hc hca => ⟨?_, fun i => ?_⟩, by rw [gg_I, if_pos ⟨rfl, rfl, rfl⟩], ?_, fun i hi => ?_, ?_⟩
  · rw [(g 5 _ 2 rfl).1]; exact h3
  · rw [(g 21 _ i rfl).1]; exact h4 i hi
  · rw [(g 5 _ 2 rfl).1]; exact (h5 c' hc hca).1
  · rw [(g 21 _ i rfl).1]; exact (h5 c' hc hca).2 i
  · rw [(g 11 0 6 rfl).1]; exact h7
  · rw [(g 54 0 i rfl).1]; exact h8 i (by omega)
  · rw [(g 8 d 17 rfl).1]; exact h9
theorem MF_low {s' : Nat} (hc : MFh w0 w f j s C op K X st h) (hs : s' ≤ s) : MFh w0 (setI w 16 0 55 (nI s')) f j s' C op K X st h := by
  obtain ⟨h1, h2, h3, h4, h5, h6, h7, h8, h9, h10, h11⟩ := hc
  have g : Fr [17055] w (setI w 16 0 55 (nI s')) := Fr_setI (Fr_refl _ _) rfl
  refine ⟨FM_setI h1 rfl (by show 0 ≤ _; omega), Fr_setI h2 rfl, LMa_fr g h3, ?_, by rw [gg_I, if_pos ⟨rfl, rfl, rfl⟩], ?_, fun i hi => ?_, ?_, ?_, fun i hi => ?_, fun kk i p1 p2 p3 => ?_⟩
  · rw [(g 16 0 27 rfl).1]; exact h4
  · rw [(g 16 0 57 rfl).1]; exact h6
  · rw [(g 97 0 i rfl).1]; exact h7 i (by omega)
  · rw [(g 16 0 58 rfl).1]; exact h8
  · rw [(g 16 0 56 rfl).1]; exact h9
  · rw [(g 98 0 i rfl).1]; exact h10 i hi
  · rw [gg_I, if_neg (by omega)]; exact h11 kk i p1 p2 p3
/-- the reference takes one sign -/
theorem m_pop (g : MFh w0 w f j s C op K X st (sd K j)) (hg : f + j < 64) {o : Nat} (h14 : o ≤ 14) (k2 : 2 ≤ o) (e2 : o = 2 → 1 ≤ sd K j) (e3 : 3 ≤ o → 2 ≤ sd K j) (a1 : Int32) (k0 : Wd → Option Wd) :
    ∃ y, (if nI o = (2 : Int32) then callW (fX12_bind_32 N a1 k0 (nI o) (-1 : Int32)) w else (callW (pX12_dropHeld N) w).bind fun r4 => callW (fX12_bind_32 N a1 k0 (nI o) r4.1) r4.2) = k0 y ∧ MFh w0 y f (j + 1) s C op (up1 K j o) (up1 X j 0) st (sd (up1 K j o) (j + 1)) ∧ Fr [94, 95, 96, 98, 17027, 17056] w y := by
  have hsj := sd_le K j
  have es : sd (up1 K j o) j = sd K j := sd_ext j (fun i hi => up1_n (by omega))
  have esd : sd (up1 K j o) (j + 1) = if o = 2 then sd K j else sd K j - 1 := by rw [sd, up1_e, if_neg (by omega), es]
  by_cases y : o = 2
  · subst y
    obtain ⟨h, hh⟩ : ∃ h, sd K j = h + 1 := ⟨sd K j - 1, by have := e2 rfl; omega⟩
    rw [if_pos rfl] at esd
    have g' := g
    rw [hh] at g'
    obtain ⟨q1, q2⟩ := m_drop (N := N) g' (by omega)
    obtain ⟨y, ey, gy, fy⟩ := m_grow (N := N) (c := 2) (x := 0) (av := nI (f + sp K j h)) (bv := (-1 : Int32)) q2 hg (by omega) (by omega) (by rw [esd]; exact hh) (fun z => by omega) (fun _ => by rw [if_pos rfl, hh, show h + 1 - 1 = h by omega]) (fun z => by omega)
    refine ⟨y, ?_, by rw [esd, hh]; exact gy, Fr_trans (Fr_setI (Fr_refl _ _) rfl) (Fr_mono fy rfl)⟩
    have q : (nI 2 = (2 : Int32)) = True := eq_true rfl
    simp only [↓q, fX12_bind_32, ↓cbnd q1, ↓cbnd ey, ↓reduceIte, callW_eq]
  · have hge : 3 ≤ o := by omega
    obtain ⟨h, hh⟩ : ∃ h, sd K j = h + 1 + 1 := ⟨sd K j - 2, by have := e3 hge; omega⟩
    rw [if_neg y] at esd
    have g' := g
    rw [hh] at g'
    obtain ⟨q1, q2⟩ := m_drop (N := N) g' (by omega)
    obtain ⟨q3, q4⟩ := m_drop (N := N) q2 (by omega)
    obtain ⟨z, ez, gz, fz⟩ := m_grow (N := N) (c := o) (x := 0) (av := nI (f + sp K j h)) (bv := nI (f + sp K j (h + 1))) q4 hg (by omega) h14 (by rw [esd, hh]; omega) (fun z => by omega) (fun _ => by rw [if_neg y, hh, show h + 1 + 1 - 2 = h by omega]) (fun _ => by rw [hh, show h + 1 + 1 - 1 = h + 1 by omega])
    refine ⟨z, ?_, by rw [esd, hh, show h + 1 + 1 - 1 = h + 1 by omega]; exact gz, Fr_trans (Fr_setI (Fr_setI (Fr_refl _ _) rfl) rfl) (Fr_mono fz rfl)⟩
    have q : (nI o = (2 : Int32)) = False := eq_false (fun q => y ((nI_eq (b := 2) (by omega) (by omega)).mp q))
    simp only [↓q, ↓cbnd q1, fX12_bind_32, ↓cbnd q3, ↓cbnd ez, ↓reduceIte, callW_eq]
theorem j_bind (ha : a < 2) {least : Nat} (hl : 1 ≤ least) (hl7 : least ≤ 7) : ∀ s j K X fc fm wc' wm', s < fc → s < fm → CF wc wc' d a j s C op K X st → MFh wm wm' f j s C op K X st (sd K j) → PF f j s C op K X st false →
    ∃ s' j' K' X' wc'' wm'', s' ≤ s ∧ fX7_release_3 N (2 * d + a) (nI least) fc (nI s) wc' = some wc'' ∧ fX12_bind_0 N (nI least) fm wm' = some wm'' ∧ CF wc wc'' d a j' s' C op K' X' st ∧ MFh wm wm'' f j' s' C op K' X' st (sd K' j') ∧ PF f j' s' C op K' X' st false ∧ rnk (tpS st s') < least ∧ Fr [6002, 21, 12005] wc' wc'' ∧ Fr [94, 95, 96, 98, 17027, 17055, 17056] wm' wm'' := by
  intro s
  induction s with
  | zero =>
    intro j K X fc fm wc' wm' hfc hfm hc hm hp
    obtain ⟨fc, rfl⟩ : ∃ z, fc = z + 1 := ⟨fc - 1, by omega⟩
    obtain ⟨fm, rfl⟩ : ∃ z, fm = z + 1 := ⟨fm - 1, by omega⟩
    have q1 : ((0 : Int32) < nI 0) = False := eq_false (by decide)
    have q2 : ((0 : Int32) < gI wm' 16 0 55) = False := eq_false (by rw [hm.2.2.2.2.1]; decide)
    refine ⟨0, j, K, X, wc', wm', Nat.le_refl _, ?_, ?_, hc, hm, hp, ?_, Fr_refl _ _, Fr_refl _ _⟩
    · simp only [fX7_release_3, ↓q1, ↓reduceIte]
    · simp only [fX12_bind_0, ↓q2, ↓reduceIte]
    · show 0 < least
      omega
  | succ s ih =>
    intro j K X fc fm wc' wm' hfc hfm hc hm hp
    obtain ⟨fc, rfl⟩ : ∃ z, fc = z + 1 := ⟨fc - 1, by omega⟩
    obtain ⟨fm, rfl⟩ : ∃ z, fm = z + 1 := ⟨fm - 1, by omega⟩
    have ho := hp.2.2.2.2.2.1 s (by omega)
    have hC := hp.2.1
    have h8 := hp.2.2.1
    have h5 := hp.2.2.2.2.1
    have hs72 : s + 1 ≤ 72 := by
      have := hp.1
      omega
    have etp : tpS st (s + 1) = st s := by
      unfold tpS
      rw [if_neg (by omega), show s + 1 - 1 = s by omega]
    have g1 := c_last (N := N) hc hs72
    rw [etp] at g1
    have g2 := c_levS (N := N) (w := wc') (o := st s) (by omega) (by omega)
    have g3 := m_rank (N := N) (w := wm') (o := st s) (by omega)
    have q1 : ((0 : Int32) < nI (s + 1)) = True := eq_true ((nI_ltI (a := 0) (by omega) (by omega)).mpr (by omega))
    have q2 : ((0 : Int32) < gI wm' 16 0 55) = True := eq_true (by rw [hm.2.2.2.2.1]; exact (nI_ltI (a := 0) (by omega) (by omega)).mpr (by omega))
    have e55 : gI wm' 16 0 55 - (1 : Int32) = nI s := by rw [hm.2.2.2.2.1, show (1 : Int32) = nI 1 from rfl, nI_sb (by omega)]; congr 1
    have l1 : ldI wm' 97 0 (gI wm' 16 0 55 - (1 : Int32)) 96 = some (nI (st s)) := by rw [e55, ldn (by omega) (by omega), hm.2.2.2.2.2.2.1 s (by omega)]
    have r6 := (rnk_f (st s) (by omega))
    by_cases y : rnk (st s) < least
    · have q3 : (nI (rnk (st s)) < nI least) = True := eq_true ((nI_ltI (by omega) (by omega)).mpr y)
      refine ⟨s + 1, j, K, X, wc', wm', Nat.le_refl _, ?_, ?_, hc, hm, hp, by rw [etp]; exact y, Fr_refl _ _, Fr_refl _ _⟩
      · simp only [fX7_release_3, ↓q1, ↓cbnd g1, ↓cbnd g2, ↓q3, ↓reduceIte]
      · simp only [fX12_bind_0, ↓q2, ↓bnd l1, ↓cbnd g3, ↓q3, ↓reduceIte]
    · have q3 : (nI (rnk (st s)) < nI least) = False := eq_false (fun z => y ((nI_ltI (by omega) (by omega)).mp z))
      have o2 : 2 ≤ st s := by
        rcases ho with z | z
        · have := r6.2.2.2 z
          omega
        · exact z.1
      obtain ⟨hp', k2, k3⟩ := PF_pop hp o2
      have hfj : f + j < 64 := by
        have h1 := hp.1
        rw [cnt, if_pos (by simp only [decide_eq_true_eq]; exact o2)] at h1
        omega
      obtain ⟨⟨x, w1⟩, e1, ex, c1, f1⟩ := c_addL (N := N) hc ha (by omega) (st s) 0
      simp only at ex c1 f1
      subst ex
      have eE : enc (st s) 0 = nI (tkS (st s)) ^^^ (-1 : Int32) := by
        unfold enc tkS
        rw [if_neg (by omega), if_neg (by omega), if_neg (by omega)]
        rfl
      rw [eE] at e1
      have e115 : gI w1 11 0 5 - (1 : Int32) = nI s := by rw [c1.2.2.2.2.2.1, show (1 : Int32) = nI 1 from rfl, nI_sb (by omega)]; congr 1
      have Cc : fX7_release_3 N (2 * d + a) (nI least) (fc + 1) (nI (s + 1)) wc' = fX7_release_3 N (2 * d + a) (nI least) fc (nI s) (setI w1 11 0 5 (nI s)) := by
        have ed := nI_dec s
        simp only [fX7_release_3, ↓q1, ↓cbnd g1, ↓cbnd g2, ↓q3, ↓cbnd e1, ↓e115, ↓ed, ↓reduceIte, callW_eq]
      have m2 := MF_low (s' := s) hm (by omega)
      have f2 : Fr [17055] wm' (setI wm' 16 0 55 (nI s)) := Fr_setI (Fr_refl _ _) rfl
      obtain ⟨y2, ey, my, fy⟩ := m_pop (N := N) m2 hfj (by omega) o2 k2 k3 (nI least) (fX12_bind_0 N (nI least) fm)
      have l2 : ldI (setI wm' 16 0 55 (nI s)) 97 0 (gI (setI wm' 16 0 55 (nI s)) 16 0 55) 96 = some (nI (st s)) := by rw [gg_I, if_pos ⟨rfl, rfl, rfl⟩, ldn (by omega) (by omega), (f2 97 0 _ rfl).1, hm.2.2.2.2.2.2.1 s (by omega)]
      have Cm : fX12_bind_0 N (nI least) (fm + 1) wm' = fX12_bind_0 N (nI least) fm y2 := by
        rw [← ey]
        simp only [fX12_bind_0, ↓q2, ↓bnd l1, ↓cbnd g3, ↓q3, ↓e55, ↓bnd l2, ↓reduceIte]
      obtain ⟨s', j', K', X', wc'', wm'', r1, r2, r3, r4, r5, r6, r7, r8, r9⟩ := ih (j + 1) (up1 K j (st s)) (up1 X j 0) fc fm (setI w1 11 0 5 (nI s)) y2 (by omega) (by omega) (CF_low c1 (by omega)) my hp'
      refine ⟨s', j', K', X', wc'', wm'', by omega, by rw [Cc]; exact r2, by rw [Cm]; exact r3, r4, r5, r6, r7, ?_, ?_⟩
      · exact Fr_trans (Fr_setI (Fr_mono f1 rfl) rfl) r8
      · exact Fr_trans (Fr_mono f2 rfl) (Fr_trans (Fr_mono fy rfl) r9)
end

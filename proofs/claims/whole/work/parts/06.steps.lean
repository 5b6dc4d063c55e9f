/-! ===== a step of the small machine is a step of the machine ===== -/
theorem vc {cs : List (Nat × Nat)} {v : AV} {t : List AV} (h0 : vok cs v) (h : ∀ u ∈ t, vok cs u) : ∀ u ∈ v :: t, vok cs u := fun u hu => (List.mem_cons.mp hu).elim (fun e => e ▸ h0) (h u)
theorem vt {cs : List (Nat × Nat)} {v : AV} {t : List AV} (h : ∀ u ∈ v :: t, vok cs u) : ∀ u ∈ t, vok cs u := fun u hu => h u (List.mem_cons_of_mem _ hu)
theorem vh {cs : List (Nat × Nat)} {v : AV} {t : List AV} (h : ∀ u ∈ v :: t, vok cs u) : vok cs v := h v List.mem_cons_self
theorem vin {cs : List (Nat × Nat)} {k i : Nat} (h : vok cs (.inr (.inr (k, i)))) {n : Nat} (hk : (kd k).1 = n) (hn : n ≠ 0) : (k, i) ∈ cs := by
  rcases h with h | h
  · exact h
  · exfalso
    have : k = 2 := h
    subst this
    exact hn (hk.symm.trans (by decide))
theorem lok {cs : List (Nat × Nat)} {ls : LV} {i : Nat} {v : Option AV} (h : ∀ i v, ls.getD i none = some v → vok cs v) (hv : ∀ u, v = some u → vok cs u) : ∀ j u, (lset ls i v).getD j none = some u → vok cs u := fun j u hu => by
  rcases lset_get _ _ _ _ _ hu with ⟨_, e⟩ | ⟨_, e, _⟩
  · exact hv u e
  · exact h j u e
theorem lokL {cs : List (Nat × Nat)} {ls : LV} {i : Nat} {x : Int64} (h : ∀ i v, ls.getD i none = some v → vok cs v) : ∀ j u, (lsetL ls i x).getD j none = some u → vok cs u := fun j u hu => by
  unfold lsetL at hu
  rw [List.getD_eq_getElem?_getD, List.getElem?_set] at hu
  split at hu
  · split at hu <;> simp at hu
  · rw [← List.getD_eq_getElem?_getD] at hu
    exact lok h (fun u e => by cases e; trivial) j u hu
theorem flag_ok {x : Int32} (h : x &&& 1 = x) : fits .boolean (.int x) = true := by
  have hx : x = 0 ∨ x = 1 := by
    have e : (x &&& 1).toInt = x.toInt := by rw [h]
    have h2 : x.toBitVec &&& 1#32 = x.toBitVec := by
      have := congrArg Int32.toBitVec h
      simpa using this
    have h3 : x.toBitVec.toNat &&& 1 = x.toBitVec.toNat := by
      have := congrArg BitVec.toNat h2
      simpa using this
    rw [Nat.and_one_is_mod] at h3
    have h4 : x.toBitVec.toNat = 0 ∨ x.toBitVec.toNat = 1 := by omega
    rcases h4 with h4 | h4
    · left
      apply Int32.toBitVec_inj.mp
      apply BitVec.eq_of_toNat_eq
      rw [h4]; rfl
    · right
      apply Int32.toBitVec_inj.mp
      apply BitVec.eq_of_toNat_eq
      rw [h4]; rfl
  rcases hx with rfl | rfl <;> rfl
theorem cls_ok : ∀ (ci : Nat) (q : vw_C), classes[ci]? = some q → (∀ k, k < q.2.2 → parseFieldDescriptor (q.2.1 k).2.2.1 = some (tyOf ci k)) ∧ (∀ a, a < q.2.2 → ∀ b, b < q.2.2 → a ≠ b → (q.2.1 a).2.1 ≠ (q.2.1 b).2.1) := by
  intro ci q h
  match ci, h with
  | 0, h => cases h; exact ⟨tyX0_ok, nmX0⟩
  | 1, h => cases h; exact ⟨tyX1_ok, nmX1⟩
  | 2, h => cases h; exact ⟨tyX2_ok, nmX2⟩
  | 3, h => cases h; exact ⟨tyX3_ok, nmX3⟩
  | 4, h => cases h; exact ⟨tyX4_ok, nmX4⟩
  | 5, h => cases h; exact ⟨tyX5_ok, nmX5⟩
  | 6, h => cases h; exact ⟨tyX6_ok, nmX6⟩
  | 7, h => cases h; exact ⟨tyX7_ok, nmX7⟩
  | 8, h => cases h; exact ⟨tyX8_ok, nmX8⟩
  | 9, h => cases h; exact ⟨tyX9_ok, nmX9⟩
  | 10, h => cases h; exact ⟨tyX10_ok, nmX10⟩
  | 11, h => cases h; exact ⟨tyX11_ok, nmX11⟩
  | 12, h => cases h; exact ⟨tyX12_ok, nmX12⟩
  | n + 13, h => cases h
theorem cw0 : (u_ws RX0 TX0 5) = ([719, 721, 723, 725, 727] : List Nat).filterMap (fun i => lw_tbl[i]?) := by decide +kernel
theorem cg0 : (u_ws RX0 TX0 5).all goodWord = true := by decide +kernel
theorem cw1 : (u_ws RX1 TX1 3) = ([249, 251, 253] : List Nat).filterMap (fun i => lw_tbl[i]?) := by decide +kernel
theorem cg1 : (u_ws RX1 TX1 3).all goodWord = true := by decide +kernel
theorem cw2 : (u_ws RX2 TX2 9) = ([586, 588, 590, 592, 594, 596, 598, 600, 602] : List Nat).filterMap (fun i => lw_tbl[i]?) := by decide +kernel
theorem cg2 : (u_ws RX2 TX2 9).all goodWord = true := by decide +kernel
theorem cw3 : (u_ws RX3 TX3 5) = ([695, 697, 699, 701, 703] : List Nat).filterMap (fun i => lw_tbl[i]?) := by decide +kernel
theorem cg3 : (u_ws RX3 TX3 5).all goodWord = true := by decide +kernel
theorem cw4 : (u_ws RX4 TX4 20) = ([327, 329, 331, 333, 335, 337, 339, 341, 343, 345, 347, 349, 351, 353, 355, 357, 359, 361, 363, 365] : List Nat).filterMap (fun i => lw_tbl[i]?) := by decide +kernel
theorem cg4 : (u_ws RX4 TX4 20).all goodWord = true := by decide +kernel
theorem cw5 : (u_ws RX5 TX5 13) = ([651, 653, 655, 657, 659, 661, 663, 665, 667, 669, 671, 673, 675] : List Nat).filterMap (fun i => lw_tbl[i]?) := by decide +kernel
theorem cg5 : (u_ws RX5 TX5 13).all goodWord = true := by decide +kernel
theorem cw6 : (u_ws RX6 TX6 7) = ([220, 222, 224, 226, 228, 230, 232] : List Nat).filterMap (fun i => lw_tbl[i]?) := by decide +kernel
theorem cg6 : (u_ws RX6 TX6 7).all goodWord = true := by decide +kernel
theorem cw7 : (u_ws RX7 TX7 10) = ([479, 481, 483, 485, 487, 489, 491, 493, 495, 497] : List Nat).filterMap (fun i => lw_tbl[i]?) := by decide +kernel
theorem cg7 : (u_ws RX7 TX7 10).all goodWord = true := by decide +kernel
theorem cw8 : (u_ws RX8 TX8 5) = ([618, 620, 622, 624, 626] : List Nat).filterMap (fun i => lw_tbl[i]?) := by decide +kernel
theorem cg8 : (u_ws RX8 TX8 5).all goodWord = true := by decide +kernel
theorem cw9 : (u_ws RX9 TX9 11) = ([543, 545, 547, 549, 551, 553, 555, 557, 559, 561, 563] : List Nat).filterMap (fun i => lw_tbl[i]?) := by decide +kernel
theorem cg9 : (u_ws RX9 TX9 11).all goodWord = true := by decide +kernel
theorem cw10 : (u_ws RX10 TX10 11) = ([443, 445, 447, 449, 451, 453, 455, 457, 459, 461, 463] : List Nat).filterMap (fun i => lw_tbl[i]?) := by decide +kernel
theorem cg10 : (u_ws RX10 TX10 11).all goodWord = true := by decide +kernel
theorem cw11 : (u_ws RX11 TX11 16) = ([746, 748, 750, 752, 754, 756, 758, 760, 762, 764, 766, 768, 770, 772, 774, 776] : List Nat).filterMap (fun i => lw_tbl[i]?) := by decide +kernel
theorem cg11 : (u_ws RX11 TX11 16).all goodWord = true := by decide +kernel
theorem cw12 : (u_ws RX12 TX12 108) = ([1708, 1710, 1712, 1714, 1716, 1718, 1720, 1722, 1724, 1726, 1728, 1730, 1732, 1734, 1736, 1738, 1740, 1742, 1744, 1746, 1748, 1750, 1752, 1754, 1756, 1758, 1760, 1762, 1764, 1766, 1768, 1770, 1772, 1774, 1776, 1778, 1780, 1782, 1784, 1786, 1788, 1790, 1792, 1794, 1796, 1798, 1800, 1802, 1804, 1806, 1808, 1810, 1812, 1814, 1816, 1818, 1820, 1822, 1824, 1826, 1828, 1830, 1832, 1834, 1836, 1838, 1840, 1842, 1844, 1846, 1848, 1850, 1852, 1854, 1856, 1858, 1860, 1862, 1864, 1866, 1868, 1870, 1872, 1874, 1876, 1878, 1880, 1882, 1884, 1886, 1888, 1890, 1892, 1894, 1896, 1898, 1900, 1902, 1904, 1906, 1908, 1910, 1912, 1914, 1916, 1918, 1920, 1922] : List Nat).filterMap (fun i => lw_tbl[i]?) := by decide +kernel
theorem cg12 : (u_ws RX12 TX12 108).all goodWord = true := by decide +kernel
theorem cw_of {ws : List Cond} {ps : List Nat} (h : ws = ps.filterMap (fun i => lw_tbl[i]?)) (hg : ws.all goodWord = true) : ∀ w ∈ ws, w ∈ lwg := by
  intro w hw
  have h1 := List.all_eq_true.mp hg w hw
  rw [h] at hw
  obtain ⟨i, -, hi⟩ := List.mem_filterMap.mp hw
  exact lwg_in (List.mem_of_getElem? hi) h1
theorem cls_ws {ci : Nat} {q : vw_C} (h : classes[ci]? = some q) : ∀ w ∈ u_ws q.1 q.2.1 q.2.2, w ∈ lwg := by
  match ci, h with
  | 0, h => cases h; exact cw_of cw0 cg0
  | 1, h => cases h; exact cw_of cw1 cg1
  | 2, h => cases h; exact cw_of cw2 cg2
  | 3, h => cases h; exact cw_of cw3 cg3
  | 4, h => cases h; exact cw_of cw4 cg4
  | 5, h => cases h; exact cw_of cw5 cg5
  | 6, h => cases h; exact cw_of cw6 cg6
  | 7, h => cases h; exact cw_of cw7 cg7
  | 8, h => cases h; exact cw_of cw8 cg8
  | 9, h => cases h; exact cw_of cw9 cg9
  | 10, h => cases h; exact cw_of cw10 cg10
  | 11, h => cases h; exact cw_of cw11 cg11
  | 12, h => cases h; exact cw_of cw12 cg12
  | n + 13, h => cases h
/-- kinds that are objects: their class, how many fields -/
theorem kd_cls0 : ((List.range 200).all fun k => decide ((kd k).1 = 1 → (classes[(kd k).2.1]?).map (fun q => q.2.2) = some (kd k).2.2)) = true := by decide +kernel
theorem kd_big {k : Nat} (h : 200 ≤ k) : (kd k).1 = 0 := by
  unfold kd
  have hl : kdL.length ≤ k := Nat.le_trans (show kdL.length ≤ 200 by decide +kernel) h
  rw [List.getD_eq_getElem?_getD, List.getElem?_eq_none hl]
  rfl
theorem kd_cls {k : Nat} (h : (kd k).1 = 1) : ∃ q, classes[(kd k).2.1]? = some q ∧ q.2.2 = (kd k).2.2 := by
  rcases Nat.lt_or_ge k 200 with hk | hk
  · have h1 := List.all_eq_true.mp kd_cls0 k (List.mem_range.mpr hk)
    have h2 := of_decide_eq_true h1 h
    cases hq : classes[(kd k).2.1]? with
    | none => rw [hq] at h2; cases h2
    | some q => rw [hq] at h2; exact ⟨q, rfl, Option.some.inj h2⟩
  · rw [kd_big hk] at h; cases h
def tyMode (d : String) (m : Nat) : Bool := match parseFieldDescriptor d, m with
  | some .int, 0 => true
  | some .boolean, 0 => true
  | some .long, 1 => true
  | some (.object _), n + 2 => true
  | some (.array _), n + 2 => true
  | _, _ => false
theorem fm_ty0 : ((List.range 200).all fun k => decide ((kd k).1 = 1 → ((List.range (kd k).2.2).all fun f => match classes[(kd k).2.1]? with | some q => tyMode (q.2.1 f).2.2.1 (fm k f).1 | none => false) = true)) = true := by decide +kernel
theorem fm_ty {k f : Nat} {q : vw_C} (h : (kd k).1 = 1) (hf : f < (kd k).2.2) (hq : classes[(kd k).2.1]? = some q) : tyMode (q.2.1 f).2.2.1 (fm k f).1 = true := by
  rcases Nat.lt_or_ge k 200 with hk | hk
  · have h1 := List.all_eq_true.mp fm_ty0 k (List.mem_range.mpr hk)
    have h2 := List.all_eq_true.mp (of_decide_eq_true h1 h) f (List.mem_range.mpr hf)
    rw [hq] at h2
    exact h2
  · rw [kd_big hk] at h; cases h
def CRI (X : XT) (e : EN) (f : List AV → Wd → Option (Int32 × Wd)) : Prop := ∀ (as rest : List AV) (w : Wd) (x : Int32 × Wd) (ls : LV), f as w = some x → catS rest ≤ 8 → WW X (e.1 + 3) ls (.inl x.1 :: rest) x.2 → WW X e.1 ls (as.reverse ++ rest) w
def CRL (X : XT) (e : EN) (f : List AV → Wd → Option (Int64 × Wd)) : Prop := ∀ (as rest : List AV) (w : Wd) (x : Int64 × Wd) (ls : LV), f as w = some x → catS rest ≤ 8 → WW X (e.1 + 3) ls (.inr (.inl x.1) :: rest) x.2 → WW X e.1 ls (as.reverse ++ rest) w
def CRV (X : XT) (e : EN) (f : List AV → Wd → Option Wd) : Prop := ∀ (as rest : List AV) (w : Wd) (x : Wd) (ls : LV), f as w = some x → catS rest ≤ 8 → WW X (e.1 + 3) ls rest x → WW X e.1 ls (as.reverse ++ rest) w
/-- which local an instruction stores into (a long: 1) -/
def stx (e : EN) : Option (Nat × Bool) := match e.2.1 with
  | .istore i => some (i, false)
  | .istore_n i => some (i.val, false)
  | .astore i => some (i, false)
  | .astore_n i => some (i.val, false)
  | .lstore i => some (i, true)
  | .lstore_n i => some (i.val, true)
  | .iinc i _ => some (i, false)
  | _ => none
def keepsP (P : LV → Prop) (tab : List EN) : Prop := ∀ e ∈ tab, ∀ i, (stx e = some (i, false) → ∀ ls v, P ls → P (lset ls i v)) ∧ (stx e = some (i, true) → ∀ ls x, P ls → P (lsetL ls i x))
def isInv (e : EN) : Bool := match e.2.1 with
  | .invokevirtual _ => true
  | .invokestatic _ => true
  | _ => false
/-- the rules of a method's calls -/
def CRs (X : XT) (tab : List EN) (oI : Nat → List AV → Wd → Option (Int32 × Wd)) (oL : Nat → List AV → Wd → Option (Int64 × Wd)) (oV : Nat → List AV → Wd → Option Wd) : Prop := ∀ e ∈ tab.filter isInv, match e.2.2.2.2.2.2.2.length with
  | 0 => CRI X e (oI e.2.2.2.1)
  | 1 => CRL X e (oL e.2.2.2.1)
  | 2 => CRV X e (oV e.2.2.2.1)
  | _ => True

theorem ent_1 {ρ : Nat → Nat → Nat} {aC : Nat → ClassId} {w : Wd} {k i : Nat} (h : (kd k).1 = 1) : ent ρ aC w k i = .inr ((kd k).2.1, (List.range (kd k).2.2).map fun f => trv ρ (fget w k i f (fm k f))) := by unfold ent; rw [h]; rfl
theorem ent_2 {ρ : Nat → Nat → Nat} {aC : Nat → ClassId} {w : Wd} {k i : Nat} (h : (kd k).1 = 2) : ent ρ aC w k i = .inl (aC 2, ln k i, .inl (gI w k i)) := by unfold ent; rw [h]; rfl
theorem ent_3 {ρ : Nat → Nat → Nat} {aC : Nat → ClassId} {w : Wd} {k i : Nat} (h : (kd k).1 = 3) : ent ρ aC w k i = .inl (aC 3, ln k i, .inr (.inl (gL w k i))) := by unfold ent; rw [h]; rfl
theorem ent_4 {ρ : Nat → Nat → Nat} {aC : Nat → ClassId} {w : Wd} {k i : Nat} (h : (kd k).1 = 4) : ent ρ aC w k i = .inl (aC 4, ln k i, .inl (gI w k i)) := by unfold ent; rw [h]; rfl
theorem ent_5 {ρ : Nat → Nat → Nat} {aC : Nat → ClassId} {w : Wd} {k i : Nat} (h : (kd k).1 = 5) : ent ρ aC w k i = .inl (aC 5, ln k i, .inl (gI w k i)) := by unfold ent; rw [h]; rfl
theorem ent_6 {ρ : Nat → Nat → Nat} {aC : Nat → ClassId} {w : Wd} {k i : Nat} (h : (kd k).1 = 6) : ent ρ aC w k i = .inl (aC 6, ln k i, .inr (.inr (.inr (.inr (fun j => some (ρ (rk k) (j + ln k i * i))))))) := by unfold ent; rw [h]; rfl
theorem swt_some {ρ' : Type} {r : ρ'} {x : Int32} {d : Nat} {k : Nat → Option ρ'} {tab : List EN} {pc : Nat} : ∀ (sw : List (Int32 × Nat)) (lo : Int) (os : List Int), swok tab pc lo os sw = true → swt x d k sw = some r →
    (∃ (n : Nat) (off : Int) (t : Nat), os[n]? = some off ∧ x.toInt = lo + n ∧ jok tab pc off t = true ∧ k t = some r) ∨ ((x.toInt < lo ∨ lo + (os.length : Int) - 1 < x.toInt) ∧ k d = some r)
  | [], lo, [], _, h => Or.inr ⟨by simp; omega, h⟩
  | [], lo, o :: os, h0, h => by cases h0
  | q :: qs, lo, [], h0, h => by cases h0
  | q :: qs, lo, o :: os, h0, h => by
    simp only [swok, Bool.and_eq_true, decide_eq_true_eq] at h0
    obtain ⟨⟨h1, h2⟩, h3⟩ := h0
    by_cases e : x = q.1
    · rw [swt, if_pos e] at h
      exact Or.inl ⟨0, o, q.2, rfl, by rw [e, h1]; simp, h2, h⟩
    · rw [swt, if_neg e] at h
      have hne : x.toInt ≠ lo := fun z => e (Int32.toInt_inj.mp (z.trans h1.symm))
      rcases swt_some qs (lo + 1) os h3 h with ⟨n, off, t, a1, a2, a3, a4⟩ | ⟨a1, a2⟩
      · exact Or.inl ⟨n + 1, off, t, by rw [List.getElem?_cons_succ]; exact a1, by rw [a2]; push_cast; omega, a3, a4⟩
      · refine Or.inr ⟨?_, a2⟩
        simp only [List.length_cons]
        push_cast
        omega
theorem ent_arr {ρ : Nat → Nat → Nat} {aC : Nat → ClassId} {w : Wd} {k i : Nat} (h : 2 ≤ (kd k).1) : ∃ (t0 : Nat) (ty : FieldType) (a0 : ClassId × vp_A), ent ρ aC w k i = .inl a0 ∧ (atys aC)[t0]? = some (a0.1, ty) ∧ a0.2.1 = ln k i := by
  unfold ent
  split
  · rename_i e; omega
  · exact ⟨0, _, _, rfl, rfl, rfl⟩
  · exact ⟨1, _, _, rfl, rfl, rfl⟩
  · exact ⟨2, _, _, rfl, rfl, rfl⟩
  · exact ⟨3, _, _, rfl, rfl, rfl⟩
  · exact ⟨4, _, _, rfl, rfl, rfl⟩
theorem fput_cases {w w1 : Wd} {k i f b : Nat} {md : Nat × Nat × Nat} {v : AV} (h : fput w k i f b md v = some w1) : (md.1 = 0 ∧ ∃ x, v = .inl x ∧ (b = 0 ∨ x &&& 1 = x) ∧ w1 = setI w k i f x) ∨ (md.1 = 1 ∧ ∃ x, v = .inr (.inl x) ∧ w1 = setL w k i f x) ∨ (md.1 = 3 ∧ ∃ n, v = .inr (.inr (md.2.1, n)) ∧ w1 = setR w k i f n) := by
  unfold fput at h
  split at h
  · rename_i x hm
    obtain ⟨hb, h⟩ := if_some _ h
    exact Or.inl ⟨hm, x, rfl, hb, (Option.some.inj h).symm⟩
  · rename_i x hm
    exact Or.inr (Or.inl ⟨hm, x, rfl, (Option.some.inj h).symm⟩)
  · rename_i q hm
    obtain ⟨hb, h⟩ := if_some _ h
    exact Or.inr (Or.inr ⟨hm, q.2, by rw [← hb], (Option.some.inj h).symm⟩)
  · cases h
theorem fget_self {w w1 : Wd} {k i f : Nat} {v : AV} {b : Nat} (h : fput w k i f b (fm k f) v = some w1) : fget w1 k i f (fm k f) = v := by
  rcases fput_cases h with ⟨hm, x, rfl, -, rfl⟩ | ⟨hm, x, rfl, rfl⟩ | ⟨hm, n, rfl, rfl⟩
  · unfold fget; rw [hm]; simp [gI, setI, up3]
  · unfold fget; rw [hm]; simp [gL, setL, up3]
  · unfold fget; rw [hm]; simp [gR, setR, up3]
theorem fget_other {w w1 : Wd} {k i f f' : Nat} {v : AV} {b : Nat} (h : fput w k i f b (fm k f) v = some w1) (hne : f' ≠ f) : fget w1 k i f' (fm k f') = fget w k i f' (fm k f') := by
  rcases fput_cases h with ⟨hm, x, rfl, -, rfl⟩ | ⟨hm, x, rfl, rfl⟩ | ⟨hm, n, rfl, rfl⟩
  · unfold fget; simp [gI, gL, gR, setI, up3, hne]
  · unfold fget; simp [gI, gL, gR, setL, up3, hne]
  · unfold fget; simp [gI, gL, gR, setR, up3, hne]
theorem fput_ent {w w1 : Wd} {k i f : Nat} {v : AV} {b : Nat} {ρ : Nat → Nat → Nat} {aC : Nat → ClassId} (h : fput w k i f b (fm k f) v = some w1) : ∀ k' i', (k', i') ≠ (k, i) → ent ρ aC w1 k' i' = ent ρ aC w k' i' := by
  rcases fput_cases h with ⟨hm, x, rfl, -, rfl⟩ | ⟨hm, x, rfl, rfl⟩ | ⟨hm, n, rfl, rfl⟩
  · exact setI_other
  · exact setL_other
  · exact setR_other
theorem fm_no20 : ((List.range 200).all fun k => decide ((kd k).1 = 1 → ((List.range (kd k).2.2).all fun f => decide ((fm k f).1 = 3 → (fm k f).2.1 ≠ 2)) = true)) = true := by decide +kernel
theorem fm_no2 {k f : Nat} (h : (kd k).1 = 1) (hf : f < (kd k).2.2) (hm : (fm k f).1 = 3) : (fm k f).2.1 ≠ 2 := by
  rcases Nat.lt_or_ge k 200 with hk | hk
  · have h1 := List.all_eq_true.mp fm_no20 k (List.mem_range.mpr hk)
    have h2 := List.all_eq_true.mp (of_decide_eq_true h1 h) f (List.mem_range.mpr hf)
    exact of_decide_eq_true h2 hm
  · rw [kd_big hk] at h; cases h
theorem fput_spec {cs : List (Nat × Nat)} {ρ : Nat → Nat → Nat} {aC : Nat → ClassId} {w w1 : Wd} {q i b q0 fl : Nat} {v : AV} {desc : String} (hnd : cs.Nodup) (hq0 : cs[q0]? = some (q, i)) (hk : (kd q).1 = 1) (hfb : b < (kd q).2.2) (hx : fput w q i b fl (fm q b) v = some w1)
    (hty : putTy desc fl = true) (hR : cloR cs w) (hv : vok cs v) (hmt : tyMode desc (fm q b).1 = true) :
    ∃ ty, parseFieldDescriptor desc = some ty ∧ narrow ty (trv ρ v) = trv ρ v ∧ fits ty (trv ρ v) = true ∧ (pic cs ρ aC w).set q0 (ρ q i, .inr ((kd q).2.1, ((List.range (kd q).2.2).map fun f => trv ρ (fget w q i f (fm q f))).set b (trv ρ v))) = pic cs ρ aC w1 ∧ cloR cs w1 := by
  have hset : (pic cs ρ aC w).set q0 (ρ q i, .inr ((kd q).2.1, ((List.range (kd q).2.2).map fun f => trv ρ (fget w q i f (fm q f))).set b (trv ρ v))) = pic cs ρ aC w1 := by
    refine pic_set hnd hq0 ?_ (fput_ent hx)
    rw [ent_1 hk]
    refine congrArg (fun z => (Sum.inr ((kd q).2.1, z) : va_E)) ?_
    apply List.ext_getElem?
    intro n
    by_cases e : b = n
    · subst e
      rw [List.getElem?_set_self (by rw [List.length_map, List.length_range]; exact hfb), List.getElem?_map, List.getElem?_range hfb]
      show some (trv ρ (fget w1 q i b (fm q b))) = _
      rw [fget_self hx]
    · rw [List.getElem?_set_ne e, List.getElem?_map, List.getElem?_map]
      rcases Nat.lt_or_ge n (kd q).2.2 with hn | hn
      · rw [List.getElem?_range hn]
        show some (trv ρ (fget w1 q i n (fm q n))) = some (trv ρ (fget w q i n (fm q n)))
        rw [fget_other hx (fun z => e z.symm)]
      · rw [List.getElem?_eq_none (by rw [List.length_range]; exact hn)]
        rfl
  have hR1 : cloR cs w1 := by
    rcases fput_cases hx with ⟨hm, x, rfl, -, rfl⟩ | ⟨hm, x, rfl, rfl⟩ | ⟨hm, n, rfl, rfl⟩
    · exact cloR_I hR
    · exact cloR_L hR
    · refine cloR_R hR (fun _ => ?_)
      rcases hv with hv | hv
      · exact hv
      · exfalso
        exact fm_no2 hk hfb hm hv
  cases hp : parseFieldDescriptor desc with
  | none => simp [putTy, hp] at hty
  | some ty =>
    rcases fput_cases hx with ⟨hm, x, rfl, hfl, rfl⟩ | ⟨hm, x, rfl, rfl⟩ | ⟨hm, n, rfl, rfl⟩
    · have hb : (ty = .int) ∨ (ty = .boolean ∧ x &&& 1 = x) := by
        cases ty <;> simp [tyMode, hp, hm] at hmt
        · exact Or.inl rfl
        · refine Or.inr ⟨rfl, ?_⟩
          rcases hfl with hfl | hfl
          · subst hfl; simp [putTy, hp] at hty
          · exact hfl
      rcases hb with rfl | ⟨rfl, hb⟩
      · exact ⟨_, rfl, rfl, rfl, hset, hR1⟩
      · exact ⟨_, rfl, by show Value.int (x &&& 1) = Value.int x; rw [hb], flag_ok hb, hset, hR1⟩
    · have hb : ty = .long := by cases ty <;> simp [tyMode, hp, hm] at hmt; rfl
      subst hb
      exact ⟨_, rfl, rfl, rfl, hset, hR1⟩
    · cases ty <;> simp [tyMode, hp, hm] at hmt
      · exact ⟨_, rfl, rfl, rfl, hset, hR1⟩
      · exact ⟨_, rfl, rfl, rfl, hset, hR1⟩
theorem catS_tr (ρ : Nat → Nat → Nat) : ∀ st : List AV, ((st.map (trv ρ)).map fun v => v.category).sum = catS st
  | [] => rfl
  | v :: t => by
    simp only [List.map_cons, List.sum_cons, catS, catA_tr]
    rw [← catS_tr ρ t]
theorem acall_sound {ρ' : Type} {r : ρ'} {X : XT} {cc : ByteArray} {own : String} {oI : Nat → List AV → Wd → Option (Int32 × Wd)} {oL : Nat → List AV → Wd → Option (Int64 × Wd)} {oV : Nat → List AV → Wd → Option Wd} {go : List EN → LV → List AV → Wd → Option ρ'} {e : EN} {rest : List EN} {ls : LV} {st : List AV} {w : Wd} {b : Nat} (G : GX X cc own) (hd : decode cc e.1 = .ok (e.2.1, iln e)) (hwd : ∀ x ∈ wdo own e, x ∈ lwg)
    (hC : match e.2.2.2.2.2.2.2.length with
      | 0 => CRI X e (oI e.2.2.2.1)
      | 1 => CRL X e (oL e.2.2.2.1)
      | 2 => CRV X e (oV e.2.2.2.1)
      | _ => True) (h3 : 3 ≤ e.2.2.2.2.2.2.2.length → e.2.2.2.2.2.2.2.length = 3 ∧ ∃ idx, e.2.1 = .invokestatic idx) (fall : ∀ {st : List AV} {w : Wd}, go rest ls st w = some r → WW X (e.1 + 3) ls st w) (h : acall oI oL oV go e.2.2.2.1 b e.2.2.2.2.2.2.2.length rest ls st w = some r) : WW X e.1 ls st w := by
  unfold acall at h
  obtain ⟨h8, h⟩ := if_some _ h
  have hst : ((st.take b).reverse).reverse ++ st.drop b = st := by rw [List.reverse_reverse, List.take_append_drop]
  match hn : e.2.2.2.2.2.2.2.length, hC, h, h3 with
  | 0, hC, h, _ =>
    obtain ⟨x, hx, h⟩ := bind_some' h
    have := hC _ _ _ _ ls hx h8 (fall h)
    rw [hst] at this
    exact this
  | 1, hC, h, _ =>
    obtain ⟨x, hx, h⟩ := bind_some' h
    have := hC _ _ _ _ ls hx h8 (fall h)
    rw [hst] at this
    exact this
  | 2, hC, h, _ =>
    obtain ⟨x, hx, h⟩ := bind_some' h
    have := hC _ _ _ _ ls hx h8 (fall h)
    rw [hst] at this
    exact this
  | n + 3, _, h, h3 =>
    obtain ⟨hn3, idx, hidx⟩ := h3 (by omega)
    clear hst h8 hC
    match st, h with
    | .inl mm :: .inl dp :: .inr (.inr (k2, i2)) :: .inl sp :: .inr (.inr (k1, i1)) :: t, h =>
      obtain ⟨⟨⟨hk1, hk2⟩, h8⟩, h⟩ := if_some _ h
      obtain ⟨w1, hx0, h⟩ := bind_some' h
      rw [cpI_eq] at hx0
      obtain ⟨hin, hx1⟩ := if_none _ hx0
      cases hx1
      have k := fall h
      obtain ⟨p, l, e0, R, s, m, args, below, meth, c, cells, slots, Q, cs, ρ, D, aC, A, nL⟩ := X
      obtain ⟨hex, hx, hb, hml, hown, hts, hK, hnd, hcl, hA, hcc, hcsl, hfr, hloc⟩ := G
      obtain ⟨pc, ins, lab, a, b, kI, kL, sw⟩ := e
      simp only at hn hidx hn3
      subst hidx
      have hsw : sw.length = 3 := by omega
      simp only [wdo, hsw] at hwd
      intro H locs la hl hv hs hP hD hS hR
      have hm2 := vin (vh (vt (vt hs))) hk2 (by decide)
      have hm1 := vin (vh (vt (vt (vt (vt hs))))) hk1 (by decide)
      obtain ⟨q1, hq1, hq1'⟩ := pic_at (ρ := ρ) (aC := aC) (w := w) hm1
      obtain ⟨q2, hq2, hq2'⟩ := pic_at (ρ := ρ) (aC := aC) (w := w) hm2
      rw [ent_2 hk1] at hq1'
      rw [ent_2 hk2] at hq2'
      have hset := pic_set (ρ := ρ) (aC := aC) (w := w) (w1 := setRowI w k2 i2 (va_cpy (gI w k1 i1) (gI w k2 i2) sp.toNatClampNeg dp.toNatClampNeg mm.toNatClampNeg)) hnd hq2 (x := .inl (aC 2, ln k2 i2, .inl (va_cpy (gI w k1 i1) (gI w k2 i2) sp.toNatClampNeg dp.toNatClampNeg mm.toNatClampNeg))) (by rw [ent_2 hk2]; exact congrArg (fun z => (Sum.inl (_, ln k2 i2, Sum.inl z) : va_E)) (upRow_self _ _ _ _)) setRowI_other
      refine va_copyi (ty := .int) hx hb (by rw [hml]; exact hl.2.1.symm) hown (hts _ (hwd _ (by simp))) (hts _ (hwd _ (by simp))) (hts _ (hwd _ (by simp))) (hts _ (hwd _ (by simp))) hK hP hD hS q1 q2 0 0 hq1' hq2' rfl rfl rfl (fun z => hin (Or.inl z)) (fun z => hin (Or.inr (Or.inl z))) (fun z => hin (Or.inr (Or.inr (Or.inl z)))) (Nat.le_of_not_lt fun z => hin (Or.inr (Or.inr (Or.inr (Or.inl z))))) (Nat.le_of_not_lt fun z => hin (Or.inr (Or.inr (Or.inr (Or.inr z))))) (fun _ _ => rfl) hfr ?_ hd (fun H1 locs1 hP1 hD1 hS1 => k H1 locs1 la hl hv (vt (vt (vt (vt (vt hs))))) (by rw [← hset]; exact hP1) (by rw [← hset]; exact hD1) hS1 (cloR_Row hR))
      rw [catS_tr]
      exact Nat.le_trans (Nat.add_le_add_right h8 _) (Nat.le_trans (by decide +kernel) hloc)
    | [], h => cases h
    | .inr _ :: _, h => cases h
    | [.inl _], h => cases h
    | .inl _ :: .inr _ :: _, h => cases h
    | [.inl _, .inl _], h => cases h
    | .inl _ :: .inl _ :: .inl _ :: _, h => cases h
    | .inl _ :: .inl _ :: .inr (.inl _) :: _, h => cases h
    | [.inl _, .inl _, .inr (.inr _)], h => cases h
    | .inl _ :: .inl _ :: .inr (.inr _) :: .inr _ :: _, h => cases h
    | [.inl _, .inl _, .inr (.inr _), .inl _], h => cases h
    | .inl _ :: .inl _ :: .inr (.inr _) :: .inl _ :: .inl _ :: _, h => cases h
    | .inl _ :: .inl _ :: .inr (.inr _) :: .inl _ :: .inr (.inl _) :: _, h => cases h

theorem stp_sound {ρ' : Type} {r : ρ'} {X : XT} {cc : ByteArray} {own : String} {tab : List EN} (G : GX X cc own) (T : TK cc own (xnL X) tab) {oI : Nat → List AV → Wd → Option (Int32 × Wd)} {oL : Nat → List AV → Wd → Option (Int64 × Wd)} {oV : Nat → List AV → Wd → Option Wd} {rI : Int32 → Wd → Option ρ'} {rL : Int64 → Wd → Option ρ'} {rV : Wd → Option ρ'} {go : List EN → LV → List AV → Wd → Option ρ'}
    (P : LV → Prop) (hPk : keepsP P tab) (hN : ∀ j ls st w, P ls → go (tab.drop j) ls st w = some r → WW X (pcAt tab j) ls st w) (hE : ∀ ls st w, go [] ls st w = none)
    (hrI : ∀ x w pc ls, rI x w = some r → decode cc pc = .ok (.ireturn, 1) → WW X pc ls [.inl x] w) (hrL : ∀ x w pc ls, rL x w = some r → decode cc pc = .ok (.lreturn, 1) → WW X pc ls [.inr (.inl x)] w) (hrV : ∀ w pc ls, rV w = some r → decode cc pc = .ok (.return_, 1) → WW X pc ls [] w)
    (hC : CRs X tab oI oL oV)
    {j : Nat} {e : EN} (he : tab[j]? = some e) {ls : LV} {st : List AV} {w : Wd} (hp : P ls) (h : stp oI oL oV rI rL rV tab go e (tab.drop (j + 1)) ls st w = some r) : WW X e.1 ls st w := by
  obtain ⟨hd, hnx, -, hop⟩ := tok_at T.1 he
  have hwd : ∀ x ∈ wdo own e, x ∈ lwg := T.2 e (List.mem_of_getElem? he)
  have hmem : e ∈ tab := List.mem_of_getElem? he
  have fall : ∀ {n : Nat} {ls : LV} {st : List AV} {w : Wd}, P ls → go (tab.drop (j + 1)) ls st w = some r → iln e = n → WW X (e.1 + n) ls st w := by
    intro n ls st w hp h hn
    have h1 := hN (j + 1) ls st w hp h
    cases hq : tab[j + 1]? with
    | none =>
      rw [List.drop_eq_nil_of_le (List.getElem?_eq_none_iff.mp hq), hE] at h
      cases h
    | some e' =>
      have : pcAt tab (j + 1) = e.1 + n := by
        unfold pcAt
        rw [hq, ← hn]
        exact hnx e' hq
      rw [this] at h1
      exact h1
  have hPe := hPk e hmem
  obtain ⟨p, l, e0, R, s, m, args, below, meth, c, cells, slots, Q, cs, ρ, D, aC, A, nL⟩ := X
  obtain ⟨hex, hx, hb, hml, hown, hts, hK, hnd, hcl, hA, hcc, hcsl, hfr, hloc⟩ := G
  obtain ⟨pc, ins, lab, a, b, kI, kL, sw⟩ := e
  have ld : ∀ {i : Nat} {v : AV}, ls.getD i none = some v → ∀ {la : Array Slot}, lvr ρ la nL ls → la[i]? = some (.val (trv ρ v)) := fun h _ hl => lvr_get hl h
  cases ins with
  | iconst n =>
    dsimp only [stp] at h
    have k := fall hp h (n := 1) rfl
    intro H locs la hl hv hs hP hD hS hR
    exact lv_iconst hx hb hd (of_decide_eq_true hop) (k H locs la hl hv (vc trivial hs) hP hD hS hR)
  | bipush n =>
    dsimp only [stp] at h
    have k := fall hp h (n := 2) rfl
    intro H locs la hl hv hs hP hD hS hR
    exact lv_bipush hx hb hd (of_decide_eq_true hop) (k H locs la hl hv (vc trivial hs) hP hD hS hR)
  | sipush n =>
    dsimp only [stp] at h
    have k := fall hp h (n := 3) rfl
    intro H locs la hl hv hs hP hD hS hR
    exact lv_sipush hx hb hd (of_decide_eq_true hop) (k H locs la hl hv (vc trivial hs) hP hD hS hR)
  | ldc n =>
    dsimp only [stp] at h
    match a, h, hop, hwd with
    | 0, h, hop, hwd =>
      have k := fall hp h (n := 2) rfl
      intro H locs la hl hv hs hP hD hS hR
      exact lv_ldc hx hb hown (hts _ (hwd _ List.mem_cons_self)) hd (k H locs la hl hv (vc trivial hs) hP hD hS hR)
    | 1, h, hop, hwd =>
      have k := fall hp h (n := 2) rfl
      obtain ⟨rfl, rfl⟩ := of_decide_eq_true hop
      intro H locs la hl hv hs hP hD hS hR
      exact va_ldcS hx hb hown hex.2.1 hd (k H locs la hl hv (vc (Or.inr rfl) hs) hP hD hS hR)
    | 2, h, hop, hwd =>
      have k := fall hp h (n := 2) rfl
      obtain ⟨rfl, rfl⟩ := of_decide_eq_true hop
      intro H locs la hl hv hs hP hD hS hR
      exact va_ldcS hx hb hown hex.2.2.1 hd (k H locs la hl hv (vc (Or.inr rfl) hs) hP hD hS hR)
    | n + 3, h, hop, hwd => cases hop
  | ldc_w n =>
    dsimp only [stp] at h
    have k := fall hp h (n := 3) rfl
    intro H locs la hl hv hs hP hD hS hR
    exact lv_ldcw hx hb hown (hts _ (hwd _ List.mem_cons_self)) hd (k H locs la hl hv (vc trivial hs) hP hD hS hR)
  | lconst n =>
    dsimp only [stp] at h
    have k := fall hp h (n := 1) rfl
    intro H locs la hl hv hs hP hD hS hR
    exact lv_lconst hx hb hd (of_decide_eq_true hop) (k H locs la hl hv (vc trivial hs) hP hD hS hR)
  | ldc2_w n =>
    dsimp only [stp] at h
    have k := fall hp h (n := 3) rfl
    intro H locs la hl hv hs hP hD hS hR
    exact lv_ldc2 hx hb hown (hts _ (hwd _ List.mem_cons_self)) hd (k H locs la hl hv (vc trivial hs) hP hD hS hR)
  | iload i =>
    dsimp only [stp] at h
    obtain ⟨x, hi, g⟩ := lgI_some h
    have k := fall hp g (n := 2) rfl
    intro H locs la hl hv hs hP hD hS hR
    exact lv_iload hx hb hd (ld hi hl) (k H locs la hl hv (vc trivial hs) hP hD hS hR)
  | iload_n i =>
    dsimp only [stp] at h
    obtain ⟨x, hi, g⟩ := lgI_some h
    have k := fall hp g (n := 1) rfl
    intro H locs la hl hv hs hP hD hS hR
    exact lv_iload_n hx hb hd rfl (ld hi hl) (k H locs la hl hv (vc trivial hs) hP hD hS hR)
  | lload i =>
    dsimp only [stp] at h
    obtain ⟨x, hi, g⟩ := lgL_some h
    have k := fall hp g (n := 2) rfl
    intro H locs la hl hv hs hP hD hS hR
    exact lv_lload hx hb hd (ld hi hl) (k H locs la hl hv (vc trivial hs) hP hD hS hR)
  | lload_n i =>
    dsimp only [stp] at h
    obtain ⟨x, hi, g⟩ := lgL_some h
    have k := fall hp g (n := 1) rfl
    intro H locs la hl hv hs hP hD hS hR
    exact lv_lload_n hx hb hd rfl (ld hi hl) (k H locs la hl hv (vc trivial hs) hP hD hS hR)
  | aload i =>
    dsimp only [stp] at h
    obtain ⟨q, x, hi, g⟩ := lgR_some h
    have k := fall hp g (n := 2) rfl
    intro H locs la hl hv hs hP hD hS hR
    exact lv_aload hx hb hd (ld hi hl) (k H locs la hl hv (vc (hv _ _ hi) hs) hP hD hS hR)
  | aload_n i =>
    dsimp only [stp] at h
    obtain ⟨q, x, hi, g⟩ := lgR_some h
    have k := fall hp g (n := 1) rfl
    intro H locs la hl hv hs hP hD hS hR
    exact lv_aload_n hx hb hd rfl (ld hi hl) (k H locs la hl hv (vc (hv _ _ hi) hs) hP hD hS hR)
  | istore i =>
    dsimp only [stp] at h
    obtain ⟨x, t, rfl, g⟩ := po1_some h
    have k := fall (hPe _ |>.1 rfl _ _ hp) g (n := 2) rfl
    intro H locs la hl hv hs hP hD hS hR
    exact lv_istore hx hb hd hl.2 (of_decide_eq_true hop) rfl (fun la' hl' => k H locs la' (lvr_set hl hl') (lok hv (fun u e => by cases e; trivial)) (vt hs) hP hD hS hR)
  | istore_n i =>
    dsimp only [stp] at h
    obtain ⟨x, t, rfl, g⟩ := po1_some h
    have k := fall (hPe _ |>.1 rfl _ _ hp) g (n := 1) rfl
    intro H locs la hl hv hs hP hD hS hR
    exact lv_istore_n hx hb hd rfl hl.2 (of_decide_eq_true hop) rfl (fun la' hl' => k H locs la' (lvr_set hl hl') (lok hv (fun u e => by cases e; trivial)) (vt hs) hP hD hS hR)
  | lstore i =>
    dsimp only [stp] at h
    obtain ⟨x, t, rfl, g⟩ := pl1_some h
    have k := fall (hPe _ |>.2 rfl _ _ hp) g (n := 2) rfl
    intro H locs la hl hv hs hP hD hS hR
    exact lv_lstore hx hb hd hl.2 (of_decide_eq_true hop) rfl (fun la' hl' => k H locs la' (lvr_setL hl hl') (lokL hv) (vt hs) hP hD hS hR)
  | lstore_n i =>
    dsimp only [stp] at h
    obtain ⟨x, t, rfl, g⟩ := pl1_some h
    have k := fall (hPe _ |>.2 rfl _ _ hp) g (n := 1) rfl
    intro H locs la hl hv hs hP hD hS hR
    exact lv_lstore_n hx hb hd rfl hl.2 (of_decide_eq_true hop) rfl (fun la' hl' => k H locs la' (lvr_setL hl hl') (lokL hv) (vt hs) hP hD hS hR)
  | astore i =>
    dsimp only [stp] at h
    obtain ⟨q, x, t, rfl, g⟩ := pr1_some h
    have k := fall (hPe _ |>.1 rfl _ _ hp) g (n := 2) rfl
    intro H locs la hl hv hs hP hD hS hR
    exact lv_astore hx hb hd hl.2 (of_decide_eq_true hop) rfl (fun la' hl' => k H locs la' (lvr_set hl hl') (lok hv (fun u e => by cases e; exact vh hs)) (vt hs) hP hD hS hR)
  | astore_n i =>
    dsimp only [stp] at h
    obtain ⟨q, x, t, rfl, g⟩ := pr1_some h
    have k := fall (hPe _ |>.1 rfl _ _ hp) g (n := 1) rfl
    intro H locs la hl hv hs hP hD hS hR
    exact lv_astore_n hx hb hd rfl hl.2 (of_decide_eq_true hop) rfl (fun la' hl' => k H locs la' (lvr_set hl hl') (lok hv (fun u e => by cases e; exact vh hs)) (vt hs) hP hD hS hR)
  | iinc i n =>
    dsimp only [stp] at h
    obtain ⟨x, hi, g⟩ := lgI_some h
    have k := fall (hPe _ |>.1 rfl _ _ hp) g (n := 3) rfl
    intro H locs la hl hv hs hP hD hS hR
    have hmi := lva_mem (ρ := ρ) ls 0 i _ hi
    rw [Nat.zero_add] at hmi
    obtain ⟨kk, hkk⟩ := List.getElem?_of_mem hmi
    exact lv_iinc hx hb hd hl.2 hkk (congrArg (x + ·) (of_decide_eq_true hop)) (lvr_lt hl hi) rfl (fun la' hl' => k H locs la' (lvr_set hl hl') (lok hv (fun u e => by cases e; trivial)) hs hP hD hS hR)
  | iadd =>
    dsimp only [stp] at h
    obtain ⟨x, y, t, rfl, g⟩ := po2_some h
    have k := fall hp g (n := 1) rfl
    intro H locs la hl hv hs hP hD hS hR
    exact lv_iadd hx hb hd (k H locs la hl hv (vc trivial (vt (vt hs))) hP hD hS hR)
  | isub =>
    dsimp only [stp] at h
    obtain ⟨x, y, t, rfl, g⟩ := po2_some h
    have k := fall hp g (n := 1) rfl
    intro H locs la hl hv hs hP hD hS hR
    exact lv_isub hx hb hd (k H locs la hl hv (vc trivial (vt (vt hs))) hP hD hS hR)
  | imul =>
    dsimp only [stp] at h
    obtain ⟨x, y, t, rfl, g⟩ := po2_some h
    have k := fall hp g (n := 1) rfl
    intro H locs la hl hv hs hP hD hS hR
    exact lv_imul hx hb hd (k H locs la hl hv (vc trivial (vt (vt hs))) hP hD hS hR)
  | iand =>
    dsimp only [stp] at h
    obtain ⟨x, y, t, rfl, g⟩ := po2_some h
    have k := fall hp g (n := 1) rfl
    intro H locs la hl hv hs hP hD hS hR
    exact lv_iand hx hb hd (k H locs la hl hv (vc trivial (vt (vt hs))) hP hD hS hR)
  | ior =>
    dsimp only [stp] at h
    obtain ⟨x, y, t, rfl, g⟩ := po2_some h
    have k := fall hp g (n := 1) rfl
    intro H locs la hl hv hs hP hD hS hR
    exact lv_ior hx hb hd (k H locs la hl hv (vc trivial (vt (vt hs))) hP hD hS hR)
  | ixor =>
    dsimp only [stp] at h
    obtain ⟨x, y, t, rfl, g⟩ := po2_some h
    have k := fall hp g (n := 1) rfl
    intro H locs la hl hv hs hP hD hS hR
    exact lv_ixor hx hb hd (k H locs la hl hv (vc trivial (vt (vt hs))) hP hD hS hR)
  | ishl =>
    dsimp only [stp] at h
    obtain ⟨x, y, t, rfl, g⟩ := po2_some h
    have k := fall hp g (n := 1) rfl
    intro H locs la hl hv hs hP hD hS hR
    exact lv_ishl hx hb hd (k H locs la hl hv (vc trivial (vt (vt hs))) hP hD hS hR)
  | ishr =>
    dsimp only [stp] at h
    obtain ⟨x, y, t, rfl, g⟩ := po2_some h
    have k := fall hp g (n := 1) rfl
    intro H locs la hl hv hs hP hD hS hR
    exact lv_ishr hx hb hd (k H locs la hl hv (vc trivial (vt (vt hs))) hP hD hS hR)
  | idiv =>
    dsimp only [stp] at h
    obtain ⟨x, y, t, rfl, g⟩ := po2_some h
    obtain ⟨hz, g⟩ := if_none _ g
    have k := fall hp g (n := 1) rfl
    intro H locs la hl hv hs hP hD hS hR
    exact lv_idiv hx hb hd hz (k H locs la hl hv (vc trivial (vt (vt hs))) hP hD hS hR)
  | irem =>
    dsimp only [stp] at h
    obtain ⟨x, y, t, rfl, g⟩ := po2_some h
    obtain ⟨hz, g⟩ := if_none _ g
    have k := fall hp g (n := 1) rfl
    intro H locs la hl hv hs hP hD hS hR
    exact lv_irem hx hb hd hz (k H locs la hl hv (vc trivial (vt (vt hs))) hP hD hS hR)
  | iushr =>
    dsimp only [stp] at h
    obtain ⟨x, y, t, rfl, g⟩ := po2_some h
    have k := fall hp g (n := 1) rfl
    intro H locs la hl hv hs hP hD hS hR
    exact lv_iushr hx hb hd rfl (k H locs la hl hv (vc trivial (vt (vt hs))) hP hD hS hR)
  | ineg =>
    dsimp only [stp] at h
    obtain ⟨x, t, rfl, g⟩ := po1_some h
    have k := fall hp g (n := 1) rfl
    intro H locs la hl hv hs hP hD hS hR
    exact lv_ineg hx hb hd (k H locs la hl hv (vc trivial (vt hs)) hP hD hS hR)
  | i2l =>
    dsimp only [stp] at h
    obtain ⟨x, t, rfl, g⟩ := po1_some h
    have k := fall hp g (n := 1) rfl
    intro H locs la hl hv hs hP hD hS hR
    exact lv_i2l hx hb hd rfl (k H locs la hl hv (vc trivial (vt hs)) hP hD hS hR)
  | i2b =>
    dsimp only [stp] at h
    obtain ⟨x, t, rfl, g⟩ := po1_some h
    have k := fall hp g (n := 1) rfl
    intro H locs la hl hv hs hP hD hS hR
    exact lv_i2b hx hb hd rfl (k H locs la hl hv (vc trivial (vt hs)) hP hD hS hR)
  | l2i =>
    dsimp only [stp] at h
    obtain ⟨x, t, rfl, g⟩ := pl1_some h
    have k := fall hp g (n := 1) rfl
    intro H locs la hl hv hs hP hD hS hR
    exact lv_l2i hx hb hd rfl (k H locs la hl hv (vc trivial (vt hs)) hP hD hS hR)
  | ladd =>
    dsimp only [stp] at h
    obtain ⟨x, y, t, rfl, g⟩ := pl2_some h
    have k := fall hp g (n := 1) rfl
    intro H locs la hl hv hs hP hD hS hR
    exact lv_ladd hx hb hd (k H locs la hl hv (vc trivial (vt (vt hs))) hP hD hS hR)
  | lsub =>
    dsimp only [stp] at h
    obtain ⟨x, y, t, rfl, g⟩ := pl2_some h
    have k := fall hp g (n := 1) rfl
    intro H locs la hl hv hs hP hD hS hR
    exact lv_lsub hx hb hd (k H locs la hl hv (vc trivial (vt (vt hs))) hP hD hS hR)
  | lmul =>
    dsimp only [stp] at h
    obtain ⟨x, y, t, rfl, g⟩ := pl2_some h
    have k := fall hp g (n := 1) rfl
    intro H locs la hl hv hs hP hD hS hR
    exact lv_lmul hx hb hd (k H locs la hl hv (vc trivial (vt (vt hs))) hP hD hS hR)
  | land =>
    dsimp only [stp] at h
    obtain ⟨x, y, t, rfl, g⟩ := pl2_some h
    have k := fall hp g (n := 1) rfl
    intro H locs la hl hv hs hP hD hS hR
    exact lv_land hx hb hd (k H locs la hl hv (vc trivial (vt (vt hs))) hP hD hS hR)
  | lor =>
    dsimp only [stp] at h
    obtain ⟨x, y, t, rfl, g⟩ := pl2_some h
    have k := fall hp g (n := 1) rfl
    intro H locs la hl hv hs hP hD hS hR
    exact lv_lor hx hb hd (k H locs la hl hv (vc trivial (vt (vt hs))) hP hD hS hR)
  | ldiv =>
    dsimp only [stp] at h
    obtain ⟨x, y, t, rfl, g⟩ := pl2_some h
    obtain ⟨hz, g⟩ := if_none _ g
    have k := fall hp g (n := 1) rfl
    intro H locs la hl hv hs hP hD hS hR
    exact lv_ldiv hx hb hd hz (k H locs la hl hv (vc trivial (vt (vt hs))) hP hD hS hR)
  | lrem =>
    dsimp only [stp] at h
    obtain ⟨x, y, t, rfl, g⟩ := pl2_some h
    obtain ⟨hz, g⟩ := if_none _ g
    have k := fall hp g (n := 1) rfl
    intro H locs la hl hv hs hP hD hS hR
    exact lv_lrem hx hb hd hz (k H locs la hl hv (vc trivial (vt (vt hs))) hP hD hS hR)
  | lneg =>
    dsimp only [stp] at h
    obtain ⟨x, t, rfl, g⟩ := pl1_some h
    have k := fall hp g (n := 1) rfl
    intro H locs la hl hv hs hP hD hS hR
    exact lv_lneg hx hb hd (k H locs la hl hv (vc trivial (vt hs)) hP hD hS hR)
  | lshl =>
    dsimp only [stp] at h
    obtain ⟨y, t, rfl, g⟩ := po1_some h
    obtain ⟨x, t, rfl, g⟩ := pl1_some g
    have k := fall hp g (n := 1) rfl
    intro H locs la hl hv hs hP hD hS hR
    exact lv_lshl hx hb hd rfl (k H locs la hl hv (vc trivial (vt (vt hs))) hP hD hS hR)
  | lcmp =>
    dsimp only [stp] at h
    obtain ⟨x, y, t, rfl, g⟩ := pl2_some h
    have k := fall hp g (n := 1) rfl
    intro H locs la hl hv hs hP hD hS hR
    exact W.lcmp hx hb hd (k H locs la hl hv (vc trivial (vt (vt hs))) hP hD hS hR)
  | dup =>
    dsimp only [stp] at h
    match st, h with
    | v :: t, h =>
      obtain ⟨hc, g⟩ := if_some _ h
      have k := fall hp g (n := 1) rfl
      intro H locs la hl hv hs hP hD hS hR
      exact lv_dup hx hb hd ((catA_tr ρ v).trans hc) (k H locs la hl hv (vc (vh hs) hs) hP hD hS hR)
    | [], h => cases h
  | dup2 =>
    dsimp only [stp] at h
    match st, h with
    | v :: u :: t, h =>
      obtain ⟨hc, g⟩ := if_some _ h
      have k := fall hp g (n := 1) rfl
      intro H locs la hl hv hs hP hD hS hR
      exact lv_dup2_11 hx hb hd ((catA_tr ρ v).trans hc.1) ((catA_tr ρ u).trans hc.2) (k H locs la hl hv (vc (vh hs) (vc (vh (vt hs)) hs)) hP hD hS hR)
    | [v], h => cases h
    | [], h => cases h
  | pop =>
    dsimp only [stp] at h
    match st, h with
    | v :: t, h =>
      obtain ⟨hc, g⟩ := if_some _ h
      have k := fall hp g (n := 1) rfl
      intro H locs la hl hv hs hP hD hS hR
      exact lv_pop hx hb hd ((catA_tr ρ v).trans hc) (k H locs la hl hv (vt hs) hP hD hS hR)
    | [], h => cases h
  | goto off =>
    dsimp only [stp] at h
    have k := hN _ _ _ _ hp h
    intro H locs la hl hv hs hP hD hS hR
    exact lv_goto hx hb hd (jok_at hop) (k H locs la hl hv hs hP hD hS hR)
  | ifCond cnd off =>
    cases cnd with
    | eq =>
      dsimp only [stp] at h
      obtain ⟨x, t, rfl, g⟩ := po1_some h
      try dsimp only at g
      by_cases q : x = 0
      · rw [if_pos q] at g
        have k := hN _ _ _ _ hp g
        intro H locs la hl hv hs hP hD hS hR
        exact lv_if_eq hx hb hd (jok_at hop) (fun _ => k H locs la hl hv (vt hs) hP hD hS hR) (fun c => absurd q c)
      · rw [if_neg q] at g
        have k := fall hp g (n := 3) rfl
        intro H locs la hl hv hs hP hD hS hR
        exact lv_if_eq hx hb hd (jok_at hop) (fun c => absurd c q) (fun _ => k H locs la hl hv (vt hs) hP hD hS hR)
    | ne =>
      dsimp only [stp] at h
      obtain ⟨x, t, rfl, g⟩ := po1_some h
      try dsimp only at g
      by_cases q : x = 0
      · rw [if_pos q] at g
        have k := fall hp g (n := 3) rfl
        intro H locs la hl hv hs hP hD hS hR
        exact lv_if_ne hx hb hd (jok_at hop) (fun c => absurd q c) (fun _ => k H locs la hl hv (vt hs) hP hD hS hR)
      · rw [if_neg q] at g
        have k := hN _ _ _ _ hp g
        intro H locs la hl hv hs hP hD hS hR
        exact lv_if_ne hx hb hd (jok_at hop) (fun _ => k H locs la hl hv (vt hs) hP hD hS hR) (fun c => absurd c q)
    | lt =>
      dsimp only [stp] at h
      obtain ⟨x, t, rfl, g⟩ := po1_some h
      try dsimp only at g
      by_cases q : x < 0
      · rw [if_pos q] at g
        have k := hN _ _ _ _ hp g
        intro H locs la hl hv hs hP hD hS hR
        exact lv_if_lt hx hb hd (jok_at hop) (fun _ => k H locs la hl hv (vt hs) hP hD hS hR) (fun c => absurd q c)
      · rw [if_neg q] at g
        have k := fall hp g (n := 3) rfl
        intro H locs la hl hv hs hP hD hS hR
        exact lv_if_lt hx hb hd (jok_at hop) (fun c => absurd c q) (fun _ => k H locs la hl hv (vt hs) hP hD hS hR)
    | ge =>
      dsimp only [stp] at h
      obtain ⟨x, t, rfl, g⟩ := po1_some h
      try dsimp only at g
      by_cases q : x < 0
      · rw [if_pos q] at g
        have k := fall hp g (n := 3) rfl
        intro H locs la hl hv hs hP hD hS hR
        exact lv_if_ge hx hb hd (jok_at hop) (fun c => absurd q (Int32.not_lt.mpr c)) (fun _ => k H locs la hl hv (vt hs) hP hD hS hR)
      · rw [if_neg q] at g
        have k := hN _ _ _ _ hp g
        intro H locs la hl hv hs hP hD hS hR
        exact lv_if_ge hx hb hd (jok_at hop) (fun _ => k H locs la hl hv (vt hs) hP hD hS hR) (fun c => absurd (Int32.not_lt.mp q) c)
    | gt =>
      dsimp only [stp] at h
      obtain ⟨x, t, rfl, g⟩ := po1_some h
      try dsimp only at g
      by_cases q : 0 < x
      · rw [if_pos q] at g
        have k := hN _ _ _ _ hp g
        intro H locs la hl hv hs hP hD hS hR
        exact lv_if_gt hx hb hd (jok_at hop) (fun _ => k H locs la hl hv (vt hs) hP hD hS hR) (fun c => absurd q c)
      · rw [if_neg q] at g
        have k := fall hp g (n := 3) rfl
        intro H locs la hl hv hs hP hD hS hR
        exact lv_if_gt hx hb hd (jok_at hop) (fun c => absurd c q) (fun _ => k H locs la hl hv (vt hs) hP hD hS hR)
    | le =>
      dsimp only [stp] at h
      obtain ⟨x, t, rfl, g⟩ := po1_some h
      try dsimp only at g
      by_cases q : 0 < x
      · rw [if_pos q] at g
        have k := fall hp g (n := 3) rfl
        intro H locs la hl hv hs hP hD hS hR
        exact lv_if_le hx hb hd (jok_at hop) (fun c => absurd q (Int32.not_lt.mpr c)) (fun _ => k H locs la hl hv (vt hs) hP hD hS hR)
      · rw [if_neg q] at g
        have k := hN _ _ _ _ hp g
        intro H locs la hl hv hs hP hD hS hR
        exact lv_if_le hx hb hd (jok_at hop) (fun _ => k H locs la hl hv (vt hs) hP hD hS hR) (fun c => absurd (Int32.not_lt.mp q) c)
  | if_icmp cnd off =>
    cases cnd with
    | eq =>
      dsimp only [stp] at h
      obtain ⟨x, y, t, rfl, g⟩ := po2_some h
      try dsimp only at g
      by_cases q : x = y
      · rw [if_pos q] at g
        have k := hN _ _ _ _ hp g
        intro H locs la hl hv hs hP hD hS hR
        exact lv_icmp_eq hx hb hd (jok_at hop) (fun _ => k H locs la hl hv (vt (vt hs)) hP hD hS hR) (fun c => absurd q c)
      · rw [if_neg q] at g
        have k := fall hp g (n := 3) rfl
        intro H locs la hl hv hs hP hD hS hR
        exact lv_icmp_eq hx hb hd (jok_at hop) (fun c => absurd c q) (fun _ => k H locs la hl hv (vt (vt hs)) hP hD hS hR)
    | ne =>
      dsimp only [stp] at h
      obtain ⟨x, y, t, rfl, g⟩ := po2_some h
      try dsimp only at g
      by_cases q : x = y
      · rw [if_pos q] at g
        have k := fall hp g (n := 3) rfl
        intro H locs la hl hv hs hP hD hS hR
        exact lv_icmp_ne hx hb hd (jok_at hop) (fun c => absurd q c) (fun _ => k H locs la hl hv (vt (vt hs)) hP hD hS hR)
      · rw [if_neg q] at g
        have k := hN _ _ _ _ hp g
        intro H locs la hl hv hs hP hD hS hR
        exact lv_icmp_ne hx hb hd (jok_at hop) (fun _ => k H locs la hl hv (vt (vt hs)) hP hD hS hR) (fun c => absurd c q)
    | lt =>
      dsimp only [stp] at h
      obtain ⟨x, y, t, rfl, g⟩ := po2_some h
      try dsimp only at g
      by_cases q : x < y
      · rw [if_pos q] at g
        have k := hN _ _ _ _ hp g
        intro H locs la hl hv hs hP hD hS hR
        exact lv_icmp_lt hx hb hd (jok_at hop) (fun _ => k H locs la hl hv (vt (vt hs)) hP hD hS hR) (fun c => absurd q c)
      · rw [if_neg q] at g
        have k := fall hp g (n := 3) rfl
        intro H locs la hl hv hs hP hD hS hR
        exact lv_icmp_lt hx hb hd (jok_at hop) (fun c => absurd c q) (fun _ => k H locs la hl hv (vt (vt hs)) hP hD hS hR)
    | ge =>
      dsimp only [stp] at h
      obtain ⟨x, y, t, rfl, g⟩ := po2_some h
      try dsimp only at g
      by_cases q : x < y
      · rw [if_pos q] at g
        have k := fall hp g (n := 3) rfl
        intro H locs la hl hv hs hP hD hS hR
        exact lv_icmp_ge hx hb hd (jok_at hop) (fun c => absurd q (Int32.not_lt.mpr c)) (fun _ => k H locs la hl hv (vt (vt hs)) hP hD hS hR)
      · rw [if_neg q] at g
        have k := hN _ _ _ _ hp g
        intro H locs la hl hv hs hP hD hS hR
        exact lv_icmp_ge hx hb hd (jok_at hop) (fun _ => k H locs la hl hv (vt (vt hs)) hP hD hS hR) (fun c => absurd (Int32.not_lt.mp q) c)
    | gt =>
      dsimp only [stp] at h
      obtain ⟨x, y, t, rfl, g⟩ := po2_some h
      try dsimp only at g
      by_cases q : y < x
      · rw [if_pos q] at g
        have k := hN _ _ _ _ hp g
        intro H locs la hl hv hs hP hD hS hR
        exact lv_icmp_gt hx hb hd (jok_at hop) (fun _ => k H locs la hl hv (vt (vt hs)) hP hD hS hR) (fun c => absurd q c)
      · rw [if_neg q] at g
        have k := fall hp g (n := 3) rfl
        intro H locs la hl hv hs hP hD hS hR
        exact lv_icmp_gt hx hb hd (jok_at hop) (fun c => absurd c q) (fun _ => k H locs la hl hv (vt (vt hs)) hP hD hS hR)
    | le =>
      dsimp only [stp] at h
      obtain ⟨x, y, t, rfl, g⟩ := po2_some h
      try dsimp only at g
      by_cases q : y < x
      · rw [if_pos q] at g
        have k := fall hp g (n := 3) rfl
        intro H locs la hl hv hs hP hD hS hR
        exact lv_icmp_le hx hb hd (jok_at hop) (fun c => absurd q (Int32.not_lt.mpr c)) (fun _ => k H locs la hl hv (vt (vt hs)) hP hD hS hR)
      · rw [if_neg q] at g
        have k := hN _ _ _ _ hp g
        intro H locs la hl hv hs hP hD hS hR
        exact lv_icmp_le hx hb hd (jok_at hop) (fun _ => k H locs la hl hv (vt (vt hs)) hP hD hS hR) (fun c => absurd (Int32.not_lt.mp q) c)
  | tableswitch d lo hi offs =>
    dsimp only [stp] at h
    obtain ⟨x, t, rfl, g⟩ := po1_some h
    simp only [opok, Bool.and_eq_true, decide_eq_true_eq] at hop
    obtain ⟨⟨hd0, hsw⟩, hhi⟩ := hop
    intro H locs la hl hv hs hP hD hS hR
    rcases swt_some sw lo offs.toList hsw g with ⟨n, off, tt, h1, h2, h3, h4⟩ | ⟨h1, h2⟩
    · have k := hN _ _ _ _ hp h4
      have hn : n < offs.toList.length := (List.getElem?_eq_some_iff.mp h1).1
      exact lv_tableIn hx hb hd (by omega) (by omega) (by rw [h2, show (lo + (n : Int) - lo).toNat = n by omega, ← Array.getElem?_toList]; exact h1) (jok_at h3) (k H locs la hl hv (vt hs) hP hD hS hR)
    · have k := hN _ _ _ _ hp h2
      exact lv_tableOut hx hb hd (by omega) (jok_at hd0) (k H locs la hl hv (vt hs) hP hD hS hR)
  | iaload =>
    dsimp only [stp] at h
    obtain ⟨jj, q, i, t, rfl, g⟩ := pIx_some h
    obtain ⟨hk, g⟩ := if_some _ g
    obtain ⟨x, hx0, g⟩ := bind_some' g
    first | rw [ldI_eq] at hx0 | rw [ldL_eq] at hx0 | rw [ldR_eq] at hx0 | rw [stI_eq] at hx0 | rw [stL_eq] at hx0
    obtain ⟨hin, hx1⟩ := if_none _ hx0
    cases hx1
    have k := fall hp g (n := 1) rfl
    intro H locs la hl hv hs hP hD hS hR
    obtain ⟨q0, hq0, hq⟩ := pic_at (ρ := ρ) (aC := aC) (w := w) (vin (vh (vt hs)) hk (by decide))
    have he0 := ent_2 (ρ := ρ) (aC := aC) (w := w) (i := i) hk
    rw [he0] at hq
    exact va_iald hx hb hK hP q0 0 hq rfl hin hd (k H locs la hl hv (vc trivial (vt (vt hs))) hP hD hS hR)
  | laload =>
    dsimp only [stp] at h
    obtain ⟨jj, q, i, t, rfl, g⟩ := pIx_some h
    obtain ⟨hk, g⟩ := if_some _ g
    obtain ⟨x, hx0, g⟩ := bind_some' g
    first | rw [ldI_eq] at hx0 | rw [ldL_eq] at hx0 | rw [ldR_eq] at hx0 | rw [stI_eq] at hx0 | rw [stL_eq] at hx0
    obtain ⟨hin, hx1⟩ := if_none _ hx0
    cases hx1
    have k := fall hp g (n := 1) rfl
    intro H locs la hl hv hs hP hD hS hR
    obtain ⟨q0, hq0, hq⟩ := pic_at (ρ := ρ) (aC := aC) (w := w) (vin (vh (vt hs)) hk (by decide))
    have he0 := ent_3 (ρ := ρ) (aC := aC) (w := w) (i := i) hk
    rw [he0] at hq
    exact va_lald hx hb hK hP q0 1 hq rfl hin hd (k H locs la hl hv (vc trivial (vt (vt hs))) hP hD hS hR)
  | baload =>
    dsimp only [stp] at h
    obtain ⟨jj, q, i, t, rfl, g⟩ := pIx_some h
    obtain ⟨hk, g⟩ := if_some _ g
    obtain ⟨x, hx0, g⟩ := bind_some' g
    first | rw [ldI_eq] at hx0 | rw [ldL_eq] at hx0 | rw [ldR_eq] at hx0 | rw [stI_eq] at hx0 | rw [stL_eq] at hx0
    obtain ⟨hin, hx1⟩ := if_none _ hx0
    cases hx1
    have k := fall hp g (n := 1) rfl
    intro H locs la hl hv hs hP hD hS hR
    rcases hk with hk | hk
    · obtain ⟨q0, hq0, hq⟩ := pic_at (ρ := ρ) (aC := aC) (w := w) (vin (vh (vt hs)) hk (by decide))
      have he0 := ent_4 (ρ := ρ) (aC := aC) (w := w) (i := i) hk
      rw [he0] at hq
      exact va_bald hx hb hK hP q0 2 hq rfl hin hd (k H locs la hl hv (vc trivial (vt (vt hs))) hP hD hS hR)
    · obtain ⟨q0, hq0, hq⟩ := pic_at (ρ := ρ) (aC := aC) (w := w) (vin (vh (vt hs)) hk (by decide))
      have he0 := ent_5 (ρ := ρ) (aC := aC) (w := w) (i := i) hk
      rw [he0] at hq
      exact va_zald hx hb hK hP q0 3 hq rfl hin hd (k H locs la hl hv (vc trivial (vt (vt hs))) hP hD hS hR)
  | aaload =>
    dsimp only [stp] at h
    obtain ⟨jj, q, i, t, rfl, g⟩ := pIx_some h
    obtain ⟨hk, g⟩ := if_some _ g
    obtain ⟨x, hx0, g⟩ := bind_some' g
    first | rw [ldI_eq] at hx0 | rw [ldL_eq] at hx0 | rw [ldR_eq] at hx0 | rw [stI_eq] at hx0 | rw [stL_eq] at hx0
    obtain ⟨hin, hx1⟩ := if_none _ hx0
    cases hx1
    have k := fall hp g (n := 1) rfl
    intro H locs la hl hv hs hP hD hS hR
    have hmq := vin (vh (vt hs)) hk (by decide)
    obtain ⟨q0, hq0, hq⟩ := pic_at (ρ := ρ) (aC := aC) (w := w) hmq
    have he0 := ent_6 (ρ := ρ) (aC := aC) (w := w) (i := i) hk
    rw [he0] at hq
    have hcell := hP q0 _ hq
    have hlt : jj.toNatClampNeg < ln q i := by
      rcases Nat.lt_or_ge jj.toNatClampNeg (ln q i) with z | z
      · exact z
      · exact absurd (Or.inr z) hin
    have hrow := ((hcl q i hmq).2 hk _ hlt).1
    exact W.aald (ty := .array .int) hx hb hcell ((hK.2 4 (aC 6, .array .int) rfl).1 _ _) rfl (by intro z; cases z) (by rw [vp_cell_q, arrV_size]; exact hin) (by rw [vp_cell_q]; exact arrV_read _ _ hlt) rfl rfl hd (k H locs la hl hv (vc (Or.inl hrow) (vt (vt hs))) hP hD hS hR)
  | iastore =>
    dsimp only [stp] at h
    obtain ⟨x, t, rfl, g⟩ := po1_some h
    obtain ⟨jj, q, i, t, rfl, g⟩ := pIx_some g
    obtain ⟨hk, g⟩ := if_some _ g
    obtain ⟨w1, hx0, g⟩ := bind_some' g
    first | rw [ldI_eq] at hx0 | rw [ldL_eq] at hx0 | rw [ldR_eq] at hx0 | rw [stI_eq] at hx0 | rw [stL_eq] at hx0
    obtain ⟨hin, hx1⟩ := if_none _ hx0
    cases hx1
    have k := fall hp g (n := 1) rfl
    intro H locs la hl hv hs hP hD hS hR
    obtain ⟨q0, hq0, hq⟩ := pic_at (ρ := ρ) (aC := aC) (w := w) (vin (vh (vt (vt hs))) hk (by decide))
    have he0 := ent_2 (ρ := ρ) (aC := aC) (w := w) (i := i) hk
    rw [he0] at hq
    have hset := pic_set (ρ := ρ) (aC := aC) (w := w) (w1 := setI w q i jj.toNatClampNeg x) hnd hq0 (x := .inl (aC 2, ln q i, .inl (upd (gI w q i) jj.toNatClampNeg x))) (by rw [ent_2 hk]; exact congrArg (fun z => (Sum.inl (_, ln q i, Sum.inl z) : va_E)) (up3_self _ _ _ _ _)) setI_other
    exact va_iast hx hb hK hP hD hS q0 0 hq rfl hin hd (fun H1 locs1 hP1 hD1 hS1 => k H1 locs1 la hl hv (vt (vt (vt hs))) (by rw [← hset]; exact hP1) (by rw [← hset]; exact hD1) hS1 (cloR_I hR))
  | lastore =>
    dsimp only [stp] at h
    obtain ⟨x, t, rfl, g⟩ := pl1_some h
    obtain ⟨jj, q, i, t, rfl, g⟩ := pIx_some g
    obtain ⟨hk, g⟩ := if_some _ g
    obtain ⟨w1, hx0, g⟩ := bind_some' g
    first | rw [ldI_eq] at hx0 | rw [ldL_eq] at hx0 | rw [ldR_eq] at hx0 | rw [stI_eq] at hx0 | rw [stL_eq] at hx0
    obtain ⟨hin, hx1⟩ := if_none _ hx0
    cases hx1
    have k := fall hp g (n := 1) rfl
    intro H locs la hl hv hs hP hD hS hR
    obtain ⟨q0, hq0, hq⟩ := pic_at (ρ := ρ) (aC := aC) (w := w) (vin (vh (vt (vt hs))) hk (by decide))
    have he0 := ent_3 (ρ := ρ) (aC := aC) (w := w) (i := i) hk
    rw [he0] at hq
    have hset := pic_set (ρ := ρ) (aC := aC) (w := w) (w1 := setL w q i jj.toNatClampNeg x) hnd hq0 (x := .inl (aC 3, ln q i, .inr (.inl (vp_updL (gL w q i) jj.toNatClampNeg x)))) (by rw [ent_3 hk]; exact congrArg (fun z => (Sum.inl (_, ln q i, Sum.inr (Sum.inl z)) : va_E)) (up3_self _ _ _ _ _)) setL_other
    exact va_last hx hb hK hP hD hS q0 1 hq rfl hin hd (fun H1 locs1 hP1 hD1 hS1 => k H1 locs1 la hl hv (vt (vt (vt hs))) (by rw [← hset]; exact hP1) (by rw [← hset]; exact hD1) hS1 (cloR_L hR))
  | bastore =>
    dsimp only [stp] at h
    obtain ⟨x, t, rfl, g⟩ := po1_some h
    obtain ⟨jj, q, i, t, rfl, g2⟩ := pIx_some g
    clear g h
    have g := g2
    try dsimp only at g
    by_cases hk : (kd q).1 = 4
    · rw [if_pos hk] at g
      obtain ⟨w1, hx0, g⟩ := bind_some' g
      first | rw [ldI_eq] at hx0 | rw [ldL_eq] at hx0 | rw [ldR_eq] at hx0 | rw [stI_eq] at hx0 | rw [stL_eq] at hx0
      obtain ⟨hin, hx1⟩ := if_none _ hx0
      cases hx1
      have k := fall hp g (n := 1) rfl
      intro H locs la hl hv hs hP hD hS hR
      obtain ⟨q0, hq0, hq⟩ := pic_at (ρ := ρ) (aC := aC) (w := w) (vin (vh (vt (vt hs))) hk (by decide))
      have he0 := ent_4 (ρ := ρ) (aC := aC) (w := w) (i := i) hk
      rw [he0] at hq
      have hset := pic_set (ρ := ρ) (aC := aC) (w := w) (w1 := setI w q i jj.toNatClampNeg x.toInt8.toInt32) hnd hq0 (x := .inl (aC 4, ln q i, .inl (upd (gI w q i) jj.toNatClampNeg (vp_nar .byte x)))) (by rw [ent_4 hk]; exact congrArg (fun z => (Sum.inl (_, ln q i, Sum.inl z) : va_E)) (up3_self _ _ _ _ _)) setI_other
      exact va_bast hx hb hK hP hD hS q0 2 hq rfl hin hd (fun H1 locs1 hP1 hD1 hS1 => k H1 locs1 la hl hv (vt (vt (vt hs))) (by rw [← hset]; exact hP1) (by rw [← hset]; exact hD1) hS1 (cloR_I hR))
    · rw [if_neg hk] at g
      obtain ⟨hk, g⟩ := if_some _ g
      obtain ⟨w1, hx0, g⟩ := bind_some' g
      first | rw [ldI_eq] at hx0 | rw [ldL_eq] at hx0 | rw [ldR_eq] at hx0 | rw [stI_eq] at hx0 | rw [stL_eq] at hx0
      obtain ⟨hin, hx1⟩ := if_none _ hx0
      cases hx1
      have k := fall hp g (n := 1) rfl
      intro H locs la hl hv hs hP hD hS hR
      obtain ⟨q0, hq0, hq⟩ := pic_at (ρ := ρ) (aC := aC) (w := w) (vin (vh (vt (vt hs))) hk (by decide))
      have he0 := ent_5 (ρ := ρ) (aC := aC) (w := w) (i := i) hk
      rw [he0] at hq
      have hset := pic_set (ρ := ρ) (aC := aC) (w := w) (w1 := setI w q i jj.toNatClampNeg (x &&& 1)) hnd hq0 (x := .inl (aC 5, ln q i, .inl (upd (gI w q i) jj.toNatClampNeg (vp_nar .boolean x)))) (by rw [ent_5 hk]; exact congrArg (fun z => (Sum.inl (_, ln q i, Sum.inl z) : va_E)) (up3_self _ _ _ _ _)) setI_other
      exact va_zast hx hb hK hP hD hS q0 3 hq rfl hin hd (fun H1 locs1 hP1 hD1 hS1 => k H1 locs1 la hl hv (vt (vt (vt hs))) (by rw [← hset]; exact hP1) (by rw [← hset]; exact hD1) hS1 (cloR_I hR))
  | arraylength =>
    dsimp only [stp] at h
    obtain ⟨q, i, t, rfl, g⟩ := pr1_some h
    obtain ⟨hk, g⟩ := if_some _ g
    have k := fall hp g (n := 1) rfl
    intro H locs la hl hv hs hP hD hS hR
    have hmq : (q, i) ∈ cs := vin (vh hs) (n := (kd q).1) rfl (by omega)
    obtain ⟨q0, hq0, hq⟩ := pic_at (ρ := ρ) (aC := aC) (w := w) hmq
    obtain ⟨t0, ty, a0, h0, h1, h2⟩ := ent_arr (ρ := ρ) (aC := aC) (w := w) (i := i) hk
    rw [h0] at hq
    exact va_alen hx hb hK hP q0 t0 hq h1 (by rw [h2]) hd (k H locs la hl hv (vc trivial (vt hs)) hP hD hS hR)
  | getfield idx =>
    dsimp only [stp] at h
    obtain ⟨q, i, t, rfl, g⟩ := pr1_some h
    obtain ⟨⟨hk, hc⟩, g⟩ := if_some _ g
    obtain ⟨hfb, g⟩ := if_some _ g
    have k := fall hp g (n := 3) rfl
    intro H locs la hl hv hs hP hD hS hR
    have hmq := vin (vh hs) hk (by decide)
    obtain ⟨q0, hq0, hq⟩ := pic_at (ρ := ρ) (aC := aC) (w := w) hmq
    obtain ⟨⟨C, TT, N⟩, hcq, hN⟩ := kd_cls hk
    have he0 := ent_1 (ρ := ρ) (aC := aC) (w := w) (i := i) hk
    rw [he0] at hq
    have hca : classes[a]? = some (C, TT, N) := by rw [← hc]; exact hcq
    have hlk : Cond.fieldLink own idx (TT b).1 (TT b).2.1 (TT b).2.2.1 ∈ lwg := hwd _ (by simp only [wdo, hca]; exact List.mem_cons_self)
    exact va_get hx hb hts (cls_ws hcq) hown hK hP q0 hq hcq b (by have h9 : N = (kd q).2.2 := hN; omega) (hts _ hlk) (fun _ h9 => h9) (v := trv ρ (fget w q i b (fm q b))) (by rw [List.getElem?_map, List.getElem?_range hfb]; rfl) hd (k H locs la hl hv (vc (fget_ok hcl hR hmq hk hfb) (vt hs)) hP hD hS hR)
  | putfield idx =>
    dsimp only [stp] at h
    match st, h with
    | v :: .inr (.inr (q, i)) :: t, h =>
      obtain ⟨⟨hk, hc⟩, g⟩ := if_some _ h
      obtain ⟨hfb, g⟩ := if_some _ g
      obtain ⟨w1, hx0, g⟩ := bind_some' g
      have k := fall hp g (n := 3) rfl
      intro H locs la hl hv hs hP hD hS hR
      have hmq := vin (vh (vt hs)) hk (by decide)
      obtain ⟨q0, hq0, hq⟩ := pic_at (ρ := ρ) (aC := aC) (w := w) hmq
      obtain ⟨⟨C, TT, N⟩, hcq, hN⟩ := kd_cls hk
      have he0 := ent_1 (ρ := ρ) (aC := aC) (w := w) (i := i) hk
      rw [he0] at hq
      have hca : classes[a]? = some (C, TT, N) := by rw [← hc]; exact hcq
      have hlk : Cond.fieldLink own idx (TT b).1 (TT b).2.1 (TT b).2.2.1 ∈ lwg := hwd _ (by simp only [wdo, hca]; exact List.mem_cons_self)
      have hNb : b < N := by have h9 : N = (kd q).2.2 := hN; rw [h9]; exact hfb
      simp only [opok, hca, Bool.and_eq_true, Bool.not_eq_true'] at hop
      obtain ⟨hfin, hty⟩ := hop
      obtain ⟨ty, hty1, hn1, hf1, hset, hR1⟩ := fput_spec (ρ := ρ) (aC := aC) hnd hq0 hk hfb hx0 hty hR (vh hs) (fm_ty hk hfb hcq)
      exact va_put hx hb hts (cls_ws hcq) (tyOf (kd q).2.1) (cls_ok _ _ hcq).1 (cls_ok _ _ hcq).2 hown hK hP hD hS q0 hq hcq b hNb (hts _ hlk) (fun _ h9 => h9) hfin hty1 hn1 hf1 (by rw [List.length_map, List.length_range]; exact hfb) hd (fun H1 locs1 hP1 hD1 hS1 => k H1 locs1 la hl hv (vt (vt hs)) (by rw [← hset]; exact hP1) (by rw [← hset]; exact hD1) hS1 hR1)
    | [], h => cases h
    | [_], h => cases h
    | _ :: .inl _ :: _, h => cases h
    | _ :: .inr (.inl _) :: _, h => cases h
  | invokevirtual idx =>
    dsimp only [stp] at h
    exact acall_sound (e := (pc, .invokevirtual idx, lab, a, b, kI, kL, sw)) (X := (p, l, e0, R, s, m, args, below, meth, c, cells, slots, Q, cs, ρ, D, aC, A, nL)) ⟨hex, hx, hb, hml, hown, hts, hK, hnd, hcl, hA, hcc, hcsl, hfr, hloc⟩ hd hwd (hC _ (List.mem_filter.mpr ⟨hmem, rfl⟩)) (fun h3 => absurd (of_decide_eq_true hop) (Nat.not_lt.mpr h3)) (fun h => fall hp h rfl) h
  | invokestatic idx =>
    dsimp only [stp] at h
    exact acall_sound (e := (pc, .invokestatic idx, lab, a, b, kI, kL, sw)) (X := (p, l, e0, R, s, m, args, below, meth, c, cells, slots, Q, cs, ρ, D, aC, A, nL)) ⟨hex, hx, hb, hml, hown, hts, hK, hnd, hcl, hA, hcc, hcsl, hfr, hloc⟩ hd hwd (hC _ (List.mem_filter.mpr ⟨hmem, rfl⟩)) (fun h3 => ⟨Nat.le_antisymm (of_decide_eq_true hop) h3, idx, rfl⟩) (fun h => fall hp h rfl) h
  | ireturn =>
    dsimp only [stp] at h
    match st, h with
    | [.inl x], h => exact hrI x w pc ls h hd
    | [], h => cases h
    | .inl _ :: _ :: _, h => cases h
    | .inr _ :: _, h => cases h
  | lreturn =>
    dsimp only [stp] at h
    match st, h with
    | [.inr (.inl x)], h => exact hrL x w pc ls h hd
    | [], h => cases h
    | .inl _ :: _, h => cases h
    | .inr (.inr _) :: _, h => cases h
    | .inr (.inl _) :: _ :: _, h => cases h
  | return_ =>
    dsimp only [stp] at h
    match st, h with
    | [], h => exact hrV w pc ls h hd
    | _ :: _, h => cases h
  | _ => cases h
theorem run_sound {ρ' : Type} {r : ρ'} {X : XT} {cc : ByteArray} {own : String} {tab : List EN} (G : GX X cc own) (T : TK cc own (xnL X) tab) {oI : Nat → List AV → Wd → Option (Int32 × Wd)} {oL : Nat → List AV → Wd → Option (Int64 × Wd)} {oV : Nat → List AV → Wd → Option Wd} {rI : Int32 → Wd → Option ρ'} {rL : Int64 → Wd → Option ρ'} {rV : Wd → Option ρ'} {K : Nat → LV → List AV → Wd → Option ρ'}
    (hrI : ∀ x w pc ls, rI x w = some r → decode cc pc = .ok (.ireturn, 1) → WW X pc ls [.inl x] w) (hrL : ∀ x w pc ls, rL x w = some r → decode cc pc = .ok (.lreturn, 1) → WW X pc ls [.inr (.inl x)] w) (hrV : ∀ w pc ls, rV w = some r → decode cc pc = .ok (.return_, 1) → WW X pc ls [] w)
    (hC : CRs X tab oI oL oV) (P : LV → Prop) (hPk : keepsP P tab) (hK : ∀ j ls st w, P ls → K j ls st w = some r → WW X (pcAt tab j) ls st w) :
    ∀ (n j : Nat) (ls : LV) (st : List AV) (w : Wd), P ls → run oI oL oV rI rL rV tab K n (tab.drop j) ls st w = some r → WW X (pcAt tab j) ls st w
  | 0, _, _, _, _, _, h => by cases h
  | n + 1, j, ls, st, w, hp, h => by
    unfold run at h
    cases hj : tab[j]? with
    | none =>
      rw [List.drop_eq_nil_of_le (List.getElem?_eq_none_iff.mp hj)] at h
      cases h
    | some e =>
      have hdr : tab.drop j = e :: tab.drop (j + 1) := by
        have hl := (List.getElem?_eq_some_iff.mp hj).1
        rw [List.drop_eq_getElem_cons hl, (List.getElem?_eq_some_iff.mp hj).2]
      rw [hdr] at h
      have := stp_sound (r := r) G T (oI := oI) (oL := oL) (oV := oV) (rI := rI) (rL := rL) (rV := rV) (go := nxt K (run oI oL oV rI rL rV tab K n)) P hPk (fun j ls st w hp h => by
        cases hj : tab[j]? with
        | none =>
          rw [List.drop_eq_nil_of_le (List.getElem?_eq_none_iff.mp hj)] at h
          cases h
        | some e =>
          have hdr : tab.drop j = e :: tab.drop (j + 1) := by
            have hl := (List.getElem?_eq_some_iff.mp hj).1
            rw [List.drop_eq_getElem_cons hl, (List.getElem?_eq_some_iff.mp hj).2]
          obtain ⟨-, -, hlab, -⟩ := tok_at T.1 hj
          rw [hdr] at h
          unfold nxt at h
          dsimp only at h
          rcases hlab with hlab | hlab
          · rw [hlab] at h
            rw [← hdr] at h
            exact run_sound G T hrI hrL hrV hC P hPk hK n j ls st w hp h
          · rw [hlab] at h
            exact hK j ls st w hp h) (fun _ _ _ => rfl) hrI hrL hrV hC hj hp h
      have hp : pcAt tab j = e.1 := by unfold pcAt; rw [hj]
      rw [hp]
      exact this

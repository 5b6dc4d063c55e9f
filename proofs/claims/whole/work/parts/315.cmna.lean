/-! ===== constructors: rows, the step ===== -/
def nrs (ds : List (Nat × Nat)) : AV → Bool
  | .inr (.inr q) => !ds.contains q
  | _ => true
def nrsL (ds : List (Nat × Nat)) : LV → Bool
  | [] => true
  | none :: r => nrsL ds r
  | some v :: r => nrs ds v && nrsL ds r
section
variable {ds : List (Nat × Nat)} {ρ ρ1 : Nat → Nat → Nat}
theorem trv_agr (h : ∀ k i, (k, i) ∉ ds → ρ1 k i = ρ k i) {v : AV} (hv : nrs ds v = true) : trv ρ1 v = trv ρ v := by
  match v, hv with
  | .inl _, _ => rfl
  | .inr (.inl _), _ => rfl
  | .inr (.inr q), hv =>
    show Value.ref (ρ1 q.1 q.2) = Value.ref (ρ q.1 q.2)
    rw [h q.1 q.2 (fun z => by
      have : ds.contains q = true := List.contains_iff_mem.mpr z
      simp [nrs] at hv
      exact hv z)]
theorem map_agr (h : ∀ k i, (k, i) ∉ ds → ρ1 k i = ρ k i) {st : List AV} (hs : st.all (nrs ds) = true) : st.map (trv ρ1) = st.map (trv ρ) :=
  List.map_congr_left (fun v hv => trv_agr h (List.all_eq_true.mp hs v hv))
theorem lva_agr (h : ∀ k i, (k, i) ∉ ds → ρ1 k i = ρ k i) : ∀ (ls : LV) (b : Nat), nrsL ds ls = true → lva ρ1 b ls = lva ρ b ls
  | [], _, _ => rfl
  | none :: r, b, hl => lva_agr h r (b + 1) hl
  | some v :: r, b, hl => by
    have h' : nrs ds v = true ∧ nrsL ds r = true := by simpa [nrsL] using hl
    show (b, trv ρ1 v) :: lva ρ1 (b + 1) r = (b, trv ρ v) :: lva ρ (b + 1) r
    rw [trv_agr h h'.1, lva_agr h r (b + 1) h'.2]
theorem lvr_agr (h : ∀ k i, (k, i) ∉ ds → ρ1 k i = ρ k i) {nL : Nat} {la : Array Slot} {ls : LV} (hn : nrsL ds ls = true) (hl : lvr ρ la nL ls) : lvr ρ1 la nL ls := ⟨hl.1, by rw [lva_agr h ls 0 hn]; exact hl.2⟩
theorem agr_more {n0 : Nat} {ρ0 : Nat → Nat → Nat} {cs : List (Nat × Nat)} (hle : n0 ≤ cs.length) (hρ : ∀ k i, (k, i) ∉ cs.drop n0 → ρ k i = ρ0 k i) (h : ∀ k i, (k, i) ∉ ds → ρ1 k i = ρ k i) : ∀ k i, (k, i) ∉ (cs ++ ds).drop n0 → ρ1 k i = ρ0 k i := by
  intro k i hm
  rw [List.drop_append_of_le_length hle] at hm
  rw [h k i (fun z => hm (List.mem_append_right _ z))]
  exact hρ _ _ (fun z => hm (List.mem_append_left _ z))
end
theorem cons_eq {α : Type} {a b : α} {r t : List α} (h1 : a = b) (h2 : r = t) : a :: r = b :: t := by rw [h1, h2]
/-- the cells of an array of rows -/
def rowC (k i : Nat) : List (Nat × Nat) := (k, i) :: (List.range (ln k i)).map (fun j => (rk k, j + ln k i * i))
def rupR (ρ : Nat → Nat → Nat) (k i q : Nat) (r : Nat → Nat) : Nat → Nat → Nat := fun k' i' => if k' = k ∧ i' = i then q else if k' = rk k ∧ ln k i * i ≤ i' ∧ i' < ln k i * i + ln k i then r (i' - ln k i * i) else ρ k' i'
theorem rupR_out {ρ : Nat → Nat → Nat} {k i q : Nat} {r : Nat → Nat} : ∀ k' i', (k', i') ∉ rowC k i → rupR ρ k i q r k' i' = ρ k' i' := by
  intro k' i' h
  unfold rupR
  rw [if_neg (fun z => h (by rw [z.1, z.2]; exact List.mem_cons_self)), if_neg (fun z => h (List.mem_cons_of_mem _ (List.mem_map.mpr ⟨i' - ln k i * i, List.mem_range.mpr (by omega), by rw [z.1]; exact Prod.ext rfl (by show i' - ln k i * i + ln k i * i = i'; omega)⟩)))]
theorem rupR_0 {ρ : Nat → Nat → Nat} {k i q : Nat} {r : Nat → Nat} : rupR ρ k i q r k i = q := by unfold rupR; rw [if_pos ⟨rfl, rfl⟩]
theorem rupR_j {ρ : Nat → Nat → Nat} {k i q j : Nat} {r : Nat → Nat} (hk : rk k ≠ k) (hj : j < ln k i) : rupR ρ k i q r (rk k) (j + ln k i * i) = r j := by
  unfold rupR
  rw [if_neg (fun z => hk z.1), if_pos ⟨rfl, by omega, by omega⟩, show j + ln k i * i - ln k i * i = j by omega]
theorem ln_3 {k : Nat} (h : k ≠ 3) (i : Nat) : ln k i = lnL.getD k 0 := by unfold ln; rw [if_neg h]
section
variable {X : XT} {cc : ByteArray} {own : String} {ext : List (Nat × Nat)} {pc : Nat} {ls : LV} {st : List AV} {S : CS} {w : Wd}
theorem CI_rows {k i nc ns : Nat} (hI : CI S ext w) (hk : (kd k).1 = 6) (hr : (kd (rk k)).1 = 2) (hf : ∀ c ∈ rowC k i, c ∉ S.1 ++ ext) (hnd : (rowC k i).Nodup) : CI (S.1 ++ rowC k i, S.2.1, S.2.2.1, nc, ns) ext (zrows w (rowC k i)) := by
  obtain ⟨h1, h2, h3, h4⟩ := hI
  refine ⟨?_, fun k' i' hm => ?_, fun k' i' f hc => List.mem_append_left _ (h3 k' i' f hc), fun k' i' f x hx => by rw [zrows_R]; exact h4 k' i' f x hx⟩
  · refine List.nodup_append.mpr ⟨h1, hnd, fun a ha b hb e => ?_⟩
    exact hf b hb (List.mem_append_left _ (e ▸ ha))
  · rcases List.mem_append.mp hm with hm | hm
    · have hne : (k', i') ∉ rowC k i := fun z => hf _ z (List.mem_append_left _ hm)
      refine clN_mono (al := S.1 ++ ext) (fun q hq => ?_) (fun f _ _ q hq => ?_) (h2 k' i' hm)
      · rcases List.mem_append.mp hq with hq | hq
        · exact List.mem_append_left _ (List.mem_append_left _ hq)
        · exact List.mem_append_right _ hq
      · rw [← hq]
        obtain ⟨e1, e2⟩ := zrows_out (rowC k i) w k' i' hne
        exact (fget_congr e1 e2 (by rw [zrows_R]) f _).symm
    · have hno : ∀ f, S.2.1.contains (k', i', f) = true → False := fun f hc => hf _ hm (List.mem_append_left _ (h3 _ _ f hc))
      rcases List.mem_cons.mp hm with hm | hm
      · cases hm
        refine ⟨by omega, fun _ f _ hc => absurd hc (fun z => hno f z), fun _ j hj => List.mem_append_left _ (List.mem_append_right _ (List.mem_cons_of_mem _ (List.mem_map.mpr ⟨j, List.mem_range.mpr hj, rfl⟩)))⟩
      · obtain ⟨j, hj, e⟩ := List.mem_map.mp hm
        cases e
        exact ⟨by omega, fun z => by omega, fun z => by omega⟩
theorem picN_rows {k i q : Nat} {r : Nat → Nat} {ρ : Nat → Nat → Nat} {aC : Nat → ClassId} (hI : CI S ext w) (hk : (kd k).1 = 6) (hr : (kd (rk k)).1 = 2) (hr3 : rk k ≠ 3) (hf : ∀ c ∈ rowC k i, c ∉ S.1 ++ ext) :
    picN S.2.1 (S.1 ++ rowC k i) (rupR ρ k i q r) aC (zrows w (rowC k i)) = picN S.2.1 S.1 ρ aC w ++ rwE (aC 6) (aC 2) (ln k i) (lnL.getD (rk k) 0) q r := by
  obtain ⟨h1, h2, h3, h4⟩ := hI
  have hkr : rk k ≠ k := fun z => by rw [z] at hr; omega
  rw [picN_app]
  have e : picN S.2.1 (rowC k i) (rupR ρ k i q r) aC (zrows w (rowC k i)) = rwE (aC 6) (aC 2) (ln k i) (lnL.getD (rk k) 0) q r := by
    unfold rwE
    show (rupR ρ k i q r k i, entN S.2.1 (rupR ρ k i q r) aC (zrows w (rowC k i)) k i) :: (((List.range (ln k i)).map (fun j => (rk k, j + ln k i * i))).map fun c => (rupR ρ k i q r c.1 c.2, entN S.2.1 (rupR ρ k i q r) aC (zrows w (rowC k i)) c.1 c.2)) = _
    rw [rupR_0, entN_6 hk, List.map_map]
    refine cons_eq ?_ (List.map_congr_left (fun j hj => ?_))
    · refine congrArg (fun z => ((q, Sum.inl (aC 6, ln k i, Sum.inr (Sum.inr (Sum.inr (Sum.inr z))))) : Nat × va_E)) (funext fun j => ?_)
      by_cases hj : j < ln k i
      · rw [if_pos hj, if_pos hj, rupR_j hkr hj]
      · rw [if_neg hj, if_neg hj]
    · have hj := List.mem_range.mp hj
      show (rupR ρ k i q r (rk k) (j + ln k i * i), entN S.2.1 (rupR ρ k i q r) aC (zrows w (rowC k i)) (rk k) (j + ln k i * i)) = _
      rw [rupR_j hkr hj, entN_a (by omega) (by omega), ent_2 hr, ln_3 hr3, (zrows_in (rowC k i) w (rk k) (j + ln k i * i) (List.mem_cons_of_mem _ (List.mem_map.mpr ⟨j, List.mem_range.mpr hj, rfl⟩))).1]
  rw [e]
  refine congrArg (· ++ _) (picN_cong (fun c hc => ?_))
  have hne : (c.1, c.2) ∉ rowC k i := fun z => hf _ z (List.mem_append_left _ hc)
  obtain ⟨e1, e2⟩ := zrows_out (rowC k i) w c.1 c.2 hne
  exact ⟨rupR_out _ _ hne, entN_eq (al := S.1 ++ ext) e1 e2 (by rw [zrows_R]) (fun _ => rfl) (fun q' hq' => rupR_out _ _ (fun z => hf _ z hq')) (h2 c.1 c.2 hc)⟩
def mnaW (own : String) (idx : Nat) : List Cond := [.classLink own idx "[[I", .arrayClass .int]
theorem cs_mna (G : GC X cc own) {idx k i : Nat} {n x : Int32} (hd : decode cc pc = .ok (.multianewarray idx 2, 4)) (hk : (kd k).1 = 6) (hr : (kd (rk k)).1 = 2) (hr3 : rk k ≠ 3) (hw : ∀ x ∈ mnaW own idx, x ∈ lwg) (hf : ∀ c ∈ rowC k i, c ∉ S.1 ++ ext) (hnd : (rowC k i).Nodup) (hst : st.all (nrs (rowC k i)) = true) (hls : nrsL (rowC k i) ls = true) (hn0 : ¬ n < 0) (hnn : n.toNatClampNeg = ln k i) (hx0 : ¬ x < 0) (hxn : x.toNatClampNeg = lnL.getD (rk k) 0) (hl1 : ln k i ≤ 10000) (hl2 : lnL.getD (rk k) 0 ≤ 10000)
    (hc1 : S.2.2.2.1 + (1 + ln k i) ≤ X.2.2.2.2.2.2.2.2.2.2.1) (hs1 : S.2.2.2.2 + (ln k i + ln k i * lnL.getD (rk k) 0) ≤ X.2.2.2.2.2.2.2.2.2.2.2.1)
    (h : CW X ext (pc + 4) ls (.inr (.inr (k, i)) :: st) (S.1 ++ rowC k i, S.2.1, S.2.2.1, S.2.2.2.1 + 1 + ln k i, S.2.2.2.2 + ln k i + ln k i * lnL.getD (rk k) 0) (zrows w (rowC k i))) : CW X ext pc ls (.inl x :: .inl n :: st) S w := by
  obtain ⟨p, l, e0, R, s, m, args, below, meth, c, mc, ms, Q, cs0, ρ0, D, aC, A, nL⟩ := X
  obtain ⟨hex, hen, hx, hb, hml, hown, hts, hK, hA, hcc, hcs, hfr, hlo, hin⟩ := G
  dsimp only at hc1 hs1
  intro ρ H locs la hle hρ hl hI hP hD hS
  refine va_mnF (cy := aC 2) (cz := aC 6) hx hb hown (hts _ (hw _ (by simp only [mnaW]; exact List.mem_cons_self))) hen.2 (hts _ (hw _ (by simp [mnaW]))) (hK.2 0 (aC 2, .int) rfl).2 (hK.2 4 (aC 6, .array .int) rfl).2 hP hD hS hA hn0 hx0 hnn hxn hl1 hl2 (by omega) (by omega) hd (fun q r H1 hP1 hD1 hS1 => ?_)
  have ep := picN_rows (q := q) (r := r) (ρ := ρ) (aC := aC) hI hk hr hr3 hf
  have ag : ∀ k' i', (k', i') ∉ rowC k i → rupR ρ k i q r k' i' = ρ k' i' := rupR_out
  have g := h (rupR ρ k i q r) H1 locs la (by show cs0.length ≤ (S.1 ++ rowC k i).length; rw [List.length_append]; omega) (agr_more hle hρ ag) (lvr_agr ag hls hl) (CI_rows hI hk hr hf hnd) (by show va_P D classes (picN S.2.1 (S.1 ++ rowC k i) (rupR ρ k i q r) aC (zrows w (rowC k i))) H1; rw [ep]; exact hP1) (by show va_D A (picN S.2.1 (S.1 ++ rowC k i) (rupR ρ k i q r) aC (zrows w (rowC k i))); rw [ep]; exact hD1) hS1
  have em : (List.map (trv (rupR ρ k i q r)) (.inr (.inr (k, i)) :: st)) = .ref q :: st.map (trv ρ) := by
    rw [List.map_cons, map_agr ag hst]
    show Value.ref (rupR ρ k i q r k i) :: _ = _
    rw [rupR_0]
  rw [em] at g
  exact g
end

/-! ===== constructors: the rule of a call of a method; runs of callees ===== -/
theorem crc_virt {X : XT} {cc : ByteArray} {own : String} {ext : List (Nat × Nat)} {F : Nat → Wd → Option Wd} {L : Nat → List (Nat × Nat)} (G : GC X cc own) (hF : ∀ n w w1, F n w = some w1 → agW (L n) w w1) {e : CE} {idx : Nat} {y : MethodName} {b : ByteArray} {nL lev na mc ms mc1 ms1 : Nat} (hmc : X.2.2.2.2.2.2.2.2.2.2.1 = mc) (hms : X.2.2.2.2.2.2.2.2.2.2.2.1 = ms) (hd : decode cc e.1 = .ok (.invokevirtual idx, 3)) (hw : ∀ x ∈ cwdV own idx y b nL none, x ∈ lwg)
    (hm : mdOk y na) (hR : lev + 1 ≤ (xR X).frames ∧ 8 + (nL + 11) + 80 * lev ≤ (xR X).locals) {f : List AV → CS → Option (CS × List WO)}
    (hf : ∀ as S S1 ops, f as S = some (S1, ops) → ∃ (sub ext1 : List (Nat × Nat)) (T : CS) (c : Nat × Nat) (t : List AV), cJn L sub ext ext1 mc ms mc1 ms1 S T ops ∧ S1 = cEnd sub mc1 ms1 S T ∧ as = .inr (.inr c) :: t ∧ t.length = na ∧ (c ∈ S.1 ∧ (kd c.1).1 = 1 ∧ ∃ q, classes[(kd c.1).2.1]? = some q ∧ q.1 = y.cls) ∧ ∀ w w1, CI (cSub S sub) ext1 w → wops F ops w = some w1 → SndC y b nL lev mc1 ms1 as ext1 (cSub S sub) T w w1) : CRC X ext F e f := by
  intro as rest S S1 ops w w1 ls hfa hW h8 hrn hln k
  obtain ⟨sub, ext1, T, c, t, ⟨⟨j1, j2, j3⟩, j4, j5, j6, j7, j8, j9, j10⟩, rfl, rfl, hlen, ⟨hcm, hk1, qq, hqq, hqy⟩, hM⟩ := hf as S S1 ops hfa
  obtain ⟨p, l, e0, R, s, m, args, below, meth, c0, mc0, ms0, Q, cs0, ρ0, D, aC, A, nL0⟩ := X
  obtain ⟨hex, hen, hx, hb, hml, hown, hts, hK, hA, hcc, hcs, hfr, hlo, hin⟩ := G
  dsimp only at hmc hms
  subst hmc hms
  have hsub : ∀ c ∈ sub, c ∈ S.1 := fun c hc => List.contains_iff_mem.mp (List.all_eq_true.mp j1 c hc)
  have hT : T.1 = sub ++ T.1.drop sub.length := by
    have := List.take_append_drop sub.length T.1
    rw [j4] at this
    exact this.symm
  have hnw : ∀ c ∈ T.1.drop sub.length, c ∉ S.1 ++ ext := fun c hc z => by
    have := List.all_eq_true.mp j5 c hc
    rw [List.contains_iff_mem.mpr z] at this
    cases this
  have hu5 : ∀ k i f, S.2.1.contains (k, i, f) = true → (k, i) ∈ sub → T.2.1.contains (k, i, f) = true := fun k i f h hm => List.all_eq_true.mp j6 _ (List.mem_filter.mpr ⟨List.contains_iff_mem.mp h, List.contains_iff_mem.mpr hm⟩)
  have hdr : (cEnd sub mc1 ms1 S T).1.drop S.1.length = T.1.drop sub.length := by
    show (S.1 ++ T.1.drop sub.length).drop S.1.length = _
    rw [List.drop_append_of_le_length (Nat.le_refl _), List.drop_length, List.nil_append]
  rw [hdr] at hrn hln
  intro ρ H locs la hle hρ hl hI hP hD hS
  have hIs := CI_sub (ext1 := ext1) hI j2 j3
  have hPs := picP_sub hsub hP
  have hDs := picD_sub hsub j2 hD
  have M := hM w w1 hIs hW l ρ D aC H.size
  have hFc : ∀ q, va_A (picN (cSub S sub).2.1 (cSub S sub).1 ρ aC w) H.size q → A q := fun q h => by
    rcases picA_iff.mp h with ⟨c', hc', rfl⟩ | h
    · exact picD_A hDs hc'
    · exact hA q (Nat.le_trans hS.1 h)
  obtain ⟨q0, hq0, hq0'⟩ := picN_at (u := S.2.1) (ρ := ρ) (aC := aC) (w := w) (k := c.1) (i := c.2) hcm
  rw [entN_1 hk1] at hq0'
  have hrv := va_recv hK hP hqq hq0'
  rw [hqy] at hrv
  have cw := cwV (R := R) (s := s) (args := args) (own := own) (index := idx) (C := y.cls) (y := y) (bytes := b) (maxL := nL) (ret := none) (ws := wsy y b nL none) (rm := rmC lev mc1 ms1) (mc := mc1) (ms := ms1) na hts (lwg_GoodIn (fun w hw1 => by
    unfold wsV wsy at hw1
    rcases List.mem_append.mp hw1 with h1 | h1
    · exact hw w (by unfold cwdV; simp at h1 ⊢; rcases h1 with h1 | h1 | h1 | h1 <;> simp [h1])
    · rcases List.mem_cons.mp h1 with h2 | h2
      · exact hw w (by unfold cwdV; simp [h2])
      · exact h2)) rfl rfl rfl ⟨rfl, hm⟩ hR
  have hlen' : (t.map (trv ρ)).length = na := by rw [List.length_map]; exact hlen
  have run : va_Run p l e0 R s m args below meth c0 H locs S.2.2.2.1 S.2.2.2.2 mc1 ms1 (F0 m e.1 la ((((Sum.inr (Sum.inr c) : AV) :: t).reverse ++ rest).map (trv ρ))) (rest.map (trv ρ)) (va_Qv (fun ρ1 : Nat → Nat → Nat => ∀ k i, (k, i) ∉ T.1.drop (cSub S sub).1.length → ρ1 k i = ρ k i) (BwN T ext1 D aC (va_A (picN (cSub S sub).2.1 (cSub S sub).1 ρ aC w) H.size) w1) (va_A (picN (cSub S sub).2.1 (cSub S sub).1 ρ aC w) H.size) (Value.ref (ρ c.1 c.2) :: t.map (trv ρ)).toArray) (va_A (picN (cSub S sub).2.1 (cSub S sub).1 ρ aC w) H.size) := by
    exact va_runV (rest := rest.map (trv ρ)) (As := t.map (trv ρ)) (b := ρ c.1 c.2) (cells := S.2.2.2.1) (slots := S.2.2.2.2) ⟨hx, hb, hml, hown, hts⟩ M cw ⟨PcN.blind, hrv, fun U hU hWm => ⟨rfl, by rw [hU], by rw [hU]; exact hPs, va_K.moved hWm.alike hK, hDs.weaken (fun _ _ _ _ => trivial), (exS_agr hI hρ hex).on hWm hU hS hFc, exN.warm hWm hen⟩⟩ rfl hlen' hl.2.1 (by rw [trv_arg]; simp [trv]) (lv_room (by rw [catS_tr]; exact h8)) hd ⟨by omega, by omega⟩
  refine va_callv run hS (fun q _ h => hFc q h) hFc (fun ρ1 t1 H1 locs1 ht hvm hag hB hz hk hS1 => ?_)
  obtain ⟨hP1, hD1, hI1⟩ := hB
  rw [ht] at hP1
  have hWo := wops_out hF ops w w1 hW j8
  obtain ⟨hPj, hDj⟩ := pic_join (us := (cSub S sub).2.1) hI hI1 hsub hT hnw hu5 hWo hag hP hD hP1 hD1 hk hFc
  have hIj : CI (cEnd sub mc1 ms1 S T) ext w1 := CI_join hI hI1 hsub hT hnw hu5 (fun c hc => List.contains_iff_mem.mp (List.all_eq_true.mp j7 c hc)) hWo (fun k i f x hx => by
    rcases List.mem_append.mp hx with hx | hx
    · exact Or.inl hx
    · obtain ⟨a1, a2⟩ := List.mem_filter.mp hx
      exact Or.inr ⟨a1, fun z => by
        dsimp only at a2
        rw [List.contains_iff_mem.mpr z] at a2
        cases a2⟩)
  have g := k ρ1 H1 locs1 la (by show cs0.length ≤ (S.1 ++ T.1.drop sub.length).length; rw [List.length_append]; omega) (agr_more hle hρ hag) (lvr_agr hag hln hl) hIj hPj hDj hS1
  rw [map_agr hag hrn] at g
  exact g

def cJnB (L : Nat → List (Nat × Nat)) (sub ext ext1 : List (Nat × Nat)) (mc ms mc1 ms1 : Nat) (S T : CS) (ops : List WO) : Bool := (sub.all S.1.contains && (decide (sub.Nodup) && sub.all (clB (sub ++ ext1) (cSub S sub)))) && (decide (T.1.take sub.length = sub) && ((T.1.drop sub.length).all (fun c => !(S.1 ++ ext).contains c) && ((S.2.1.filter (inS sub)).all T.2.1.contains && (ext1.all (S.1 ++ ext).contains && (ops.all (lop L T.1) && (decide (S.2.2.2.1 + mc1 ≤ mc) && decide (S.2.2.2.2 + ms1 ≤ ms)))))))
theorem cJnB_of {L : Nat → List (Nat × Nat)} {sub ext ext1 : List (Nat × Nat)} {mc ms mc1 ms1 : Nat} {S T : CS} {ops : List WO} (h : cJnB L sub ext ext1 mc ms mc1 ms1 S T ops = true) : cJn L sub ext ext1 mc ms mc1 ms1 S T ops := by
  unfold cJnB at h
  simp only [Bool.and_eq_true, decide_eq_true_eq] at h
  obtain ⟨⟨a1, a2, a3⟩, a4, a5, a6, a7, a8, a9, a10⟩ := h
  exact ⟨⟨a1, a2, a3⟩, a4, a5, a6, a7, a8, a9, a10⟩
/-- what a call makes of the caller's state: the callee's run over the cells that it gets -/
def oN (L : Nat → List (Nat × Nat)) (mc ms : Nat) (ext : List (Nat × Nat)) (k0 nL na mc1 ms1 : Nat) (sub ext1 : List AV → List (Nat × Nat)) (R : List AV → CS → Option (CS × List WO)) (as : List AV) (S : CS) : Option (CS × List WO) := match as with
  | .inr (.inr c) :: t => if (c.1 = k0 ∧ t.length = na ∧ (entA as).length ≤ nL ∧ S.1.contains c = true) then (R as (cSub S (sub as))).bind fun q => if cJnB L (sub as) ext (ext1 as) mc ms mc1 ms1 S q.1 q.2 = true ∧ q.1.2.2.2.1 ≤ mc1 ∧ q.1.2.2.2.2 ≤ ms1 then some (cEnd (sub as) mc1 ms1 S q.1, q.2) else none else none
  | _ => none
/-- a callee's run is sound -/
def RS (F : Nat → Wd → Option Wd) (y : MethodName) (b : ByteArray) (nL lev mc1 ms1 k0 na : Nat) (ext1 : List AV → List (Nat × Nat)) (R : List AV → CS → Option (CS × List WO)) : Prop := ∀ (i : Nat) (t : List AV) (S0 T : CS) (ops : List WO) (w w1 : Wd), t.length = na → (entA (.inr (.inr (k0, i)) :: t)).length ≤ nL → S0.2.2.2 = (0, 0) → R (.inr (.inr (k0, i)) :: t) S0 = some (T, ops) → T.2.2.2.1 ≤ mc1 → T.2.2.2.2 ≤ ms1 → CI S0 (ext1 (.inr (.inr (k0, i)) :: t)) w → wops F ops w = some w1 → SndC y b nL lev mc1 ms1 (.inr (.inr (k0, i)) :: t) (ext1 (.inr (.inr (k0, i)) :: t)) S0 T w w1
theorem oN_some {L : Nat → List (Nat × Nat)} {mc ms : Nat} {ext : List (Nat × Nat)} {k0 nL na mc1 ms1 : Nat} {sub ext1 : List AV → List (Nat × Nat)} {R : List AV → CS → Option (CS × List WO)} {as : List AV} {S S1 : CS} {ops : List WO} (h : oN L mc ms ext k0 nL na mc1 ms1 sub ext1 R as S = some (S1, ops)) : ∃ i t T, as = .inr (.inr (k0, i)) :: t ∧ t.length = na ∧ (entA as).length ≤ nL ∧ (k0, i) ∈ S.1 ∧ R as (cSub S (sub as)) = some (T, ops) ∧ cJn L (sub as) ext (ext1 as) mc ms mc1 ms1 S T ops ∧ T.2.2.2.1 ≤ mc1 ∧ T.2.2.2.2 ≤ ms1 ∧ S1 = cEnd (sub as) mc1 ms1 S T := by
  unfold oN at h
  split at h
  · rename_i c t
    obtain ⟨⟨h1, h2, h3, h4⟩, h⟩ := if_some _ h
    obtain ⟨q, hq, h⟩ := bind_some' h
    obtain ⟨⟨h5, h6, h7⟩, h⟩ := if_some _ h
    cases h
    obtain ⟨k, i⟩ := c
    cases h1
    exact ⟨i, t, q.1, rfl, h2, h3, List.contains_iff_mem.mp h4, hq, cJnB_of h5, h6, h7, rfl⟩
  · cases h
section
variable {X : XT} {cc : ByteArray} {own : String} {ext : List (Nat × Nat)} {F : Nat → Wd → Option Wd} {L : Nat → List (Nat × Nat)} {e : CE} {idx : Nat} {y : MethodName} {b : ByteArray} {nL lev na mc ms mc1 ms1 k0 : Nat} {sub ext1 : List AV → List (Nat × Nat)} {R : List AV → CS → Option (CS × List WO)}
theorem crc_N {nest : Bool} (G : GC X cc own) (hF : ∀ n w w1, F n w = some w1 → agW (L n) w w1) (hmc : X.2.2.2.2.2.2.2.2.2.2.1 = mc) (hms : X.2.2.2.2.2.2.2.2.2.2.2.1 = ms) (hd : decode cc e.1 = .ok (.invokespecial idx, 3)) (hw : ∀ x ∈ ciW own idx y b nL nest, x ∈ lwg) (hns : nest = true → Cond.methodLinkNest own idx y RX11 ∈ nestL) (hyn : y.name = "<init>") (hm : mdOk y na) (hR : lev + 1 ≤ (xR X).frames ∧ 8 + (nL + 11) + 80 * lev ≤ (xR X).locals) (h : RS F y b nL lev mc1 ms1 k0 na ext1 R) : CRC X ext F e (oN L mc ms ext k0 nL na mc1 ms1 sub ext1 R) :=
  crc_init (nest := nest) (y := y) (b := b) (nL := nL) (lev := lev) (na := na) (mc1 := mc1) (ms1 := ms1) G hF hmc hms hd hw hns hyn hm hR (fun as S S1 ops ho => by
    obtain ⟨i, t, T, rfl, h2, h3, h4, h5, h6, h7, h8, h9⟩ := oN_some ho
    exact ⟨_, _, T, (k0, i), t, h6, h9, rfl, h2, fun w w1 hI hW => h i t _ T ops w w1 h2 h3 rfl h5 h7 h8 hI hW⟩)
theorem crc_M (G : GC X cc own) (hF : ∀ n w w1, F n w = some w1 → agW (L n) w w1) (hmc : X.2.2.2.2.2.2.2.2.2.2.1 = mc) (hms : X.2.2.2.2.2.2.2.2.2.2.2.1 = ms) (hd : decode cc e.1 = .ok (.invokevirtual idx, 3)) (hw : ∀ x ∈ cwdV own idx y b nL none, x ∈ lwg) (hm : mdOk y na) (hR : lev + 1 ≤ (xR X).frames ∧ 8 + (nL + 11) + 80 * lev ≤ (xR X).locals) (hk : (kd k0).1 = 1 ∧ ∃ q, classes[(kd k0).2.1]? = some q ∧ q.1 = y.cls) (h : RS F y b nL lev mc1 ms1 k0 na ext1 R) : CRC X ext F e (oN L mc ms ext k0 nL na mc1 ms1 sub ext1 R) :=
  crc_virt (y := y) (b := b) (nL := nL) (lev := lev) (na := na) (mc1 := mc1) (ms1 := ms1) G hF hmc hms hd hw hm hR (fun as S S1 ops ho => by
    obtain ⟨i, t, T, rfl, h2, h3, h4, h5, h6, h7, h8, h9⟩ := oN_some ho
    exact ⟨_, _, T, (k0, i), t, h6, h9, rfl, h2, ⟨h4, hk.1, hk.2⟩, fun w w1 hI hW => h i t _ T ops w w1 h2 h3 rfl h5 h7 h8 hI hW⟩)
/-- a constructor that is a table -/
def rTab (oC : List AV → Nat → List AV → CS → Option (CS × List WO)) (mc1 ms1 nL : Nat) (ext1 : List AV → List (Nat × Nat)) (tab : Nat → List CE) (as : List AV) (S0 : CS) : Option (CS × List WO) := match as with
  | .inr (.inr c) :: _ => crun (oC as) mc1 ms1 (ext1 as) (entL nL as) (tab c.2) [] S0
  | _ => none
theorem RS_run {tab : Nat → List CE} {oC : List AV → Nat → List AV → CS → Option (CS × List WO)} (hy : plainFor y = true) (hyn : y.name = "<init>") (h0 : ∀ i, ∃ e r, tab i = e :: r ∧ e.1 = 0) (hok : ∀ i, ctok b y.cls (tab i) = true) (hw : ∀ i, ∀ e' ∈ tab i, ∀ x ∈ cwd y.cls e', x ∈ lwg)
    (hC : ∀ i t, ∀ X : XT, GC X b y.cls → X.2.2.2.2.2.2.2.2.2.2.1 = mc1 → X.2.2.2.2.2.2.2.2.2.2.2.1 = ms1 → xR X = rmC (lev + 1) mc1 ms1 → ∀ e' ∈ (tab i).filter cCall, CRC X (ext1 (.inr (.inr (k0, i)) :: t)) F e' (oC (.inr (.inr (k0, i)) :: t) e'.2.2.1)) : RS F y b nL (lev + 1) mc1 ms1 k0 na ext1 (rTab oC mc1 ms1 nL ext1 tab) := by
  intro i t S0 T ops w w1 h1 h2 hz h3 h4 h5 hI hW
  obtain ⟨e0, r0, ht, he⟩ := h0 i
  obtain ⟨a1, a2, a3, a4⟩ := S0
  cases hz
  unfold rTab at h3
  dsimp only at h3
  have hok := hok i
  have hw := hw i
  have hC := hC i t
  rw [ht] at h3 hok hw hC
  exact SndC.run (tab := r0) (e := e0) (F := F) (ops := ops) hy hyn h2 hI hok he hw (fun X G q1 q2 q3 e' he' hc => hC X G q1 q2 q3 e' (List.mem_filter.mpr ⟨he', hc⟩)) h3 hW h4 h5
end
/-- a run without calls up to the table's end -/
def crunP (mc ms : Nat) (ext : List (Nat × Nat)) (ls : LV) : List CE → List AV → CS → Option (List AV × CS × List WO)
  | [], st, S => some (st, S, [])
  | e :: rest, st, S => (cstp mc ms ext ls e st S).bind fun q => (crunP mc ms ext ls rest q.1 q.2.1).bind fun z => some (z.1, z.2.1, q.2.2 ++ z.2.2)
def cend : Nat → List CE → Nat
  | p, [] => p
  | _, e :: r => cend (e.1 + ciln e) r
theorem crunP_sound {X : XT} {cc : ByteArray} {own : String} {ext : List (Nat × Nat)} {ls : LV} {mc ms : Nat} (G : GC X cc own) (hmc : X.2.2.2.2.2.2.2.2.2.2.1 = mc) (hms : X.2.2.2.2.2.2.2.2.2.2.2.1 = ms) {F : Nat → Wd → Option Wd} {st1 : List AV} {S1 : CS} {w1 : Wd} : ∀ (tab : List CE) (pc : Nat) (st : List AV) (S : CS) (ops : List WO) (w : Wd), ctok cc own tab = true → (∀ e r, tab = e :: r → e.1 = pc) → (∀ e' ∈ tab, ∀ x ∈ cwd own e', x ∈ lwg) → crunP mc ms ext ls tab st S = some (st1, S1, ops) → wops F ops w = some w1 → CW X ext (cend pc tab) ls st1 S1 w1 → CW X ext pc ls st S w := by
  intro tab
  induction tab with
  | nil =>
    intro pc st S ops w ht hp hw h hW k
    cases h
    cases hW
    exact k
  | cons e tab ih =>
    intro pc st S ops w ht hp hw h hW k
    have e1 := hp e tab rfl
    subst e1
    unfold ctok at ht
    rw [Bool.and_eq_true, Bool.and_eq_true, Bool.and_eq_true] at ht
    obtain ⟨hd, hk, hnx, ht'⟩ := ht
    unfold crunP at h
    obtain ⟨q, hq, h⟩ := bind_some' h
    obtain ⟨z, hz, h⟩ := bind_some' h
    cases h
    rw [wops_app] at hW
    obtain ⟨w2, hW1, hW2⟩ := bind_some' hW
    have g := ih (e.1 + ciln e) q.1 q.2.1 z.2.2 w2 ht' (fun e' r he => by
      rw [he] at hnx
      exact eq_of_beq hnx) (fun e0 h0 => hw e0 (List.mem_cons_of_mem _ h0)) hz hW2 k
    exact cstp_sound G hmc hms (of_decide_eq_true hd) hk (hw e List.mem_cons_self) hq hW1 g

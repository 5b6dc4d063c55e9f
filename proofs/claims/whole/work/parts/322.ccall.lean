/-! ===== constructors: the rule of a call of a constructor ===== -/
/-- what a call of a constructor gives, on closed data: T is the callee's end -/
def cJn (L : Nat → List (Nat × Nat)) (sub ext ext1 : List (Nat × Nat)) (mc ms mc1 ms1 : Nat) (S T : CS) (ops : List WO) : Prop := (sub.all S.1.contains = true ∧ sub.Nodup ∧ sub.all (clB (sub ++ ext1) (cSub S sub)) = true) ∧ T.1.take sub.length = sub ∧ (T.1.drop sub.length).all (fun c => !(S.1 ++ ext).contains c) = true ∧ (S.2.1.filter (inS sub)).all T.2.1.contains = true ∧ ext1.all (S.1 ++ ext).contains = true ∧ ops.all (lop L T.1) = true ∧ S.2.2.2.1 + mc1 ≤ mc ∧ S.2.2.2.2 + ms1 ≤ ms
def cEnd (sub : List (Nat × Nat)) (mc1 ms1 : Nat) (S T : CS) : CS := (S.1 ++ T.1.drop sub.length, T.2.1 ++ S.2.1, T.2.2.1 ++ S.2.2.1.filter (fun x => !T.1.contains (x.1, x.2.1)), S.2.2.2.1 + mc1, S.2.2.2.2 + ms1)
/-- the words of a call of a constructor: by a link of its own, or between nest mates -/
def ciW (own : String) (idx : Nat) (y : MethodName) (b : ByteArray) (nL : Nat) (nest : Bool) : List Cond := (if nest then [] else [.methodLink own idx y]) ++ [.instanceMethod y, .initialized y.cls, .code y b nL none]
theorem crc_init {X : XT} {cc : ByteArray} {own : String} {ext : List (Nat × Nat)} {F : Nat → Wd → Option Wd} {L : Nat → List (Nat × Nat)} (G : GC X cc own) (hF : ∀ n w w1, F n w = some w1 → agW (L n) w w1) {e : CE} {idx : Nat} {y : MethodName} {b : ByteArray} {nL lev na mc ms mc1 ms1 : Nat} {nest : Bool} (hmc : X.2.2.2.2.2.2.2.2.2.2.1 = mc) (hms : X.2.2.2.2.2.2.2.2.2.2.2.1 = ms) (hd : decode cc e.1 = .ok (.invokespecial idx, 3)) (hw : ∀ x ∈ ciW own idx y b nL nest, x ∈ lwg) (hns : nest = true → Cond.methodLinkNest own idx y RX11 ∈ nestL) (hyn : y.name = "<init>")
    (hm : y.cls ≠ "java/lang/invoke/MethodHandle" ∧ y.cls ≠ "java/lang/invoke/VarHandle" ∧ (parseMethodDescriptor y.desc).map (fun d => d.parameters.length) = some na) (hR : lev + 1 ≤ (xR X).frames ∧ 8 + (nL + 11) + 80 * lev ≤ (xR X).locals) {f : List AV → CS → Option (CS × List WO)}
    (hf : ∀ as S S1 ops, f as S = some (S1, ops) → ∃ (sub ext1 : List (Nat × Nat)) (T : CS) (c : Nat × Nat) (t : List AV), cJn L sub ext ext1 mc ms mc1 ms1 S T ops ∧ S1 = cEnd sub mc1 ms1 S T ∧ as = .inr (.inr c) :: t ∧ t.length = na ∧ ∀ w w1, CI (cSub S sub) ext1 w → wops F ops w = some w1 → SndC y b nL lev mc1 ms1 as ext1 (cSub S sub) T w w1) : CRC X ext F e f := by
  intro as rest S S1 ops w w1 ls hfa hW h8 hrn hln k
  obtain ⟨sub, ext1, T, c, t, ⟨⟨j1, j2, j3⟩, j4, j5, j6, j7, j8, j9, j10⟩, rfl, rfl, hlen, hM⟩ := hf as S S1 ops hfa
  obtain ⟨p, l, e0, R, s, m, args, below, meth, c0, mc0, ms0, Q, cs0, ρ0, D, aC, A, nL0⟩ := X
  obtain ⟨hex, hen, hx, hb, hml, hown, hts, hK, hA, hcc, hcs, hfr, hlo, hin⟩ := G
  dsimp only at hmc hms
  subst hmc hms
  have hsub : ∀ c ∈ sub, c ∈ S.1 := fun c hc => List.contains_iff_mem.mp (List.all_eq_true.mp j1 c hc)
  have hT : T.1 = sub ++ T.1.drop sub.length := by
    have := List.take_append_drop sub.length T.1
    rw [j4] at this
    exact this.symm
  have hnw : ∀ c ∈ T.1.drop sub.length, c ∉ S.1 ++ ext := fun c hc z => by
    have := List.all_eq_true.mp j5 c hc
    rw [List.contains_iff_mem.mpr z] at this
    cases this
  have hu5 : ∀ k i f, S.2.1.contains (k, i, f) = true → (k, i) ∈ sub → T.2.1.contains (k, i, f) = true := fun k i f h hm => List.all_eq_true.mp j6 _ (List.mem_filter.mpr ⟨List.contains_iff_mem.mp h, List.contains_iff_mem.mpr hm⟩)
  have hdr : (cEnd sub mc1 ms1 S T).1.drop S.1.length = T.1.drop sub.length := by
    show (S.1 ++ T.1.drop sub.length).drop S.1.length = _
    rw [List.drop_append_of_le_length (Nat.le_refl _), List.drop_length, List.nil_append]
  rw [hdr] at hrn hln
  intro ρ H locs la hle hρ hl hI hP hD hS
  have hIs := CI_sub (ext1 := ext1) hI j2 j3
  have hPs := picP_sub hsub hP
  have hDs := picD_sub hsub j2 hD
  have M := hM w w1 hIs hW l ρ D aC H.size
  have hFc : ∀ q, va_A (picN (cSub S sub).2.1 (cSub S sub).1 ρ aC w) H.size q → A q := fun q h => by
    rcases picA_iff.mp h with ⟨c', hc', rfl⟩ | h
    · exact picD_A hDs hc'
    · exact hA q (Nat.le_trans hS.1 h)
  have hG : GoodIn lwg (wsy y b nL none) := lwg_GoodIn (fun w hw1 => by
    unfold wsy at hw1
    rcases List.mem_cons.mp hw1 with h2 | h2
    · exact hw w (by unfold ciW; simp [h2])
    · exact h2)
  have hpre : PreS s H (va_Pc (((Sum.inr (Sum.inr c) : AV) :: t).map (trv ρ)) (PcN (cSub S sub) ρ D aC H.size w)) (.ref (ρ c.1 c.2) :: t.map (trv ρ)) := ⟨PcN.blind, fun U hU hWm => ⟨rfl, by rw [hU], by rw [hU]; exact hPs, va_K.moved hWm.alike hK, hDs.weaken (fun _ _ _ _ => trivial), (exS_agr hI hρ hex).on hWm hU hS hFc, exN.warm hWm hen⟩⟩
  have hlen' : (t.map (trv ρ)).length = na := by rw [List.length_map]; exact hlen
  have run : va_Run p l e0 R s m args below meth c0 H locs S.2.2.2.1 S.2.2.2.2 mc1 ms1 (F0 m e.1 la ((((Sum.inr (Sum.inr c) : AV) :: t).reverse ++ rest).map (trv ρ))) (rest.map (trv ρ)) (va_Qv (fun ρ1 : Nat → Nat → Nat => ∀ k i, (k, i) ∉ T.1.drop (cSub S sub).1.length → ρ1 k i = ρ k i) (BwN T ext1 D aC (va_A (picN (cSub S sub).2.1 (cSub S sub).1 ρ aC w) H.size) w1) (va_A (picN (cSub S sub).2.1 (cSub S sub).1 ρ aC w) H.size) (Value.ref (ρ c.1 c.2) :: t.map (trv ρ)).toArray) (va_A (picN (cSub S sub).2.1 (cSub S sub).1 ρ aC w) H.size) := by
    cases nest with
    | false => exact va_runI (rest := rest.map (trv ρ)) (As := t.map (trv ρ)) (b := ρ c.1 c.2) (cells := S.2.2.2.1) (slots := S.2.2.2.2) ⟨hx, hb, hml, hown, hts⟩ M (cwI na hts hG rfl rfl rfl (hts _ (hw _ (by simp [ciW]))) (hts _ (hw _ (by simp [ciW]))) (hts _ (hw _ (by simp [ciW]))) hyn hm hR) hpre rfl hlen' hl.2.1 (by rw [trv_arg]; simp [trv]) (lv_room (by rw [catS_tr]; exact h8)) hd ⟨by omega, by omega⟩
    | true => exact va_runIN (rest := rest.map (trv ρ)) (As := t.map (trv ρ)) (b := ρ c.1 c.2) (cells := S.2.2.2.1) (slots := S.2.2.2.2) ⟨hx, hb, hml, hown, hts⟩ M ⟨va_cnB na hts hG rfl rfl rfl (hen.1 _ (hns rfl)) (hts _ (hw _ (by simp [ciW]))) hm hR, hyn, hts _ (hw _ (by simp [ciW]))⟩ hpre rfl hlen' hl.2.1 (by rw [trv_arg]; simp [trv]) (lv_room (by rw [catS_tr]; exact h8)) hd ⟨by omega, by omega⟩
  refine va_callv run hS (fun q _ h => hFc q h) hFc (fun ρ1 t1 H1 locs1 ht hvm hag hB hz hk hS1 => ?_)
  obtain ⟨hP1, hD1, hI1⟩ := hB
  rw [ht] at hP1
  have hWo := wops_out hF ops w w1 hW j8
  obtain ⟨hPj, hDj⟩ := pic_join (us := (cSub S sub).2.1) hI hI1 hsub hT hnw hu5 hWo hag hP hD hP1 hD1 hk hFc
  have hIj : CI (cEnd sub mc1 ms1 S T) ext w1 := CI_join hI hI1 hsub hT hnw hu5 (fun c hc => List.contains_iff_mem.mp (List.all_eq_true.mp j7 c hc)) hWo (fun k i f x hx => by
    rcases List.mem_append.mp hx with hx | hx
    · exact Or.inl hx
    · obtain ⟨a1, a2⟩ := List.mem_filter.mp hx
      exact Or.inr ⟨a1, fun z => by
        dsimp only at a2
        rw [List.contains_iff_mem.mpr z] at a2
        cases a2⟩)
  have g := k ρ1 H1 locs1 la (by show cs0.length ≤ (S.1 ++ T.1.drop sub.length).length; rw [List.length_append]; omega) (agr_more hle hρ hag) (lvr_agr hag hln hl) hIj hPj hDj hS1
  rw [map_agr hag hrn] at g
  exact g

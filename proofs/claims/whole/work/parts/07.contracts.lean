/-! ===== contracts over pictures, and calls by them ===== -/
def rmL (lev : Nat) : Room := { frames := lev, cells := 0, slots := 0, locals := 80 * lev }
def wsy (y : MethodName) (b : ByteArray) (nL : Nat) (ret : Option FieldType) : List Cond := Cond.code y b nL ret :: lwg
def Bw (cs : List (Nat × Nat)) (ρ : Nat → Nat → Nat) (D : va_G) (aC : Nat → ClassId) (A : Nat → Prop) (w : Wd) (t : State) : Prop := va_P D classes (pic cs ρ aC w) t.heap ∧ va_K D classes (atys aC) t ∧ va_D A (pic cs ρ aC w) ∧ cloR cs w
def PcW (cs : List (Nat × Nat)) (ρ : Nat → Nat → Nat) (D : va_G) (aC : Nat → ClassId) (sz : Nat) (w : Wd) (U : State) : Prop := U.heap.size = sz ∧ va_P D classes (pic cs ρ aC w) U.heap ∧ va_K D classes (atys aC) U ∧ va_D (fun _ => True) (pic cs ρ aC w) ∧ exS ρ (va_A (pic cs ρ aC w) sz) U
/-- the first value of an instance method's is an object of its class -/
def rcv (y : MethodName) (inst : Bool) (as : List AV) : Prop := inst = true → ∃ k i t, as = .inr (.inr (k, i)) :: t ∧ (kd k).1 = 1 ∧ ∃ q, classes[(kd k).2.1]? = some q ∧ q.1 = y.cls
def SndI (y : MethodName) (b : ByteArray) (nL : Nat) (ret : Option FieldType) (lev na : Nat) (inst : Bool) (f : List AV → Wd → Option (Int32 × Wd)) : Prop :=
  ∀ (l : Launch) (cs : List (Nat × Nat)) (ρ : Nat → Nat → Nat) (D : va_G) (aC : Nat → ClassId) (sz : Nat) (as : List AV) (w : Wd) (x : Int32 × Wd), cs.Nodup → cloS cs → cloR cs w → (∀ v ∈ as, vok cs v) → f as w = some x → rcv y inst as ∧ as.length = na ∧
    Met l y (wsy y b nL ret) (rmL lev) (va_Pc (as.map (trv ρ)) (PcW cs ρ D aC sz w)) (va_Qi (fun (r : Int32) (u : Wd) => (r, u) = x) (Bw cs ρ D aC (va_A (pic cs ρ aC w) sz)) (va_A (pic cs ρ aC w) sz)) 0 0 (va_A (pic cs ρ aC w) sz)
def SndL (y : MethodName) (b : ByteArray) (nL : Nat) (ret : Option FieldType) (lev na : Nat) (inst : Bool) (f : List AV → Wd → Option (Int64 × Wd)) : Prop :=
  ∀ (l : Launch) (cs : List (Nat × Nat)) (ρ : Nat → Nat → Nat) (D : va_G) (aC : Nat → ClassId) (sz : Nat) (as : List AV) (w : Wd) (x : Int64 × Wd), cs.Nodup → cloS cs → cloR cs w → (∀ v ∈ as, vok cs v) → f as w = some x → rcv y inst as ∧ as.length = na ∧
    Met l y (wsy y b nL ret) (rmL lev) (va_Pc (as.map (trv ρ)) (PcW cs ρ D aC sz w)) (va_Ql (fun (r : Int64) (u : Wd) => (r, u) = x) (Bw cs ρ D aC (va_A (pic cs ρ aC w) sz)) (va_A (pic cs ρ aC w) sz)) 0 0 (va_A (pic cs ρ aC w) sz)
def SndV (y : MethodName) (b : ByteArray) (nL : Nat) (ret : Option FieldType) (lev na : Nat) (inst : Bool) (f : List AV → Wd → Option Wd) : Prop :=
  ∀ (l : Launch) (cs : List (Nat × Nat)) (ρ : Nat → Nat → Nat) (D : va_G) (aC : Nat → ClassId) (sz : Nat) (as : List AV) (w : Wd) (x : Wd), cs.Nodup → cloS cs → cloR cs w → (∀ v ∈ as, vok cs v) → f as w = some x → rcv y inst as ∧ as.length = na ∧
    Met l y (wsy y b nL ret) (rmL lev) (va_Pc (as.map (trv ρ)) (PcW cs ρ D aC sz w)) (va_Qv (fun (u : Wd) => u = x) (Bw cs ρ D aC (va_A (pic cs ρ aC w) sz)) (va_A (pic cs ρ aC w) sz)) 0 0 (va_A (pic cs ρ aC w) sz)
theorem lwg_GoodIn {ws : List Cond} (h : ∀ w ∈ ws, w ∈ lwg) : GoodIn lwg ws := fun w hw => ⟨h w hw, good_of_word (List.mem_filter.mp (h w hw)).2⟩
theorem exS.same {ρ : Nat → Nat → Nat} {A : Nat → Prop} {u U : State} (hv : U.vm = u.vm) (hH : U.heap = u.heap) (h : exS ρ A u) : exS ρ A U := by
  refine ⟨va_Nw.same rfl hv.symm h.1, vk_R.same hv h.2.1, vk_R.same hv h.2.2.1, ?_, ?_, ?_⟩
  · rw [hH]
    exact vk_S.moved (by rw [hv]; exact Vm.Alike.refl _) h.2.2.2.1
  · rw [hH]
    exact va_Z.moved (by rw [hv]; exact Vm.Alike.refl _) h.2.2.2.2.1
  · rw [hH]
    exact va_Zq.moved (by rw [hv]; exact Vm.Alike.refl _) h.2.2.2.2.2
theorem PcW.blind {cs : List (Nat × Nat)} {ρ : Nat → Nat → Nat} {D : va_G} {aC : Nat → ClassId} {sz : Nat} {w : Wd} {av : List Value} : FrameBlind (va_Pc av (PcW cs ρ D aC sz w)) := fun a U g mk q => by
  obtain ⟨q0, q1, qP, qK, qD, qE⟩ := q
  exact ⟨q0, q1, qP, va_K.moved (u := U) (U := U.calling g mk a) (Vm.Alike.refl U.vm) qK, qD, qE.same rfl rfl⟩
/-- the room of a method's own state -/
def xR (X : XT) : Room := X.2.2.2.1
theorem pic_free {cs : List (Nat × Nat)} {ρ : Nat → Nat → Nat} {aC : Nat → ClassId} {w : Wd} {A : Nat → Prop} {H0 H : Heap} {locs : List Loc} (hD : va_D A (pic cs ρ aC w)) (hS : va_S A H0 H locs) (hA : ∀ q, H0.size ≤ q → A q) : ∀ q, va_A (pic cs ρ aC w) H.size q → A q := by
  intro q h
  rcases h with ⟨k, e, h⟩ | h
  · exact hD.2 k _ h
  · exact hA q (Nat.le_trans hS.1 h)
theorem trv_arg {ρ : Nat → Nat → Nat} {as rest : List AV} : (as.reverse ++ rest).map (trv ρ) = (as.map (trv ρ)).reverse ++ rest.map (trv ρ) := by
  rw [List.map_append, List.map_reverse]
section CallRules
variable {X : XT} {cc : ByteArray} {own : String} {e : EN} {idx : Nat} {y : MethodName} {b : ByteArray} {nL : Nat} {ret : Option FieldType} {lev na : Nat}
/-- words of a call of an instance method -/
def cwdV (own : String) (idx : Nat) (y : MethodName) (b : ByteArray) (nL : Nat) (ret : Option FieldType) : List Cond := [.methodLink own idx y, .instanceMethod y, .selects y.cls y y, .initialized y.cls, .code y b nL ret]
def cwdS (own : String) (idx : Nat) (y : MethodName) (b : ByteArray) (nL : Nat) (ret : Option FieldType) : List Cond := [.methodLink own idx y, .static y, .initialized y.cls, .code y b nL ret]
def cwdN (y : MethodName) (b : ByteArray) (nL : Nat) (ret : Option FieldType) : List Cond := [.static y, .initialized y.cls, .code y b nL ret]
def mdOk (y : MethodName) (n : Nat) : Prop := y.cls ≠ "java/lang/invoke/MethodHandle" ∧ y.cls ≠ "java/lang/invoke/VarHandle" ∧ (parseMethodDescriptor y.desc).map (fun d => d.parameters.length) = some n
def rmOk (X : XT) (nL lev : Nat) : Prop := lev + 1 ≤ (xR X).frames ∧ 8 + (nL + 11) + 80 * lev ≤ (xR X).locals
theorem crI_V (G : GX X cc own) (hd : decode cc e.1 = .ok (.invokevirtual idx, 3)) {f : List AV → Wd → Option (Int32 × Wd)} (S : SndI y b nL ret lev (na + 1) true f) (hw : ∀ w ∈ cwdV own idx y b nL ret, w ∈ lwg) (hm : mdOk y na) (hr : rmOk X nL lev) : CRI X e f := by
  intro as rest w x ls hf h8 k
  obtain ⟨p, l, e0, R, s, m, args, below, meth, c, cells, slots, Q, cs, ρ, D, aC, A, nL0⟩ := X
  obtain ⟨hex, hx, hb, hml, hown, hts, hK, hnd, hcl, hA, hcc, hcsl, hfr, hloc⟩ := G
  intro H locs la hl hv hs hP hD hS hR
  have hvas : ∀ v ∈ as, vok cs v := fun v h => hs v (List.mem_append_left _ (List.mem_reverse.mpr h))
  have hvrest : ∀ v ∈ rest, vok cs v := fun v h => hs v (List.mem_append_right _ h)
  obtain ⟨hrc, hlen, M⟩ := S l cs ρ D aC H.size as w x hnd hcl hR hvas hf
  obtain ⟨kk, i, t, rfl, hk1, q, hq, hqy⟩ := hrc rfl
  have hFc := pic_free hD hS hA
  have hmq := vin (vh hvas) hk1 (by decide)
  obtain ⟨q0, hq0, hq0'⟩ := pic_at (ρ := ρ) (aC := aC) (w := w) hmq
  rw [ent_1 hk1] at hq0'
  have hrv := va_recv hK hP hq hq0'
  rw [hqy] at hrv
  rw [trv_arg]
  have cw := cwV (R := R) (s := s) (args := args) (own := own) (index := idx) (C := y.cls) (y := y) (bytes := b) (maxL := nL) (ret := ret) (ws := wsy y b nL ret) (rm := rmL lev) (mc := 0) (ms := 0) na hts (lwg_GoodIn (fun w hw1 => by
    unfold wsV wsy at hw1
    rcases List.mem_append.mp hw1 with h1 | h1
    · exact hw w (by unfold cwdV; simp at h1 ⊢; rcases h1 with h1 | h1 | h1 | h1 <;> simp [h1])
    · rcases List.mem_cons.mp h1 with h2 | h2
      · exact hw w (by unfold cwdV; simp [h2])
      · exact h2)) rfl rfl rfl ⟨rfl, hm⟩ hr
  have hlen' : (t.map (trv ρ)).length = na := by
    rw [List.length_map]
    simpa using hlen
  have run := va_runV (rest := rest.map (trv ρ)) (As := t.map (trv ρ)) (b := ρ kk i) (H := H) (locs := locs) (cells := cells) (slots := slots) (below := below) (meth := meth) (e := e0) (g := F0 m e.1 la ((((Sum.inr (Sum.inr (kk, i))) :: t : List AV).map (trv ρ)).reverse ++ rest.map (trv ρ))) ⟨hx, hb, hml, hown, hts⟩ M cw ⟨PcW.blind, hrv, fun U hU hW => ⟨rfl, by rw [hU], by rw [hU]; exact hP, va_K.moved hW.alike hK, hD.weaken (fun _ _ _ _ => trivial), hex.on hW hU hS hFc⟩⟩ rfl hlen' hl.2.1 (by simp [trv]) (lv_room (by rw [catS_tr]; exact h8)) hd ⟨hcc, hcsl⟩
  exact va_calli run hS (fun q _ h => hFc q h) hFc (fun r u t1 H1 locs1 ht hvm hw1 hB _ _ hS1 => by
    obtain ⟨hP1, hK1, hD1, hR1⟩ := hB
    rw [ht] at hP1
    have e1 : r = x.1 := congrArg Prod.fst hw1
    have e2 : u = x.2 := congrArg Prod.snd hw1
    subst e1 e2
    exact k H1 locs1 la hl hv (vc trivial hvrest) hP1 (hD1.weaken (fun _ q _ hq => hFc _ hq)) hS1 hR1)
theorem crI_S (G : GX X cc own) (hd : decode cc e.1 = .ok (.invokestatic idx, 3)) {f : List AV → Wd → Option (Int32 × Wd)} (S : SndI y b nL ret lev na false f) (hw : ∀ w ∈ cwdS own idx y b nL ret, w ∈ lwg) (hm : mdOk y na) (hr : rmOk X nL lev) : CRI X e f := by
  intro as rest w x ls hf h8 k
  obtain ⟨p, l, e0, R, s, m, args, below, meth, c, cells, slots, Q, cs, ρ, D, aC, A, nL0⟩ := X
  obtain ⟨hex, hx, hb, hml, hown, hts, hK, hnd, hcl, hA, hcc, hcsl, hfr, hloc⟩ := G
  intro H locs la hl hv hs hP hD hS hR
  have hvas : ∀ v ∈ as, vok cs v := fun v h => hs v (List.mem_append_left _ (List.mem_reverse.mpr h))
  have hvrest : ∀ v ∈ rest, vok cs v := fun v h => hs v (List.mem_append_right _ h)
  obtain ⟨hrc, hlen, M⟩ := S l cs ρ D aC H.size as w x hnd hcl hR hvas hf
  have hFc := pic_free hD hS hA
  rw [trv_arg]
  have cw := va_cwS (R := R) (s := s) (args := args) (own := own) (index := idx) (y := y) (bytes := b) (maxL := nL) (ret := ret) (ws := wsy y b nL ret) (rm := rmL lev) (mc := 0) (ms := 0) na hts (lwg_GoodIn (fun w hw1 => by
    unfold va_wsS wsy at hw1
    rcases List.mem_append.mp hw1 with h1 | h1
    · exact hw w (by unfold cwdS; simp at h1 ⊢; rcases h1 with h1 | h1 | h1 <;> simp [h1])
    · rcases List.mem_cons.mp h1 with h2 | h2
      · exact hw w (by unfold cwdS; simp [h2])
      · exact h2)) rfl rfl rfl hm hr
  have hlen' : (as.map (trv ρ)).length = na := by
    rw [List.length_map]
    exact hlen
  have run := va_runS (rest := rest.map (trv ρ)) (As := as.map (trv ρ)) (H := H) (locs := locs) (cells := cells) (slots := slots) (below := below) (meth := meth) (e := e0) (g := F0 m e.1 la ((as.map (trv ρ)).reverse ++ rest.map (trv ρ))) ⟨hx, hb, hml, hown, hts⟩ M cw ⟨PcW.blind, fun U hU hW => ⟨rfl, by rw [hU], by rw [hU]; exact hP, va_K.moved hW.alike hK, hD.weaken (fun _ _ _ _ => trivial), hex.on hW hU hS hFc⟩⟩ rfl hlen' hl.2.1 rfl (lv_room (by rw [catS_tr]; exact h8)) hd ⟨hcc, hcsl⟩
  exact va_calli run hS (fun q _ h => hFc q h) hFc (fun r u t1 H1 locs1 ht hvm hw1 hB _ _ hS1 => by
    obtain ⟨hP1, hK1, hD1, hR1⟩ := hB
    rw [ht] at hP1
    have e1 : r = x.1 := congrArg Prod.fst hw1
    have e2 : u = x.2 := congrArg Prod.snd hw1
    subst e1 e2
    exact k H1 locs1 la hl hv (vc trivial hvrest) hP1 (hD1.weaken (fun _ q _ hq => hFc _ hq)) hS1 hR1)
theorem crL_V (G : GX X cc own) (hd : decode cc e.1 = .ok (.invokevirtual idx, 3)) {f : List AV → Wd → Option (Int64 × Wd)} (S : SndL y b nL ret lev (na + 1) true f) (hw : ∀ w ∈ cwdV own idx y b nL ret, w ∈ lwg) (hm : mdOk y na) (hr : rmOk X nL lev) : CRL X e f := by
  intro as rest w x ls hf h8 k
  obtain ⟨p, l, e0, R, s, m, args, below, meth, c, cells, slots, Q, cs, ρ, D, aC, A, nL0⟩ := X
  obtain ⟨hex, hx, hb, hml, hown, hts, hK, hnd, hcl, hA, hcc, hcsl, hfr, hloc⟩ := G
  intro H locs la hl hv hs hP hD hS hR
  have hvas : ∀ v ∈ as, vok cs v := fun v h => hs v (List.mem_append_left _ (List.mem_reverse.mpr h))
  have hvrest : ∀ v ∈ rest, vok cs v := fun v h => hs v (List.mem_append_right _ h)
  obtain ⟨hrc, hlen, M⟩ := S l cs ρ D aC H.size as w x hnd hcl hR hvas hf
  obtain ⟨kk, i, t, rfl, hk1, q, hq, hqy⟩ := hrc rfl
  have hFc := pic_free hD hS hA
  have hmq := vin (vh hvas) hk1 (by decide)
  obtain ⟨q0, hq0, hq0'⟩ := pic_at (ρ := ρ) (aC := aC) (w := w) hmq
  rw [ent_1 hk1] at hq0'
  have hrv := va_recv hK hP hq hq0'
  rw [hqy] at hrv
  rw [trv_arg]
  have cw := cwV (R := R) (s := s) (args := args) (own := own) (index := idx) (C := y.cls) (y := y) (bytes := b) (maxL := nL) (ret := ret) (ws := wsy y b nL ret) (rm := rmL lev) (mc := 0) (ms := 0) na hts (lwg_GoodIn (fun w hw1 => by
    unfold wsV wsy at hw1
    rcases List.mem_append.mp hw1 with h1 | h1
    · exact hw w (by unfold cwdV; simp at h1 ⊢; rcases h1 with h1 | h1 | h1 | h1 <;> simp [h1])
    · rcases List.mem_cons.mp h1 with h2 | h2
      · exact hw w (by unfold cwdV; simp [h2])
      · exact h2)) rfl rfl rfl ⟨rfl, hm⟩ hr
  have hlen' : (t.map (trv ρ)).length = na := by
    rw [List.length_map]
    simpa using hlen
  have run := va_runV (rest := rest.map (trv ρ)) (As := t.map (trv ρ)) (b := ρ kk i) (H := H) (locs := locs) (cells := cells) (slots := slots) (below := below) (meth := meth) (e := e0) (g := F0 m e.1 la ((((Sum.inr (Sum.inr (kk, i))) :: t : List AV).map (trv ρ)).reverse ++ rest.map (trv ρ))) ⟨hx, hb, hml, hown, hts⟩ M cw ⟨PcW.blind, hrv, fun U hU hW => ⟨rfl, by rw [hU], by rw [hU]; exact hP, va_K.moved hW.alike hK, hD.weaken (fun _ _ _ _ => trivial), hex.on hW hU hS hFc⟩⟩ rfl hlen' hl.2.1 (by simp [trv]) (lv_room (by rw [catS_tr]; exact h8)) hd ⟨hcc, hcsl⟩
  exact va_calll run hS (fun q _ h => hFc q h) hFc (fun r u t1 H1 locs1 ht hvm hw1 hB _ _ hS1 => by
    obtain ⟨hP1, hK1, hD1, hR1⟩ := hB
    rw [ht] at hP1
    have e1 : r = x.1 := congrArg Prod.fst hw1
    have e2 : u = x.2 := congrArg Prod.snd hw1
    subst e1 e2
    exact k H1 locs1 la hl hv (vc trivial hvrest) hP1 (hD1.weaken (fun _ q _ hq => hFc _ hq)) hS1 hR1)
theorem crL_S (G : GX X cc own) (hd : decode cc e.1 = .ok (.invokestatic idx, 3)) {f : List AV → Wd → Option (Int64 × Wd)} (S : SndL y b nL ret lev na false f) (hw : ∀ w ∈ cwdS own idx y b nL ret, w ∈ lwg) (hm : mdOk y na) (hr : rmOk X nL lev) : CRL X e f := by
  intro as rest w x ls hf h8 k
  obtain ⟨p, l, e0, R, s, m, args, below, meth, c, cells, slots, Q, cs, ρ, D, aC, A, nL0⟩ := X
  obtain ⟨hex, hx, hb, hml, hown, hts, hK, hnd, hcl, hA, hcc, hcsl, hfr, hloc⟩ := G
  intro H locs la hl hv hs hP hD hS hR
  have hvas : ∀ v ∈ as, vok cs v := fun v h => hs v (List.mem_append_left _ (List.mem_reverse.mpr h))
  have hvrest : ∀ v ∈ rest, vok cs v := fun v h => hs v (List.mem_append_right _ h)
  obtain ⟨hrc, hlen, M⟩ := S l cs ρ D aC H.size as w x hnd hcl hR hvas hf
  have hFc := pic_free hD hS hA
  rw [trv_arg]
  have cw := va_cwS (R := R) (s := s) (args := args) (own := own) (index := idx) (y := y) (bytes := b) (maxL := nL) (ret := ret) (ws := wsy y b nL ret) (rm := rmL lev) (mc := 0) (ms := 0) na hts (lwg_GoodIn (fun w hw1 => by
    unfold va_wsS wsy at hw1
    rcases List.mem_append.mp hw1 with h1 | h1
    · exact hw w (by unfold cwdS; simp at h1 ⊢; rcases h1 with h1 | h1 | h1 <;> simp [h1])
    · rcases List.mem_cons.mp h1 with h2 | h2
      · exact hw w (by unfold cwdS; simp [h2])
      · exact h2)) rfl rfl rfl hm hr
  have hlen' : (as.map (trv ρ)).length = na := by
    rw [List.length_map]
    exact hlen
  have run := va_runS (rest := rest.map (trv ρ)) (As := as.map (trv ρ)) (H := H) (locs := locs) (cells := cells) (slots := slots) (below := below) (meth := meth) (e := e0) (g := F0 m e.1 la ((as.map (trv ρ)).reverse ++ rest.map (trv ρ))) ⟨hx, hb, hml, hown, hts⟩ M cw ⟨PcW.blind, fun U hU hW => ⟨rfl, by rw [hU], by rw [hU]; exact hP, va_K.moved hW.alike hK, hD.weaken (fun _ _ _ _ => trivial), hex.on hW hU hS hFc⟩⟩ rfl hlen' hl.2.1 rfl (lv_room (by rw [catS_tr]; exact h8)) hd ⟨hcc, hcsl⟩
  exact va_calll run hS (fun q _ h => hFc q h) hFc (fun r u t1 H1 locs1 ht hvm hw1 hB _ _ hS1 => by
    obtain ⟨hP1, hK1, hD1, hR1⟩ := hB
    rw [ht] at hP1
    have e1 : r = x.1 := congrArg Prod.fst hw1
    have e2 : u = x.2 := congrArg Prod.snd hw1
    subst e1 e2
    exact k H1 locs1 la hl hv (vc trivial hvrest) hP1 (hD1.weaken (fun _ q _ hq => hFc _ hq)) hS1 hR1)
theorem crV_V (G : GX X cc own) (hd : decode cc e.1 = .ok (.invokevirtual idx, 3)) {f : List AV → Wd → Option (Wd)} (S : SndV y b nL ret lev (na + 1) true f) (hw : ∀ w ∈ cwdV own idx y b nL ret, w ∈ lwg) (hm : mdOk y na) (hr : rmOk X nL lev) : CRV X e f := by
  intro as rest w x ls hf h8 k
  obtain ⟨p, l, e0, R, s, m, args, below, meth, c, cells, slots, Q, cs, ρ, D, aC, A, nL0⟩ := X
  obtain ⟨hex, hx, hb, hml, hown, hts, hK, hnd, hcl, hA, hcc, hcsl, hfr, hloc⟩ := G
  intro H locs la hl hv hs hP hD hS hR
  have hvas : ∀ v ∈ as, vok cs v := fun v h => hs v (List.mem_append_left _ (List.mem_reverse.mpr h))
  have hvrest : ∀ v ∈ rest, vok cs v := fun v h => hs v (List.mem_append_right _ h)
  obtain ⟨hrc, hlen, M⟩ := S l cs ρ D aC H.size as w x hnd hcl hR hvas hf
  obtain ⟨kk, i, t, rfl, hk1, q, hq, hqy⟩ := hrc rfl
  have hFc := pic_free hD hS hA
  have hmq := vin (vh hvas) hk1 (by decide)
  obtain ⟨q0, hq0, hq0'⟩ := pic_at (ρ := ρ) (aC := aC) (w := w) hmq
  rw [ent_1 hk1] at hq0'
  have hrv := va_recv hK hP hq hq0'
  rw [hqy] at hrv
  rw [trv_arg]
  have cw := cwV (R := R) (s := s) (args := args) (own := own) (index := idx) (C := y.cls) (y := y) (bytes := b) (maxL := nL) (ret := ret) (ws := wsy y b nL ret) (rm := rmL lev) (mc := 0) (ms := 0) na hts (lwg_GoodIn (fun w hw1 => by
    unfold wsV wsy at hw1
    rcases List.mem_append.mp hw1 with h1 | h1
    · exact hw w (by unfold cwdV; simp at h1 ⊢; rcases h1 with h1 | h1 | h1 | h1 <;> simp [h1])
    · rcases List.mem_cons.mp h1 with h2 | h2
      · exact hw w (by unfold cwdV; simp [h2])
      · exact h2)) rfl rfl rfl ⟨rfl, hm⟩ hr
  have hlen' : (t.map (trv ρ)).length = na := by
    rw [List.length_map]
    simpa using hlen
  have run := va_runV (rest := rest.map (trv ρ)) (As := t.map (trv ρ)) (b := ρ kk i) (H := H) (locs := locs) (cells := cells) (slots := slots) (below := below) (meth := meth) (e := e0) (g := F0 m e.1 la ((((Sum.inr (Sum.inr (kk, i))) :: t : List AV).map (trv ρ)).reverse ++ rest.map (trv ρ))) ⟨hx, hb, hml, hown, hts⟩ M cw ⟨PcW.blind, hrv, fun U hU hW => ⟨rfl, by rw [hU], by rw [hU]; exact hP, va_K.moved hW.alike hK, hD.weaken (fun _ _ _ _ => trivial), hex.on hW hU hS hFc⟩⟩ rfl hlen' hl.2.1 (by simp [trv]) (lv_room (by rw [catS_tr]; exact h8)) hd ⟨hcc, hcsl⟩
  exact va_callv run hS (fun q _ h => hFc q h) hFc (fun u t1 H1 locs1 ht hvm hw1 hB _ _ hS1 => by
    obtain ⟨hP1, hK1, hD1, hR1⟩ := hB
    rw [ht] at hP1
    have e2 : u = x := hw1
    subst e2
    exact k H1 locs1 la hl hv hvrest hP1 (hD1.weaken (fun _ q _ hq => hFc _ hq)) hS1 hR1)
theorem crV_S (G : GX X cc own) (hd : decode cc e.1 = .ok (.invokestatic idx, 3)) {f : List AV → Wd → Option (Wd)} (S : SndV y b nL ret lev na false f) (hw : ∀ w ∈ cwdS own idx y b nL ret, w ∈ lwg) (hm : mdOk y na) (hr : rmOk X nL lev) : CRV X e f := by
  intro as rest w x ls hf h8 k
  obtain ⟨p, l, e0, R, s, m, args, below, meth, c, cells, slots, Q, cs, ρ, D, aC, A, nL0⟩ := X
  obtain ⟨hex, hx, hb, hml, hown, hts, hK, hnd, hcl, hA, hcc, hcsl, hfr, hloc⟩ := G
  intro H locs la hl hv hs hP hD hS hR
  have hvas : ∀ v ∈ as, vok cs v := fun v h => hs v (List.mem_append_left _ (List.mem_reverse.mpr h))
  have hvrest : ∀ v ∈ rest, vok cs v := fun v h => hs v (List.mem_append_right _ h)
  obtain ⟨hrc, hlen, M⟩ := S l cs ρ D aC H.size as w x hnd hcl hR hvas hf
  have hFc := pic_free hD hS hA
  rw [trv_arg]
  have cw := va_cwS (R := R) (s := s) (args := args) (own := own) (index := idx) (y := y) (bytes := b) (maxL := nL) (ret := ret) (ws := wsy y b nL ret) (rm := rmL lev) (mc := 0) (ms := 0) na hts (lwg_GoodIn (fun w hw1 => by
    unfold va_wsS wsy at hw1
    rcases List.mem_append.mp hw1 with h1 | h1
    · exact hw w (by unfold cwdS; simp at h1 ⊢; rcases h1 with h1 | h1 | h1 <;> simp [h1])
    · rcases List.mem_cons.mp h1 with h2 | h2
      · exact hw w (by unfold cwdS; simp [h2])
      · exact h2)) rfl rfl rfl hm hr
  have hlen' : (as.map (trv ρ)).length = na := by
    rw [List.length_map]
    exact hlen
  have run := va_runS (rest := rest.map (trv ρ)) (As := as.map (trv ρ)) (H := H) (locs := locs) (cells := cells) (slots := slots) (below := below) (meth := meth) (e := e0) (g := F0 m e.1 la ((as.map (trv ρ)).reverse ++ rest.map (trv ρ))) ⟨hx, hb, hml, hown, hts⟩ M cw ⟨PcW.blind, fun U hU hW => ⟨rfl, by rw [hU], by rw [hU]; exact hP, va_K.moved hW.alike hK, hD.weaken (fun _ _ _ _ => trivial), hex.on hW hU hS hFc⟩⟩ rfl hlen' hl.2.1 rfl (lv_room (by rw [catS_tr]; exact h8)) hd ⟨hcc, hcsl⟩
  exact va_callv run hS (fun q _ h => hFc q h) hFc (fun u t1 H1 locs1 ht hvm hw1 hB _ _ hS1 => by
    obtain ⟨hP1, hK1, hD1, hR1⟩ := hB
    rw [ht] at hP1
    have e2 : u = x := hw1
    subst e2
    exact k H1 locs1 la hl hv hvrest hP1 (hD1.weaken (fun _ q _ hq => hFc _ hq)) hS1 hR1)
theorem crI_N (G : GX X cc "MoorGuides$Reader") (hd : decode cc e.1 = .ok (.invokestatic 195, 3)) {f : List AV → Wd → Option (Int32 × Wd)} (S : SndI yX11_indexOf b nL ret lev na false f) (hw : ∀ w ∈ cwdN yX11_indexOf b nL ret, w ∈ lwg) (hm : mdOk yX11_indexOf na) (hr : rmOk X nL lev) : CRI X e f := by
  intro as rest w x ls hf h8 k
  obtain ⟨p, l, e0, R, s, m, args, below, meth, c, cells, slots, Q, cs, ρ, D, aC, A, nL0⟩ := X
  obtain ⟨hex, hx, hb, hml, hown, hts, hK, hnd, hcl, hA, hcc, hcsl, hfr, hloc⟩ := G
  intro H locs la hl hv hs hP hD hS hR
  have hvas : ∀ v ∈ as, vok cs v := fun v h => hs v (List.mem_append_left _ (List.mem_reverse.mpr h))
  have hvrest : ∀ v ∈ rest, vok cs v := fun v h => hs v (List.mem_append_right _ h)
  obtain ⟨hrc, hlen, M⟩ := S l cs ρ D aC H.size as w x hnd hcl hR hvas hf
  have hFc := pic_free hD hS hA
  rw [trv_arg]
  have cw := va_cnB (R := R) (s := s) (args := args) (own := "MoorGuides$Reader") (host := "MoorGuides") (index := 195) (y := yX11_indexOf) (bytes := b) (maxL := nL) (ret := ret) (ws := wsy yX11_indexOf b nL ret) (rm := rmL lev) (mc := 0) (ms := 0) na hts (lwg_GoodIn (fun w hw1 => by
    unfold wsy at hw1
    rcases List.mem_cons.mp hw1 with h2 | h2
    · exact hw w (by unfold cwdN; simp [h2])
    · exact h2)) rfl rfl rfl hex.1 (hts _ (hw _ (by unfold cwdN; simp))) hm hr
  have hlen' : (as.map (trv ρ)).length = na := by
    rw [List.length_map]
    exact hlen
  have run := va_runSN (rest := rest.map (trv ρ)) (As := as.map (trv ρ)) (H := H) (locs := locs) (cells := cells) (slots := slots) (below := below) (meth := meth) (e := e0) (g := F0 m e.1 la ((as.map (trv ρ)).reverse ++ rest.map (trv ρ))) ⟨hx, hb, hml, hown, hts⟩ M ⟨cw, hts _ (hw _ (by unfold cwdN; simp)), trivial⟩ ⟨PcW.blind, fun U hU hW => ⟨rfl, by rw [hU], by rw [hU]; exact hP, va_K.moved hW.alike hK, hD.weaken (fun _ _ _ _ => trivial), hex.on hW hU hS hFc⟩⟩ rfl hlen' hl.2.1 rfl (lv_room (by rw [catS_tr]; exact h8)) hd ⟨hcc, hcsl⟩
  exact va_calli run hS (fun q _ h => hFc q h) hFc (fun r u t1 H1 locs1 ht hvm hw1 hB _ _ hS1 => by
    obtain ⟨hP1, hK1, hD1, hR1⟩ := hB
    rw [ht] at hP1
    have e1 : r = x.1 := congrArg Prod.fst hw1
    have e2 : u = x.2 := congrArg Prod.snd hw1
    subst e1 e2
    exact k H1 locs1 la hl hv (vc trivial hvrest) hP1 (hD1.weaken (fun _ q _ hq => hFc _ hq)) hS1 hR1)
end CallRules
/-! a method's contract out of its body -/
def entA : List AV → LV
  | [] => []
  | .inr (.inl x) :: r => some (.inr (.inl x)) :: none :: entA r
  | v :: r => some v :: entA r
def entL (nL : Nat) (as : List AV) : LV := entA as ++ List.replicate (nL - (entA as).length) none
theorem entA_len (ρ : Nat → Nat → Nat) : ∀ as : List AV, (lg_sl (as.map (trv ρ))).length = (entA as).length
  | [] => rfl
  | .inl x :: r => by
    show (([Slot.val (Value.int x)] : List Slot) ++ lg_sl (r.map (trv ρ))).length = (some (.inl x) :: entA r).length
    rw [List.length_append, entA_len ρ r]
    simp only [List.length_cons, List.length_nil]
    omega
  | .inr (.inl x) :: r => by
    show (([Slot.val (Value.long x), Slot.second] : List Slot) ++ lg_sl (r.map (trv ρ))).length = (some (.inr (.inl x)) :: none :: entA r).length
    rw [List.length_append, entA_len ρ r]
    simp only [List.length_cons, List.length_nil]
    omega
  | .inr (.inr x) :: r => by
    show (([Slot.val (Value.ref (ρ x.1 x.2))] : List Slot) ++ lg_sl (r.map (trv ρ))).length = (some (.inr (.inr x)) :: entA r).length
    rw [List.length_append, entA_len ρ r]
    simp only [List.length_cons, List.length_nil]
    omega
theorem lva_nones (ρ : Nat → Nat → Nat) : ∀ n b, lva ρ b (List.replicate n none) = []
  | 0, _ => rfl
  | n + 1, b => by rw [List.replicate_succ]; exact lva_nones ρ n (b + 1)
theorem lva_app (ρ : Nat → Nat → Nat) : ∀ (a : LV) (c : LV) (b : Nat), lva ρ b (a ++ c) = lva ρ b a ++ lva ρ (b + a.length) c
  | [], c, b => by simp [lva]
  | none :: r, c, b => by
    simp only [List.cons_append, lva, List.length_cons]
    rw [lva_app ρ r c (b + 1), show b + 1 + r.length = b + (r.length + 1) by omega]
  | some v :: r, c, b => by
    simp only [List.cons_append, lva, List.length_cons]
    rw [lva_app ρ r c (b + 1), show b + 1 + r.length = b + (r.length + 1) by omega]
theorem lva_entA (ρ : Nat → Nat → Nat) : ∀ (as : List AV) (b : Nat), lva ρ b (entA as) = lv_args b (as.map (trv ρ))
  | [], _ => rfl
  | .inl x :: r, b => by simp [entA, lva, lv_args, trv, Value.category, lva_entA ρ r]
  | .inr (.inl x) :: r, b => by simp [entA, lva, lv_args, trv, Value.category, lva_entA ρ r]
  | .inr (.inr x) :: r, b => by simp [entA, lva, lv_args, trv, Value.category, lva_entA ρ r]
theorem ent_lvr (ρ : Nat → Nat → Nat) {as : List AV} {nL : Nat} (h : (entA as).length ≤ nL) : lvr ρ ((lg_sl (as.map (trv ρ)) ++ List.replicate (nL - (lg_sl (as.map (trv ρ))).length) Slot.unset).toArray) nL (entL nL as) := by
  refine ⟨?_, ?_⟩
  · unfold entL
    rw [List.length_append, List.length_replicate]
    omega
  · have := lv_entry (as.map (trv ρ)) (n := nL) (by rw [entA_len]; exact h)
    unfold entL
    rw [lva_app, lva_nones, List.append_nil, lva_entA]
    exact this
theorem entA_ok {cs : List (Nat × Nat)} : ∀ (as : List AV), (∀ v ∈ as, vok cs v) → ∀ i v, (entA as).getD i none = some v → vok cs v
  | [], _, i, v, h => by simp [entA] at h
  | .inl x :: r, hs, 0, v, h => by
    simp [entA] at h
    subst h
    trivial
  | .inl x :: r, hs, i + 1, v, h => entA_ok r (vt hs) i v (by simpa [entA] using h)
  | .inr (.inr x) :: r, hs, 0, v, h => by
    simp [entA] at h
    subst h
    exact vh hs
  | .inr (.inr x) :: r, hs, i + 1, v, h => entA_ok r (vt hs) i v (by simpa [entA] using h)
  | .inr (.inl x) :: r, hs, 0, v, h => by
    simp [entA] at h
    subst h
    trivial
  | .inr (.inl x) :: r, hs, 1, v, h => by simp [entA] at h
  | .inr (.inl x) :: r, hs, i + 2, v, h => entA_ok r (vt hs) i v (by simpa [entA] using h)
theorem ent_ok {cs : List (Nat × Nat)} {as : List AV} {nL : Nat} (hs : ∀ v ∈ as, vok cs v) : ∀ i v, (entL nL as).getD i none = some v → vok cs v := by
  intro i v h
  unfold entL at h
  rw [List.getD_eq_getElem?_getD, List.getElem?_append] at h
  split at h
  · rw [← List.getD_eq_getElem?_getD] at h
    exact entA_ok as hs i v h
  · rw [List.getElem?_replicate] at h
    split at h <;> simp at h
/-- a contract out of a walk: also of a method of a class some of whose methods the machine itself runs -/
theorem Met.ofWF {l : Launch} {y : MethodName} {ws ws' : List Cond} {rm : Room} {Pc : Array Value → State → Prop} {Qc : Array Value → State → Outcome → State → Prop} {mc ms : Nat} {free : Addr → Prop} {cc : ByteArray} {maxL : Nat} {ret : Option FieldType}
    (hy : plainFor y = true) (hw : ws = Cond.code y cc maxL ret :: ws')
    (body : ∀ p e s m args below meth c s₁, BodyLoose p l y (headSpec ws rm) cc maxL ret e s m args below meth c s₁ → c.maxLocals = maxL → Pc args s →
      W p l e (headSpec ws rm).room s m args below meth c s.heap [] 0 0 (MQ below Qc args s mc ms free) (entryFrame m args maxL)) : Met l y ws rm Pc Qc mc ms free := by
  refine MetFree.of_bodySF (code := cc) (maxLocals := maxL) (ret := ret) hy ?_ ?_
  · intro args s m h hn
    obtain ⟨meth, c, h1, h2, h3, h4, h5, h6, -, -⟩ := Cond.code_spec hn (atoms_spec (ws := ws) h _ (by rw [hw]; exact List.mem_cons_self))
    exact ⟨meth, c, h1, h2, h3, h4, h5, h6⟩
  · intro p e s m args below meth c s₁ B hml hP _
    have hh0 : s₁.heap = s.heap := by rw [B.state]; rfl
    obtain ⟨t, a1, o, b1, b2, b3⟩ := body p e s m args below meth c s₁ B hml hP s₁ hh0 (Stand.of_body B)
    exact ⟨t, o, a1, b1, b2, ⟨b3.1, b3.2⟩⟩
def RTI (X : XT) (cc : ByteArray) (x : Int32 × Wd) : Prop := ∀ v w pc ls, (v, w) = x → decode cc pc = .ok (.ireturn, 1) → WW X pc ls [.inl v] w
/-- a flag that comes back is 0 or 1 -/
def retZ (v : Int32) (w : Wd) : Option (Int32 × Wd) := if v &&& 1 = v then some (v, w) else none
theorem retZ_some {v : Int32} {w : Wd} {x : Int32 × Wd} (h : retZ v w = some x) : v &&& 1 = v ∧ (v, w) = x := by
  obtain ⟨h1, h2⟩ := if_some _ h
  exact ⟨h1, Option.some.inj h2⟩
def RTZ (X : XT) (cc : ByteArray) (x : Int32 × Wd) : Prop := ∀ v w pc ls, retZ v w = some x → decode cc pc = .ok (.ireturn, 1) → WW X pc ls [.inl v] w
def RTL (X : XT) (cc : ByteArray) (x : Int64 × Wd) : Prop := ∀ v w pc ls, (v, w) = x → decode cc pc = .ok (.lreturn, 1) → WW X pc ls [.inr (.inl v)] w
def RTV (X : XT) (cc : ByteArray) (x : Wd) : Prop := ∀ w pc ls, w = x → decode cc pc = .ok (.return_, 1) → WW X pc ls [] w

theorem SndI.of {y : MethodName} {b : ByteArray} {nL : Nat} {ret : Option FieldType} {lev na : Nat} {inst : Bool} {f : List AV → Wd → Option (Int32 × Wd)} (tab : List EN) (hy : plainFor y = true) (hpc : pcAt tab 0 = 0) (hret : ret = some .int)
    (hargs : ∀ as w x, f as w = some x → rcv y inst as ∧ as.length = na ∧ (entA as).length ≤ nL)
    (body : ∀ X : XT, GX X b y.cls → xnL X = nL → xR X = rmL (lev + 1) → ∀ (as : List AV) (w : Wd) (x : Int32 × Wd), f as w = some x → RTI X b x → WW X (pcAt tab 0) (entL nL as) [] w) : SndI y b nL ret (lev + 1) na inst f := by
  intro l cs ρ D aC sz as w x hnd hcl hR hvas hf
  obtain ⟨h1, h2, h3⟩ := hargs as w x hf
  refine ⟨h1, h2, ?_⟩
  refine Met.ofWF (cc := b) (maxL := nL) (ret := ret) hy rfl ?_
  intro p e s m args below meth c s₁ B hml hv
  obtain ⟨rfl, hsz, hP, hK, hD0, hex⟩ := hv
  have hx := B.exec
  have hb := B.bytes
  have hr := B.returns
  have hts := atoms_spec (ws := wsy y b nL ret) B.pre
  have hown : s.vm.findClass y.cls = some m.cls := findClass_of_methodNamed B.named
  have hlocks := B.notSynchronized
  subst hsz
  have hD := hD0.self (sz := s.heap.size)
  rw [lg_entry_eq]
  have hRet : RTI (p, l, e, (headSpec (wsy y b nL ret) (rmL (lev + 1))).room, s, m, (as.map (trv ρ)).toArray, below, meth, c, 0, 0, MQ below (va_Qi (fun (r : Int32) (u : Wd) => (r, u) = x) (Bw cs ρ D aC (va_A (pic cs ρ aC w) s.heap.size)) (va_A (pic cs ρ aC w) s.heap.size)) (as.map (trv ρ)).toArray s 0 0 (va_A (pic cs ρ aC w) s.heap.size), cs, ρ, D, aC, va_A (pic cs ρ aC w) s.heap.size, nL) b x := by
    rw [hret] at hr
    intro v w1 pc ls hvx hdd H locs la hl hv1 hs1 hP1 hD1 hS1 hR1
    subst hvx
    exact W.zret (v := v) hx hb hr rfl (fun t ht hW => ⟨⟨v, w1, rfl, rfl, by rw [ht]; exact hP1, va_K.moved hW.alike hK, hD1, hR1⟩, hS1.F ht⟩) hS1.2.2 hdd hlocks
  have k := body _ ⟨hex, hx, hb, hml, hown, fun w h => hts w (List.mem_cons_of_mem _ h), hK, hnd, hcl, fun q h => Or.inr h, Nat.le_refl _, Nat.le_refl _, (show 1 ≤ lev + 1 by omega), (show 64 ≤ 80 * (lev + 1) by omega)⟩ rfl rfl as w x hf hRet
  rw [hpc] at k
  exact k s.heap [] _ (ent_lvr ρ h3) (ent_ok hvas) (fun _ h => by cases h) hP hD va_S.rf hR
theorem SndI.ofZ {y : MethodName} {b : ByteArray} {nL : Nat} {ret : Option FieldType} {lev na : Nat} {inst : Bool} {f : List AV → Wd → Option (Int32 × Wd)} (tab : List EN) (hy : plainFor y = true) (hpc : pcAt tab 0 = 0) (hret : ret = some .boolean)
    (hargs : ∀ as w x, f as w = some x → rcv y inst as ∧ as.length = na ∧ (entA as).length ≤ nL)
    (body : ∀ X : XT, GX X b y.cls → xnL X = nL → xR X = rmL (lev + 1) → ∀ (as : List AV) (w : Wd) (x : Int32 × Wd), f as w = some x → RTZ X b x → WW X (pcAt tab 0) (entL nL as) [] w) : SndI y b nL ret (lev + 1) na inst f := by
  intro l cs ρ D aC sz as w x hnd hcl hR hvas hf
  obtain ⟨h1, h2, h3⟩ := hargs as w x hf
  refine ⟨h1, h2, ?_⟩
  refine Met.ofWF (cc := b) (maxL := nL) (ret := ret) hy rfl ?_
  intro p e s m args below meth c s₁ B hml hv
  obtain ⟨rfl, hsz, hP, hK, hD0, hex⟩ := hv
  have hx := B.exec
  have hb := B.bytes
  have hr := B.returns
  have hts := atoms_spec (ws := wsy y b nL ret) B.pre
  have hown : s.vm.findClass y.cls = some m.cls := findClass_of_methodNamed B.named
  have hlocks := B.notSynchronized
  subst hsz
  have hD := hD0.self (sz := s.heap.size)
  rw [lg_entry_eq]
  have hRet : RTZ (p, l, e, (headSpec (wsy y b nL ret) (rmL (lev + 1))).room, s, m, (as.map (trv ρ)).toArray, below, meth, c, 0, 0, MQ below (va_Qi (fun (r : Int32) (u : Wd) => (r, u) = x) (Bw cs ρ D aC (va_A (pic cs ρ aC w) s.heap.size)) (va_A (pic cs ρ aC w) s.heap.size)) (as.map (trv ρ)).toArray s 0 0 (va_A (pic cs ρ aC w) s.heap.size), cs, ρ, D, aC, va_A (pic cs ρ aC w) s.heap.size, nL) b x := by
    rw [hret] at hr
    intro v w1 pc ls hvz hdd H locs la hl hv1 hs1 hP1 hD1 hS1 hR1
    obtain ⟨hz, hvx⟩ := retZ_some hvz
    subst hvx
    exact W.zret (v := v) hx hb hr (by show Value.int (v &&& 1) = Value.int v; rw [hz]) (fun t ht hW => ⟨⟨v, w1, rfl, rfl, by rw [ht]; exact hP1, va_K.moved hW.alike hK, hD1, hR1⟩, hS1.F ht⟩) hS1.2.2 hdd hlocks
  have k := body _ ⟨hex, hx, hb, hml, hown, fun w h => hts w (List.mem_cons_of_mem _ h), hK, hnd, hcl, fun q h => Or.inr h, Nat.le_refl _, Nat.le_refl _, (show 1 ≤ lev + 1 by omega), (show 64 ≤ 80 * (lev + 1) by omega)⟩ rfl rfl as w x hf hRet
  rw [hpc] at k
  exact k s.heap [] _ (ent_lvr ρ h3) (ent_ok hvas) (fun _ h => by cases h) hP hD va_S.rf hR
theorem SndL.of {y : MethodName} {b : ByteArray} {nL : Nat} {ret : Option FieldType} {lev na : Nat} {inst : Bool} {f : List AV → Wd → Option (Int64 × Wd)} (tab : List EN) (hy : plainFor y = true) (hpc : pcAt tab 0 = 0) (hret : ret = some .long)
    (hargs : ∀ as w x, f as w = some x → rcv y inst as ∧ as.length = na ∧ (entA as).length ≤ nL)
    (body : ∀ X : XT, GX X b y.cls → xnL X = nL → xR X = rmL (lev + 1) → ∀ (as : List AV) (w : Wd) (x : Int64 × Wd), f as w = some x → RTL X b x → WW X (pcAt tab 0) (entL nL as) [] w) : SndL y b nL ret (lev + 1) na inst f := by
  intro l cs ρ D aC sz as w x hnd hcl hR hvas hf
  obtain ⟨h1, h2, h3⟩ := hargs as w x hf
  refine ⟨h1, h2, ?_⟩
  refine Met.ofWF (cc := b) (maxL := nL) (ret := ret) hy rfl ?_
  intro p e s m args below meth c s₁ B hml hv
  obtain ⟨rfl, hsz, hP, hK, hD0, hex⟩ := hv
  have hx := B.exec
  have hb := B.bytes
  have hr := B.returns
  have hts := atoms_spec (ws := wsy y b nL ret) B.pre
  have hown : s.vm.findClass y.cls = some m.cls := findClass_of_methodNamed B.named
  have hlocks := B.notSynchronized
  subst hsz
  have hD := hD0.self (sz := s.heap.size)
  rw [lg_entry_eq]
  have hRet : RTL (p, l, e, (headSpec (wsy y b nL ret) (rmL (lev + 1))).room, s, m, (as.map (trv ρ)).toArray, below, meth, c, 0, 0, MQ below (va_Ql (fun (r : Int64) (u : Wd) => (r, u) = x) (Bw cs ρ D aC (va_A (pic cs ρ aC w) s.heap.size)) (va_A (pic cs ρ aC w) s.heap.size)) (as.map (trv ρ)).toArray s 0 0 (va_A (pic cs ρ aC w) s.heap.size), cs, ρ, D, aC, va_A (pic cs ρ aC w) s.heap.size, nL) b x := by
    rw [hret] at hr
    intro v w1 pc ls hvx hdd H locs la hl hv1 hs1 hP1 hD1 hS1 hR1
    subst hvx
    exact W.lret (v := v) hx hb hr (fun t ht hW => ⟨⟨v, w1, rfl, rfl, by rw [ht]; exact hP1, va_K.moved hW.alike hK, hD1, hR1⟩, hS1.F ht⟩) hS1.2.2 hdd hlocks
  have k := body _ ⟨hex, hx, hb, hml, hown, fun w h => hts w (List.mem_cons_of_mem _ h), hK, hnd, hcl, fun q h => Or.inr h, Nat.le_refl _, Nat.le_refl _, (show 1 ≤ lev + 1 by omega), (show 64 ≤ 80 * (lev + 1) by omega)⟩ rfl rfl as w x hf hRet
  rw [hpc] at k
  exact k s.heap [] _ (ent_lvr ρ h3) (ent_ok hvas) (fun _ h => by cases h) hP hD va_S.rf hR
theorem SndV.of {y : MethodName} {b : ByteArray} {nL : Nat} {ret : Option FieldType} {lev na : Nat} {inst : Bool} {f : List AV → Wd → Option (Wd)} (tab : List EN) (hy : plainFor y = true) (hpc : pcAt tab 0 = 0) (hret : ret = none)
    (hargs : ∀ as w x, f as w = some x → rcv y inst as ∧ as.length = na ∧ (entA as).length ≤ nL)
    (body : ∀ X : XT, GX X b y.cls → xnL X = nL → xR X = rmL (lev + 1) → ∀ (as : List AV) (w : Wd) (x : Wd), f as w = some x → RTV X b x → WW X (pcAt tab 0) (entL nL as) [] w) : SndV y b nL ret (lev + 1) na inst f := by
  intro l cs ρ D aC sz as w x hnd hcl hR hvas hf
  obtain ⟨h1, h2, h3⟩ := hargs as w x hf
  refine ⟨h1, h2, ?_⟩
  refine Met.ofWF (cc := b) (maxL := nL) (ret := ret) hy rfl ?_
  intro p e s m args below meth c s₁ B hml hv
  obtain ⟨rfl, hsz, hP, hK, hD0, hex⟩ := hv
  have hx := B.exec
  have hb := B.bytes
  have hr := B.returns
  have hts := atoms_spec (ws := wsy y b nL ret) B.pre
  have hown : s.vm.findClass y.cls = some m.cls := findClass_of_methodNamed B.named
  have hlocks := B.notSynchronized
  subst hsz
  have hD := hD0.self (sz := s.heap.size)
  rw [lg_entry_eq]
  have hRet : RTV (p, l, e, (headSpec (wsy y b nL ret) (rmL (lev + 1))).room, s, m, (as.map (trv ρ)).toArray, below, meth, c, 0, 0, MQ below (va_Qv (fun (u : Wd) => u = x) (Bw cs ρ D aC (va_A (pic cs ρ aC w) s.heap.size)) (va_A (pic cs ρ aC w) s.heap.size)) (as.map (trv ρ)).toArray s 0 0 (va_A (pic cs ρ aC w) s.heap.size), cs, ρ, D, aC, va_A (pic cs ρ aC w) s.heap.size, nL) b x := by
    rw [hret] at hr
    intro w1 pc ls hvx hdd H locs la hl hv1 hs1 hP1 hD1 hS1 hR1
    subst hvx
    exact W.vret hx hb hr (fun t ht hW => ⟨⟨w1, rfl, rfl, by rw [ht]; exact hP1, va_K.moved hW.alike hK, hD1, hR1⟩, hS1.F ht⟩) hS1.2.2 hdd hlocks
  have k := body _ ⟨hex, hx, hb, hml, hown, fun w h => hts w (List.mem_cons_of_mem _ h), hK, hnd, hcl, fun q h => Or.inr h, Nat.le_refl _, Nat.le_refl _, (show 1 ≤ lev + 1 by omega), (show 64 ≤ 80 * (lev + 1) by omega)⟩ rfl rfl as w x hf hRet
  rw [hpc] at k
  exact k s.heap [] _ (ent_lvr ρ h3) (ent_ok hvas) (fun _ h => by cases h) hP hD va_S.rf hR
/-! the values of a call, one by one -/
section Args
variable {β : Type}
def xR1 (k0 : Nat) (as : List AV) (F : Nat → List AV → Option β) : Option β := match as with
  | .inr (.inr q) :: t => if q.1 = k0 then F q.2 t else none
  | _ => none
/-- the one of its kind -/
def xS1 (k0 : Nat) (as : List AV) (F : List AV → Option β) : Option β := match as with
  | .inr (.inr q) :: t => if q.1 = k0 ∧ q.2 = 0 then F t else none
  | _ => none
/-- an array of any of some kinds -/
def xA1 (ks : List Nat) (as : List AV) (F : Nat → Nat → List AV → Option β) : Option β := match as with
  | .inr (.inr q) :: t => if ks.contains q.1 = true then F q.1 q.2 t else none
  | _ => none
def xI1 (as : List AV) (F : Int32 → List AV → Option β) : Option β := match as with
  | .inl x :: t => F x t
  | _ => none
def xL1 (as : List AV) (F : Int64 → List AV → Option β) : Option β := match as with
  | .inr (.inl x) :: t => F x t
  | _ => none
def xN1 (as : List AV) (F : Option β) : Option β := match as with
  | [] => F
  | _ => none
variable {r : β}
theorem xR1_some {k0 : Nat} {as : List AV} {F : Nat → List AV → Option β} (h : xR1 k0 as F = some r) : ∃ i t, as = .inr (.inr (k0, i)) :: t ∧ F i t = some r := by
  unfold xR1 at h
  split at h
  · rename_i q t
    obtain ⟨h1, h2⟩ := if_some _ h
    exact ⟨q.2, t, by rw [← h1], h2⟩
  · cases h
theorem xS1_some {k0 : Nat} {as : List AV} {F : List AV → Option β} (h : xS1 k0 as F = some r) : ∃ t, as = .inr (.inr (k0, 0)) :: t ∧ F t = some r := by
  unfold xS1 at h
  split at h
  · rename_i q t
    obtain ⟨h1, h2⟩ := if_some _ h
    exact ⟨t, by rw [← h1.1, ← h1.2], h2⟩
  · cases h
theorem xA1_some {ks : List Nat} {as : List AV} {F : Nat → Nat → List AV → Option β} (h : xA1 ks as F = some r) : ∃ k i t, as = .inr (.inr (k, i)) :: t ∧ ks.contains k = true ∧ F k i t = some r := by
  unfold xA1 at h
  split at h
  · rename_i q t
    obtain ⟨h1, h2⟩ := if_some _ h
    exact ⟨q.1, q.2, t, rfl, h1, h2⟩
  · cases h
theorem xI1_some {as : List AV} {F : Int32 → List AV → Option β} (h : xI1 as F = some r) : ∃ x t, as = .inl x :: t ∧ F x t = some r := by
  unfold xI1 at h
  split at h
  · exact ⟨_, _, rfl, h⟩
  · cases h
theorem xL1_some {as : List AV} {F : Int64 → List AV → Option β} (h : xL1 as F = some r) : ∃ x t, as = .inr (.inl x) :: t ∧ F x t = some r := by
  unfold xL1 at h
  split at h
  · exact ⟨_, _, rfl, h⟩
  · cases h
theorem xN1_some {as : List AV} {F : Option β} (h : xN1 as F = some r) : as = [] ∧ F = some r := by
  unfold xN1 at h
  split at h
  · exact ⟨rfl, h⟩
  · cases h
end Args
/-! what the printed walks use -/
/-- f of w, not to be unfolded by comparing -/
noncomputable def callW {β : Type} (f : Wd → Option β) (w : Wd) : Option β := opq (f w)
theorem callW_eq {β : Type} (f : Wd → Option β) (w : Wd) : callW f w = f w := opq_eq _
def FU : Nat := 50000
def oF {β : Type} (l : List (List AV → Wd → Option β)) (j : Nat) : List AV → Wd → Option β := l.getD j (fun _ _ => none)
def st0 {β : Type} (st : List AV) (F : Option β) : Option β := match st with
  | [] => F
  | _ => none
theorem st0_some {β : Type} {r : β} {st : List AV} {F : Option β} (h : st0 st F = some r) : st = [] ∧ F = some r := by
  unfold st0 at h
  split at h
  · exact ⟨rfl, h⟩
  · cases h
def lsb : LV → Nat → LV → Prop
  | [], _, _ => True
  | none :: a, i, ls => lsb a (i + 1) ls
  | some v :: a, i, ls => ls.getD i none = some v ∧ lsb a (i + 1) ls
theorem lsb_get : ∀ (a : LV) (b : Nat) (ls : LV), lsb a b ls → ∀ i v, a.getD i none = some v → ls.getD (b + i) none = some v
  | [], _, _, _, i, v, h => by simp at h
  | none :: a, b, ls, hs, 0, v, h => by simp at h
  | none :: a, b, ls, hs, i + 1, v, h => by
    have := lsb_get a (b + 1) ls hs i v (by simpa using h)
    rw [show b + (i + 1) = b + 1 + i by omega]
    exact this
  | some u :: a, b, ls, hs, 0, v, h => by
    simp at h
    subst h
    exact hs.1
  | some u :: a, b, ls, hs, i + 1, v, h => by
    have := lsb_get a (b + 1) ls hs.2 i v (by simpa using h)
    rw [show b + (i + 1) = b + 1 + i by omega]
    exact this
theorem lsb_of : ∀ (a : LV) (b : Nat) (ls : LV), (∀ i v, a.getD i none = some v → ls.getD (b + i) none = some v) → lsb a b ls
  | [], _, _, _ => trivial
  | none :: a, b, ls, h => lsb_of a (b + 1) ls (fun i v hi => by
    have := h (i + 1) v (by simpa using hi)
    rw [show b + (i + 1) = b + 1 + i by omega] at this
    exact this)
  | some u :: a, b, ls, h => ⟨h 0 u rfl, lsb_of a (b + 1) ls (fun i v hi => by
    have := h (i + 1) v (by simpa using hi)
    rw [show b + (i + 1) = b + 1 + i by omega] at this
    exact this)⟩
theorem WW.le {X : XT} {pc : Nat} {a ls : LV} {st : List AV} {w : Wd} (hl : a.length = xnL X) (hs : lsb a 0 ls) (h : WW X pc a st w) : WW X pc ls st w := by
  obtain ⟨p, l, e0, R, s, m, args, below, meth, c, cells, slots, Q, cs, ρ, D, aC, A, nL⟩ := X
  have hg : ∀ i v, a.getD i none = some v → ls.getD i none = some v := fun i v hi => by
    have := lsb_get a 0 ls hs i v hi
    rw [Nat.zero_add] at this
    exact this
  intro H locs la hl1 hv hs1 hP hD hS hR
  exact h H locs la (lvr_le hl1 ⟨by rw [hl1.1]; exact hl, hg⟩) (fun i v hi => hv i v (hg i v hi)) hs1 hP hD hS hR
theorem lset_keep : ∀ (ls : LV) (i : Nat) (v : Option AV) (j : Nat) (u : AV), ls.getD j none = some u → j ≠ i → ¬ (j + 1 = i ∧ catA u = 2) → (lset ls i v).getD j none = some u
  | [], i, v, j, u, h, _, _ => by simp at h
  | x :: r, 0, v, 0, u, h, hn, _ => absurd rfl hn
  | x :: r, 0, v, j + 1, u, h, _, _ => by simpa [lset] using h
  | some (.inr (.inl y)) :: r, 1, v, 0, u, h, _, hc => by
    simp at h
    subst h
    exact absurd ⟨rfl, rfl⟩ hc
  | some (.inr (.inl y)) :: r, 1, v, j + 1, u, h, hn, hc => by
    have := lset_keep r 0 v j u (by simpa using h) (by omega) (by omega)
    simpa [lset] using this
  | some (.inr (.inl y)) :: r, i + 2, v, 0, u, h, _, _ => by simpa [lset] using h
  | some (.inr (.inl y)) :: r, i + 2, v, j + 1, u, h, hn, hc => by
    have := lset_keep r (i + 1) v j u (by simpa using h) (by omega) (by omega)
    simpa [lset] using this
  | some (.inr (.inr y)) :: r, i + 1, v, 0, u, h, _, _ => by simpa [lset] using h
  | some (.inr (.inr y)) :: r, i + 1, v, j + 1, u, h, hn, hc => by
    have := lset_keep r i v j u (by simpa using h) (by omega) (by omega)
    simpa [lset] using this
  | some (.inl y) :: r, i + 1, v, 0, u, h, _, _ => by simpa [lset] using h
  | some (.inl y) :: r, i + 1, v, j + 1, u, h, hn, hc => by
    have := lset_keep r i v j u (by simpa using h) (by omega) (by omega)
    simpa [lset] using this
  | none :: r, i + 1, v, 0, u, h, _, _ => by simp at h
  | none :: r, i + 1, v, j + 1, u, h, hn, hc => by
    have := lset_keep r i v j u (by simpa using h) (by omega) (by omega)
    simpa [lset] using this
/-- the shape of what is known of the locals: 0 nothing, 1 one place, 2 a long -/
def shp : LV → List Nat
  | [] => []
  | none :: a => 0 :: shp a
  | some (.inr (.inl _)) :: a => 2 :: shp a
  | some _ :: a => 1 :: shp a
theorem shp_get : ∀ (a : LV) (i : Nat) (v : AV), a.getD i none = some v → (shp a).getD i 0 = catA v
  | [], i, v, h => by simp at h
  | none :: a, 0, v, h => by simp at h
  | none :: a, i + 1, v, h => by simpa [shp] using shp_get a i v (by simpa using h)
  | some (.inr (.inl y)) :: a, 0, v, h => by
    simp at h
    subst h
    rfl
  | some (.inr (.inl y)) :: a, i + 1, v, h => by simpa [shp] using shp_get a i v (by simpa using h)
  | some (.inr (.inr y)) :: a, 0, v, h => by
    simp at h
    subst h
    rfl
  | some (.inr (.inr y)) :: a, i + 1, v, h => by simpa [shp] using shp_get a i v (by simpa using h)
  | some (.inl y) :: a, 0, v, h => by
    simp at h
    subst h
    rfl
  | some (.inl y) :: a, i + 1, v, h => by simpa [shp] using shp_get a i v (by simpa using h)
def fxe (sh : List Nat) (e : EN) : Bool := match stx e with
  | none => true
  | some (i, false) => sh.getD i 0 == 0 && (i == 0 || !(sh.getD (i - 1) 0 == 2))
  | some (i, true) => sh.getD i 0 == 0 && sh.getD (i + 1) 0 == 0 && (i == 0 || !(sh.getD (i - 1) 0 == 2))
def fxOK (sh : List Nat) (tab : List EN) : Bool := tab.all (fxe sh)
theorem catA_pos (v : AV) : catA v ≠ 0 := by rcases v with x | x | x <;> simp [catA]
theorem keep1 {fx ls : LV} {i : Nat} {v : Option AV} (h : lsb fx 0 ls) (h0 : (shp fx).getD i 0 = 0) (h1 : i = 0 ∨ (shp fx).getD (i - 1) 0 ≠ 2) : lsb fx 0 (lset ls i v) := by
  refine lsb_of _ _ _ (fun j u hj => ?_)
  have hg := lsb_get fx 0 ls h j u hj
  rw [Nat.zero_add] at hg ⊢
  have hs := shp_get fx j u hj
  refine lset_keep ls i v j u hg (fun e => ?_) (fun e => ?_)
  · subst e
    rw [h0] at hs
    exact catA_pos u hs.symm
  · obtain ⟨e1, e2⟩ := e
    rcases h1 with h1 | h1
    · omega
    · rw [show i - 1 = j by omega, hs] at h1
      exact h1 e2
theorem keepsP_of {fx : LV} {tab : List EN} (h : fxOK (shp fx) tab = true) : keepsP (fun ls => lsb fx 0 ls) tab := by
  intro e he i
  have h1 := List.all_eq_true.mp h e he
  unfold fxe at h1
  refine ⟨fun hs ls v hp => ?_, fun hs ls x hp => ?_⟩
  · rw [hs] at h1
    simp only [Bool.and_eq_true, beq_iff_eq, Bool.or_eq_true, Bool.not_eq_true', beq_eq_false_iff_ne] at h1
    exact keep1 hp h1.1 h1.2
  · rw [hs] at h1
    simp only [Bool.and_eq_true, beq_iff_eq, Bool.or_eq_true, Bool.not_eq_true', beq_eq_false_iff_ne] at h1
    have hk := keep1 (v := some (.inr (.inl x))) hp h1.1.1 h1.2
    refine lsb_of _ _ _ (fun j u hj => ?_)
    have hg := lsb_get fx 0 _ hk j u hj
    rw [Nat.zero_add] at hg ⊢
    unfold lsetL
    rw [List.getD_eq_getElem?_getD, List.getElem?_set_ne, ← List.getD_eq_getElem?_getD]
    · exact hg
    · intro e
      have hs := shp_get fx j u hj
      rw [← e, h1.1.2] at hs
      exact catA_pos u hs.symm
theorem wok_of {own : String} {tab : List EN} (ps : List Nat) (h : tab.flatMap (wdo own) = ps.filterMap (fun i => lw_tbl[i]?)) (hg : (tab.flatMap (wdo own)).all goodWord = true) : wok own tab := by
  intro e he x hx
  exact cw_of h hg x (List.mem_flatMap.mpr ⟨e, he, hx⟩)

/-! ===== texts: length and charAt, walked by hand ===== -/
def pJ0_length (N i : Nat) (w : Wd) : Option (Int32 × Wd) := if i < 2 then some (Int32.ofNat (strL.getD i 0), w) else none
noncomputable def mJ0_length_8abf5 (N : Nat) (as : List AV) (w : Wd) : Option (Int32 × Wd) := xR1 2 as fun i t => xN1 t (callW (pJ0_length N i) w)
def pJ0_charAt (N i : Nat) (j : Int32) (w : Wd) : Option (Int32 × Wd) := if i < 2 then (if j < 0 ∨ strL.getD i 0 ≤ j.toNatClampNeg then none else some ((strB.getD i []).getD j.toNatClampNeg 0, w)) else none
noncomputable def mJ0_charAt_5068e (N : Nat) (as : List AV) (w : Wd) : Option (Int32 × Wd) := xR1 2 as fun i t => xI1 t fun j t => xN1 t (callW (pJ0_charAt N i j) w)
section Jdk
variable {l : Launch} {cs : List (Nat × Nat)} {ρ : Nat → Nat → Nat} {D : va_G} {aC : Nat → ClassId} {sz : Nat} {w : Wd}
/-- what such a method answers: a number, and nothing changed -/
def QcT (cs : List (Nat × Nat)) (ρ : Nat → Nat → Nat) (D : va_G) (aC : Nat → ClassId) (sz : Nat) (w : Wd) (v : Int32) : Array Value → State → Outcome → State → Prop := va_Qi (fun (r : Int32) (u : Wd) => (r, u) = (v, w)) (Bw cs ρ D aC (va_A (pic cs ρ aC w) sz)) (va_A (pic cs ρ aC w) sz)
set_option maxRecDepth 100000 in
set_option maxHeartbeats 4000000 in
theorem MJ0_coder {i : Nat} (hi : i < 2) (hR : cloR cs w) : Met l yJ0_coder_7d493 (wsy yJ0_coder_7d493 cJ0_coder_7d493 1 (some .byte)) (rmL 1) (va_Pc [.ref (ρ 2 i)] (PcW cs ρ D aC sz w)) (QcT cs ρ D aC sz w 0) 0 0 (va_A (pic cs ρ aC w) sz) := by
  refine Met.ofWF (cc := cJ0_coder_7d493) (maxL := 1) (ret := (some .byte)) (by decide +kernel) rfl ?_
  intro p e s m args below meth c s₁ B hml hv
  obtain ⟨rfl, hsz, hP, hK, hD0, hex⟩ := hv
  have hx := B.exec
  have hb := B.bytes
  have hr := B.returns
  have hts0 := atoms_spec (ws := wsy yJ0_coder_7d493 cJ0_coder_7d493 1 (some .byte)) B.pre
  have hts : ∀ w ∈ lwg, w.before _ s = true := fun w h => hts0 w (List.mem_cons_of_mem _ h)
  have hown : s.vm.findClass yJ0_coder_7d493.cls = some m.cls := findClass_of_methodNamed B.named
  have hlocks := B.notSynchronized
  subst hsz
  have hD := hD0.self (sz := s.heap.size)
  have hA : ∀ q : Nat, s.heap.size ≤ q → va_A (pic cs ρ aC w) s.heap.size q := fun q h => Or.inr h
  have hS : va_S (va_A (pic cs ρ aC w) s.heap.size) s.heap s.heap [] := va_S.rf
  have hl := lv_entry ([.ref (ρ 2 i)]) (n := 1) (Nat.le_of_ble_eq_true rfl)
  rw [lg_entry_eq]
  generalize (lg_sl ([.ref (ρ 2 i)]) ++ List.replicate (1 - (lg_sl ([.ref (ρ 2 i)])).length) Slot.unset).toArray = ls at hl ⊢
  refine va_gets hx hb hex.2.2.2.2.1 hS hown (hts _ (lwg_in (List.mem_of_getElem? (i := 389) (by decide +kernel)) (by decide +kernel))) (fun _ h => h) (show decode cJ0_coder_7d493 0 = .ok (.getstatic 38, 3) by decide +kernel) ?_
  refine lv_if_eq (tgt := 13) hx hb (show decode cJ0_coder_7d493 3 = .ok (.ifCond .eq 10, 3) by decide +kernel) (by decide) (fun c => absurd c (by decide)) (fun _ => ?_)
  refine lv_aload_n hx hb (show decode cJ0_coder_7d493 6 = .ok (.aload_n 0, 1) by decide +kernel) rfl (lv_at hl 0 rfl) ?_
  refine vk_getf hx hb (hex.2.2.2.1.1 i hi).2.1 hS hown (hts _ (lwg_in (List.mem_of_getElem? (i := 2389) (by decide +kernel)) (by decide +kernel))) (fun _ h => h) (show decode cJ0_coder_7d493 7 = .ok (.getfield 15, 3) by decide +kernel) ?_
  refine lv_goto (tgt := 14) hx hb (show decode cJ0_coder_7d493 10 = .ok (.goto 4, 3) by decide +kernel) (by decide) ?_
  exact W.zret (v := 0) hx hb hr rfl (fun t ht hW => ⟨⟨0, w, rfl, rfl, by rw [ht]; exact hP, va_K.moved hW.alike hK, hD, hR⟩, hS.F ht⟩) hS.2.2 (by decide +kernel) hlocks
set_option maxRecDepth 100000 in
set_option maxHeartbeats 4000000 in
theorem MJ0_isLatin1 {i : Nat} (hi : i < 2) (hR : cloR cs w) : Met l yJ0_isLatin1_aae02 (wsy yJ0_isLatin1_aae02 cJ0_isLatin1_aae02 1 (some .boolean)) (rmL 1) (va_Pc [.ref (ρ 2 i)] (PcW cs ρ D aC sz w)) (QcT cs ρ D aC sz w 1) 0 0 (va_A (pic cs ρ aC w) sz) := by
  refine Met.ofWF (cc := cJ0_isLatin1_aae02) (maxL := 1) (ret := (some .boolean)) (by decide +kernel) rfl ?_
  intro p e s m args below meth c s₁ B hml hv
  obtain ⟨rfl, hsz, hP, hK, hD0, hex⟩ := hv
  have hx := B.exec
  have hb := B.bytes
  have hr := B.returns
  have hts0 := atoms_spec (ws := wsy yJ0_isLatin1_aae02 cJ0_isLatin1_aae02 1 (some .boolean)) B.pre
  have hts : ∀ w ∈ lwg, w.before _ s = true := fun w h => hts0 w (List.mem_cons_of_mem _ h)
  have hown : s.vm.findClass yJ0_isLatin1_aae02.cls = some m.cls := findClass_of_methodNamed B.named
  have hlocks := B.notSynchronized
  subst hsz
  have hD := hD0.self (sz := s.heap.size)
  have hA : ∀ q : Nat, s.heap.size ≤ q → va_A (pic cs ρ aC w) s.heap.size q := fun q h => Or.inr h
  have hS : va_S (va_A (pic cs ρ aC w) s.heap.size) s.heap s.heap [] := va_S.rf
  have hl := lv_entry ([.ref (ρ 2 i)]) (n := 1) (Nat.le_of_ble_eq_true rfl)
  rw [lg_entry_eq]
  generalize (lg_sl ([.ref (ρ 2 i)]) ++ List.replicate (1 - (lg_sl ([.ref (ρ 2 i)])).length) Slot.unset).toArray = ls at hl ⊢
  refine va_gets hx hb hex.2.2.2.2.1 hS hown (hts _ (lwg_in (List.mem_of_getElem? (i := 389) (by decide +kernel)) (by decide +kernel))) (fun _ h => h) (show decode cJ0_isLatin1_aae02 0 = .ok (.getstatic 38, 3) by decide +kernel) ?_
  refine lv_if_eq (tgt := 17) hx hb (show decode cJ0_isLatin1_aae02 3 = .ok (.ifCond .eq 14, 3) by decide +kernel) (by decide) (fun c => absurd c (by decide)) (fun _ => ?_)
  refine lv_aload_n hx hb (show decode cJ0_isLatin1_aae02 6 = .ok (.aload_n 0, 1) by decide +kernel) rfl (lv_at hl 0 rfl) ?_
  refine vk_getf hx hb (hex.2.2.2.1.1 i hi).2.1 hS hown (hts _ (lwg_in (List.mem_of_getElem? (i := 2389) (by decide +kernel)) (by decide +kernel))) (fun _ h => h) (show decode cJ0_isLatin1_aae02 7 = .ok (.getfield 15, 3) by decide +kernel) ?_
  refine lv_if_ne (tgt := 17) hx hb (show decode cJ0_isLatin1_aae02 10 = .ok (.ifCond .ne 7, 3) by decide +kernel) (by decide) (fun c => absurd rfl c) (fun _ => ?_)
  refine lv_iconst (v := 1) hx hb (show decode cJ0_isLatin1_aae02 13 = .ok (.iconst 1, 1) by decide +kernel) (by decide) ?_
  refine lv_goto (tgt := 18) hx hb (show decode cJ0_isLatin1_aae02 14 = .ok (.goto 4, 3) by decide +kernel) (by decide) ?_
  exact W.zret (v := 1) hx hb hr rfl (fun t ht hW => ⟨⟨1, w, rfl, rfl, by rw [ht]; exact hP, va_K.moved hW.alike hK, hD, hR⟩, hS.F ht⟩) hS.2.2 (by decide +kernel) hlocks
theorem idx_lt {j : Int32} {n : Nat} (h0 : ¬ j < 0) (h : j.toNatClampNeg < n) (hn : n < 1000) : j < Int32.ofNat n := by
  obtain ⟨k, hk, rfl⟩ := nI_of h0
  rw [nI_clamp hk] at h
  exact nI_lt h (by omega)
theorem getD_mem {l : List Int32} {j : Nat} (h : j < l.length) : l.getD j 0 ∈ l := by
  rw [List.getD_eq_getElem?_getD, List.getElem?_eq_getElem h]
  exact List.getElem_mem _
theorem str_shift : ∀ i, i < 2 → Int32.ofNat (strL.getD i 0) >>> ((0 : Int32) &&& 31) = Int32.ofNat (strL.getD i 0) := by decide +kernel
theorem str_byte : ∀ x ∈ strB.flatten, ((x &&& 255).toUInt32 % 65536).toInt32 = x := by decide +kernel
theorem str_len : ∀ i, i < 2 → (strB.getD i []).length = strL.getD i 0 ∧ strL.getD i 0 < 1000 := by decide +kernel
theorem str_nar {i j : Nat} (hi : i < 2) (hj : j < strL.getD i 0) : (((strB.getD i []).getD j 0 &&& 255).toUInt32 % 65536).toInt32 = (strB.getD i []).getD j 0 := by
  refine str_byte _ (List.mem_flatten.mpr ⟨strB.getD i [], ?_, ?_⟩)
  · match i, hi with
    | 0, _ => exact List.mem_cons_self
    | 1, _ => exact List.mem_cons_of_mem _ List.mem_cons_self
  · exact getD_mem (by rw [(str_len i hi).1]; exact hj)
theorem str_char : ∀ x ∈ strB.flatten, x.toUInt32.toUInt16.toUInt32.toInt32 = x := by decide +kernel
theorem str_cnar {i j : Nat} (hi : i < 2) (hj : j < strL.getD i 0) : narrow .char (.int ((strB.getD i []).getD j 0)) = .int ((strB.getD i []).getD j 0) := by
  have h : (strB.getD i []).getD j 0 ∈ strB.flatten := by
    refine List.mem_flatten.mpr ⟨strB.getD i [], ?_, ?_⟩
    · match i, hi with
      | 0, _ => exact List.mem_cons_self
      | 1, _ => exact List.mem_cons_of_mem _ List.mem_cons_self
    · exact getD_mem (by rw [(str_len i hi).1]; exact hj)
  show Value.int _ = Value.int _
  rw [str_char _ h]
def QcU (cs : List (Nat × Nat)) (ρ : Nat → Nat → Nat) (D : va_G) (aC : Nat → ClassId) (sz : Nat) (w : Wd) : Array Value → State → Outcome → State → Prop := va_Qv (fun (u : Wd) => u = w) (Bw cs ρ D aC (va_A (pic cs ρ aC w) sz)) (va_A (pic cs ρ aC w) sz)
set_option maxRecDepth 100000 in
set_option maxHeartbeats 4000000 in
theorem MJ3_checkIndex (hR : cloR cs w) {j n : Int32} (h0 : ¬ j < 0) (h1 : j < n) (fv : Value) (hfv : fv = .null ∨ ∃ t, fv = .ref t) : Met l yJ3_checkIndex_8e157 (wsy yJ3_checkIndex_8e157 cJ3_checkIndex_8e157 3 (some .int)) (rmL 1) (va_Pc [.int j, .int n, fv] (PcW cs ρ D aC sz w)) (QcT cs ρ D aC sz w j) 0 0 (va_A (pic cs ρ aC w) sz) := by
  have hcat : fv.category = 1 := by rcases hfv with rfl | ⟨t, rfl⟩ <;> rfl
  refine Met.ofWF (cc := cJ3_checkIndex_8e157) (maxL := 3) (ret := (some .int)) (by decide +kernel) rfl ?_
  intro p e s m args below meth c s₁ B hml hv
  obtain ⟨rfl, hsz, hP, hK, hD0, hex⟩ := hv
  have hx := B.exec
  have hb := B.bytes
  have hr := B.returns
  have hts0 := atoms_spec (ws := wsy yJ3_checkIndex_8e157 cJ3_checkIndex_8e157 3 (some .int)) B.pre
  have hts : ∀ w ∈ lwg, w.before _ s = true := fun w h => hts0 w (List.mem_cons_of_mem _ h)
  have hown : s.vm.findClass yJ3_checkIndex_8e157.cls = some m.cls := findClass_of_methodNamed B.named
  have hlocks := B.notSynchronized
  subst hsz
  have hD := hD0.self (sz := s.heap.size)
  have hA : ∀ q : Nat, s.heap.size ≤ q → va_A (pic cs ρ aC w) s.heap.size q := fun q h => Or.inr h
  have hS : va_S (va_A (pic cs ρ aC w) s.heap.size) s.heap s.heap [] := va_S.rf
  have hl := lv_entry ([.int j, .int n, fv]) (n := 3) (by rcases hfv with rfl | ⟨t, rfl⟩ <;> exact Nat.le_of_ble_eq_true rfl)
  rw [lg_entry_eq]
  generalize (lg_sl ([.int j, .int n, fv]) ++ List.replicate (3 - (lg_sl ([.int j, .int n, fv])).length) Slot.unset).toArray = ls at hl ⊢
  refine lv_iload_n hx hb (show decode cJ3_checkIndex_8e157 0 = .ok (.iload_n 0, 1) by decide +kernel) rfl (lv_at hl 0 rfl) ?_
  refine lv_if_lt (tgt := 9) hx hb (show decode cJ3_checkIndex_8e157 1 = .ok (.ifCond .lt 8, 3) by decide +kernel) (by decide) (fun c => absurd c h0) (fun _ => ?_)
  refine lv_iload_n hx hb (show decode cJ3_checkIndex_8e157 4 = .ok (.iload_n 0, 1) by decide +kernel) rfl (lv_at hl 0 rfl) ?_
  refine lv_iload_n hx hb (show decode cJ3_checkIndex_8e157 5 = .ok (.iload_n 1, 1) by decide +kernel) rfl (lv_at hl 1 rfl) ?_
  refine lv_icmp_lt (tgt := 16) hx hb (show decode cJ3_checkIndex_8e157 6 = .ok (.if_icmp .lt 10, 3) by decide +kernel) (by decide) (fun _ => ?_) (fun c => absurd h1 c)
  refine lv_iload_n hx hb (show decode cJ3_checkIndex_8e157 16 = .ok (.iload_n 0, 1) by decide +kernel) rfl (lv_at hl 0 rfl) ?_
  exact W.zret (v := j) hx hb hr rfl (fun t ht hW => ⟨⟨j, w, rfl, rfl, by rw [ht]; exact hP, va_K.moved hW.alike hK, hD, hR⟩, hS.F ht⟩) hS.2.2 (by decide +kernel) hlocks
set_option maxRecDepth 100000 in
set_option maxHeartbeats 4000000 in
theorem MJ0_checkIndex (hR : cloR cs w) {j n : Int32} (h0 : ¬ j < 0) (h1 : j < n) : Met l yJ0_checkIndex_df160 (wsy yJ0_checkIndex_df160 cJ0_checkIndex_df160 2 none) (rmL 2) (va_Pc [.int j, .int n] (PcW cs ρ D aC sz w)) (QcU cs ρ D aC sz w) 0 0 (va_A (pic cs ρ aC w) sz) := by
  refine Met.ofWF (cc := cJ0_checkIndex_df160) (maxL := 2) (ret := none) (by decide +kernel) rfl ?_
  intro p e s m args below meth c s₁ B hml hv
  obtain ⟨rfl, hsz, hP, hK, hD0, hex⟩ := hv
  have hx := B.exec
  have hb := B.bytes
  have hr := B.returns
  have hts0 := atoms_spec (ws := wsy yJ0_checkIndex_df160 cJ0_checkIndex_df160 2 none) B.pre
  have hts : ∀ w ∈ lwg, w.before _ s = true := fun w h => hts0 w (List.mem_cons_of_mem _ h)
  have hown : s.vm.findClass yJ0_checkIndex_df160.cls = some m.cls := findClass_of_methodNamed B.named
  have hlocks := B.notSynchronized
  subst hsz
  have hD := hD0.self (sz := s.heap.size)
  have hA : ∀ q : Nat, s.heap.size ≤ q → va_A (pic cs ρ aC w) s.heap.size q := fun q h => Or.inr h
  have hS : va_S (va_A (pic cs ρ aC w) s.heap.size) s.heap s.heap [] := va_S.rf
  have hl := lv_entry ([.int j, .int n]) (n := 2) (Nat.le_of_ble_eq_true rfl)
  rw [lg_entry_eq]
  generalize (lg_sl ([.int j, .int n]) ++ List.replicate (2 - (lg_sl ([.int j, .int n])).length) Slot.unset).toArray = ls at hl ⊢
  obtain ⟨fv, hfv, hZ⟩ : ∃ fv : Value, (fv = .null ∨ ∃ t, fv = .ref t) ∧ va_Z "jdk/internal/util/Preconditions" "SIOOBE_FORMATTER" "Ljava/util/function/BiFunction;" fv (va_A (pic cs ρ aC w) s.heap.size) s s.heap := by
    rcases hex.2.2.2.2.2 with h | ⟨t, h⟩
    · exact ⟨_, Or.inl rfl, h⟩
    · exact ⟨_, Or.inr ⟨t, rfl⟩, h⟩
  refine lv_iload_n hx hb (show decode cJ0_checkIndex_df160 0 = .ok (.iload_n 0, 1) by decide +kernel) rfl (lv_at hl 0 rfl) ?_
  refine lv_iload_n hx hb (show decode cJ0_checkIndex_df160 1 = .ok (.iload_n 1, 1) by decide +kernel) rfl (lv_at hl 1 rfl) ?_
  refine va_gets hx hb hZ hS hown (hts _ (lwg_in (List.mem_of_getElem? (i := 405) (by decide +kernel)) (by decide +kernel))) (fun _ h => h) (show decode cJ0_checkIndex_df160 2 = .ok (.getstatic 1053, 3) by decide +kernel) ?_
  have cw := va_cwS (R := (headSpec (wsy yJ0_checkIndex_df160 cJ0_checkIndex_df160 2 none) (rmL 2)).room) (s := s) (args := _) (own := "java/lang/String") (index := 1059) (y := yJ3_checkIndex_8e157) (bytes := cJ3_checkIndex_8e157) (maxL := 3) (ret := (some .int)) (ws := wsy yJ3_checkIndex_8e157 cJ3_checkIndex_8e157 3 (some .int)) (rm := rmL 1) (mc := 0) (ms := 0) 3 hts (lwg_GoodIn (fun w hw1 => by
    unfold va_wsS wsy at hw1
    have hw := cw_of (ws := cwdS "java/lang/String" 1059 yJ3_checkIndex_8e157 cJ3_checkIndex_8e157 3 (some .int)) (ps := [407, 408, 156, 409]) (by decide +kernel) (by decide +kernel)
    rcases List.mem_append.mp hw1 with h1 | h1
    · exact hw w (by unfold cwdS; simp at h1 ⊢; rcases h1 with h1 | h1 | h1 <;> simp [h1])
    · rcases List.mem_cons.mp h1 with h2 | h2
      · exact hw w (by unfold cwdS; simp [h2])
      · exact h2)) rfl rfl rfl ⟨by decide +kernel, by decide +kernel, by decide +kernel⟩ ⟨by decide, by decide⟩
  refine va_calli (va_runS (As := [.int j, .int n, fv]) (rest := []) ⟨hx, hb, hml, hown, hts⟩ (MJ3_checkIndex (l := l) (D := D) (sz := s.heap.size) hR h0 h1 fv hfv) cw ⟨PcW.blind, fun U hU hW => ⟨rfl, by rw [hU], by rw [hU]; exact hP, va_K.moved hW.alike hK, hD.weaken (fun _ _ _ _ => trivial), hex.on hW hU hS (fun _ h => h)⟩⟩ rfl rfl hl.1 rfl (lv_room (Nat.le_of_ble_eq_true rfl)) (show decode cJ0_checkIndex_df160 5 = .ok (.invokestatic 1059, 3) by decide +kernel) ⟨Nat.le_refl _, Nat.le_refl _⟩) hS (fun q _ h => h) (fun _ h => h) (fun r_1 u t H1 locs1 ht hvm hw1 hB _ _ hS => ?_)
  obtain ⟨hP1, hK1, hD1, hR1⟩ := hB
  rw [ht] at hP1
  have e2 := congrArg Prod.snd hw1
  simp only at e2
  subst e2
  refine lv_pop hx hb (show decode cJ0_checkIndex_df160 8 = .ok (.pop, 1) by decide +kernel) rfl ?_
  exact W.vret hx hb hr (fun t ht hW => ⟨⟨_, rfl, rfl, by rw [ht]; exact hP1, va_K.moved hW.alike hK, hD1, hR⟩, hS.F ht⟩) hS.2.2 (show decode cJ0_checkIndex_df160 9 = .ok (.return_, 1) by decide +kernel) hlocks
set_option maxRecDepth 100000 in
set_option maxHeartbeats 4000000 in
theorem MJ1_charAt {i : Nat} (hi : i < 2) (hR : cloR cs w) {j : Int32} (hj : ¬ (j < 0 ∨ strL.getD i 0 ≤ j.toNatClampNeg)) : Met l yJ1_charAt_3b067 (wsy yJ1_charAt_3b067 cJ1_charAt_3b067 2 (some .char)) (rmL 3) (va_Pc [.ref (ρ 0 i), .int j] (PcW cs ρ D aC sz w)) (QcT cs ρ D aC sz w ((strB.getD i []).getD j.toNatClampNeg 0)) 0 0 (va_A (pic cs ρ aC w) sz) := by
  refine Met.ofWF (cc := cJ1_charAt_3b067) (maxL := 2) (ret := (some .char)) (by decide +kernel) rfl ?_
  intro p e s m args below meth c s₁ B hml hv
  obtain ⟨rfl, hsz, hP, hK, hD0, hex⟩ := hv
  have hx := B.exec
  have hb := B.bytes
  have hr := B.returns
  have hts0 := atoms_spec (ws := wsy yJ1_charAt_3b067 cJ1_charAt_3b067 2 (some .char)) B.pre
  have hts : ∀ w ∈ lwg, w.before _ s = true := fun w h => hts0 w (List.mem_cons_of_mem _ h)
  have hown : s.vm.findClass yJ1_charAt_3b067.cls = some m.cls := findClass_of_methodNamed B.named
  have hlocks := B.notSynchronized
  subst hsz
  have hD := hD0.self (sz := s.heap.size)
  have hA : ∀ q : Nat, s.heap.size ≤ q → va_A (pic cs ρ aC w) s.heap.size q := fun q h => Or.inr h
  have hS : va_S (va_A (pic cs ρ aC w) s.heap.size) s.heap s.heap [] := va_S.rf
  have hl := lv_entry ([.ref (ρ 0 i), .int j]) (n := 2) (Nat.le_of_ble_eq_true rfl)
  rw [lg_entry_eq]
  generalize (lg_sl ([.ref (ρ 0 i), .int j]) ++ List.replicate (2 - (lg_sl ([.ref (ρ 0 i), .int j])).length) Slot.unset).toArray = ls at hl ⊢
  have hT := (hex.2.2.2.1.1 i hi).2.2.2
  have hjl : j.toNatClampNeg < strL.getD i 0 := Nat.lt_of_not_le fun q => hj (Or.inr q)
  have h0 : ¬ j < 0 := fun q => hj (Or.inl q)
  refine lv_iload_n hx hb (show decode cJ1_charAt_3b067 0 = .ok (.iload_n 1, 1) by decide +kernel) rfl (lv_at hl 1 rfl) ?_
  refine lv_aload_n hx hb (show decode cJ1_charAt_3b067 1 = .ok (.aload_n 0, 1) by decide +kernel) rfl (lv_at hl 0 rfl) ?_
  refine va_tlen hx hb hT hS rfl (show decode cJ1_charAt_3b067 2 = .ok (.arraylength, 1) by decide +kernel) ?_
  have cw := va_cwS (R := (headSpec (wsy yJ1_charAt_3b067 cJ1_charAt_3b067 2 (some .char)) (rmL 3)).room) (s := s) (args := _) (own := "java/lang/StringLatin1") (index := 9) (y := yJ0_checkIndex_df160) (bytes := cJ0_checkIndex_df160) (maxL := 2) (ret := none) (ws := wsy yJ0_checkIndex_df160 cJ0_checkIndex_df160 2 none) (rm := rmL 2) (mc := 0) (ms := 0) 2 hts (lwg_GoodIn (fun w hw1 => by
    unfold va_wsS wsy at hw1
    have hw := cw_of (ws := cwdS "java/lang/StringLatin1" 9 yJ0_checkIndex_df160 cJ0_checkIndex_df160 2 none) (ps := [402, 403, 154, 404]) (by decide +kernel) (by decide +kernel)
    rcases List.mem_append.mp hw1 with h1 | h1
    · exact hw w (by unfold cwdS; simp at h1 ⊢; rcases h1 with h1 | h1 | h1 <;> simp [h1])
    · rcases List.mem_cons.mp h1 with h2 | h2
      · exact hw w (by unfold cwdS; simp [h2])
      · exact h2)) rfl rfl rfl ⟨by decide +kernel, by decide +kernel, by decide +kernel⟩ ⟨by decide, by decide⟩
  refine va_callv (va_runS (As := [.int j, .int (Int32.ofNat (strL.getD i 0))]) (rest := []) ⟨hx, hb, hml, hown, hts⟩ (MJ0_checkIndex (l := l) (D := D) (sz := s.heap.size) hR h0 (idx_lt h0 hjl (str_len i hi).2)) cw ⟨PcW.blind, fun U hU hW => ⟨rfl, by rw [hU], by rw [hU]; exact hP, va_K.moved hW.alike hK, hD.weaken (fun _ _ _ _ => trivial), hex.on hW hU hS (fun _ h => h)⟩⟩ rfl rfl hl.1 rfl (lv_room (Nat.le_of_ble_eq_true rfl)) (show decode cJ1_charAt_3b067 3 = .ok (.invokestatic 9, 3) by decide +kernel) ⟨Nat.le_refl _, Nat.le_refl _⟩) hS (fun q _ h => h) (fun _ h => h) (fun u t H1 locs1 ht hvm hw1 hB _ _ hS => ?_)
  obtain ⟨hP1, hK1, hD1, hR1⟩ := hB
  rw [ht] at hP1
  have e2 : u = w := hw1
  subst e2
  have hP := hP1
  have hD := hD1
  refine lv_aload_n hx hb (show decode cJ1_charAt_3b067 6 = .ok (.aload_n 0, 1) by decide +kernel) rfl (lv_at hl 0 rfl) ?_
  refine lv_iload_n hx hb (show decode cJ1_charAt_3b067 7 = .ok (.iload_n 1, 1) by decide +kernel) rfl (lv_at hl 1 rfl) ?_
  refine va_tb hx hb hT hS hj rfl (show decode cJ1_charAt_3b067 8 = .ok (.baload, 1) by decide +kernel) ?_
  refine lv_sipush (v := 255) hx hb (show decode cJ1_charAt_3b067 9 = .ok (.sipush 255, 3) by decide +kernel) (by decide) ?_
  refine lv_iand hx hb (show decode cJ1_charAt_3b067 12 = .ok (.iand, 1) by decide +kernel) ?_
  refine lv_i2c (v := (strB.getD i []).getD j.toNatClampNeg 0) hx hb (show decode cJ1_charAt_3b067 13 = .ok (.i2c, 1) by decide +kernel) (str_nar hi hjl) ?_
  exact W.zret (v := ((strB.getD i []).getD j.toNatClampNeg 0)) hx hb hr (str_cnar hi hjl) (fun t ht hW => ⟨⟨((strB.getD i []).getD j.toNatClampNeg 0), _, rfl, rfl, by rw [ht]; exact hP, va_K.moved hW.alike hK, hD, hR⟩, hS.F ht⟩) hS.2.2 (by decide +kernel) hlocks
set_option maxRecDepth 100000 in
set_option maxHeartbeats 4000000 in
theorem MJ0_length {i : Nat} (hi : i < 2) (hR : cloR cs w) : Met l yJ0_length_8abf5 (wsy yJ0_length_8abf5 cJ0_length_8abf5 1 (some .int)) (rmL 2) (va_Pc [.ref (ρ 2 i)] (PcW cs ρ D aC sz w)) (QcT cs ρ D aC sz w (Int32.ofNat (strL.getD i 0))) 0 0 (va_A (pic cs ρ aC w) sz) := by
  refine Met.ofWF (cc := cJ0_length_8abf5) (maxL := 1) (ret := (some .int)) (by decide +kernel) rfl ?_
  intro p e s m args below meth c s₁ B hml hv
  obtain ⟨rfl, hsz, hP, hK, hD0, hex⟩ := hv
  have hx := B.exec
  have hb := B.bytes
  have hr := B.returns
  have hts0 := atoms_spec (ws := wsy yJ0_length_8abf5 cJ0_length_8abf5 1 (some .int)) B.pre
  have hts : ∀ w ∈ lwg, w.before _ s = true := fun w h => hts0 w (List.mem_cons_of_mem _ h)
  have hown : s.vm.findClass yJ0_length_8abf5.cls = some m.cls := findClass_of_methodNamed B.named
  have hlocks := B.notSynchronized
  subst hsz
  have hD := hD0.self (sz := s.heap.size)
  have hA : ∀ q : Nat, s.heap.size ≤ q → va_A (pic cs ρ aC w) s.heap.size q := fun q h => Or.inr h
  have hS : va_S (va_A (pic cs ρ aC w) s.heap.size) s.heap s.heap [] := va_S.rf
  have hl := lv_entry ([.ref (ρ 2 i)]) (n := 1) (Nat.le_of_ble_eq_true rfl)
  rw [lg_entry_eq]
  generalize (lg_sl ([.ref (ρ 2 i)]) ++ List.replicate (1 - (lg_sl ([.ref (ρ 2 i)])).length) Slot.unset).toArray = ls at hl ⊢
  have hT := (hex.2.2.2.1.1 i hi).2.2.2
  refine lv_aload_n hx hb (show decode cJ0_length_8abf5 0 = .ok (.aload_n 0, 1) by decide +kernel) rfl (lv_at hl 0 rfl) ?_
  refine vk_getf hx hb (hex.2.2.2.1.1 i hi).2.2.1 hS hown (hts _ (lwg_in (List.mem_of_getElem? (i := 2388) (by decide +kernel)) (by decide +kernel))) (fun _ h => h) (show decode cJ0_length_8abf5 1 = .ok (.getfield 9, 3) by decide +kernel) ?_
  refine va_tlen hx hb hT hS rfl (show decode cJ0_length_8abf5 4 = .ok (.arraylength, 1) by decide +kernel) ?_
  refine lv_aload_n hx hb (show decode cJ0_length_8abf5 5 = .ok (.aload_n 0, 1) by decide +kernel) rfl (lv_at hl 0 rfl) ?_
  have cw := cwV (R := (headSpec (wsy yJ0_length_8abf5 cJ0_length_8abf5 1 (some .int)) (rmL 2)).room) (s := s) (args := _) (own := "java/lang/String") (index := 335) (C := yJ0_coder_7d493.cls) (y := yJ0_coder_7d493) (bytes := cJ0_coder_7d493) (maxL := 1) (ret := (some .byte)) (ws := wsy yJ0_coder_7d493 cJ0_coder_7d493 1 (some .byte)) (rm := rmL 1) (mc := 0) (ms := 0) 0 hts (lwg_GoodIn (fun w hw1 => by
    unfold wsV wsy at hw1
    have hw := cw_of (ws := cwdV "java/lang/String" 335 yJ0_coder_7d493 cJ0_coder_7d493 1 (some .byte)) (ps := [385, 386, 387, 154, 388]) (by decide +kernel) (by decide +kernel)
    rcases List.mem_append.mp hw1 with h1 | h1
    · exact hw w (by unfold cwdV; simp at h1 ⊢; rcases h1 with h1 | h1 | h1 | h1 <;> simp [h1])
    · rcases List.mem_cons.mp h1 with h2 | h2
      · exact hw w (by unfold cwdV; simp [h2])
      · exact h2)) rfl rfl rfl ⟨rfl, by decide +kernel, by decide +kernel, by decide +kernel⟩ ⟨by decide, by decide⟩
  refine va_calli (va_runV (As := []) (rest := [.int (Int32.ofNat (strL.getD i 0))]) ⟨hx, hb, hml, hown, hts⟩ (MJ0_coder (l := l) (D := D) (sz := s.heap.size) hi hR) cw ⟨PcW.blind, vk_recv hex.2.2.2.1 hi hS, fun U hU hW => ⟨rfl, by rw [hU], by rw [hU]; exact hP, va_K.moved hW.alike hK, hD.weaken (fun _ _ _ _ => trivial), hex.on hW hU hS (fun _ h => h)⟩⟩ rfl rfl hl.1 rfl (lv_room (Nat.le_of_ble_eq_true rfl)) (show decode cJ0_length_8abf5 6 = .ok (.invokevirtual 335, 3) by decide +kernel) ⟨Nat.le_refl _, Nat.le_refl _⟩) hS (fun q _ h => h) (fun _ h => h) (fun r_1 u t H1 locs1 ht hvm hw1 hB _ _ hS => ?_)
  obtain ⟨hP1, hK1, hD1, hR1⟩ := hB
  rw [ht] at hP1
  have e1 : r_1 = 0 := congrArg Prod.fst hw1
  have e2 : u = w := congrArg Prod.snd hw1
  subst e1 e2
  have hP := hP1
  have hD := hD1
  refine lv_ishr hx hb (show decode cJ0_length_8abf5 9 = .ok (.ishr, 1) by decide +kernel) ?_
  have e3 := str_shift i hi
  rw [e3]
  exact W.zret (v := (Int32.ofNat (strL.getD i 0))) hx hb hr rfl (fun t ht hW => ⟨⟨(Int32.ofNat (strL.getD i 0)), _, rfl, rfl, by rw [ht]; exact hP, va_K.moved hW.alike hK, hD, hR⟩, hS.F ht⟩) hS.2.2 (by decide +kernel) hlocks
set_option maxRecDepth 100000 in
set_option maxHeartbeats 4000000 in
theorem MJ0_charAt {i : Nat} (hi : i < 2) (hR : cloR cs w) {j : Int32} (hj : ¬ (j < 0 ∨ strL.getD i 0 ≤ j.toNatClampNeg)) : Met l yJ0_charAt_5068e (wsy yJ0_charAt_5068e cJ0_charAt_5068e 2 (some .char)) (rmL 4) (va_Pc [.ref (ρ 2 i), .int j] (PcW cs ρ D aC sz w)) (QcT cs ρ D aC sz w ((strB.getD i []).getD j.toNatClampNeg 0)) 0 0 (va_A (pic cs ρ aC w) sz) := by
  refine Met.ofWF (cc := cJ0_charAt_5068e) (maxL := 2) (ret := (some .char)) (by decide +kernel) rfl ?_
  intro p e s m args below meth c s₁ B hml hv
  obtain ⟨rfl, hsz, hP, hK, hD0, hex⟩ := hv
  have hx := B.exec
  have hb := B.bytes
  have hr := B.returns
  have hts0 := atoms_spec (ws := wsy yJ0_charAt_5068e cJ0_charAt_5068e 2 (some .char)) B.pre
  have hts : ∀ w ∈ lwg, w.before _ s = true := fun w h => hts0 w (List.mem_cons_of_mem _ h)
  have hown : s.vm.findClass yJ0_charAt_5068e.cls = some m.cls := findClass_of_methodNamed B.named
  have hlocks := B.notSynchronized
  subst hsz
  have hD := hD0.self (sz := s.heap.size)
  have hA : ∀ q : Nat, s.heap.size ≤ q → va_A (pic cs ρ aC w) s.heap.size q := fun q h => Or.inr h
  have hS : va_S (va_A (pic cs ρ aC w) s.heap.size) s.heap s.heap [] := va_S.rf
  have hl := lv_entry ([.ref (ρ 2 i), .int j]) (n := 2) (Nat.le_of_ble_eq_true rfl)
  rw [lg_entry_eq]
  generalize (lg_sl ([.ref (ρ 2 i), .int j]) ++ List.replicate (2 - (lg_sl ([.ref (ρ 2 i), .int j])).length) Slot.unset).toArray = ls at hl ⊢
  have hjl : j.toNatClampNeg < strL.getD i 0 := Nat.lt_of_not_le fun q => hj (Or.inr q)
  refine lv_aload_n hx hb (show decode cJ0_charAt_5068e 0 = .ok (.aload_n 0, 1) by decide +kernel) rfl (lv_at hl 0 rfl) ?_
  have cw := cwV (R := (headSpec (wsy yJ0_charAt_5068e cJ0_charAt_5068e 2 (some .char)) (rmL 4)).room) (s := s) (args := _) (own := "java/lang/String") (index := 492) (C := yJ0_isLatin1_aae02.cls) (y := yJ0_isLatin1_aae02) (bytes := cJ0_isLatin1_aae02) (maxL := 1) (ret := (some .boolean)) (ws := wsy yJ0_isLatin1_aae02 cJ0_isLatin1_aae02 1 (some .boolean)) (rm := rmL 1) (mc := 0) (ms := 0) 0 hts (lwg_GoodIn (fun w hw1 => by
    unfold wsV wsy at hw1
    have hw := cw_of (ws := cwdV "java/lang/String" 492 yJ0_isLatin1_aae02 cJ0_isLatin1_aae02 1 (some .boolean)) (ps := [395, 396, 397, 154, 398]) (by decide +kernel) (by decide +kernel)
    rcases List.mem_append.mp hw1 with h1 | h1
    · exact hw w (by unfold cwdV; simp at h1 ⊢; rcases h1 with h1 | h1 | h1 | h1 <;> simp [h1])
    · rcases List.mem_cons.mp h1 with h2 | h2
      · exact hw w (by unfold cwdV; simp [h2])
      · exact h2)) rfl rfl rfl ⟨rfl, by decide +kernel, by decide +kernel, by decide +kernel⟩ ⟨by decide, by decide⟩
  refine va_calli (va_runV (As := []) (rest := []) ⟨hx, hb, hml, hown, hts⟩ (MJ0_isLatin1 (l := l) (D := D) (sz := s.heap.size) hi hR) cw ⟨PcW.blind, vk_recv hex.2.2.2.1 hi hS, fun U hU hW => ⟨rfl, by rw [hU], by rw [hU]; exact hP, va_K.moved hW.alike hK, hD.weaken (fun _ _ _ _ => trivial), hex.on hW hU hS (fun _ h => h)⟩⟩ rfl rfl hl.1 rfl (lv_room (Nat.le_of_ble_eq_true rfl)) (show decode cJ0_charAt_5068e 1 = .ok (.invokevirtual 492, 3) by decide +kernel) ⟨Nat.le_refl _, Nat.le_refl _⟩) hS (fun q _ h => h) (fun _ h => h) (fun r_1 u t H1 locs1 ht hvm hw1 hB _ _ hS => ?_)
  obtain ⟨hP1, hK1, hD1, hR1⟩ := hB
  rw [ht] at hP1
  have e1 : r_1 = 1 := congrArg Prod.fst hw1
  have e2 : u = w := congrArg Prod.snd hw1
  subst e1 e2
  have hP := hP1
  have hD := hD1
  refine lv_if_eq (tgt := 16) hx hb (show decode cJ0_charAt_5068e 4 = .ok (.ifCond .eq 12, 3) by decide +kernel) (by decide) (fun c => absurd c (by decide)) (fun _ => ?_)
  refine lv_aload_n hx hb (show decode cJ0_charAt_5068e 7 = .ok (.aload_n 0, 1) by decide +kernel) rfl (lv_at hl 0 rfl) ?_
  refine vk_getf hx hb (hex.2.2.2.1.1 i hi).2.2.1 hS hown (hts _ (lwg_in (List.mem_of_getElem? (i := 2388) (by decide +kernel)) (by decide +kernel))) (fun _ h => h) (show decode cJ0_charAt_5068e 8 = .ok (.getfield 9, 3) by decide +kernel) ?_
  refine lv_iload_n hx hb (show decode cJ0_charAt_5068e 11 = .ok (.iload_n 1, 1) by decide +kernel) rfl (lv_at hl 1 rfl) ?_
  have hFc := pic_free hD hS hA
  have cw := va_cwS (R := (headSpec (wsy yJ0_charAt_5068e cJ0_charAt_5068e 2 (some .char)) (rmL 4)).room) (s := s) (args := _) (own := "java/lang/String") (index := 495) (y := yJ1_charAt_3b067) (bytes := cJ1_charAt_3b067) (maxL := 2) (ret := (some .char)) (ws := wsy yJ1_charAt_3b067 cJ1_charAt_3b067 2 (some .char)) (rm := rmL 3) (mc := 0) (ms := 0) 2 hts (lwg_GoodIn (fun w hw1 => by
    unfold va_wsS wsy at hw1
    have hw := cw_of (ws := cwdS "java/lang/String" 495 yJ1_charAt_3b067 cJ1_charAt_3b067 2 (some .char)) (ps := [399, 400, 155, 401]) (by decide +kernel) (by decide +kernel)
    rcases List.mem_append.mp hw1 with h1 | h1
    · exact hw w (by unfold cwdS; simp at h1 ⊢; rcases h1 with h1 | h1 | h1 <;> simp [h1])
    · rcases List.mem_cons.mp h1 with h2 | h2
      · exact hw w (by unfold cwdS; simp [h2])
      · exact h2)) rfl rfl rfl ⟨by decide +kernel, by decide +kernel, by decide +kernel⟩ ⟨by decide, by decide⟩
  refine va_calli (va_runS (As := [.ref (ρ 0 i), .int j]) (rest := []) ⟨hx, hb, hml, hown, hts⟩ (MJ1_charAt (l := l) (D := D) (sz := H1.size) hi hR hj) cw ⟨PcW.blind, fun U hU hW => ⟨rfl, by rw [hU], by rw [hU]; exact hP, va_K.moved hW.alike hK, hD.weaken (fun _ _ _ _ => trivial), hex.on hW hU hS hFc⟩⟩ rfl rfl hl.1 rfl (lv_room (Nat.le_of_ble_eq_true rfl)) (show decode cJ0_charAt_5068e 12 = .ok (.invokestatic 495, 3) by decide +kernel) ⟨Nat.le_refl _, Nat.le_refl _⟩) hS (fun q _ h => hFc q h) hFc (fun r_2 u t H2 locs2 ht hvm hw1 hB _ _ hS => ?_)
  obtain ⟨hP2, hK2, hD2, hR2⟩ := hB
  rw [ht] at hP2
  have e1 : r_2 = (strB.getD i []).getD j.toNatClampNeg 0 := congrArg Prod.fst hw1
  have e2 := congrArg Prod.snd hw1
  simp only at e2
  subst e1 e2
  have hP := hP2
  have hD := hD2.weaken (fun _ q _ hq => hFc _ hq)
  exact W.zret (v := ((strB.getD i []).getD j.toNatClampNeg 0)) hx hb hr (str_cnar hi hjl) (fun t ht hW => ⟨⟨((strB.getD i []).getD j.toNatClampNeg 0), _, rfl, rfl, by rw [ht]; exact hP, va_K.moved hW.alike hK, hD, hR⟩, hS.F ht⟩) hS.2.2 (by decide +kernel) hlocks
end Jdk
section JdkCalls
variable {X : XT} {cc : ByteArray} {own : String} {e : EN} {idx : Nat}
set_option maxRecDepth 100000 in
set_option maxHeartbeats 4000000 in
theorem crJ0_length_8abf5 {N : Nat} (G : GX X cc own) (hd : decode cc e.1 = .ok (.invokevirtual idx, 3)) (hw : ∀ w ∈ cwdV own idx yJ0_length_8abf5 cJ0_length_8abf5 1 (some .int), w ∈ lwg) (hr : 4 ≤ (xR X).frames ∧ 320 ≤ (xR X).locals) : CRI X e (mJ0_length_8abf5 N) := by
  intro as rest w x ls hf h8 k
  obtain ⟨i, t1, rfl, hf1⟩ := xR1_some hf
  obtain ⟨rfl, hf2⟩ := xN1_some hf1
  rw [callW_eq] at hf2
  obtain ⟨hi, hf3⟩ := if_some _ hf2
  cases hf3
  obtain ⟨p, l, e0, R, s, m, args, below, meth, c, cells, slots, Q, cs, ρ, D, aC, A, nL0⟩ := X
  obtain ⟨hex, hx, hb, hml, hown, hts, hK, hnd, hcl, hA, hcc, hcsl, hfr, hloc⟩ := G
  intro H locs la hl hv hs hP hD hS hR
  have hvrest : ∀ v ∈ rest, vok cs v := fun v h => hs v (List.mem_append_right _ h)
  have hFc := pic_free hD hS hA
  have cw := cwV (R := R) (s := s) (args := args) (own := own) (index := idx) (C := yJ0_length_8abf5.cls) (y := yJ0_length_8abf5) (bytes := cJ0_length_8abf5) (maxL := 1) (ret := (some .int)) (ws := wsy yJ0_length_8abf5 cJ0_length_8abf5 1 (some .int)) (rm := rmL 2) (mc := 0) (ms := 0) 0 hts (lwg_GoodIn (fun w hw1 => by
    unfold wsV wsy at hw1
    rcases List.mem_append.mp hw1 with h1 | h1
    · exact hw w (by unfold cwdV; simp at h1 ⊢; rcases h1 with h1 | h1 | h1 | h1 <;> simp [h1])
    · rcases List.mem_cons.mp h1 with h2 | h2
      · exact hw w (by unfold cwdV; simp [h2])
      · exact h2)) rfl rfl rfl ⟨rfl, by decide +kernel, by decide +kernel, by decide +kernel⟩ (by
        have h1 : _ ≤ R.frames ∧ _ ≤ R.locals := hr
        simp only [rmL]
        omega)
  have run := va_runV (rest := rest.map (trv ρ)) (As := []) (b := ρ 2 i) (H := H) (locs := locs) (cells := cells) (slots := slots) (below := below) (meth := meth) (e := e0) (g := F0 m e.1 la (([] : List Value).reverse ++ .ref (ρ 2 i) :: rest.map (trv ρ))) ⟨hx, hb, hml, hown, hts⟩ (MJ0_length (l := l) (D := D) (sz := H.size) hi hR) cw ⟨PcW.blind, vk_recv hex.2.2.2.1 hi hS, fun U hU hW => ⟨rfl, by rw [hU], by rw [hU]; exact hP, va_K.moved hW.alike hK, hD.weaken (fun _ _ _ _ => trivial), hex.on hW hU hS hFc⟩⟩ rfl rfl hl.2.1 rfl (lv_room (by rw [catS_tr]; exact h8)) hd ⟨hcc, hcsl⟩
  exact va_calli run hS (fun q _ h => hFc q h) hFc (fun r u t1 H1 locs1 ht hvm hw1 hB _ _ hS1 => by
    obtain ⟨hP1, hK1, hD1, hR1⟩ := hB
    rw [ht] at hP1
    have e1 := congrArg Prod.fst hw1
    have e2 := congrArg Prod.snd hw1
    simp only at e1 e2
    subst e1 e2
    exact k H1 locs1 la hl hv (vc trivial hvrest) hP1 (hD1.weaken (fun _ q _ hq => hFc _ hq)) hS1 hR1)
set_option maxRecDepth 100000 in
set_option maxHeartbeats 4000000 in
theorem crJ0_charAt_5068e {N : Nat} (G : GX X cc own) (hd : decode cc e.1 = .ok (.invokevirtual idx, 3)) (hw : ∀ w ∈ cwdV own idx yJ0_charAt_5068e cJ0_charAt_5068e 2 (some .char), w ∈ lwg) (hr : 6 ≤ (xR X).frames ∧ 480 ≤ (xR X).locals) : CRI X e (mJ0_charAt_5068e N) := by
  intro as rest w x ls hf h8 k
  obtain ⟨i, t1, rfl, hf1⟩ := xR1_some hf
  obtain ⟨j, t2, rfl, hf2⟩ := xI1_some hf1
  obtain ⟨rfl, hf3⟩ := xN1_some hf2
  rw [callW_eq] at hf3
  obtain ⟨hi, hf4⟩ := if_some _ hf3
  obtain ⟨hj, hf5⟩ := if_none _ hf4
  cases hf5
  obtain ⟨p, l, e0, R, s, m, args, below, meth, c, cells, slots, Q, cs, ρ, D, aC, A, nL0⟩ := X
  obtain ⟨hex, hx, hb, hml, hown, hts, hK, hnd, hcl, hA, hcc, hcsl, hfr, hloc⟩ := G
  intro H locs la hl hv hs hP hD hS hR
  have hvrest : ∀ v ∈ rest, vok cs v := fun v h => hs v (List.mem_append_right _ h)
  have hFc := pic_free hD hS hA
  have cw := cwV (R := R) (s := s) (args := args) (own := own) (index := idx) (C := yJ0_charAt_5068e.cls) (y := yJ0_charAt_5068e) (bytes := cJ0_charAt_5068e) (maxL := 2) (ret := (some .char)) (ws := wsy yJ0_charAt_5068e cJ0_charAt_5068e 2 (some .char)) (rm := rmL 4) (mc := 0) (ms := 0) 1 hts (lwg_GoodIn (fun w hw1 => by
    unfold wsV wsy at hw1
    rcases List.mem_append.mp hw1 with h1 | h1
    · exact hw w (by unfold cwdV; simp at h1 ⊢; rcases h1 with h1 | h1 | h1 | h1 <;> simp [h1])
    · rcases List.mem_cons.mp h1 with h2 | h2
      · exact hw w (by unfold cwdV; simp [h2])
      · exact h2)) rfl rfl rfl ⟨rfl, by decide +kernel, by decide +kernel, by decide +kernel⟩ (by
        have h1 : _ ≤ R.frames ∧ _ ≤ R.locals := hr
        simp only [rmL]
        omega)
  have run := va_runV (rest := rest.map (trv ρ)) (As := [.int j]) (b := ρ 2 i) (H := H) (locs := locs) (cells := cells) (slots := slots) (below := below) (meth := meth) (e := e0) (g := F0 m e.1 la (([.int j] : List Value).reverse ++ .ref (ρ 2 i) :: rest.map (trv ρ))) ⟨hx, hb, hml, hown, hts⟩ (MJ0_charAt (l := l) (D := D) (sz := H.size) hi hR hj) cw ⟨PcW.blind, vk_recv hex.2.2.2.1 hi hS, fun U hU hW => ⟨rfl, by rw [hU], by rw [hU]; exact hP, va_K.moved hW.alike hK, hD.weaken (fun _ _ _ _ => trivial), hex.on hW hU hS hFc⟩⟩ rfl rfl hl.2.1 rfl (lv_room (by rw [catS_tr]; exact h8)) hd ⟨hcc, hcsl⟩
  exact va_calli run hS (fun q _ h => hFc q h) hFc (fun r u t1 H1 locs1 ht hvm hw1 hB _ _ hS1 => by
    obtain ⟨hP1, hK1, hD1, hR1⟩ := hB
    rw [ht] at hP1
    have e1 := congrArg Prod.fst hw1
    have e2 := congrArg Prod.snd hw1
    simp only at e1 e2
    subst e1 e2
    exact k H1 locs1 la hl hv (vc trivial hvrest) hP1 (hD1.weaken (fun _ q _ hq => hFc _ hq)) hS1 hR1)
end JdkCalls

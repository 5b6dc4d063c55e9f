/-! ===== Math and String: answers of calls ===== -/
theorem le_room {a k n : Nat} (h : a ≤ 8) (hk : k ≤ 56) (hn : 64 ≤ n) : a + k ≤ n := by omega
section Jdk
variable {X : XT} {cc : ByteArray} {own : String} {e : EN} {idx : Nat}

def pJ9_max_7cf53 (N : Nat) (a b : Int32) (w : Wd) : Option (Int32 × Wd) := some ((if a < b then b else a), w)
noncomputable def mJ9_max_7cf53 (N : Nat) (as : List AV) (w : Wd) : Option (Int32 × Wd) := xI1 as fun a t => xI1 t fun b t => xN1 t (callW (pJ9_max_7cf53 N a b) w)
theorem crJ9_max_7cf53 {N : Nat} (G : GX X cc own) (hd : decode cc e.1 = .ok (.invokestatic idx, 3)) (hw : ∀ w ∈ cwdS own idx yJ9_max_7cf53 cJ9_max_7cf53 2 (some .int), w ∈ lwg) : CRI X e (mJ9_max_7cf53 N) := by
  intro as rest w x ls hf h8 k
  obtain ⟨a, t1, rfl, hf1⟩ := xI1_some hf
  obtain ⟨b, t2, rfl, hf2⟩ := xI1_some hf1
  obtain ⟨rfl, hf3⟩ := xN1_some hf2
  rw [callW_eq] at hf3
  cases hf3
  obtain ⟨p, l, e0, R, s, m, args, below, meth, c, cells, slots, Q, cs, ρ, D, aC, A, nL0⟩ := X
  obtain ⟨hex, hx, hb, hml, hown, hts, hK, hnd, hcl, hA, hcc, hcsl, hfr, hloc⟩ := G
  intro H locs la hl hv hs hP hD hS hR
  have hvrest : ∀ v ∈ rest, vok cs v := fun v h => hs v (List.mem_append_right _ h)
  have hy : yJ9_max_7cf53 = Lib.Math.max.name := rfl
  have hcd : cJ9_max_7cf53 = Lib.Math.max.code := by decide +kernel
  rw [hy, hcd] at hw
  exact va_mmax hx hb (by rw [hml]; exact hl.2.1.symm) hown (hts _ (hw _ (List.mem_of_getElem? (i := 0) rfl))) (hts _ (hw _ (List.mem_of_getElem? (i := 1) rfl))) (hts _ (hw _ (List.mem_of_getElem? (i := 2) rfl))) (hts _ (hw _ (List.mem_of_getElem? (i := 3) rfl))) hfr (le_room (by rw [catS_tr]; exact h8) (by decide) hloc) hcc hcsl hd (k H locs la hl hv (vc trivial hvrest) hP hD hS hR)
def pJ9_min_7cf53 (N : Nat) (a b : Int32) (w : Wd) : Option (Int32 × Wd) := some ((if b < a then b else a), w)
noncomputable def mJ9_min_7cf53 (N : Nat) (as : List AV) (w : Wd) : Option (Int32 × Wd) := xI1 as fun a t => xI1 t fun b t => xN1 t (callW (pJ9_min_7cf53 N a b) w)
theorem crJ9_min_7cf53 {N : Nat} (G : GX X cc own) (hd : decode cc e.1 = .ok (.invokestatic idx, 3)) (hw : ∀ w ∈ cwdS own idx yJ9_min_7cf53 cJ9_min_7cf53 2 (some .int), w ∈ lwg) : CRI X e (mJ9_min_7cf53 N) := by
  intro as rest w x ls hf h8 k
  obtain ⟨a, t1, rfl, hf1⟩ := xI1_some hf
  obtain ⟨b, t2, rfl, hf2⟩ := xI1_some hf1
  obtain ⟨rfl, hf3⟩ := xN1_some hf2
  rw [callW_eq] at hf3
  cases hf3
  obtain ⟨p, l, e0, R, s, m, args, below, meth, c, cells, slots, Q, cs, ρ, D, aC, A, nL0⟩ := X
  obtain ⟨hex, hx, hb, hml, hown, hts, hK, hnd, hcl, hA, hcc, hcsl, hfr, hloc⟩ := G
  intro H locs la hl hv hs hP hD hS hR
  have hvrest : ∀ v ∈ rest, vok cs v := fun v h => hs v (List.mem_append_right _ h)
  have hy : yJ9_min_7cf53 = Lib.Math.min.name := rfl
  have hcd : cJ9_min_7cf53 = Lib.Math.min.code := by decide +kernel
  rw [hy, hcd] at hw
  exact va_mmin hx hb (by rw [hml]; exact hl.2.1.symm) hown (hts _ (hw _ (List.mem_of_getElem? (i := 0) rfl))) (hts _ (hw _ (List.mem_of_getElem? (i := 1) rfl))) (hts _ (hw _ (List.mem_of_getElem? (i := 2) rfl))) (hts _ (hw _ (List.mem_of_getElem? (i := 3) rfl))) hfr (le_room (by rw [catS_tr]; exact h8) (by decide) hloc) hcc hcsl hd (k H locs la hl hv (vc trivial hvrest) hP hD hS hR)
def pJ9_max_f86c9 (N : Nat) (a b : Int64) (w : Wd) : Option (Int64 × Wd) := some ((if b < a then a else b), w)
noncomputable def mJ9_max_f86c9 (N : Nat) (as : List AV) (w : Wd) : Option (Int64 × Wd) := xL1 as fun a t => xL1 t fun b t => xN1 t (callW (pJ9_max_f86c9 N a b) w)
theorem crJ9_max_f86c9 {N : Nat} (G : GX X cc own) (hd : decode cc e.1 = .ok (.invokestatic idx, 3)) (hw : ∀ w ∈ cwdS own idx yJ9_max_f86c9 cJ9_max_f86c9 4 (some .long), w ∈ lwg) : CRL X e (mJ9_max_f86c9 N) := by
  intro as rest w x ls hf h8 k
  obtain ⟨a, t1, rfl, hf1⟩ := xL1_some hf
  obtain ⟨b, t2, rfl, hf2⟩ := xL1_some hf1
  obtain ⟨rfl, hf3⟩ := xN1_some hf2
  rw [callW_eq] at hf3
  cases hf3
  obtain ⟨p, l, e0, R, s, m, args, below, meth, c, cells, slots, Q, cs, ρ, D, aC, A, nL0⟩ := X
  obtain ⟨hex, hx, hb, hml, hown, hts, hK, hnd, hcl, hA, hcc, hcsl, hfr, hloc⟩ := G
  intro H locs la hl hv hs hP hD hS hR
  have hvrest : ∀ v ∈ rest, vok cs v := fun v h => hs v (List.mem_append_right _ h)
  have hy : yJ9_max_f86c9 = Lib.MathLoose.max_long.x := rfl
  have hcd : cJ9_max_f86c9 = Lib.MathLoose.max_long.code := by decide +kernel
  rw [hy, hcd] at hw
  exact va_mmax_long hx hb (by rw [hml]; exact hl.2.1.symm) hown (hts _ (hw _ (List.mem_of_getElem? (i := 0) rfl))) (hts _ (hw _ (List.mem_of_getElem? (i := 1) rfl))) (hts _ (hw _ (List.mem_of_getElem? (i := 2) rfl))) (hts _ (hw _ (List.mem_of_getElem? (i := 3) rfl))) hfr (le_room (by rw [catS_tr]; exact h8) (by decide) hloc) hcc hcsl hd (k H locs la hl hv (vc trivial hvrest) hP hD hS hR)
def pJ9_min_f86c9 (N : Nat) (a b : Int64) (w : Wd) : Option (Int64 × Wd) := some ((if b < a then b else a), w)
noncomputable def mJ9_min_f86c9 (N : Nat) (as : List AV) (w : Wd) : Option (Int64 × Wd) := xL1 as fun a t => xL1 t fun b t => xN1 t (callW (pJ9_min_f86c9 N a b) w)
theorem crJ9_min_f86c9 {N : Nat} (G : GX X cc own) (hd : decode cc e.1 = .ok (.invokestatic idx, 3)) (hw : ∀ w ∈ cwdS own idx yJ9_min_f86c9 cJ9_min_f86c9 4 (some .long), w ∈ lwg) : CRL X e (mJ9_min_f86c9 N) := by
  intro as rest w x ls hf h8 k
  obtain ⟨a, t1, rfl, hf1⟩ := xL1_some hf
  obtain ⟨b, t2, rfl, hf2⟩ := xL1_some hf1
  obtain ⟨rfl, hf3⟩ := xN1_some hf2
  rw [callW_eq] at hf3
  cases hf3
  obtain ⟨p, l, e0, R, s, m, args, below, meth, c, cells, slots, Q, cs, ρ, D, aC, A, nL0⟩ := X
  obtain ⟨hex, hx, hb, hml, hown, hts, hK, hnd, hcl, hA, hcc, hcsl, hfr, hloc⟩ := G
  intro H locs la hl hv hs hP hD hS hR
  have hvrest : ∀ v ∈ rest, vok cs v := fun v h => hs v (List.mem_append_right _ h)
  have hy : yJ9_min_f86c9 = Lib.MathLoose.min_long.x := rfl
  have hcd : cJ9_min_f86c9 = Lib.MathLoose.min_long.code := by decide +kernel
  rw [hy, hcd] at hw
  exact va_mmin_long hx hb (by rw [hml]; exact hl.2.1.symm) hown (hts _ (hw _ (List.mem_of_getElem? (i := 0) rfl))) (hts _ (hw _ (List.mem_of_getElem? (i := 1) rfl))) (hts _ (hw _ (List.mem_of_getElem? (i := 2) rfl))) (hts _ (hw _ (List.mem_of_getElem? (i := 3) rfl))) hfr (le_room (by rw [catS_tr]; exact h8) (by decide) hloc) hcc hcsl hd (k H locs la hl hv (vc trivial hvrest) hP hD hS hR)
def pJ9_abs_067f4 (N : Nat) (a : Int64) (w : Wd) : Option (Int64 × Wd) := some ((if 0 < a then a else -a), w)
noncomputable def mJ9_abs_067f4 (N : Nat) (as : List AV) (w : Wd) : Option (Int64 × Wd) := xL1 as fun a t => xN1 t (callW (pJ9_abs_067f4 N a) w)
theorem crJ9_abs_067f4 {N : Nat} (G : GX X cc own) (hd : decode cc e.1 = .ok (.invokestatic idx, 3)) (hw : ∀ w ∈ cwdS own idx yJ9_abs_067f4 cJ9_abs_067f4 2 (some .long), w ∈ lwg) : CRL X e (mJ9_abs_067f4 N) := by
  intro as rest w x ls hf h8 k
  obtain ⟨a, t1, rfl, hf2⟩ := xL1_some hf
  obtain ⟨rfl, hf3⟩ := xN1_some hf2
  rw [callW_eq] at hf3
  cases hf3
  obtain ⟨p, l, e0, R, s, m, args, below, meth, c, cells, slots, Q, cs, ρ, D, aC, A, nL0⟩ := X
  obtain ⟨hex, hx, hb, hml, hown, hts, hK, hnd, hcl, hA, hcc, hcsl, hfr, hloc⟩ := G
  intro H locs la hl hv hs hP hD hS hR
  have hvrest : ∀ v ∈ rest, vok cs v := fun v h => hs v (List.mem_append_right _ h)
  have hy : yJ9_abs_067f4 = Lib.MathLoose.abs_long.x := rfl
  have hcd : cJ9_abs_067f4 = Lib.MathLoose.abs_long.code := by decide +kernel
  rw [hy, hcd] at hw
  exact va_mabs_long hx hb (by rw [hml]; exact hl.2.1.symm) hown (hts _ (hw _ (List.mem_of_getElem? (i := 0) rfl))) (hts _ (hw _ (List.mem_of_getElem? (i := 1) rfl))) (hts _ (hw _ (List.mem_of_getElem? (i := 2) rfl))) (hts _ (hw _ (List.mem_of_getElem? (i := 3) rfl))) hfr (le_room (by rw [catS_tr]; exact h8) (by decide) hloc) hcc hcsl hd (k H locs la hl hv (vc trivial hvrest) hP hD hS hR)
def pJ9_floorMod_7cf53 (N : Nat) (a b : Int32) (w : Wd) : Option (Int32 × Wd) := if b = 0 then none else some ((if ((a - a / b * b) ^^^ b) < 0 then (if a - a / b * b = 0 then a - a / b * b else a - a / b * b + b) else a - a / b * b), w)
noncomputable def mJ9_floorMod_7cf53 (N : Nat) (as : List AV) (w : Wd) : Option (Int32 × Wd) := xI1 as fun a t => xI1 t fun b t => xN1 t (callW (pJ9_floorMod_7cf53 N a b) w)
theorem crJ9_floorMod_7cf53 {N : Nat} (G : GX X cc own) (hd : decode cc e.1 = .ok (.invokestatic idx, 3)) (hw : ∀ w ∈ cwdS own idx yJ9_floorMod_7cf53 cJ9_floorMod_7cf53 3 (some .int), w ∈ lwg) : CRI X e (mJ9_floorMod_7cf53 N) := by
  sorry
def pJ0_length (N i : Nat) (w : Wd) : Option (Int32 × Wd) := if i < 2 then some (Int32.ofNat (strL.getD i 0), w) else none
noncomputable def mJ0_length_8abf5 (N : Nat) (as : List AV) (w : Wd) : Option (Int32 × Wd) := xR1 2 as fun i t => xN1 t (callW (pJ0_length N i) w)
def pJ0_charAt (N i : Nat) (j : Int32) (w : Wd) : Option (Int32 × Wd) := if i < 2 then (if j < 0 ∨ strL.getD i 0 ≤ j.toNatClampNeg then none else some ((strB.getD i []).getD j.toNatClampNeg 0, w)) else none
noncomputable def mJ0_charAt_5068e (N : Nat) (as : List AV) (w : Wd) : Option (Int32 × Wd) := xR1 2 as fun i t => xI1 t fun j t => xN1 t (callW (pJ0_charAt N i j) w)
theorem crJ0_length_8abf5 {N : Nat} (G : GX X cc own) (hd : decode cc e.1 = .ok (.invokevirtual idx, 3)) (hw : ∀ w ∈ cwdV own idx yJ0_length_8abf5 cJ0_length_8abf5 1 (some .int), w ∈ lwg) (hr : 4 ≤ (xR X).frames ∧ 320 ≤ (xR X).locals) : CRI X e (mJ0_length_8abf5 N) := by
  sorry
theorem crJ0_charAt_5068e {N : Nat} (G : GX X cc own) (hd : decode cc e.1 = .ok (.invokevirtual idx, 3)) (hw : ∀ w ∈ cwdV own idx yJ0_charAt_5068e cJ0_charAt_5068e 2 (some .char), w ∈ lwg) (hr : 6 ≤ (xR X).frames ∧ 480 ≤ (xR X).locals) : CRI X e (mJ0_charAt_5068e N) := by
  sorry
end Jdk

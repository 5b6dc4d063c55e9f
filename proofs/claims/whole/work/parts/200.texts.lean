/-! ===== texts: answers of calls ===== -/
section Jdk
variable {X : XT} {cc : ByteArray} {own : String} {e : EN} {idx : Nat}
def pJ0_length (N i : Nat) (w : Wd) : Option (Int32 × Wd) := if i < 2 then some (Int32.ofNat (strL.getD i 0), w) else none
noncomputable def mJ0_length_8abf5 (N : Nat) (as : List AV) (w : Wd) : Option (Int32 × Wd) := xR1 2 as fun i t => xN1 t (callW (pJ0_length N i) w)
def pJ0_charAt (N i : Nat) (j : Int32) (w : Wd) : Option (Int32 × Wd) := if i < 2 then (if j < 0 ∨ strL.getD i 0 ≤ j.toNatClampNeg then none else some ((strB.getD i []).getD j.toNatClampNeg 0, w)) else none
noncomputable def mJ0_charAt_5068e (N : Nat) (as : List AV) (w : Wd) : Option (Int32 × Wd) := xR1 2 as fun i t => xI1 t fun j t => xN1 t (callW (pJ0_charAt N i j) w)
theorem crJ0_length_8abf5 {N : Nat} (G : GX X cc own) (hd : decode cc e.1 = .ok (.invokevirtual idx, 3)) (hw : ∀ w ∈ cwdV own idx yJ0_length_8abf5 cJ0_length_8abf5 1 (some .int), w ∈ lwg) (hr : 4 ≤ (xR X).frames ∧ 320 ≤ (xR X).locals) : CRI X e (mJ0_length_8abf5 N) := by
  sorry
theorem crJ0_charAt_5068e {N : Nat} (G : GX X cc own) (hd : decode cc e.1 = .ok (.invokevirtual idx, 3)) (hw : ∀ w ∈ cwdV own idx yJ0_charAt_5068e cJ0_charAt_5068e 2 (some .char), w ∈ lwg) (hr : 6 ≤ (xR X).frames ∧ 480 ≤ (xR X).locals) : CRI X e (mJ0_charAt_5068e N) := by
  sorry
end Jdk

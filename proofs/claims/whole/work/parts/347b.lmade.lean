/-! ===== the law: the two constructors, by computing ===== -/
/-! the two calls, by computing -/
def S2L : CS := cEnd [(15, 0)] 149 6665 S1L endC
def S3L : CS := nxC S2L (16, 0) 108
def S4L : CS := cEnd [(16, 0)] 58 3299 S3L endM
def S5L : CS := nxC S4L (1, 0) 1
theorem oN_mk {L : Nat → List (Nat × Nat)} {mc ms : Nat} {ext : List (Nat × Nat)} {k0 nL na mc1 ms1 : Nat} {sub ext1 : List AV → List (Nat × Nat)} {R : List AV → CS → Option (CS × List WO)} {i : Nat} {t : List AV} {S S0 T : CS} {o : List WO} (h1 : t.length = na) (h2 : (entA (.inr (.inr (k0, i)) :: t)).length ≤ nL) (h3 : S.1.contains (k0, i) = true) (hS : cSub S (sub (.inr (.inr (k0, i)) :: t)) = S0) (hR : R (.inr (.inr (k0, i)) :: t) S0 = some (T, o)) (hJ : cJnB L (sub (.inr (.inr (k0, i)) :: t)) ext (ext1 (.inr (.inr (k0, i)) :: t)) mc ms mc1 ms1 S T o = true) (h5 : T.2.2.2.1 ≤ mc1) (h6 : T.2.2.2.2 ≤ ms1) :
    oN L mc ms ext k0 nL na mc1 ms1 sub ext1 R (.inr (.inr (k0, i)) :: t) S = some (cEnd (sub (.inr (.inr (k0, i)) :: t)) mc1 ms1 S T, o) := by
  unfold oN
  dsimp only
  rw [if_pos ⟨rfl, h1, h2, h3⟩, hS, hR]
  show (if _ then _ else _) = _
  rw [if_pos ⟨hJ, h5, h6⟩]
set_option maxRecDepth 100000 in
set_option maxHeartbeats 4000000 in
theorem lx_ok1 : ((cJnB Lc [(15, 0)] [] [] 601024 7293034 149 6665 S1L endC oCC && (decide (endC.2.2.2.1 ≤ 149) && decide (endC.2.2.2.2 ≤ 6665))) && (kpO S1L S2L (15, 0) lsA && frO S2L (16, 0) lsB 108)) = true := by decide +kernel
set_option maxRecDepth 100000 in
set_option maxHeartbeats 4000000 in
theorem lx_ok2 : ((cJnB Lc [(16, 0)] [] [] 601024 7293034 58 3299 S3L endM oMM && (decide (endM.2.2.2.1 ≤ 58) && decide (endM.2.2.2.2 ≤ 3299))) && (kpO S3L S4L (16, 0) lsB && (frO S4L (1, 0) lsC 1 && (S3L.1.contains (16, 0) && decide (cSub S3L [(16, 0)] = S0M))))) = true := by decide +kernel
set_option maxRecDepth 100000 in
set_option maxHeartbeats 4000000 in
theorem lx_ok3 : (fulS S5L.1 S5L.2.1 && (decide (S5L.2.2.2.1 = 210 ∧ S5L.2.2.2.2 = 10089) && ((S5L.1.contains (15, 0) && S5L.1.contains (1, 0)) && (S5L.1.contains (16, 0) && !S5L.1.contains (2, 7))))) = true := by decide +kernel
theorem law_made {X : XT} {N : Nat} {w w1 w2 : Wd} (G : GC X cL_law RL) (hnL : xnL X = 7) (hR : xR X = room_1) (hmc : X.2.2.2.2.2.2.2.2.2.2.1 = 601024) (hms : X.2.2.2.2.2.2.2.2.2.2.2.1 = 7293034) (W1 : wops (Fc N) oCC (zrow w 15 0) = some w1) (W2 : wops (Fc N) oMM (zrow w1 16 0) = some w2)
    (k : CW X [] 23 (lsL 0) [] S5L (zrow w2 1 0)) : CW X [] 0 lsA [] ([], [], [], 0, 0) w := by
  have a := lx_ok1
  have b := lx_ok2
  simp only [Bool.and_eq_true, decide_eq_true_eq] at a b
  obtain ⟨⟨a1, a2, a3⟩, a4, a5⟩ := a
  obtain ⟨⟨b1, b2, b3⟩, b4, b5, b6, b7⟩ := b
  have h1 := oN_mk (L := Lc) (mc := 601024) (ms := 7293034) (ext := []) (k0 := 15) (nL := 1) (na := 0) (mc1 := 149) (ms1 := 6665) (sub := sb1) (ext1 := xt0) (R := rX11) (i := 0) (t := []) (S := S1L) rfl (by decide) (by decide) (show cSub S1L [(15, 0)] = S0C from rfl) rC_eq a1 a2 a3
  have h2 := oN_mk (L := Lc) (mc := 601024) (ms := 7293034) (ext := []) (k0 := 16) (nL := 1) (na := 0) (mc1 := 58) (ms1 := 3299) (sub := sb1) (ext1 := xt0) (R := rX12) (i := 0) (t := []) (S := S3L) rfl (by decide) b6 b7 rM_eq b1 b2 b3
  exact law_cw (S2 := S2L) (S4 := S4L) G hnL hR hmc hms h1 W1 a4 a5 h2 W2 b4 b5 k

/-! ===== the state that both stand for: v row place. Rows: 0 [parts, people, parties, weathers, near, night, slides, knots], 1 partName, 2 odds, 3 beside, 4 personName, 5 cost, 6 from, 7 till, 8 forget, 9 partyFrom, 10 partyTo, 11 partyNight, 12 price, 13 weather, 14 slidePart, 15 slideNight, 16 learned (8p+k; 0 never, 1 at first, n+2 on night n), 17 gone, 18 times, 19 lost (0 nowhere, k+1), 20 [sizes of the laws], 21 and 22 kinds and numbers of out, 23 and 24 of pick ===== -/
abbrev Vw : Type := Nat → Nat → Nat
def lrn : Nat → Int32
  | 0 => -nI 2
  | 1 => -nI 1
  | n + 2 => nI n
def lrm : Nat → Int32
  | 0 => -nI 1
  | n + 1 => nI (n - 1)
def lst : Nat → Int32
  | 0 => -nI 1
  | n + 1 => nI n
/-- a knot as the class writes it -/
def tkn : Nat → Nat
  | 0 => 19 | 1 => 20 | 2 => 9 | 3 => 21 | 4 => 22 | 5 => 4 | _ => 23
def tko : Nat → Nat
  | 2 => 18 | 3 => 17 | 4 => 16 | n => if n < 11 then n + 34 else n + 24
def enc (c x : Nat) : Int32 := if c = 0 then nI x else if c = 1 then nI (tkn x) ^^^ -nI 1 else nI (tko c) ^^^ -nI 1
def zB (b : Bool) : Int32 := nI (if b then 1 else 0)
def TC (w : Wd) (m : Nat) (v : Vw) : Prop :=
  (gI w 8 m 0 = nI (v 0 0)) ∧
  (gI w 10 m 0 = nI (v 0 1)) ∧
  (gI w 8 m 5 = nI (v 0 2)) ∧
  (gI w 8 m 10 = nI (v 0 3)) ∧
  (gI w 8 m 15 = nI (v 0 4)) ∧
  (gI w 8 m 17 = nI (v 0 7)) ∧
  (∀ j, j < v 0 0 → gI w 30 m j = nI (v 1 j)) ∧
  (∀ j, j < v 0 0 → gI w 31 m j = nI (v 2 j)) ∧
  (∀ j, j < v 0 0 → gI w 32 m j = nI (v 3 j)) ∧
  (∀ j, j < v 0 1 → gI w 48 m j = nI (v 4 j)) ∧
  (∀ j, j < v 0 1 → gI w 50 m j = nI (v 5 j)) ∧
  (∀ j, j < v 0 1 → gI w 51 m j = nI (v 6 j)) ∧
  (∀ j, j < v 0 1 → gI w 52 m j = nI (v 7 j)) ∧
  (∀ j, j < v 0 1 → gI w 53 m j = nI (v 8 j)) ∧
  (∀ j, j < v 0 2 → gI w 33 m j = nI (v 9 j)) ∧
  (∀ j, j < v 0 2 → gI w 34 m j = nI (v 10 j)) ∧
  (∀ j, j < v 0 2 → gI w 35 m j = nI (v 11 j)) ∧
  (∀ j, j < v 0 2 → gI w 36 m j = nI (v 12 j)) ∧
  (∀ j, j < v 0 3 → gI w 37 m j = nI (v 13 j)) ∧
  (∀ a, a < 2 → gI w 5 (2 * m + a) 2 = nI (v 20 a)) ∧
  (∀ a j, a < 2 → j < v 20 a → gI w 21 (2 * m + a) j = enc (v (21 + 2 * a) j) (v (22 + 2 * a) j))
theorem TC_parts {w : Wd} {m : Nat} {v : Vw} (h : TC w m v) : gI w 8 m 0 = nI (v 0 0) := h.1
theorem TC_people {w : Wd} {m : Nat} {v : Vw} (h : TC w m v) : gI w 10 m 0 = nI (v 0 1) := h.2.1
theorem TC_parties {w : Wd} {m : Nat} {v : Vw} (h : TC w m v) : gI w 8 m 5 = nI (v 0 2) := h.2.2.1
theorem TC_weathers {w : Wd} {m : Nat} {v : Vw} (h : TC w m v) : gI w 8 m 10 = nI (v 0 3) := h.2.2.2.1
theorem TC_near {w : Wd} {m : Nat} {v : Vw} (h : TC w m v) : gI w 8 m 15 = nI (v 0 4) := h.2.2.2.2.1
theorem TC_knots {w : Wd} {m : Nat} {v : Vw} (h : TC w m v) : gI w 8 m 17 = nI (v 0 7) := h.2.2.2.2.2.1
theorem TC_pname {w : Wd} {m : Nat} {v : Vw} (h : TC w m v) : ∀ j, j < v 0 0 → gI w 30 m j = nI (v 1 j) := h.2.2.2.2.2.2.1
theorem TC_odds {w : Wd} {m : Nat} {v : Vw} (h : TC w m v) : ∀ j, j < v 0 0 → gI w 31 m j = nI (v 2 j) := h.2.2.2.2.2.2.2.1
theorem TC_beside {w : Wd} {m : Nat} {v : Vw} (h : TC w m v) : ∀ j, j < v 0 0 → gI w 32 m j = nI (v 3 j) := h.2.2.2.2.2.2.2.2.1
theorem TC_wname {w : Wd} {m : Nat} {v : Vw} (h : TC w m v) : ∀ j, j < v 0 1 → gI w 48 m j = nI (v 4 j) := h.2.2.2.2.2.2.2.2.2.1
theorem TC_cost {w : Wd} {m : Nat} {v : Vw} (h : TC w m v) : ∀ j, j < v 0 1 → gI w 50 m j = nI (v 5 j) := h.2.2.2.2.2.2.2.2.2.2.1
theorem TC_from {w : Wd} {m : Nat} {v : Vw} (h : TC w m v) : ∀ j, j < v 0 1 → gI w 51 m j = nI (v 6 j) := h.2.2.2.2.2.2.2.2.2.2.2.1
theorem TC_till {w : Wd} {m : Nat} {v : Vw} (h : TC w m v) : ∀ j, j < v 0 1 → gI w 52 m j = nI (v 7 j) := h.2.2.2.2.2.2.2.2.2.2.2.2.1
theorem TC_forget {w : Wd} {m : Nat} {v : Vw} (h : TC w m v) : ∀ j, j < v 0 1 → gI w 53 m j = nI (v 8 j) := h.2.2.2.2.2.2.2.2.2.2.2.2.2.1
theorem TC_pfrom {w : Wd} {m : Nat} {v : Vw} (h : TC w m v) : ∀ j, j < v 0 2 → gI w 33 m j = nI (v 9 j) := h.2.2.2.2.2.2.2.2.2.2.2.2.2.2.1
theorem TC_pto {w : Wd} {m : Nat} {v : Vw} (h : TC w m v) : ∀ j, j < v 0 2 → gI w 34 m j = nI (v 10 j) := h.2.2.2.2.2.2.2.2.2.2.2.2.2.2.2.1
theorem TC_pnight {w : Wd} {m : Nat} {v : Vw} (h : TC w m v) : ∀ j, j < v 0 2 → gI w 35 m j = nI (v 11 j) := h.2.2.2.2.2.2.2.2.2.2.2.2.2.2.2.2.1
theorem TC_price {w : Wd} {m : Nat} {v : Vw} (h : TC w m v) : ∀ j, j < v 0 2 → gI w 36 m j = nI (v 12 j) := h.2.2.2.2.2.2.2.2.2.2.2.2.2.2.2.2.2.1
theorem TC_weather {w : Wd} {m : Nat} {v : Vw} (h : TC w m v) : ∀ j, j < v 0 3 → gI w 37 m j = nI (v 13 j) := h.2.2.2.2.2.2.2.2.2.2.2.2.2.2.2.2.2.2.1
theorem TC_lsize {w : Wd} {m : Nat} {v : Vw} (h : TC w m v) : ∀ a, a < 2 → gI w 5 (2 * m + a) 2 = nI (v 20 a) := h.2.2.2.2.2.2.2.2.2.2.2.2.2.2.2.2.2.2.2.1
theorem TC_lcode {w : Wd} {m : Nat} {v : Vw} (h : TC w m v) : ∀ a j, a < 2 → j < v 20 a → gI w 21 (2 * m + a) j = enc (v (21 + 2 * a) j) (v (22 + 2 * a) j) := h.2.2.2.2.2.2.2.2.2.2.2.2.2.2.2.2.2.2.2.2
def SC (w : Wd) (i : Nat) (v : Vw) : Prop :=
  (gI w 13 i 1 = nI (v 0 5)) ∧
  (gI w 13 i 7 = nI (v 0 6)) ∧
  (∀ j, j < v 0 6 → gI w 64 i j = nI (v 14 j)) ∧
  (∀ j, j < v 0 6 → gI w 65 i j = nI (v 15 j)) ∧
  (∀ p k, p < v 0 1 → k < 8 → gI w 62 (p + 6 * i) k = lrn (v 16 (8 * p + k))) ∧
  (gI w 13 i 3 = nI (mkB (fun p => v 17 p == 1) (v 0 1))) ∧
  (∀ j, j < v 0 1 → gI w 60 i j = nI (v 18 j)) ∧
  (∀ p, p < v 0 1 → gI w 63 i p = lst (v 19 p))
theorem SC_night {w : Wd} {i : Nat} {v : Vw} (h : SC w i v) : gI w 13 i 1 = nI (v 0 5) := h.1
theorem SC_slides {w : Wd} {i : Nat} {v : Vw} (h : SC w i v) : gI w 13 i 7 = nI (v 0 6) := h.2.1
theorem SC_spart {w : Wd} {i : Nat} {v : Vw} (h : SC w i v) : ∀ j, j < v 0 6 → gI w 64 i j = nI (v 14 j) := h.2.2.1
theorem SC_snight {w : Wd} {i : Nat} {v : Vw} (h : SC w i v) : ∀ j, j < v 0 6 → gI w 65 i j = nI (v 15 j) := h.2.2.2.1
theorem SC_learned {w : Wd} {i : Nat} {v : Vw} (h : SC w i v) : ∀ p k, p < v 0 1 → k < 8 → gI w 62 (p + 6 * i) k = lrn (v 16 (8 * p + k)) := h.2.2.2.2.1
theorem SC_gone {w : Wd} {i : Nat} {v : Vw} (h : SC w i v) : gI w 13 i 3 = nI (mkB (fun p => v 17 p == 1) (v 0 1)) := h.2.2.2.2.2.1
theorem SC_times {w : Wd} {i : Nat} {v : Vw} (h : SC w i v) : ∀ j, j < v 0 1 → gI w 60 i j = nI (v 18 j) := h.2.2.2.2.2.2.1
theorem SC_lost {w : Wd} {i : Nat} {v : Vw} (h : SC w i v) : ∀ p, p < v 0 1 → gI w 63 i p = lst (v 19 p) := h.2.2.2.2.2.2.2
def WF (v : Vw) : Prop :=
  (v 0 0 ≤ 8) ∧
  (v 0 1 ≤ 6) ∧
  (v 0 2 ≤ 8) ∧
  (v 0 3 ≤ 14) ∧
  (v 0 4 ≤ 8) ∧
  (v 0 5 ≤ 1050) ∧
  (v 0 6 ≤ 12) ∧
  (v 0 7 ≤ 64) ∧
  (∀ r j, v r j < 2 ^ 30) ∧
  (∀ j, v 2 j ≤ 100) ∧
  (∀ j, v 3 j < 2 ^ v 0 0) ∧
  (∀ a b, (v 3 a).testBit b = (v 3 b).testBit a) ∧
  (∀ j, v 5 j ≤ 99) ∧
  (∀ j, v 6 j ≤ 999) ∧
  (∀ j, v 7 j ≤ 999) ∧
  (∀ j, v 8 j ≤ 999) ∧
  (∀ q, q < v 0 2 → v 9 q < v 0 0) ∧
  (∀ q, q < v 0 2 → v 10 q < v 0 0) ∧
  (∀ j, v 11 j ≤ 999) ∧
  (∀ j, v 12 j ≤ 99) ∧
  (∀ j, v 13 j ≤ 9) ∧
  (∀ s, s < v 0 6 → v 14 s < v 0 0) ∧
  (∀ j, v 15 j ≤ 1050) ∧
  (∀ j, v 16 j ≤ 1052) ∧
  (∀ j, v 17 j ≤ 1) ∧
  (∀ j, v 18 j ≤ 1100) ∧
  (∀ p, v 19 p ≤ v 0 0) ∧
  (∀ a, v 20 a ≤ 64) ∧
  (∀ a j, a < 2 → j < v 20 a → v (21 + 2 * a) j ≤ 14 ∧ v (22 + 2 * a) j ≤ 9999 ∧ (v (21 + 2 * a) j = 1 → v (22 + 2 * a) j ≤ 6))
theorem WF_parts {v : Vw} (h : WF v) : v 0 0 ≤ 8 := h.1
theorem WF_people {v : Vw} (h : WF v) : v 0 1 ≤ 6 := h.2.1
theorem WF_parties {v : Vw} (h : WF v) : v 0 2 ≤ 8 := h.2.2.1
theorem WF_weathers {v : Vw} (h : WF v) : v 0 3 ≤ 14 := h.2.2.2.1
theorem WF_near {v : Vw} (h : WF v) : v 0 4 ≤ 8 := h.2.2.2.2.1
theorem WF_night {v : Vw} (h : WF v) : v 0 5 ≤ 1050 := h.2.2.2.2.2.1
theorem WF_slides {v : Vw} (h : WF v) : v 0 6 ≤ 12 := h.2.2.2.2.2.2.1
theorem WF_knots {v : Vw} (h : WF v) : v 0 7 ≤ 64 := h.2.2.2.2.2.2.2.1
theorem WF_bd {v : Vw} (h : WF v) : ∀ r j, v r j < 2 ^ 30 := h.2.2.2.2.2.2.2.2.1
theorem WF_odds {v : Vw} (h : WF v) : ∀ j, v 2 j ≤ 100 := h.2.2.2.2.2.2.2.2.2.1
theorem WF_beside {v : Vw} (h : WF v) : ∀ j, v 3 j < 2 ^ v 0 0 := h.2.2.2.2.2.2.2.2.2.2.1
theorem WF_sym {v : Vw} (h : WF v) : ∀ a b, (v 3 a).testBit b = (v 3 b).testBit a := h.2.2.2.2.2.2.2.2.2.2.2.1
theorem WF_cost {v : Vw} (h : WF v) : ∀ j, v 5 j ≤ 99 := h.2.2.2.2.2.2.2.2.2.2.2.2.1
theorem WF_from {v : Vw} (h : WF v) : ∀ j, v 6 j ≤ 999 := h.2.2.2.2.2.2.2.2.2.2.2.2.2.1
theorem WF_till {v : Vw} (h : WF v) : ∀ j, v 7 j ≤ 999 := h.2.2.2.2.2.2.2.2.2.2.2.2.2.2.1
theorem WF_forget {v : Vw} (h : WF v) : ∀ j, v 8 j ≤ 999 := h.2.2.2.2.2.2.2.2.2.2.2.2.2.2.2.1
theorem WF_pfrom {v : Vw} (h : WF v) : ∀ q, q < v 0 2 → v 9 q < v 0 0 := h.2.2.2.2.2.2.2.2.2.2.2.2.2.2.2.2.1
theorem WF_pto {v : Vw} (h : WF v) : ∀ q, q < v 0 2 → v 10 q < v 0 0 := h.2.2.2.2.2.2.2.2.2.2.2.2.2.2.2.2.2.1
theorem WF_pnight {v : Vw} (h : WF v) : ∀ j, v 11 j ≤ 999 := h.2.2.2.2.2.2.2.2.2.2.2.2.2.2.2.2.2.2.1
theorem WF_price {v : Vw} (h : WF v) : ∀ j, v 12 j ≤ 99 := h.2.2.2.2.2.2.2.2.2.2.2.2.2.2.2.2.2.2.2.1
theorem WF_weather {v : Vw} (h : WF v) : ∀ j, v 13 j ≤ 9 := h.2.2.2.2.2.2.2.2.2.2.2.2.2.2.2.2.2.2.2.2.1
theorem WF_spart {v : Vw} (h : WF v) : ∀ s, s < v 0 6 → v 14 s < v 0 0 := h.2.2.2.2.2.2.2.2.2.2.2.2.2.2.2.2.2.2.2.2.2.1
theorem WF_snight {v : Vw} (h : WF v) : ∀ j, v 15 j ≤ 1050 := h.2.2.2.2.2.2.2.2.2.2.2.2.2.2.2.2.2.2.2.2.2.2.1
theorem WF_learned {v : Vw} (h : WF v) : ∀ j, v 16 j ≤ 1052 := h.2.2.2.2.2.2.2.2.2.2.2.2.2.2.2.2.2.2.2.2.2.2.2.1
theorem WF_gone {v : Vw} (h : WF v) : ∀ j, v 17 j ≤ 1 := h.2.2.2.2.2.2.2.2.2.2.2.2.2.2.2.2.2.2.2.2.2.2.2.2.1
theorem WF_times {v : Vw} (h : WF v) : ∀ j, v 18 j ≤ 1100 := h.2.2.2.2.2.2.2.2.2.2.2.2.2.2.2.2.2.2.2.2.2.2.2.2.2.1
theorem WF_lost {v : Vw} (h : WF v) : ∀ p, v 19 p ≤ v 0 0 := h.2.2.2.2.2.2.2.2.2.2.2.2.2.2.2.2.2.2.2.2.2.2.2.2.2.2.1
theorem WF_lsize {v : Vw} (h : WF v) : ∀ a, v 20 a ≤ 64 := h.2.2.2.2.2.2.2.2.2.2.2.2.2.2.2.2.2.2.2.2.2.2.2.2.2.2.2.1
theorem WF_lcode {v : Vw} (h : WF v) : ∀ a j, a < 2 → j < v 20 a → v (21 + 2 * a) j ≤ 14 ∧ v (22 + 2 * a) j ≤ 9999 ∧ (v (21 + 2 * a) j = 1 → v (22 + 2 * a) j ≤ 6) := h.2.2.2.2.2.2.2.2.2.2.2.2.2.2.2.2.2.2.2.2.2.2.2.2.2.2.2.2
/-- the class: stand i, with its moor -/
def RC (w : Wd) (i : Nat) (v : Vw) : Prop := TC w (gR w 13 i 0) v ∧ SC w i v
def TM (w : Wd) (v : Vw) : Prop :=
  (gI w 16 0 12 = nI (v 0 0)) ∧
  (gI w 16 0 13 = nI (v 0 1)) ∧
  (gI w 16 0 14 = nI (v 0 2)) ∧
  (gI w 16 0 15 = nI (v 0 3)) ∧
  (gI w 16 0 17 = nI (v 0 4)) ∧
  (gI w 16 0 19 = nI (v 0 7)) ∧
  (∀ j, j < v 0 0 → gI w 75 0 j = nI (v 1 j)) ∧
  (∀ j, j < v 0 0 → gI w 76 0 j = nI (v 2 j)) ∧
  (∀ j, j < v 0 0 → gI w 77 0 j = nI (v 3 j)) ∧
  (∀ j, j < v 0 1 → gI w 78 0 j = nI (v 4 j)) ∧
  (∀ j, j < v 0 1 → gI w 80 0 j = nI (v 5 j)) ∧
  (∀ j, j < v 0 1 → gI w 81 0 j = nI (v 6 j)) ∧
  (∀ j, j < v 0 1 → gI w 82 0 j = nI (v 7 j)) ∧
  (∀ j, j < v 0 1 → gI w 83 0 j = nI (v 8 j)) ∧
  (∀ j, j < v 0 2 → gI w 84 0 j = nI (v 9 j)) ∧
  (∀ j, j < v 0 2 → gI w 85 0 j = nI (v 10 j)) ∧
  (∀ j, j < v 0 2 → gI w 86 0 j = nI (v 11 j)) ∧
  (∀ j, j < v 0 2 → gI w 87 0 j = nI (v 12 j)) ∧
  (∀ j, j < v 0 3 → gI w 88 0 j = nI (v 13 j)) ∧
  (gI w 16 0 65 = nI (v 0 6)) ∧
  (∀ j, j < v 0 6 → gI w 89 0 j = nI (v 14 j)) ∧
  (∀ j, j < v 0 6 → gI w 90 0 j = nI (v 15 j)) ∧
  (∀ a, a < 2 → gI w 91 0 a = zB (decide (0 < v 20 a)))
theorem TM_parts {w : Wd} {v : Vw} (h : TM w v) : gI w 16 0 12 = nI (v 0 0) := h.1
theorem TM_people {w : Wd} {v : Vw} (h : TM w v) : gI w 16 0 13 = nI (v 0 1) := h.2.1
theorem TM_parties {w : Wd} {v : Vw} (h : TM w v) : gI w 16 0 14 = nI (v 0 2) := h.2.2.1
theorem TM_weathers {w : Wd} {v : Vw} (h : TM w v) : gI w 16 0 15 = nI (v 0 3) := h.2.2.2.1
theorem TM_near {w : Wd} {v : Vw} (h : TM w v) : gI w 16 0 17 = nI (v 0 4) := h.2.2.2.2.1
theorem TM_knots {w : Wd} {v : Vw} (h : TM w v) : gI w 16 0 19 = nI (v 0 7) := h.2.2.2.2.2.1
theorem TM_pname {w : Wd} {v : Vw} (h : TM w v) : ∀ j, j < v 0 0 → gI w 75 0 j = nI (v 1 j) := h.2.2.2.2.2.2.1
theorem TM_odds {w : Wd} {v : Vw} (h : TM w v) : ∀ j, j < v 0 0 → gI w 76 0 j = nI (v 2 j) := h.2.2.2.2.2.2.2.1
theorem TM_beside {w : Wd} {v : Vw} (h : TM w v) : ∀ j, j < v 0 0 → gI w 77 0 j = nI (v 3 j) := h.2.2.2.2.2.2.2.2.1
theorem TM_wname {w : Wd} {v : Vw} (h : TM w v) : ∀ j, j < v 0 1 → gI w 78 0 j = nI (v 4 j) := h.2.2.2.2.2.2.2.2.2.1
theorem TM_cost {w : Wd} {v : Vw} (h : TM w v) : ∀ j, j < v 0 1 → gI w 80 0 j = nI (v 5 j) := h.2.2.2.2.2.2.2.2.2.2.1
theorem TM_from {w : Wd} {v : Vw} (h : TM w v) : ∀ j, j < v 0 1 → gI w 81 0 j = nI (v 6 j) := h.2.2.2.2.2.2.2.2.2.2.2.1
theorem TM_till {w : Wd} {v : Vw} (h : TM w v) : ∀ j, j < v 0 1 → gI w 82 0 j = nI (v 7 j) := h.2.2.2.2.2.2.2.2.2.2.2.2.1
theorem TM_forget {w : Wd} {v : Vw} (h : TM w v) : ∀ j, j < v 0 1 → gI w 83 0 j = nI (v 8 j) := h.2.2.2.2.2.2.2.2.2.2.2.2.2.1
theorem TM_pfrom {w : Wd} {v : Vw} (h : TM w v) : ∀ j, j < v 0 2 → gI w 84 0 j = nI (v 9 j) := h.2.2.2.2.2.2.2.2.2.2.2.2.2.2.1
theorem TM_pto {w : Wd} {v : Vw} (h : TM w v) : ∀ j, j < v 0 2 → gI w 85 0 j = nI (v 10 j) := h.2.2.2.2.2.2.2.2.2.2.2.2.2.2.2.1
theorem TM_pnight {w : Wd} {v : Vw} (h : TM w v) : ∀ j, j < v 0 2 → gI w 86 0 j = nI (v 11 j) := h.2.2.2.2.2.2.2.2.2.2.2.2.2.2.2.2.1
theorem TM_price {w : Wd} {v : Vw} (h : TM w v) : ∀ j, j < v 0 2 → gI w 87 0 j = nI (v 12 j) := h.2.2.2.2.2.2.2.2.2.2.2.2.2.2.2.2.2.1
theorem TM_weather {w : Wd} {v : Vw} (h : TM w v) : ∀ j, j < v 0 3 → gI w 88 0 j = nI (v 13 j) := h.2.2.2.2.2.2.2.2.2.2.2.2.2.2.2.2.2.2.1
theorem TM_slides {w : Wd} {v : Vw} (h : TM w v) : gI w 16 0 65 = nI (v 0 6) := h.2.2.2.2.2.2.2.2.2.2.2.2.2.2.2.2.2.2.2.1
theorem TM_spart {w : Wd} {v : Vw} (h : TM w v) : ∀ j, j < v 0 6 → gI w 89 0 j = nI (v 14 j) := h.2.2.2.2.2.2.2.2.2.2.2.2.2.2.2.2.2.2.2.2.1
theorem TM_snight {w : Wd} {v : Vw} (h : TM w v) : ∀ j, j < v 0 6 → gI w 90 0 j = nI (v 15 j) := h.2.2.2.2.2.2.2.2.2.2.2.2.2.2.2.2.2.2.2.2.2.1
theorem TM_told {w : Wd} {v : Vw} (h : TM w v) : ∀ a, a < 2 → gI w 91 0 a = zB (decide (0 < v 20 a)) := h.2.2.2.2.2.2.2.2.2.2.2.2.2.2.2.2.2.2.2.2.2.2
def SM (w : Wd) (b : Nat) (v : Vw) : Prop :=
  (∀ p k, p < v 0 1 → k < 8 → gI w 101 0 (48 * b + 8 * p + k) = lrm (v 16 (8 * p + k))) ∧
  (∀ p k, p < v 0 1 → k < 8 → gI w 102 0 (48 * b + 8 * p + k) = zB (v 16 (8 * p + k) == 1)) ∧
  (∀ p, p < v 0 1 → gI w 103 0 (6 * b + p) = nI (v 17 p)) ∧
  (∀ p, p < v 0 1 → gI w 104 0 (6 * b + p) = nI (v 18 p)) ∧
  (∀ p, p < v 0 1 → gI w 105 0 (6 * b + p) = lst (v 19 p))
theorem SM_learned {w : Wd} {b : Nat} {v : Vw} (h : SM w b v) : ∀ p k, p < v 0 1 → k < 8 → gI w 101 0 (48 * b + 8 * p + k) = lrm (v 16 (8 * p + k)) := h.1
theorem SM_fresh {w : Wd} {b : Nat} {v : Vw} (h : SM w b v) : ∀ p k, p < v 0 1 → k < 8 → gI w 102 0 (48 * b + 8 * p + k) = zB (v 16 (8 * p + k) == 1) := h.2.1
theorem SM_gone {w : Wd} {b : Nat} {v : Vw} (h : SM w b v) : ∀ p, p < v 0 1 → gI w 103 0 (6 * b + p) = nI (v 17 p) := h.2.2.1
theorem SM_times {w : Wd} {b : Nat} {v : Vw} (h : SM w b v) : ∀ p, p < v 0 1 → gI w 104 0 (6 * b + p) = nI (v 18 p) := h.2.2.2.1
theorem SM_lost {w : Wd} {b : Nat} {v : Vw} (h : SM w b v) : ∀ p, p < v 0 1 → gI w 105 0 (6 * b + p) = lst (v 19 p) := h.2.2.2.2

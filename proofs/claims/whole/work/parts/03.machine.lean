/-! ===== THE SMALL MACHINE: bytecode over pictures. A world is three tables (ints, longs, numbers of objects) by kind of cell, number of it, place. ===== -/
abbrev AV : Type := Int32 ⊕ (Int64 ⊕ (Nat × Nat))
abbrev Wd : Type := (Nat → Nat → Nat → Int32) × (Nat → Nat → Nat → Int64) × (Nat → Nat → Nat → Nat)
abbrev LV : Type := List (Option AV)
/-- an instruction: its place, itself, its label (0: none), two numbers, a constant int, a constant long, a switch's cases -/
abbrev EN : Type := Nat × Instr × Nat × Nat × Nat × Int32 × Int64 × List (Int32 × Nat)
def up3 {α : Type} (f : Nat → Nat → Nat → α) (k i j : Nat) (x : α) : Nat → Nat → Nat → α := fun k' i' j' => if k' = k ∧ i' = i ∧ j' = j then x else f k' i' j'
def upRow {α : Type} (f : Nat → Nat → Nat → α) (k i : Nat) (g : Nat → α) : Nat → Nat → Nat → α := fun k' i' => if k' = k ∧ i' = i then g else f k' i'
def gI (w : Wd) (k i j : Nat) : Int32 := w.1 k i j
def gL (w : Wd) (k i j : Nat) : Int64 := w.2.1 k i j
def gR (w : Wd) (k i j : Nat) : Nat := w.2.2 k i j
def setI (w : Wd) (k i j : Nat) (x : Int32) : Wd := (up3 w.1 k i j x, w.2)
def setL (w : Wd) (k i j : Nat) (x : Int64) : Wd := (w.1, up3 w.2.1 k i j x, w.2.2)
def setR (w : Wd) (k i j : Nat) (x : Nat) : Wd := (w.1, w.2.1, up3 w.2.2 k i j x)
def setRowI (w : Wd) (k i : Nat) (g : Nat → Int32) : Wd := (upRow w.1 k i g, w.2)
/-- x, not to be unfolded by comparing -/
noncomputable def opq {α : Type} (x : α) : α := Classical.choose (⟨x, rfl⟩ : ∃ y, y = x)
theorem opq_eq {α : Type} (x : α) : opq x = x := Classical.choose_spec (⟨x, rfl⟩ : ∃ y, y = x)
/-- array reads and writes, with their bounds -/
noncomputable def ldI (w : Wd) (k i : Nat) (j : Int32) (n : Nat) : Option Int32 := opq (if j < 0 ∨ n ≤ j.toNatClampNeg then none else some (gI w k i j.toNatClampNeg))
noncomputable def ldL (w : Wd) (k i : Nat) (j : Int32) (n : Nat) : Option Int64 := opq (if j < 0 ∨ n ≤ j.toNatClampNeg then none else some (gL w k i j.toNatClampNeg))
noncomputable def ldR (j : Int32) (n i : Nat) : Option Nat := opq (if j < 0 ∨ n ≤ j.toNatClampNeg then none else some (j.toNatClampNeg + n * i))
noncomputable def stI (w : Wd) (k i : Nat) (j : Int32) (n : Nat) (x : Int32) : Option Wd := opq (if j < 0 ∨ n ≤ j.toNatClampNeg then none else some (setI w k i j.toNatClampNeg x))
noncomputable def stL (w : Wd) (k i : Nat) (j : Int32) (n : Nat) (x : Int64) : Option Wd := opq (if j < 0 ∨ n ≤ j.toNatClampNeg then none else some (setL w k i j.toNatClampNeg x))
noncomputable def cpI (w : Wd) (k1 i1 : Nat) (sp : Int32) (n1 k2 i2 : Nat) (dp : Int32) (n2 : Nat) (n : Int32) : Option Wd :=
  opq (if sp < 0 ∨ dp < 0 ∨ n < 0 ∨ n1 < sp.toNatClampNeg + n.toNatClampNeg ∨ n2 < dp.toNatClampNeg + n.toNatClampNeg then none
  else some (setRowI w k2 i2 (va_cpy (gI w k1 i1) (gI w k2 i2) sp.toNatClampNeg dp.toNatClampNeg n.toNatClampNeg)))
theorem ldI_eq (w : Wd) (k i : Nat) (j : Int32) (n : Nat) : ldI w k i j n = if j < 0 ∨ n ≤ j.toNatClampNeg then none else some (gI w k i j.toNatClampNeg) := opq_eq _
theorem ldL_eq (w : Wd) (k i : Nat) (j : Int32) (n : Nat) : ldL w k i j n = if j < 0 ∨ n ≤ j.toNatClampNeg then none else some (gL w k i j.toNatClampNeg) := opq_eq _
theorem ldR_eq (j : Int32) (n i : Nat) : ldR j n i = if j < 0 ∨ n ≤ j.toNatClampNeg then none else some (j.toNatClampNeg + n * i) := opq_eq _
theorem stI_eq (w : Wd) (k i : Nat) (j : Int32) (n : Nat) (x : Int32) : stI w k i j n x = if j < 0 ∨ n ≤ j.toNatClampNeg then none else some (setI w k i j.toNatClampNeg x) := opq_eq _
theorem stL_eq (w : Wd) (k i : Nat) (j : Int32) (n : Nat) (x : Int64) : stL w k i j n x = if j < 0 ∨ n ≤ j.toNatClampNeg then none else some (setL w k i j.toNatClampNeg x) := opq_eq _
theorem cpI_eq (w : Wd) (k1 i1 : Nat) (sp : Int32) (n1 k2 i2 : Nat) (dp : Int32) (n2 : Nat) (n : Int32) : cpI w k1 i1 sp n1 k2 i2 dp n2 n = if sp < 0 ∨ dp < 0 ∨ n < 0 ∨ n1 < sp.toNatClampNeg + n.toNatClampNeg ∨ n2 < dp.toNatClampNeg + n.toNatClampNeg then none
  else some (setRowI w k2 i2 (va_cpy (gI w k1 i1) (gI w k2 i2) sp.toNatClampNeg dp.toNatClampNeg n.toNatClampNeg)) := opq_eq _
/-- locals -/
def lset : LV → Nat → Option AV → LV
  | [], _, _ => []
  | _ :: r, 0, v => v :: r
  | some (.inr (.inl _)) :: r, 1, v => none :: lset r 0 v
  | x :: r, i + 1, v => x :: lset r i v
def lsetL (ls : LV) (i : Nat) (x : Int64) : LV := (lset ls i (some (.inr (.inl x)))).set (i + 1) none
def catA : AV → Nat
  | .inr (.inl _) => 2
  | _ => 1
def catS : List AV → Nat
  | [] => 0
  | v :: r => catA v + catS r
section Mach
variable {ρ : Type}
def po1 (st : List AV) (k : Int32 → List AV → Option ρ) : Option ρ := match st with
  | .inl x :: r => k x r
  | _ => none
def po2 (st : List AV) (k : Int32 → Int32 → List AV → Option ρ) : Option ρ := match st with
  | .inl y :: .inl x :: r => k x y r
  | _ => none
def pl1 (st : List AV) (k : Int64 → List AV → Option ρ) : Option ρ := match st with
  | .inr (.inl x) :: r => k x r
  | _ => none
def pl2 (st : List AV) (k : Int64 → Int64 → List AV → Option ρ) : Option ρ := match st with
  | .inr (.inl y) :: .inr (.inl x) :: r => k x y r
  | _ => none
def pr1 (st : List AV) (k : Nat → Nat → List AV → Option ρ) : Option ρ := match st with
  | .inr (.inr q) :: r => k q.1 q.2 r
  | _ => none
def pIx (st : List AV) (k : Int32 → Nat → Nat → List AV → Option ρ) : Option ρ := match st with
  | .inl j :: .inr (.inr q) :: r => k j q.1 q.2 r
  | _ => none
def lgI (ls : LV) (i : Nat) (k : Int32 → Option ρ) : Option ρ := match ls.getD i none with
  | some (.inl x) => k x
  | _ => none
def lgL (ls : LV) (i : Nat) (k : Int64 → Option ρ) : Option ρ := match ls.getD i none with
  | some (.inr (.inl x)) => k x
  | _ => none
def lgR (ls : LV) (i : Nat) (k : Nat → Nat → Option ρ) : Option ρ := match ls.getD i none with
  | some (.inr (.inr q)) => k q.1 q.2
  | _ => none
def swt (x : Int32) (d : Nat) (k : Nat → Option ρ) : List (Int32 × Nat) → Option ρ
  | [] => k d
  | q :: r => if x = q.1 then k q.2 else swt x d k r
/-- what a field read pushes: by the kind of its object -/
def fget (w : Wd) (k i f : Nat) (md : Nat × Nat × Nat) : AV := match md.1 with
  | 0 => .inl (gI w k i f)
  | 1 => .inr (.inl (gL w k i f))
  | 2 => .inr (.inr (md.2.1, i))
  | 3 => .inr (.inr (md.2.1, gR w k i f))
  | 4 => .inr (.inr (md.2.1, 2 * i + md.2.2))
  | _ => .inr (.inr (md.2.1, md.2.2))
/-- a field write: a flag (b = 1) takes 0 and 1 alone -/
def fput (w : Wd) (k i f b : Nat) (md : Nat × Nat × Nat) (v : AV) : Option Wd := match md.1, v with
  | 0, .inl x => if b = 0 ∨ x &&& 1 = x then some (setI w k i f x) else none
  | 1, .inr (.inl x) => some (setL w k i f x)
  | 3, .inr (.inr q) => if q.1 = md.2.1 then some (setR w k i f q.2) else none
  | _, _ => none
variable (oI : Nat → List AV → Wd → Option (Int32 × Wd)) (oL : Nat → List AV → Wd → Option (Int64 × Wd)) (oV : Nat → List AV → Wd → Option Wd)
  (rI : Int32 → Wd → Option ρ) (rL : Int64 → Wd → Option ρ) (rV : Wd → Option ρ) (tab : List EN) (go : List EN → LV → List AV → Wd → Option ρ)
/-- a call: which (e.4), how many values (e.5), what comes back: the switch's list holds one case, 0 an int, 1 a long, 2 nothing, 3 a copy of an array -/
noncomputable def acall (cal n : Nat) (how : Nat) (rest : List EN) (ls : LV) (st : List AV) (w : Wd) : Option ρ :=
  if catS (st.drop n) ≤ 8 then
    match how with
    | 0 => (oI cal (st.take n).reverse w).bind fun r => go rest ls (.inl r.1 :: st.drop n) r.2
    | 1 => (oL cal (st.take n).reverse w).bind fun r => go rest ls (.inr (.inl r.1) :: st.drop n) r.2
    | 2 => (oV cal (st.take n).reverse w).bind fun r => go rest ls (st.drop n) r
    | _ => match st with
      | .inl m :: .inl dp :: .inr (.inr q2) :: .inl sp :: .inr (.inr q1) :: r =>
        if ((kd q1.1).1 = 2 ∧ (kd q2.1).1 = 2) ∧ catS r ≤ 8 then (cpI w q1.1 q1.2 sp (ln q1.1 q1.2) q2.1 q2.2 dp (ln q2.1 q2.2) m).bind fun w1 => go rest ls r w1 else none
      | _ => none
  else none
noncomputable def stp (e : EN) (rest : List EN) (ls : LV) (st : List AV) (w : Wd) : Option ρ :=
  match e with
  | (_, ins, _, a, b, kI, kL, sw) => match ins with
  | .iconst _ => go rest ls (.inl kI :: st) w
  | .bipush _ => go rest ls (.inl kI :: st) w
  | .sipush _ => go rest ls (.inl kI :: st) w
  | .ldc _ => match a with
    | 0 => go rest ls (.inl kI :: st) w
    | n + 1 => go rest ls (.inr (.inr (2, n)) :: st) w
  | .ldc_w _ => go rest ls (.inl kI :: st) w
  | .lconst _ => go rest ls (.inr (.inl kL) :: st) w
  | .ldc2_w _ => go rest ls (.inr (.inl kL) :: st) w
  | .iload i => lgI ls i fun x => go rest ls (.inl x :: st) w
  | .iload_n i => lgI ls i.val fun x => go rest ls (.inl x :: st) w
  | .lload i => lgL ls i fun x => go rest ls (.inr (.inl x) :: st) w
  | .lload_n i => lgL ls i.val fun x => go rest ls (.inr (.inl x) :: st) w
  | .aload i => lgR ls i fun k q => go rest ls (.inr (.inr (k, q)) :: st) w
  | .aload_n i => lgR ls i.val fun k q => go rest ls (.inr (.inr (k, q)) :: st) w
  | .istore i => po1 st fun x r => go rest (lset ls i (some (.inl x))) r w
  | .istore_n i => po1 st fun x r => go rest (lset ls i.val (some (.inl x))) r w
  | .lstore i => pl1 st fun x r => go rest (lsetL ls i x) r w
  | .lstore_n i => pl1 st fun x r => go rest (lsetL ls i.val x) r w
  | .astore i => pr1 st fun k q r => go rest (lset ls i (some (.inr (.inr (k, q))))) r w
  | .astore_n i => pr1 st fun k q r => go rest (lset ls i.val (some (.inr (.inr (k, q))))) r w
  | .iinc i _ => lgI ls i fun x => go rest (lset ls i (some (.inl (x + kI)))) st w
  | .iadd => po2 st fun x y r => go rest ls (.inl (x + y) :: r) w
  | .isub => po2 st fun x y r => go rest ls (.inl (x - y) :: r) w
  | .imul => po2 st fun x y r => go rest ls (.inl (x * y) :: r) w
  | .idiv => po2 st fun x y r => if y = 0 then none else go rest ls (.inl (x / y) :: r) w
  | .irem => po2 st fun x y r => if y = 0 then none else go rest ls (.inl (x - x / y * y) :: r) w
  | .ineg => po1 st fun x r => go rest ls (.inl (-x) :: r) w
  | .iand => po2 st fun x y r => go rest ls (.inl (x &&& y) :: r) w
  | .ior => po2 st fun x y r => go rest ls (.inl (x ||| y) :: r) w
  | .ixor => po2 st fun x y r => go rest ls (.inl (x ^^^ y) :: r) w
  | .ishl => po2 st fun x y r => go rest ls (.inl (x <<< (y &&& 31)) :: r) w
  | .ishr => po2 st fun x y r => go rest ls (.inl (x >>> (y &&& 31)) :: r) w
  | .iushr => po2 st fun x y r => go rest ls (.inl (x.toUInt32 >>> (y.toUInt32 &&& Int32.toUInt32 31)).toInt32 :: r) w
  | .i2l => po1 st fun x r => go rest ls (.inr (.inl x.toInt64) :: r) w
  | .i2b => po1 st fun x r => go rest ls (.inl x.toInt8.toInt32 :: r) w
  | .l2i => pl1 st fun x r => go rest ls (.inl x.toInt32 :: r) w
  | .ladd => pl2 st fun x y r => go rest ls (.inr (.inl (x + y)) :: r) w
  | .lsub => pl2 st fun x y r => go rest ls (.inr (.inl (x - y)) :: r) w
  | .lmul => pl2 st fun x y r => go rest ls (.inr (.inl (x * y)) :: r) w
  | .ldiv => pl2 st fun x y r => if y = 0 then none else go rest ls (.inr (.inl (x / y)) :: r) w
  | .lrem => pl2 st fun x y r => if y = 0 then none else go rest ls (.inr (.inl (x - x / y * y)) :: r) w
  | .lneg => pl1 st fun x r => go rest ls (.inr (.inl (-x)) :: r) w
  | .land => pl2 st fun x y r => go rest ls (.inr (.inl (x &&& y)) :: r) w
  | .lor => pl2 st fun x y r => go rest ls (.inr (.inl (x ||| y)) :: r) w
  | .lshl => po1 st fun y r => pl1 r fun x r => go rest ls (.inr (.inl (x <<< (y.toInt64 &&& 63))) :: r) w
  | .lcmp => pl2 st fun x y r => go rest ls (.inl (lg_cmp x y) :: r) w
  | .dup => match st with
    | v :: r => if catA v = 1 then go rest ls (v :: v :: r) w else none
    | _ => none
  | .dup2 => match st with
    | v :: u :: r => if catA v = 1 ∧ catA u = 1 then go rest ls (v :: u :: v :: u :: r) w else none
    | _ => none
  | .pop => match st with
    | v :: r => if catA v = 1 then go rest ls r w else none
    | _ => none
  | .goto _ => go (tab.drop a) ls st w
  | .ifCond .eq _ => po1 st fun x r => if x = 0 then go (tab.drop a) ls r w else go rest ls r w
  | .ifCond .ne _ => po1 st fun x r => if x = 0 then go rest ls r w else go (tab.drop a) ls r w
  | .ifCond .lt _ => po1 st fun x r => if x < 0 then go (tab.drop a) ls r w else go rest ls r w
  | .ifCond .ge _ => po1 st fun x r => if x < 0 then go rest ls r w else go (tab.drop a) ls r w
  | .ifCond .gt _ => po1 st fun x r => if 0 < x then go (tab.drop a) ls r w else go rest ls r w
  | .ifCond .le _ => po1 st fun x r => if 0 < x then go rest ls r w else go (tab.drop a) ls r w
  | .if_icmp .eq _ => po2 st fun x y r => if x = y then go (tab.drop a) ls r w else go rest ls r w
  | .if_icmp .ne _ => po2 st fun x y r => if x = y then go rest ls r w else go (tab.drop a) ls r w
  | .if_icmp .lt _ => po2 st fun x y r => if x < y then go (tab.drop a) ls r w else go rest ls r w
  | .if_icmp .ge _ => po2 st fun x y r => if x < y then go rest ls r w else go (tab.drop a) ls r w
  | .if_icmp .gt _ => po2 st fun x y r => if y < x then go (tab.drop a) ls r w else go rest ls r w
  | .if_icmp .le _ => po2 st fun x y r => if y < x then go rest ls r w else go (tab.drop a) ls r w
  | .tableswitch _ _ _ _ => po1 st fun x r => swt x a (fun t => go (tab.drop t) ls r w) sw
  | .iaload => pIx st fun j k i r => if (kd k).1 = 2 then (ldI w k i j (ln k i)).bind fun x => go rest ls (.inl x :: r) w else none
  | .baload => pIx st fun j k i r => if (kd k).1 = 4 ∨ (kd k).1 = 5 then (ldI w k i j (ln k i)).bind fun x => go rest ls (.inl x :: r) w else none
  | .laload => pIx st fun j k i r => if (kd k).1 = 3 then (ldL w k i j (ln k i)).bind fun x => go rest ls (.inr (.inl x) :: r) w else none
  | .aaload => pIx st fun j k i r => if (kd k).1 = 6 then (ldR j (ln k i) i).bind fun q => go rest ls (.inr (.inr (rk k, q)) :: r) w else none
  | .iastore => po1 st fun x r => pIx r fun j k i r => if (kd k).1 = 2 then (stI w k i j (ln k i) x).bind fun w1 => go rest ls r w1 else none
  | .bastore => po1 st fun x r => pIx r fun j k i r => if (kd k).1 = 4 then (stI w k i j (ln k i) x.toInt8.toInt32).bind fun w1 => go rest ls r w1
    else if (kd k).1 = 5 then (stI w k i j (ln k i) (x &&& 1)).bind fun w1 => go rest ls r w1 else none
  | .lastore => pl1 st fun x r => pIx r fun j k i r => if (kd k).1 = 3 then (stL w k i j (ln k i) x).bind fun w1 => go rest ls r w1 else none
  | .arraylength => pr1 st fun k i r => if 2 ≤ (kd k).1 then go rest ls (.inl (Int32.ofNat (ln k i)) :: r) w else none
  | .getfield _ => pr1 st fun k i r => if (kd k).1 = 1 ∧ (kd k).2.1 = a then (if b < (kd k).2.2 then go rest ls (fget w k i b (fm k b) :: r) w else none) else none
  | .putfield _ => match st with
    | v :: .inr (.inr q) :: r => if (kd q.1).1 = 1 ∧ (kd q.1).2.1 = a then (if b < (kd q.1).2.2 then (fput w q.1 q.2 b sw.length (fm q.1 b) v).bind fun w1 => go rest ls r w1 else none) else none
    | _ => none
  | .invokevirtual _ => acall oI oL oV go a b sw.length rest ls st w
  | .invokestatic _ => acall oI oL oV go a b sw.length rest ls st w
  | .ireturn => match st with
    | [.inl x] => rI x w
    | _ => none
  | .lreturn => match st with
    | [.inr (.inl x)] => rL x w
    | _ => none
  | .return_ => match st with
    | [] => rV w
    | _ => none
  | _ => none
end Mach
/-- on from here; at a label the way goes to K -/
def nxt {ρ : Type} (K : Nat → LV → List AV → Wd → Option ρ) (go : List EN → LV → List AV → Wd → Option ρ) : List EN → LV → List AV → Wd → Option ρ
  | [], _, _, _ => none
  | e :: rest, ls, st, w => match e.2.2.1 with
    | 0 => go (e :: rest) ls st w
    | n + 1 => K n ls st w
noncomputable def run {ρ : Type} (oI : Nat → List AV → Wd → Option (Int32 × Wd)) (oL : Nat → List AV → Wd → Option (Int64 × Wd)) (oV : Nat → List AV → Wd → Option Wd)
    (rI : Int32 → Wd → Option ρ) (rL : Int64 → Wd → Option ρ) (rV : Wd → Option ρ) (tab : List EN) (K : Nat → LV → List AV → Wd → Option ρ) : Nat → List EN → LV → List AV → Wd → Option ρ
  | 0, _, _, _, _ => none
  | n + 1, c, ls, st, w => match c with
    | [] => none
    | e :: rest => stp oI oL oV rI rL rV tab (nxt K (run oI oL oV rI rL rV tab K n)) e rest ls st w

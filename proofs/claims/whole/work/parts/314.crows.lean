/-! ===== constructors: rows of ints (the kit's own row for this names a fact, va_AOA, that nothing declares: so by hand) ===== -/
def zrows (w : Wd) : List (Nat × Nat) → Wd
  | [] => w
  | c :: r => zrows (zrow w c.1 c.2) r
theorem zrows_R (l : List (Nat × Nat)) : ∀ w : Wd, gR (zrows w l) = gR w := by
  induction l with
  | nil => intro w; rfl
  | cons c r ih => intro w; exact ih _
theorem zrows_out (l : List (Nat × Nat)) : ∀ (w : Wd) (k i : Nat), (k, i) ∉ l → gI (zrows w l) k i = gI w k i ∧ gL (zrows w l) k i = gL w k i := by
  induction l with
  | nil => intro w k i _; exact ⟨rfl, rfl⟩
  | cons c r ih =>
    intro w k i h
    have hne : (k, i) ≠ (c.1, c.2) := fun z => h (by rw [z]; exact List.mem_cons_self)
    obtain ⟨h1, h2⟩ := ih (zrow w c.1 c.2) k i (fun z => h (List.mem_cons_of_mem _ z))
    exact ⟨h1.trans (gI_zn hne), h2.trans (gL_zn hne)⟩
theorem zrows_in (l : List (Nat × Nat)) : ∀ (w : Wd) (k i : Nat), (k, i) ∈ l → gI (zrows w l) k i = (fun _ => 0) ∧ gL (zrows w l) k i = (fun _ => 0) := by
  induction l with
  | nil => intro w k i h; cases h
  | cons c r ih =>
    intro w k i h
    by_cases hr : (k, i) ∈ r
    · exact ih _ k i hr
    · have e : (k, i) = c := by
        rcases List.mem_cons.mp h with h | h
        · exact h
        · exact absurd h hr
      subst e
      obtain ⟨h1, h2⟩ := zrows_out r (zrow w k i) k i hr
      exact ⟨h1.trans (gI_z w k i), h2.trans (gL_z w k i)⟩
def zops (l : List (Nat × Nat)) : List WO := l.map fun c => (2, c.1, c.2, 0, 0, 0)
theorem zops_eq (F : Nat → Wd → Option Wd) : ∀ (l : List (Nat × Nat)) (w : Wd), wops F (zops l) w = some (zrows w l)
  | [], w => rfl
  | c :: r, w => zops_eq F r (zrow w c.1 c.2)
theorem outer_eq (c : ClassId) (N h0 : Nat) : ∀ i : Nat, Jvm.Free.Multi.outerC c N h0 i = arrV c N (fun j => va_rf (if j < i then some (h0 + 1 + j) else none))
  | 0 => by
    show ({ cls := c, slots := Array.replicate N .null, vm := .none } : Cell) = _
    rw [arrV_new]
    refine congrArg (arrV c N) (funext fun j => ?_)
    simp [va_rf]
  | i + 1 => by
    show (Jvm.Free.Multi.outerC c N h0 i).setSlot i (.ref (h0 + 1 + i)) = _
    rw [outer_eq c N h0 i, arrV_store]
    refine congrArg (arrV c N) (funext fun j => ?_)
    by_cases e : j = i
    · subst e
      simp [updV, va_rf]
    · by_cases h : j < i
      · simp [updV, e, h, Nat.lt_succ_of_lt h]
      · simp [updV, e, h, show ¬ j < i + 1 by omega]
section
variable {p : Program} {l : Launch} {e : Env} {R : Room} {s : State} {m : MethodId} {args : Array Value} {below : List Frame} {meth : Method} {c : Code} {H : Heap} {locs : List Loc} {cells slots : Nat} {Q : State → Prop}
variable {cc : ByteArray} {pc : Nat} {la : Array Slot} {rest : List Value} {D : va_G} {cl : List vw_C} {A : Nat → Prop} {ws : va_W} {H0 : Heap}
/-- the cells of N rows of K ints, and of the array of them -/
def rwE (cz cy : ClassId) (N K q : Nat) (r : Nat → Nat) : va_W := (q, .inl (cz, N, .inr (.inr (.inr (.inr (fun i => if i < N then some (r i) else none)))))) :: (List.range N).map (fun i => (r i, .inl (cy, K, .inl (fun _ => 0))))
theorem va_mnF (hexec : p.tables.exec = Jvm.exec) (hb : c.code = cc) {own : String} {index : Nat} {cy cz : ClassId} (hown : s.vm.findClass own = some m.cls) (hclink : (Cond.classLink own index ("[" ++ (FieldType.array .int).toString)).before args s = true) (hover : (Cond.arrayOver (.array .int)).before args s = true) (harr : (Cond.arrayClass .int).before args s = true) (hcy : s.vm.findClass (FieldType.array .int).toString = some cy) (hcz : s.vm.findClass ("[" ++ (FieldType.array .int).toString) = some cz)
    (hP : va_P D cl ws H) (hD : va_D A ws) (hS : va_S A H0 H locs) (hA : ∀ q, H0.size ≤ q → A q) {n k : Int32} {N K : Nat} (hn : ¬ n < 0) (hk : ¬ k < 0) (hN : n.toNatClampNeg = N) (hM : k.toNatClampNeg = K)
    (hb1 : N ≤ 10000) (hb2 : K ≤ 10000) (hcells : cells + (1 + N) ≤ R.cells) (hslots : slots + (N + N * K) ≤ R.slots) (hdg : decode cc pc = .ok (.multianewarray index 2, 4))
    (kk : ∀ (q : Nat) (r : Nat → Nat) (H1 : Heap), va_P D cl (ws ++ rwE cz cy N K q r) H1 → va_D A (ws ++ rwE cz cy N K q r) → va_S A H0 H1 locs → W p l e R s m args below meth c H1 locs (cells + 1 + N) (slots + N + N * K) Q (F0 m (pc + 4) la (.ref q :: rest))) : W p l e R s m args below meth c H locs cells slots Q (F0 m pc la (.int k :: .int n :: rest)) := by
  subst hN
  subst hM
  intro T hT Xs
  obtain ⟨vm₁, cA, comp, -, fA, fC, hO, -, X', step⟩ := Xs.multianewarray2F hexec hown hclink hover harr (g := F0 m pc la (.int k :: .int n :: rest)) rfl (by rw [hb]; exact hdg) rfl hn hk (by omega) (show k.toNatClampNeg * 4 ≤ 536870912 by omega) (by omega) rfl rfl hcells hslots
  have ec : some cy = some comp := hcy.symm.trans fC
  cases ec
  have ez : some cz = some cA := hcz.symm.trans fA
  cases ez
  generalize hF : Jvm.Free.Multi.fill (T.setVm vm₁) cz cy n.toNatClampNeg k.toNatClampNeg (defaultValue .int) n.toNatClampNeg = F at X' step
  have hTh : (T.setVm vm₁).heap = H := hT
  obtain ⟨f1, f2, -, -⟩ := Jvm.Free.Multi.fill_facts (T.setVm vm₁) cz cy n.toNatClampNeg k.toNatClampNeg (defaultValue .int) n.toNatClampNeg
  rw [hF, hTh] at f1 f2
  have hold : ∀ x : Nat, x < H.size → F.heap[x]? = H[x]? := fun x hx => by
    have := Jvm.Free.Multi.fill_old (T.setVm vm₁) cz cy n.toNatClampNeg k.toNatClampNeg (defaultValue .int) (a := x) (by rw [hTh]; exact hx) n.toNatClampNeg
    rw [hF, hTh] at this
    exact this
  have hrow : ∀ j : Nat, j < n.toNatClampNeg → F.heap[H.size + 1 + j]? = some (vp_cell cy (k.toNatClampNeg, .inl (fun _ => 0))) := fun j hj => by
    have := Jvm.Free.Multi.fill_inner (T.setVm vm₁) cz cy n.toNatClampNeg k.toNatClampNeg (defaultValue .int) n.toNatClampNeg j hj
    rw [hF, hTh] at this
    rw [this]
    exact congrArg some (arrV_new cy _ _)
  have hout : Jvm.Free.Multi.outerC cz n.toNatClampNeg H.size n.toNatClampNeg = vp_cell cz (n.toNatClampNeg, .inr (.inr (.inr (.inr (fun i => if i < n.toNatClampNeg then some (H.size + 1 + i) else none))))) := by
    rw [vp_cell_q]
    exact outer_eq cz n.toNatClampNeg H.size n.toNatClampNeg
  rw [hout] at f2
  have hP0 : va_P D cl ws F.heap := hP.kept (fun k9 x hx => hold x.1 ((hP k9 x hx).lt))
  have hnth : ∀ (k9 : Nat) (x : Nat × va_E), (rwE cz cy n.toNatClampNeg k.toNatClampNeg H.size (fun i => H.size + 1 + i))[k9]? = some x → x.1 = H.size + k9 ∧ va_at D cl x F.heap := fun k9 x hx => by
    cases k9 with
    | zero =>
      cases hx
      exact ⟨rfl, f2⟩
    | succ k9 =>
      rw [rwE, List.getElem?_cons_succ, List.getElem?_map] at hx
      by_cases h9 : k9 < n.toNatClampNeg
      · rw [List.getElem?_range h9] at hx
        cases hx
        exact ⟨by show H.size + 1 + k9 = H.size + (k9 + 1); omega, hrow k9 h9⟩
      · have hn0 : (List.range n.toNatClampNeg)[k9]? = none := List.getElem?_eq_none (by rw [List.length_range]; omega)
        rw [hn0] at hx
        cases hx
  have hP2 : va_P D cl (ws ++ rwE cz cy n.toNatClampNeg k.toNatClampNeg H.size (fun i => H.size + 1 + i)) F.heap := hP0.app (fun k9 x hx => (hnth k9 x hx).2)
  have hD2 : va_D A (ws ++ rwE cz cy n.toNatClampNeg k.toNatClampNeg H.size (fun i => H.size + 1 + i)) := by
    refine va_D.app hD ⟨fun i j x y hi hj hxy => ?_, fun k9 x hx => ?_⟩ (fun i j x y hi hj hxy => ?_)
    · have a1 := (hnth i x hi).1
      have a2 := (hnth j y hj).1
      omega
    · have a1 := (hnth k9 x hx).1
      exact hA _ (by have := hS.1; omega)
    · have a1 := (hP i x hi).lt
      have a2 := (hnth j y hj).1
      omega
  obtain ⟨t, a1, b1⟩ := kk H.size (fun i => H.size + 1 + i) F.heap hP2 hD2 ⟨by rw [f1]; have := hS.1; omega, fun x h1 h2 => (hold x (Nat.lt_of_lt_of_le h1 hS.1)).trans (hS.2.1 x h1 h2), hS.2.2⟩ F rfl X'
  refine ⟨t, step t ?_, b1⟩
  have e : T.heap.size = H.size := by rw [hT]
  rw [e]
  exact a1
end

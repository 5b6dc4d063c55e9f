/-! ===== the small machine's steps are the machine's ===== -/
/-- the words that calls keep -/
def lwg : List Cond := lw_tbl.filter goodWord
theorem lwg_in {w : Cond} (h : w ∈ lw_tbl) (hg : goodWord w = true) : w ∈ lwg := List.mem_filter.mpr ⟨h, hg⟩
/-- what is known of the launch beside the world: a link between nest mates, two texts -/
def strL : List Nat := [13, 132]
def strB : List (List Int32) := [[59, 40, 41, 43, 45, 42, 47, 60, 32, 61, 32, 32, 62], [112, 97, 114, 116, 32, 98, 101, 115, 105, 100, 101, 32, 112, 101, 114, 115, 111, 110, 32, 107, 110, 111, 119, 115, 32, 99, 111, 115, 116, 32, 102, 114, 111, 109, 32, 116, 105, 108, 108, 32, 102, 111, 114, 103, 101, 116, 32, 112, 97, 114, 116, 121, 32, 119, 101, 97, 116, 104, 101, 114, 32, 115, 108, 105, 100, 101, 32, 110, 101, 97, 114, 32, 115, 101, 101, 100, 32, 108, 97, 119, 32, 111, 117, 116, 32, 112, 105, 99, 107, 32, 111, 114, 32, 97, 110, 100, 32, 110, 111, 116, 32, 111, 100, 100, 115, 32, 97, 114, 111, 117, 110, 100, 32, 116, 105, 109, 101, 115, 32, 119, 97, 110, 116, 101, 100, 32, 110, 105, 103, 104, 116, 32]]
def exS (ρ : Nat → Nat → Nat) (A : Nat → Prop) (U : State) : Prop := va_Nw (.methodLinkNest "MoorGuides$Reader" 195 yX11_indexOf "MoorGuides") U ∧ vk_R "MoorGuides$Tokens" 100 ";()+-*/< =  >" (ρ 2 0) U ∧ vk_R "MoorGuides$Tokens" 29 "part beside person knows cost from till forget party weather slide near seed law out pick or and not odds around times wanted night " (ρ 2 1) U ∧ vk_S 2 strL strB (ρ 2) (ρ 0) A U U.heap ∧ va_Z "java/lang/String" "COMPACT_STRINGS" "Z" (.int 1) A U U.heap ∧ va_Zq "jdk/internal/util/Preconditions" "SIOOBE_FORMATTER" "Ljava/util/function/BiFunction;" A U U.heap
theorem exS.on {ρ : Nat → Nat → Nat} {A B : Nat → Prop} {s U : State} {H : Heap} {locs : List Loc} (h : exS ρ A s) (hW : s.WarmedH U.vm) (hH : U.heap = H) (hS : va_S A s.heap H locs) (hAB : ∀ q, B q → A q) : exS ρ B U := by
  refine ⟨va_Nw.warmM hW h.1, vk_R.warm hW h.2.1, vk_R.warm hW h.2.2.1, ?_, ?_, ?_⟩
  · rw [hH]
    exact ((h.2.2.2.1.kept hS.2.1).moved hW.alike).narrow hAB
  · rw [hH]
    exact ((h.2.2.2.2.1.kept hS.2.1).moved hW.alike).narrow hAB
  · rw [hH]
    exact ((h.2.2.2.2.2.kept hS.2.1).moved hW.alike).narrow hAB
abbrev XT := Program × Launch × Env × Room × State × MethodId × Array Value × List Frame × Method × Code × Nat × Nat × (State → Prop) × List (Nat × Nat) × (Nat → Nat → Nat) × va_G × (Nat → ClassId) × (Nat → Prop) × Nat
def WW (X : XT) (pc : Nat) (ls : LV) (st : List AV) (w : Wd) : Prop := match X with
  | (p, l, e, R, s, m, args, below, meth, c, cells, slots, Q, cs, ρ, D, aC, A, nL) => ∀ (H : Heap) (locs : List Loc) (la : Array Slot), lvr ρ la nL ls → (∀ i v, ls.getD i none = some v → vok cs v) → (∀ v ∈ st, vok cs v) →
      va_P D classes (pic cs ρ aC w) H → va_D A (pic cs ρ aC w) → va_S A s.heap H locs → cloR cs w → W p l e R s m args below meth c H locs cells slots Q (F0 m pc la (st.map (trv ρ)))
def xnL (X : XT) : Nat := X.2.2.2.2.2.2.2.2.2.2.2.2.2.2.2.2.2.2
def GX (X : XT) (cc : ByteArray) (own : String) : Prop := match X with
  | (p, _, _, R, s, m, args, _, _, c, cells, slots, _, cs, ρ, D, aC, A, nL) => exS ρ A s ∧ p.tables.exec = Jvm.exec ∧ c.code = cc ∧ c.maxLocals = nL ∧ s.vm.findClass own = some m.cls ∧ (∀ w ∈ lwg, w.before args s = true) ∧
      va_K D classes (atys aC) s ∧ cs.Nodup ∧ cloS cs ∧ (∀ q, s.heap.size ≤ q → A q) ∧ cells ≤ R.cells ∧ slots ≤ R.slots ∧ 1 ≤ R.frames ∧ 64 ≤ R.locals
def pcAt (tab : List EN) (j : Nat) : Nat := match tab[j]? with
  | some e => e.1
  | none => 0
def iln (e : EN) : Nat := match e.2.1 with
  | .iload _ | .lload _ | .aload _ | .istore _ | .lstore _ | .astore _ | .bipush _ | .ldc _ => 2
  | .sipush _ | .ldc_w _ | .ldc2_w _ | .iinc _ _ | .goto _ | .ifCond _ _ | .if_icmp _ _ | .getfield _ | .putfield _ | .invokevirtual _ | .invokestatic _ => 3
  | .tableswitch _ _ _ _ => e.2.2.2.2.1
  | _ => 1
/-- a jump's place in the table is that of its target -/
def jok (tab : List EN) (pc : Nat) (off : Int) (t : Nat) : Bool := match tab[t]? with
  | some e => decide ((pc : Int) + off = (e.1 : Int))
  | none => false
def swok (tab : List EN) (pc : Nat) : Int → List Int → List (Int32 × Nat) → Bool
  | _, [], [] => true
  | lo, o :: os, q :: qs => decide (q.1.toInt = lo) && jok tab pc o q.2 && swok tab pc (lo + 1) os qs
  | _, _, _ => false
def putTy (d : String) (fl : Nat) : Bool := match parseFieldDescriptor d, fl with
  | some .int, 0 => true
  | some .boolean, 1 => true
  | some .long, 0 => true
  | some (.object _), 0 => true
  | some (.array _), 0 => true
  | _, _ => false
def opok (own : String) (nL : Nat) (tab : List EN) (e : EN) : Bool := match e.2.1 with
  | .iconst n => decide (Int32.ofInt n = e.2.2.2.2.2.1)
  | .bipush n => decide ((Int8.ofInt n).toInt32 = e.2.2.2.2.2.1)
  | .sipush n => decide ((Int16.ofInt n).toInt32 = e.2.2.2.2.2.1)
  | .lconst n => decide (Int64.ofNat n.val = e.2.2.2.2.2.2.1)
  | .iinc _ n => decide (Int32.ofInt n = e.2.2.2.2.2.1)
  | .goto off => jok tab e.1 off e.2.2.2.1
  | .ifCond _ off => jok tab e.1 off e.2.2.2.1
  | .if_icmp _ off => jok tab e.1 off e.2.2.2.1
  | .tableswitch d lo hi offs => jok tab e.1 d e.2.2.2.1 && swok tab e.1 lo offs.toList e.2.2.2.2.2.2.2 && decide (hi = lo + (offs.toList.length : Int) - 1)
  | .ldc i => match e.2.2.2.1 with
    | 0 => true
    | 1 => decide (own = "MoorGuides$Tokens" ∧ i = 100)
    | 2 => decide (own = "MoorGuides$Tokens" ∧ i = 29)
    | _ => false
  | .invokevirtual _ => decide (e.2.2.2.2.2.2.2.length < 3)
  | .invokestatic _ => decide (e.2.2.2.2.2.2.2.length ≤ 3)
  | .istore i => decide (i < nL)
  | .istore_n i => decide (i.val < nL)
  | .astore i => decide (i < nL)
  | .astore_n i => decide (i.val < nL)
  | .lstore i => decide (i + 1 < nL)
  | .lstore_n i => decide (i.val + 1 < nL)
  | .putfield _ => match classes[e.2.2.2.1]? with
    | some q => !(q.2.1 e.2.2.2.2.1).2.2.2 && putTy (q.2.1 e.2.2.2.2.1).2.2.1 e.2.2.2.2.2.2.2.length
    | none => false
  | _ => true
def eok (cc : ByteArray) (own : String) (nL : Nat) (tab : List EN) (j : Nat) (e : EN) : Bool :=
  decide (decode cc e.1 = .ok (e.2.1, iln e)) && (match tab[j + 1]? with | some e' => e'.1 == e.1 + iln e | none => true) && (e.2.2.1 == 0 || e.2.2.1 == j + 1) && opok own nL tab e
def tok (cc : ByteArray) (own : String) (nL : Nat) (tab : List EN) : Bool := (List.range tab.length).all fun j => match tab[j]? with | some e => eok cc own nL tab j e | none => false
/-- the words that an instruction needs -/
def wdo (own : String) (e : EN) : List Cond := match e.2.1 with
  | .ldc i => match e.2.2.2.1 with
    | 0 => [.constant own i e.2.2.2.2.2.1]
    | _ => []
  | .ldc_w i => [.constant own i e.2.2.2.2.2.1]
  | .ldc2_w i => [.constantLong own i e.2.2.2.2.2.2.1]
  | .getfield i => match classes[e.2.2.2.1]? with
    | some q => [.fieldLink own i (q.2.1 e.2.2.2.2.1).1 (q.2.1 e.2.2.2.2.1).2.1 (q.2.1 e.2.2.2.2.1).2.2.1]
    | none => []
  | .putfield i => match classes[e.2.2.2.1]? with
    | some q => [.fieldLink own i (q.2.1 e.2.2.2.2.1).1 (q.2.1 e.2.2.2.2.1).2.1 (q.2.1 e.2.2.2.2.1).2.2.1]
    | none => []
  | .invokestatic i => match e.2.2.2.2.2.2.2.length with
    | 3 => [.methodLink own i arraycopyName, .native arraycopyName, .static arraycopyName, .initialized "java/lang/System"]
    | _ => []
  | _ => []
/-- fields: numbers within their class, kinds and modes -/
def wok (own : String) (tab : List EN) : Prop := ∀ e ∈ tab, ∀ x ∈ wdo own e, x ∈ lwg
def TK (cc : ByteArray) (own : String) (nL : Nat) (tab : List EN) : Prop := tok cc own nL tab = true ∧ wok own tab
theorem tok_at {cc : ByteArray} {own : String} {nL : Nat} {tab : List EN} (h : tok cc own nL tab = true) {j : Nat} {e : EN} (he : tab[j]? = some e) :
    decode cc e.1 = .ok (e.2.1, iln e) ∧ (∀ e', tab[j + 1]? = some e' → e'.1 = e.1 + iln e) ∧ (e.2.2.1 = 0 ∨ e.2.2.1 = j + 1) ∧ opok own nL tab e = true := by
  have hl : j < tab.length := (List.getElem?_eq_some_iff.mp he).1
  have h1 := List.all_eq_true.mp h j (List.mem_range.mpr hl)
  rw [he] at h1
  simp only [eok, Bool.and_eq_true, decide_eq_true_eq, Bool.or_eq_true, beq_iff_eq] at h1
  obtain ⟨⟨⟨a, b⟩, c⟩, d⟩ := h1
  refine ⟨a, fun e' he' => ?_, c, d⟩
  rw [he'] at b
  simpa using b
theorem jok_at {tab : List EN} {pc t : Nat} {off : Int} (h : jok tab pc off t = true) : (pc : Int) + off = (pcAt tab t : Int) := by
  unfold jok at h
  unfold pcAt
  cases ht : tab[t]? with
  | none => rw [ht] at h; cases h
  | some e => rw [ht] at h; simpa using h
section Inv
variable {ρ' : Type} {r : ρ'}
theorem po1_some {st : List AV} {k : Int32 → List AV → Option ρ'} (h : po1 st k = some r) : ∃ x t, st = .inl x :: t ∧ k x t = some r := by
  unfold po1 at h
  split at h
  · exact ⟨_, _, rfl, h⟩
  · cases h
theorem po2_some {st : List AV} {k : Int32 → Int32 → List AV → Option ρ'} (h : po2 st k = some r) : ∃ x y t, st = .inl y :: .inl x :: t ∧ k x y t = some r := by
  unfold po2 at h
  split at h
  · exact ⟨_, _, _, rfl, h⟩
  · cases h
theorem pl1_some {st : List AV} {k : Int64 → List AV → Option ρ'} (h : pl1 st k = some r) : ∃ x t, st = .inr (.inl x) :: t ∧ k x t = some r := by
  unfold pl1 at h
  split at h
  · exact ⟨_, _, rfl, h⟩
  · cases h
theorem pl2_some {st : List AV} {k : Int64 → Int64 → List AV → Option ρ'} (h : pl2 st k = some r) : ∃ x y t, st = .inr (.inl y) :: .inr (.inl x) :: t ∧ k x y t = some r := by
  unfold pl2 at h
  split at h
  · exact ⟨_, _, _, rfl, h⟩
  · cases h
theorem pr1_some {st : List AV} {k : Nat → Nat → List AV → Option ρ'} (h : pr1 st k = some r) : ∃ q i t, st = .inr (.inr (q, i)) :: t ∧ k q i t = some r := by
  unfold pr1 at h
  split at h
  · exact ⟨_, _, _, rfl, h⟩
  · cases h
theorem pIx_some {st : List AV} {k : Int32 → Nat → Nat → List AV → Option ρ'} (h : pIx st k = some r) : ∃ j q i t, st = .inl j :: .inr (.inr (q, i)) :: t ∧ k j q i t = some r := by
  unfold pIx at h
  split at h
  · exact ⟨_, _, _, _, rfl, h⟩
  · cases h
theorem lgI_some {ls : LV} {i : Nat} {k : Int32 → Option ρ'} (h : lgI ls i k = some r) : ∃ x, ls.getD i none = some (.inl x) ∧ k x = some r := by
  unfold lgI at h
  split at h
  · rename_i x hx; exact ⟨x, hx, h⟩
  · cases h
theorem lgL_some {ls : LV} {i : Nat} {k : Int64 → Option ρ'} (h : lgL ls i k = some r) : ∃ x, ls.getD i none = some (.inr (.inl x)) ∧ k x = some r := by
  unfold lgL at h
  split at h
  · rename_i x hx; exact ⟨x, hx, h⟩
  · cases h
theorem lgR_some {ls : LV} {i : Nat} {k : Nat → Nat → Option ρ'} (h : lgR ls i k = some r) : ∃ q j, ls.getD i none = some (.inr (.inr (q, j))) ∧ k q j = some r := by
  unfold lgR at h
  split at h
  · rename_i x hx; exact ⟨x.1, x.2, hx, h⟩
  · cases h
theorem if_none {c : Prop} (d : Decidable c) {x : Option ρ'} (h : (if c then none else x) = some r) : ¬ c ∧ x = some r := by
  by_cases hc : c
  · rw [if_pos hc] at h; cases h
  · rw [if_neg hc] at h; exact ⟨hc, h⟩
theorem if_some {c : Prop} (d : Decidable c) {x : Option ρ'} (h : (if c then x else none) = some r) : c ∧ x = some r := by
  by_cases hc : c
  · rw [if_pos hc] at h; exact ⟨hc, h⟩
  · rw [if_neg hc] at h; cases h
theorem bind_some' {α : Type} {o : Option α} {k : α → Option ρ'} (h : o.bind k = some r) : ∃ x, o = some x ∧ k x = some r := by
  cases o with
  | none => cases h
  | some x => exact ⟨x, rfl, h⟩
end Inv

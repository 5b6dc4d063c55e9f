/-! ===== look once more: the answer for all worlds of one state ===== -/
section
variable {N : Nat} {v : Vw}
theorem k_lookU {w0 : Wd} (C0 : Cu w0 v) (hN : 100 ≤ N) (a b : Int32) (h : isI a (v 0 1) = true) (hb : is6 b) : ∃ r, ∀ w, Cu w v → lkT N a b w = some (r, w) ∧ pX12_look N a b w = some (r, setI w 16 0 2 (0 : Int32)) := by
  have hF := C0.2.2.1
  have h1 := WF_people hF
  have hn := C0.2.2.2.2.2.2.1
  obtain ⟨p, hp, rfl⟩ := isI_t.mp h
  by_cases b0 : b = (0 : Int32)
  · have q0 : (b = (0 : Int32)) = True := eq_true b0
    refine ⟨zB (sThere v p (v 0 5)), fun w C => ?_⟩
    have C1 := Cu_t C
    have m1 := m_gWho (N := N) C1 (nI p)
    rw [h] at m1
    refine ⟨?_, ?_⟩
    · have e := c_isThere (N := N) C.1 hF hp (show v 0 5 < 2 ^ 30 by omega)
      rw [← SC_night C.1.2] at e
      cases hs : sThere v p (v 0 5) with
      | false =>
        rw [hs] at e
        simp only [lkT, ↓q0, ↓cbnd e, ↓z2, ↓reduceIte]
        rfl
      | true =>
        rw [hs] at e
        simp only [lkT, ↓q0, ↓cbnd e, ↓z1, ↓reduceIte]
        rfl
    · have e : pX12_isThere N (0 : Int32) (nI p) (gI (setI w 16 0 2 (0 : Int32)) 16 0 64) (setI w 16 0 2 (0 : Int32)) = some (zB (sThere v p (v 0 5)), setI w 16 0 2 (0 : Int32)) := by
        rw [Cu_night C1]
        exact m_isThere (N := N) (b := 0) C1.2.1.1 C1.2.1.2.1 hF (by omega) hp (by omega)
      cases hs : sThere v p (v 0 5) with
      | false =>
        rw [hs] at e
        simp only [pX12_look, ↓cbnd m1, ↓z1, ↓q0, ↓cbnd e, ↓z2, ↓reduceIte]
        rfl
      | true =>
        rw [hs] at e
        simp only [pX12_look, ↓cbnd m1, ↓z1, ↓q0, ↓cbnd e, ↓reduceIte]
        rfl
  have q0 : (b = (0 : Int32)) = False := eq_false b0
  by_cases b1 : b = (1 : Int32)
  · have q1 : (b = (1 : Int32)) = True := eq_true b1
    refine ⟨nI (v 17 p), fun w C => ?_⟩
    have C1 := Cu_t C
    have m1 := m_gWho (N := N) C1 (nI p)
    rw [h] at m1
    refine ⟨?_, ?_⟩
    · have hlt : mkB (fun p => v 17 p == 1) (v 0 1) < 2 ^ 31 := Nat.lt_of_lt_of_le (mkB_lt _ _) (Nat.pow_le_pow_right (by omega) (by omega))
      have e : (gI w 13 0 3 >>> (nI p &&& (31 : Int32))) &&& (1 : Int32) = nI (v 17 p) := by
        rw [SC_gone C.1.2, bit_zB hlt (by omega), mkB_bit]
        have := WF_gone hF p
        rcases Nat.lt_or_ge 0 (v 17 p) with y | y
        · have y' : v 17 p = 1 := by omega
          simp [y', hp, zB]
        · have y' : v 17 p = 0 := by omega
          simp [y', zB]
      simp only [lkT, ↓q0, ↓q1, ↓e, ↓reduceIte]
    · have l : ldI (setI w 16 0 2 (0 : Int32)) 103 0 (nI p) 12 = some (nI (v 17 p)) := by
        rw [ldn (by omega) (by omega)]
        have := SM_gone C1.2.1.2.1 p hp
        rw [Nat.mul_zero, Nat.zero_add] at this
        rw [this]
      have := WF_gone hF p
      rcases Nat.lt_or_ge 0 (v 17 p) with y | y
      · have y' : v 17 p = 1 := by omega
        rw [y'] at l ⊢
        have z : (nI 1 = 0) = False := eq_false (by decide)
        simp only [pX12_look, ↓cbnd m1, ↓z1, ↓q0, ↓q1, ↓bnd l, ↓z, ↓reduceIte]
        rfl
      · have y' : v 17 p = 0 := by omega
        rw [y'] at l ⊢
        have z : (nI 0 = 0) = True := eq_true rfl
        simp only [pX12_look, ↓cbnd m1, ↓z1, ↓q0, ↓q1, ↓bnd l, ↓z, ↓reduceIte]
        rfl
  have q1 : (b = (1 : Int32)) = False := eq_false b1
  by_cases b2 : b = (2 : Int32)
  · have q2 : (b = (2 : Int32)) = True := eq_true b2
    refine ⟨nI (sBits v p (v 0 5)), fun w C => ?_⟩
    have C1 := Cu_t C
    have m1 := m_gWho (N := N) C1 (nI p)
    rw [h] at m1
    refine ⟨?_, ?_⟩
    · have e := c_known (N := N) C.1 hF hN hp (show v 0 5 < 2 ^ 30 by omega)
      rw [← SC_night C.1.2] at e
      rw [SC_night C.1.2] at e
      have e' : pX9_knownBits N 0 (nI p) (gI w 13 0 1) w = some (nI (sBits v p (v 0 5)), w) := by rw [SC_night C.1.2]; exact e
      simp only [lkT, ↓q0, ↓q1, ↓q2, ↓cbnd e', ↓reduceIte]
    · have e : pX12_knownBy N (0 : Int32) (nI p) (gI (setI w 16 0 2 (0 : Int32)) 16 0 64) (setI w 16 0 2 (0 : Int32)) = some (nI (sBits v p (v 0 5)), setI w 16 0 2 (0 : Int32)) := by
        rw [Cu_night C1]
        exact m_knownBy (N := N) (b := 0) C1.2.1.1 C1.2.1.2.1 hF (by omega) hN hp (by omega)
      simp only [pX12_look, ↓cbnd m1, ↓z1, ↓q0, ↓q1, ↓q2, ↓cbnd e, ↓reduceIte]
  have q2 : (b = (2 : Int32)) = False := eq_false b2
  by_cases b3 : b = (3 : Int32)
  · have q3 : (b = (3 : Int32)) = True := eq_true b3
    refine ⟨nI (v 18 p), fun w C => ?_⟩
    have C1 := Cu_t C
    have m1 := m_gWho (N := N) C1 (nI p)
    rw [h] at m1
    refine ⟨?_, ?_⟩
    · have l : ldI w 60 0 (nI p) 6 = some (nI (v 18 p)) := by rw [ldn (by omega) (by omega), SC_times C.1.2 p hp]
      simp only [lkT, ↓q0, ↓q1, ↓q2, ↓q3, ↓bnd l, ↓reduceIte]
    · have l : ldI (setI w 16 0 2 (0 : Int32)) 104 0 (nI p) 12 = some (nI (v 18 p)) := by
        rw [ldn (by omega) (by omega)]
        have := SM_times C1.2.1.2.1 p hp
        rw [Nat.mul_zero, Nat.zero_add] at this
        rw [this]
      simp only [pX12_look, ↓cbnd m1, ↓z1, ↓q0, ↓q1, ↓q2, ↓q3, ↓bnd l, ↓reduceIte]
  have q3 : (b = (3 : Int32)) = False := eq_false b3
  by_cases b4 : b = (4 : Int32)
  · have q4 : (b = (4 : Int32)) = True := eq_true b4
    refine ⟨nI (v 5 p), fun w C => ?_⟩
    have C1 := Cu_t C
    have m1 := m_gWho (N := N) C1 (nI p)
    rw [h] at m1
    refine ⟨?_, ?_⟩
    · have l : ldI w 50 (gR w 15 0 2) (nI p) 6 = some (nI (v 5 p)) := by rw [ldn (by omega) (by omega), TC_cost (Cu_T C) p hp]
      simp only [lkT, ↓q0, ↓q1, ↓q2, ↓q3, ↓q4, ↓bnd l, ↓reduceIte]
    · have l : ldI (setI w 16 0 2 (0 : Int32)) 80 0 (nI p) 12 = some (nI (v 5 p)) := by
        rw [ldn (by omega) (by omega)]
        have := TM_cost C1.2.1.1 p hp
        rw [this]
      simp only [pX12_look, ↓cbnd m1, ↓z1, ↓q0, ↓q1, ↓q2, ↓q3, ↓q4, ↓bnd l, ↓reduceIte]
  have q4 : (b = (4 : Int32)) = False := eq_false b4
  by_cases b5 : b = (5 : Int32)
  · have q5 : (b = (5 : Int32)) = True := eq_true b5
    refine ⟨lst (v 19 p), fun w C => ?_⟩
    have C1 := Cu_t C
    have m1 := m_gWho (N := N) C1 (nI p)
    rw [h] at m1
    refine ⟨?_, ?_⟩
    · have l : ldI w 63 0 (nI p) 6 = some (lst (v 19 p)) := by rw [ldn (by omega) (by omega), SC_lost C.1.2 p hp]
      simp only [lkT, ↓q0, ↓q1, ↓q2, ↓q3, ↓q4, ↓q5, ↓bnd l, ↓reduceIte]
    · have l : ldI (setI w 16 0 2 (0 : Int32)) 105 0 (nI p) 12 = some (lst (v 19 p)) := by
        rw [ldn (by omega) (by omega)]
        have := SM_lost C1.2.1.2.1 p hp
        rw [Nat.mul_zero, Nat.zero_add] at this
        rw [this]
      simp only [pX12_look, ↓cbnd m1, ↓z1, ↓q0, ↓q1, ↓q2, ↓q3, ↓q4, ↓q5, ↓bnd l, ↓reduceIte]
  have q5 : (b = (5 : Int32)) = False := eq_false b5
  exact absurd hb (fun z => by
    rcases z with z | z | z | z | z | z
    · exact b0 z
    · exact b1 z
    · exact b2 z
    · exact b3 z
    · exact b4 z
    · exact b5 z)
end
/-! ===== the law's own look, at the machine ===== -/
def hhL : List (Nat × Nat × Nat × Nat) := [(0, 10, 13, 13), (0, 10, 17, 15)]
def wsK : List Cond := Cond.codeWith yL_look cL_look 5 (some .int) hhL :: lwg
def llL (a b : Int32) : LV := [some (.inr (.inr (15, 0))), some (.inl a), some (.inl b), some (.inr (.inr (1, 0))), none]
def llA (a b : Int32) : List AV := [.inr (.inr (15, 0)), .inl a, .inl b, .inr (.inr (1, 0))]
def llW : List Cond := [.classLink RL 13 ioE, .classLink RL 15 nsE]
theorem ll_w : ∀ x ∈ llW, x ∈ lwg := wds_of (by decide +kernel)
def llC : List Cond := [.methodLink RL 39 yL_look, .static yL_look, .initialized yL_look.cls, .codeWith yL_look cL_look 5 (some .int) hhL]
theorem ll_c : ∀ x ∈ llC, x ∈ lwg := wds_of (by decide +kernel)
theorem ll_v : ∀ w ∈ cwdV RL 7 yX11_look cX11_look 3 (some .int), w ∈ lwg := cw_of (ps := [1482, 1483, 1484, 148, 1485]) (by decide +kernel) (by decide +kernel)
section
variable {p : Program} {l : Launch} {e : Env} {s : State} {m : MethodId} {args : Array Value} {below : List Frame} {meth : Method} {c : Code} {cs : List (Nat × Nat)} {ρ : Nat → Nat → Nat} {D : va_G} {aC : Nat → ClassId} {w w1 w2 : Wd} {Q : State → Prop} {Qc : Array Value → State → Outcome → State → Prop} {XC : String → State → State → Prop} {A : Nat → Prop} {a b : Int32} {N sz : Nat} {H : Heap} {locs : List Loc} {la : Array Slot} {ls : LV}
set_option maxRecDepth 100000 in
set_option maxHeartbeats 4000000 in
theorem ll_met (hnd : cs.Nodup) (hcl : cloS cs) (hR : cloR cs w) (h15 : (15, 0) ∈ cs) (h1 : (1, 0) ∈ cs)
    (body : ∀ (p : Program) (e : Env) (s : State) (m : MethodId) (args : Array Value) (below : List Frame) (meth : Method) (c : Code), exL (va_A (pic cs ρ aC w) sz) s → meth.sig.returnType = some .int → meth.locks = false → c.exceptionTable.toList = tableOf hhL →
      GX (p, l, e, rmC 14 1 6, s, m, args, below, meth, c, 0, 0, vx_MQ below Qc XC args s 1 6 (va_A (pic cs ρ aC w) sz), cs, ρ, D, aC, va_A (pic cs ρ aC w) sz, 5) cL_look RL → WW (p, l, e, rmC 14 1 6, s, m, args, below, meth, c, 0, 0, vx_MQ below Qc XC args s 1 6 (va_A (pic cs ρ aC w) sz), cs, ρ, D, aC, va_A (pic cs ρ aC w) sz, 5) 0 (llL a b) [] w) :
    vx_Met l yL_look wsK (rmC 14 1 6) (va_Pc ((llA a b).map (trv ρ)) (PcL cs ρ D aC sz w)) Qc XC 1 6 (va_A (pic cs ρ aC w) sz) := by
  refine vx_ofWH (cc := cL_look) (maxL := 5) (ret := some .int) (hh := hhL) (by decide +kernel) rfl ?_
  intro p e s m args below meth c s₁ B hml hv
  obtain ⟨rfl, ⟨hsz, hP, hK, hD0, hex⟩, hel⟩ := hv
  have hx := B.exec
  have hb := B.bytes
  have hr := B.returns
  have hts0 := atoms_spec (ws := wsK) B.pre
  have htab := vx_table (x := yL_look) B (hts0 _ List.mem_cons_self)
  have hown : s.vm.findClass yL_look.cls = some m.cls := findClass_of_methodNamed B.named
  have hlocks := B.notSynchronized
  subst hsz
  have hD := hD0.self (sz := s.heap.size)
  rw [lg_entry_eq]
  have k := body p e s m ((llA a b).map (trv ρ)).toArray below meth c hel hr hlocks htab ⟨hex, hx, hb, hml, hown, fun w h => hts0 w (List.mem_cons_of_mem _ h), hK, hnd, hcl, fun q h => Or.inr h, Nat.zero_le _, Nat.zero_le _, (show 1 ≤ 14 by decide), (show 64 ≤ 1120 by decide)⟩
  have hvas : ∀ v ∈ llA a b, vok cs v := fun v hv => by
    simp only [llA, List.mem_cons, List.not_mem_nil, or_false] at hv
    rcases hv with rfl | rfl | rfl | rfl
    · exact Or.inl h15
    · trivial
    · trivial
    · exact Or.inl h1
  exact k s.heap [] _ (ent_lvr ρ (as := llA a b) (nL := 5) (Nat.le_of_ble_eq_true rfl)) (ent_ok (nL := 5) hvas) (fun _ h => by cases h) hP hD va_S.rf hR
set_option maxRecDepth 100000 in
set_option maxHeartbeats 4000000 in
theorem ll_run (G : GX (p, l, e, rmC 14 1 6, s, m, args, below, meth, c, 0, 0, Q, cs, ρ, D, aC, A, 5) cL_look RL) (hel : exL A s) (h15 : (15, 0) ∈ cs) (hl : lvr ρ la 5 ls) (hP : va_P D classes (pic cs ρ aC w) H) (hD : va_D A (pic cs ρ aC w)) (hS : va_S A s.heap H locs)
    (M : vx_Met l yX11_look (wsy yX11_look cX11_look 3 (some .int)) (rmC 12 1 6) (va_Pc ((lkA a b).map (trv ρ)) (PcL cs ρ D aC H.size w)) Qc XC 1 6 (va_A (pic cs ρ aC w) H.size)) :
    vx_Run p l e (rmC 14 1 6) s m args below meth c H locs 0 0 1 6 (F0 m 5 la ((((lkA a b).reverse ++ [.inl 0, .inr (.inr (1, 0))]) : List AV).map (trv ρ))) (([.inl 0, .inr (.inr (1, 0))] : List AV).map (trv ρ)) (Qc (Value.ref (ρ 15 0) :: [.int a, .int b]).toArray) XC (va_A (pic cs ρ aC w) H.size) := by
  obtain ⟨hex, hx, hb, hml, hown, hts, hK, hnd, hcl, hA, hcc, hcsl, hfr, hloc⟩ := G
  have hFc := pic_free hD hS hA
  obtain ⟨q0, hq0, hq0'⟩ := pic_at (ρ := ρ) (aC := aC) (w := w) h15
  rw [ent_1 (show (kd 15).1 = 1 from rfl)] at hq0'
  obtain ⟨q, hq, hqy⟩ : ∃ q, classes[(kd 15).2.1]? = some q ∧ q.1 = yX11_look.cls := ⟨_, rfl, rfl⟩
  have hrv := va_recv hK hP hq hq0'
  rw [hqy] at hrv
  have cw := cwV (R := rmC 14 1 6) (s := s) (args := args) (own := RL) (index := 7) (C := yX11_look.cls) (y := yX11_look) (bytes := cX11_look) (maxL := 3) (ret := some .int) (ws := wsy yX11_look cX11_look 3 (some .int)) (rm := rmC 12 1 6) (mc := 1) (ms := 6) 2 hts (lwg_GoodIn (fun w hw1 => by
    unfold wsV wsy at hw1
    rcases List.mem_append.mp hw1 with h1 | h1
    · exact ll_v w (by unfold cwdV; simp at h1 ⊢; rcases h1 with h1 | h1 | h1 | h1 <;> simp [h1])
    · rcases List.mem_cons.mp h1 with h2 | h2
      · exact ll_v w (by unfold cwdV; simp [h2])
      · exact h2)) rfl rfl rfl ⟨rfl, ⟨by decide +kernel, by decide +kernel, by decide +kernel⟩⟩ ⟨by decide, by decide⟩
  exact vx_runV (rest := ([.inl 0, .inr (.inr (1, 0))] : List AV).map (trv ρ)) (As := [.int a, .int b]) (b := ρ 15 0) (H := H) (locs := locs) (cells := 0) (slots := 0) (below := below) (meth := meth) (e := e) (g := F0 m 5 la ((((lkA a b).reverse ++ [.inl 0, .inr (.inr (1, 0))]) : List AV).map (trv ρ))) ⟨hx, hb, hml, hown, hts⟩ M cw ⟨PcL.blind, hrv, fun U hU hW => ⟨rfl, ⟨by rw [hU], by rw [hU]; exact hP, va_K.moved hW.alike hK, hD.weaken (fun _ _ _ _ => trivial), hex.on hW hU hS hFc⟩, hel.on hW hU hS hFc⟩⟩ rfl rfl hl.2.1 rfl (lv_room (by rw [catS_tr]; decide)) (show decode cL_look 5 = .ok (.invokevirtual 7, 3) by decide +kernel) ⟨by decide, by decide⟩
end
set_option maxRecDepth 100000 in
set_option maxHeartbeats 4000000 in
theorem ll_pre {X : XT} {w : Wd} {a b : Int32} (G : GX X cL_look RL) (k : WW X 5 (llL a b) ((lkA a b).reverse ++ [.inl 0, .inr (.inr (1, 0))]) w) : WW X 0 (llL a b) [] w := by
  refine ww_aload (i := 3) (k := 1) (q := 0) G (by decide +kernel) rfl ?_
  refine ww_iconst (n := 0) (x := 0) G (by decide +kernel) rfl ?_
  refine ww_aload (i := 0) (k := 15) (q := 0) G (by decide +kernel) rfl ?_
  refine ww_iloadn (i := 1) (x := a) G (by decide +kernel) rfl ?_
  exact ww_iloadn (i := 2) (x := b) G (by decide +kernel) rfl k
set_option maxRecDepth 100000 in
set_option maxHeartbeats 4000000 in
theorem ll_end {X : XT} {w : Wd} {a b r : Int32} (G : GX X cL_look RL) (hr : RTI X cL_look ((0 : Int32), setL w 1 0 0 r.toInt64)) : WW X 8 (llL a b) [.inl r, .inl 0, .inr (.inr (1, 0))] w := by
  refine ww_i2l G (by decide +kernel) ?_
  refine ww_last (k := 1) (i := 0) (j := 0) G (by decide +kernel) rfl (by decide) ?_
  rw [show (0 : Int32).toNatClampNeg = 0 by decide]
  refine ww_goto (off := 11) (t := 21) G (by decide +kernel) (by decide) ?_
  refine ww_iconst (n := 0) (x := 0) G (by decide +kernel) rfl ?_
  exact hr 0 _ 22 _ rfl (by decide +kernel)
section
variable {l : Launch} {cs : List (Nat × Nat)} {ρ : Nat → Nat → Nat} {D : va_G} {aC : Nat → ClassId} {w : Wd} {a b r x : Int32} {N sz : Nat}
/-- what the law's own look owes -/
def llM (l : Launch) (cs : List (Nat × Nat)) (ρ : Nat → Nat → Nat) (D : va_G) (aC : Nat → ClassId) (sz : Nat) (w : Wd) (a b : Int32) (y : Int32 × Wd) : Prop := vx_Met l yL_look wsK (rmC 14 1 6) (va_Pc ((llA a b).map (trv ρ)) (PcL cs ρ D aC sz w)) (va_Qi (fun (r' : Int32) (u : Wd) => (r', u) = y) (Bw cs ρ D aC (va_A (pic cs ρ aC w) sz)) (va_A (pic cs ρ aC w) sz)) (vx_X (fun _ : Unit => False) (fun _ _ _ => True) (va_A (pic cs ρ aC w) sz)) 1 6 (va_A (pic cs ρ aC w) sz)
set_option maxRecDepth 100000 in
set_option maxHeartbeats 4000000 in
theorem ML_look0 (hnd : cs.Nodup) (hcl : cloS cs) (hR : cloR cs w) (h15 : (15, 0) ∈ cs) (h1 : (1, 0) ∈ cs) (hp : pX11_isPerson N a w = some (x, w)) (hx0 : x ≠ 0) (hb : is6 b) (h : lkT N a b w = some (r, w)) : llM l cs ρ D aC sz w a b ((0 : Int32), setL w 1 0 0 r.toInt64) := by
  refine ll_met hnd hcl hR h15 h1 (fun p e s m args below meth c hel hret hlocks htab G => ?_)
  refine ll_pre G ?_
  have G' := G
  obtain ⟨hex, hx, hb', hml, hown, hts, hK, -, -, hA, -⟩ := G'
  intro H locs la hl hv hs hP hD hS hR'
  have hFc := pic_free hD hS hA
  have run := ll_run G hel h15 hl hP hD hS (M_lookR (sz := H.size) (l := l) (D := D) hnd hcl hR' h15 hp hx0 hb h)
  refine vx_calli run hS (fun q _ h => hFc q h) hFc (fun q _ h => hFc q h) (fun E ce q9 u t H1 locs1 _ _ hpx => hpx.elim) (fun r' u t1 H1 locs1 ht hvm hw1 hB _ _ hS1 => ?_)
  obtain ⟨hP1, hK1, hD1, hR1⟩ := hB
  rw [ht] at hP1
  cases hw1
  refine ll_end (X := (p, l, e, rmC 14 1 6, s, m, args, below, meth, c, 0 + 1, 0 + 6, vx_MQ below (va_Qi (fun (r' : Int32) (u : Wd) => (r', u) = ((0 : Int32), setL w 1 0 0 r.toInt64)) (Bw cs ρ D aC (va_A (pic cs ρ aC w) sz)) (va_A (pic cs ρ aC w) sz)) (vx_X (fun _ : Unit => False) (fun _ _ _ => True) (va_A (pic cs ρ aC w) sz)) args s 1 6 (va_A (pic cs ρ aC w) sz), cs, ρ, D, aC, va_A (pic cs ρ aC w) sz, 5)) (a := a) (b := b) ⟨hex, hx, hb', hml, hown, hts, hK, hnd, hcl, hA, by decide, by decide, by decide, by decide⟩ ?_ H1 locs1 la hl hv (vc trivial (vt (vt (vt hs)))) hP1 (hD1.weaken (fun _ q _ hq => hFc _ hq)) hS1 hR1
  intro v w2 pc ls hvx hdd H2 locs2 la2 hl2 hv2 hs2 hP2 hD2 hS2 hR2
  cases hvx
  exact vx_ret (W.zret (v := 0) hx hb' hret rfl (fun t ht hW => ⟨⟨0, _, rfl, rfl, by rw [ht]; exact hP2, va_K.moved hW.alike hK, hD2, hR2⟩, hS2.F ht⟩) hS2.2.2 hdd hlocks)
set_option maxRecDepth 100000 in
set_option maxHeartbeats 4000000 in
theorem ML_look1 (hl0 : l.stackTraces = false) (hnd : cs.Nodup) (hcl : cloS cs) (hR : cloR cs w) (h15 : (15, 0) ∈ cs) (h1 : (1, 0) ∈ cs) (hp : pX11_isPerson N a w = some (x, w)) (hx0 : x = 0) : llM l cs ρ D aC sz w a b ((1 : Int32), w) := by
  refine ll_met hnd hcl hR h15 h1 (fun p e s m args below meth c hel hret hlocks htab G => ?_)
  refine ll_pre G ?_
  have G' := G
  obtain ⟨hex, hx, hb', hml, hown, hts, hK, -, -, hA, -⟩ := G'
  intro H locs la hl hv hs hP hD hS hR'
  have hFc := pic_free hD hS hA
  have run := ll_run G hel h15 hl hP hD hS (M_look1 (sz := H.size) (l := l) (D := D) (b := b) hl0 hnd hcl hR' h15 hp hx0)
  refine vx_calli run hS (fun q _ h => hFc q h) hFc (fun q _ h => hFc q h) (fun E ce q9 u t H1 locs1 ht hal hpx hBX hsz hk hS1 hce hcv hcl9 => ?_) (fun r' u t1 H1 locs1 ht hvm hw1 => hw1.elim)
  obtain ⟨rfl, hP1, hK1, hD1, hR1⟩ := hBX
  rw [ht] at hP1
  refine vx_catch (own := RL) (name := ioE) (E := ioE) hown [] ⟨0, 10, 13, 13⟩ [⟨0, 10, 17, 15⟩] (by rw [htab]; rfl) (fun z hz => by cases hz) (by decide) (by decide) (hts _ (ll_w (.classLink RL 13 ioE) (by simp [llW]))) (va_Nw.use rfl (hel.1 (.castable ioE ioE) (by simp [exWL]))) hce hcv hcl9 ?_
  refine lv_astore (i := 4) hx hb' (show decode cL_look 13 = .ok (.astore 4, 2) by decide +kernel) hl.2 (by decide) rfl (fun la' hl' => ?_)
  refine lv_iconst hx hb' (show decode cL_look 15 = .ok (.iconst 1, 1) by decide +kernel) (show Int32.ofInt 1 = (1 : Int32) from rfl) ?_
  exact vx_ret (W.zret (v := 1) hx hb' hret rfl (fun t ht2 hW => ⟨⟨1, w, rfl, rfl, by rw [ht2]; exact hP1, va_K.moved hW.alike hK, hD1.weaken (fun _ q _ hq => hFc _ hq), hR1⟩, hS1.F ht2⟩) hS1.2.2 (show decode cL_look 16 = .ok (.ireturn, 1) by decide +kernel) hlocks)
set_option maxRecDepth 100000 in
set_option maxHeartbeats 4000000 in
theorem ML_look2 (hl0 : l.stackTraces = false) (hnd : cs.Nodup) (hcl : cloS cs) (hR : cloR cs w) (h15 : (15, 0) ∈ cs) (h1 : (1, 0) ∈ cs) (hp : pX11_isPerson N a w = some (x, w)) (hx0 : x ≠ 0) (hb : ¬ is6 b) : llM l cs ρ D aC sz w a b ((2 : Int32), w) := by
  refine ll_met hnd hcl hR h15 h1 (fun p e s m args below meth c hel hret hlocks htab G => ?_)
  refine ll_pre G ?_
  have G' := G
  obtain ⟨hex, hx, hb', hml, hown, hts, hK, -, -, hA, -⟩ := G'
  intro H locs la hl hv hs hP hD hS hR'
  have hFc := pic_free hD hS hA
  have run := ll_run G hel h15 hl hP hD hS (M_look2 (sz := H.size) (l := l) (D := D) (b := b) hl0 hnd hcl hR' h15 hp hx0 hb)
  refine vx_calli run hS (fun q _ h => hFc q h) hFc (fun q _ h => hFc q h) (fun E ce q9 u t H1 locs1 ht hal hpx hBX hsz hk hS1 hce hcv hcl9 => ?_) (fun r' u t1 H1 locs1 ht hvm hw1 => hw1.elim)
  obtain ⟨rfl, hP1, hK1, hD1, hR1⟩ := hBX
  rw [ht] at hP1
  refine vx_catch (own := RL) (name := nsE) (E := nsE) hown [⟨0, 10, 13, 13⟩] ⟨0, 10, 17, 15⟩ [] (by rw [htab]; rfl) (fun z hz => by
    cases List.mem_singleton.mp hz
    exact Or.inr ⟨by decide, ioE, hts _ (ll_w (.classLink RL 13 ioE) (by simp [llW])), hel.2.1⟩) (by decide) (by decide) (hts _ (ll_w (.classLink RL 15 nsE) (by simp [llW]))) (va_Nw.use rfl (hel.1 (.castable nsE nsE) (by simp [exWL]))) hce hcv hcl9 ?_
  refine lv_astore (i := 4) hx hb' (show decode cL_look 17 = .ok (.astore 4, 2) by decide +kernel) hl.2 (by decide) rfl (fun la' hl' => ?_)
  refine lv_iconst hx hb' (show decode cL_look 19 = .ok (.iconst 2, 1) by decide +kernel) (show Int32.ofInt 2 = (2 : Int32) from rfl) ?_
  exact vx_ret (W.zret (v := 2) hx hb' hret rfl (fun t ht2 hW => ⟨⟨2, w, rfl, rfl, by rw [ht2]; exact hP1, va_K.moved hW.alike hK, hD1.weaken (fun _ q _ hq => hFc _ hq), hR1⟩, hS1.F ht2⟩) hS1.2.2 (show decode cL_look 20 = .ok (.ireturn, 1) by decide +kernel) hlocks)
end

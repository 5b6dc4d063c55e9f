/-! ===== constructors: a contract out of a run ===== -/
theorem SndC.run {y : MethodName} {b : ByteArray} {nL lev mc ms : Nat} {as : List AV} {ext : List (Nat × Nat)} {S T : CS} {w w1 : Wd} {tab : List CE} {e : CE} {F : Nat → Wd → Option Wd} {oC : Nat → List AV → CS → Option (CS × List WO)} {ops : List WO} (hy : plainFor y = true) (hyn : y.name = "<init>") (hent : (entA as).length ≤ nL) (hI : CI (S.1, S.2.1, S.2.2.1, 0, 0) ext w) (hok : ctok b y.cls (e :: tab) = true) (h0 : e.1 = 0) (hw : ∀ e' ∈ e :: tab, ∀ x ∈ cwd y.cls e', x ∈ lwg)
    (hC : ∀ X : XT, GC X b y.cls → X.2.2.2.2.2.2.2.2.2.2.1 = mc → X.2.2.2.2.2.2.2.2.2.2.2.1 = ms → xR X = rmC (lev + 1) mc ms → ∀ e' ∈ e :: tab, cCall e' = true → CRC X ext F e' (oC e'.2.2.1))
    (hrun : crun oC mc ms ext (entL nL as) (e :: tab) [] (S.1, S.2.1, S.2.2.1, 0, 0) = some (T, ops)) (hW : wops F ops w = some w1) (hc1 : T.2.2.2.1 ≤ mc) (hs1 : T.2.2.2.2 ≤ ms) : SndC y b nL (lev + 1) mc ms as ext S T w w1 := by
  refine SndC.of hy hyn hent hI hc1 hs1 (fun X G hmc hms hR hn hr => ?_)
  have g := crun_sound G hmc hms (F := F) (oC := oC) (fun pc => hr pc _) tab e [] (S.1, S.2.1, S.2.2.1, 0, 0) ops w hok hw (hC X G hmc hms hR) hrun hW
  rw [h0] at g
  exact g

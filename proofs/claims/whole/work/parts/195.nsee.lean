/-! 'throw new NoSuchElementException("text")': its constructor links its super at another place of its pool than the rows of part 01 suppose; xN_ctor follows the library's proof for the others (BundleOwnThrow), with that one link told apart -/
abbrev xNS : String := "java/util/NoSuchElementException"
abbrev xRT : String := "java/lang/RuntimeException"
abbrev xEX : String := "java/lang/Exception"
def xN_six : ByteArray := ⟨#[0x2a, 0x2b, 0xb7, 0x00, 0x0d, 0xb1]⟩
def xN_bad : List Cond := [.code (Bundle.initS xNS) Bundle.six 2 none, .methodLink xNS 7 (Bundle.initS xRT)]
def xN_at0 (ic : Nat) : List Cond := (Bundle.ownAtoms RX8 ic xNS [xRT, xEX]).filter (fun w => !(xN_bad.contains w))
abbrev xN_at : List Cond := xN_at0 172
/-- what a throw of it needs beside what the start gives -/
def xN_ok (args : Array Value) (s : State) : Prop := (∀ w ∈ xN_at, w.before args s = true) ∧ (Cond.code (Bundle.initS xNS) xN_six 2 none).before args s = true ∧ (Cond.methodLink xNS 13 (Bundle.initS xRT)).before args s = true
theorem xN_has {args : Array Value} {s : State} (h : xN_ok args s) (L : List Cond) (hL : L.all (fun w => decide (w ∈ xN_at)) = true) : ∀ w ∈ L, w.before args s = true := fun w hw => h.1 w (of_decide_eq_true (List.all_eq_true.mp hL w hw))
section XNS
variable {p : Program} {l : Launch} {e : Env} {R : Room} {s : State} {m₀ : MethodId} {args : Array Value} {below : List Frame} {meth : Method} {c : Code} {W : State} {locs : List Loc} {cells slots : Nat}
set_option maxHeartbeats 4000000 in
theorem xN_ctor (X : Stand p l e R s m₀ args below meth c W locs cells slots) (hexec : p.tables.exec = Jvm.exec) (htr : e.platform.stackTraces = false)
    (hown : s.vm.findClass RX8 = some m₀.cls) (h : xN_ok args s)
    (hlocs : ∀ x ∈ locs, ∀ cell, s.heap[x.base]? = some cell → cell.vm.isStatics = false)
    {a : Addr} {cX : ClassId} {kX : Class} (hfoundX : s.vm.findClass xNS = some cX) (hkX : s.vm.classes[cX]? = some kX) (hcell : W.heap[a]? = some (freshCell cX kX)) (hnew : s.heap.size ≤ a)
    {msg : Value} (hmsg : msg.isRef = true)
    {g : JFrame} (hg : g.method = m₀) (hsize : g.locals.size = c.maxLocals) (hlocked : g.locked = none) (hentered : g.entered = []) {rest : List Value} (hstack : g.stack = msg :: .ref a :: .ref a :: rest)
    (hd6 : decode c.code g.pc = .ok (.invokespecial 172, 3)) (hd9 : decode c.code (g.pc + 3) = .ok (.athrow, 1)) (hout : ∀ x ∈ c.exceptionTable.toList, covers x (g.pc + 3) = false)
    (hRframes : 5 < R.frames) (hRlocals : 2 * g.monitorRoom + ((Value.ref a :: rest).map fun v => v.category).sum + 81 ≤ R.locals) (hlocks : meth.locks = false) :
    ∃ U : State, Steps p.tables e below (W.setTop g) U ∧ U.status = .running ∧ Ended U below (.threw a) ∧ s.WarmedH U.vm ∧ s.sameButNew ({ U with vm := s.vm } : State) locs cells slots ∧
      ∃ ce, U.heap[a]? = some ce ∧ ce.cls = cX ∧ ce.vm = .none := by
  have howns : e.platform.frameOwnsMonitors = true := by rw [X.admits.platform]
  have hfin : e.platform.finalization = false := by rw [X.admits.platform]
  have hpl : e.platform.magicAccessors = ({} : Platform).magicAccessors := by rw [X.admits.platform]
  have a' : ∀ w ∈ xN_at, w.before args s = true := h.1
  obtain ⟨T, Z0, L, -, Y⟩ := ThrowableC.of_atoms (args := args) howns hfin hpl (xN_has h _ (by decide +kernel))
  obtain ⟨Z, M, LZ, LM, hnZ⟩ := Init0T.ofS_atoms (args := args) hpl L Y (xN_has h _ (by decide +kernel))
  obtain ⟨P1, L1, hP1m, hP1s⟩ := PassC.ofS_atoms (args := args) (s := s) hpl (X := xNS) (Y := xRT) (index := 13) (bytes := xN_six) (by decide +kernel) (by decide) (by decide +kernel) (by decide +kernel) (by decide +kernel) (by decide +kernel)
    (fun w hw => by
      rcases List.mem_cons.mp hw with rfl | hw
      · exact a' _ (by decide +kernel)
      rcases List.mem_cons.mp hw with rfl | hw
      · exact h.2.1
      rcases List.mem_cons.mp hw with rfl | hw
      · exact h.2.2
      exact xN_has h [.instanceMethod (Bundle.initS xRT), .declares (Bundle.initS xRT)] (by decide +kernel) w hw)
  obtain ⟨P2, Ps, hlen, L2, hL, hP2m, hsup, hpass⟩ := Bundle.chainS (args := args) hpl hnZ [xEX] xRT (by decide +kernel) (by decide +kernel) (xN_has h _ (by decide +kernel))
  have hP12 : P1.sup = P2.m := Option.some.inj (hP1s.symm.trans hP2m)
  have hfound : s.vm.findClass xNS = some P1.m.cls := findClass_of_methodNamed hP1m
  cases Option.some.inj (hfoundX.symm.trans hfound)
  obtain ⟨c1, kX', hc1, hk, hord, -, -, hn6⟩ := Cond.instantiable_spec (a' (.instantiable xNS 6) (by decide +kernel))
  cases Option.some.inj (hc1.symm.trans hfound)
  cases Option.some.inj (hkX.symm.trans hk)
  have hsel0 : selectMethod e.platform s.vm P1.m.cls T.fill0 = .method T.fill0 := by
    obtain ⟨c2, r2, m2, q1, q2, q3, q4, -⟩ := Cond.selects_spec (a' (.selects xNS Bundle.tFill0 Bundle.tFill0) (by decide +kernel))
    cases Option.some.inj (q1.symm.trans hfound)
    cases Option.some.inj (q2.symm.trans (State.methodFound?_of_named Y.fill0 (by decide)))
    cases Option.some.inj (q3.symm.trans Y.fill0)
    rw [Launch.admits_selectMethod X.admits]; exact q4
  have hselF : selectMethod e.platform s.vm P1.m.cls T.fill = .method T.fill := by
    obtain ⟨c2, r2, m2, q1, q2, q3, q4, -⟩ := Cond.selects_spec (a' (.selects xNS Bundle.tFill Bundle.tFill) (by decide +kernel))
    cases Option.some.inj (q1.symm.trans hfound)
    cases Option.some.inj (q2.symm.trans (State.methodFound?_of_named Y.fill (by decide)))
    cases Option.some.inj (q3.symm.trans Y.fill)
    rw [Launch.admits_selectMethod X.admits]; exact q4
  obtain ⟨cellS0, hcS0, hiss⟩ := Y.statics
  obtain ⟨u0, hu0⟩ := Cond.staticRefV Y.unassigned L.unassignedStatic L.statics hcS0 hiss (a' (.isRef (.static Bundle.tN "UNASSIGNED_STACK" Bundle.steD)) (by decide +kernel))
  obtain ⟨sen, hsen⟩ := Cond.staticRefV Y.sentinel L.sentinelStatic L.statics hcS0 hiss (a' (.isRef (.static Bundle.tN "SUPPRESSED_SENTINEL" Bundle.listD)) (by decide +kernel))
  obtain ⟨ci198, i198, fB, hk198, hg198, ha198, hsB, -, hnB, htB, hffB⟩ := Cond.ownField (t := .object "java/lang/Object") Y.found L.cls (by decide +kernel) (a' (.fieldLink Bundle.tN 198 Bundle.tN "backtrace" "Ljava/lang/Object;") (by decide +kernel)) (a' (.lays Bundle.tN Bundle.tN "backtrace" "Ljava/lang/Object;") (by decide +kernel)) e.platform hpl
  obtain ⟨cellS, hcS', heS, -, hkeep⟩ := X.same.2.2.2.2.2 T.aS cellS0 hcS0
  have hcellS : W.heap[T.aS]? = some cellS := hcS'
  have hout' : ∀ i, (⟨T.aS, i⟩ : Loc) ∉ locs := fun i hmem => by
    have := hlocs _ hmem cellS0 hcS0
    rw [hiss] at this; cases this
  have hknownS : cellS.vm ≠ .unknown := by
    rw [heS]; intro hu
    rw [show cellS0.vm = .unknown from hu] at hiss
    cases hiss
  have hneS : T.aS ≠ a := Nat.ne_of_lt (Nat.lt_of_lt_of_le (Array.getElem?_eq_some_iff.mp hcS0).1 hnew)
  obtain ⟨iM, hffM⟩ := Y.msg
  obtain ⟨tyC, dC, hdC, hdnC⟩ := Cond.laysAt hfound hk Y.cause (a' (.lays xNS Bundle.tN "cause" "Ljava/lang/Throwable;") (by decide +kernel))
  obtain ⟨tyS, dS, hdS, hdnS⟩ := Cond.laysAt hfound hk Y.stack (a' (.lays xNS Bundle.tN "stackTrace" Bundle.steD) (by decide +kernel))
  obtain ⟨tyP, dP, hdP, hdnP⟩ := Cond.laysAt hfound hk Y.supp (a' (.lays xNS Bundle.tN "suppressedExceptions" Bundle.listD) (by decide +kernel))
  obtain ⟨tyM, dM, hdM, hdnM⟩ := Cond.laysAt hfound hk hffM (a' (.lays xNS Bundle.tN "detailMessage" "Ljava/lang/String;") (by decide +kernel))
  obtain ⟨tyB, dB, hdB, hdnB⟩ := Cond.laysAt hfound hk hffB (a' (.lays xNS Bundle.tN "backtrace" "Ljava/lang/Object;") (by decide +kernel))
  have bC := Cond.laysApart hdB hdC hdnB hdnC (by rw [hnB, Y.causeName]; decide)
  have bS := Cond.laysApart hdB hdS hdnB hdnS (by rw [hnB, Y.stackName]; decide)
  have bP := Cond.laysApart hdB hdP hdnB hdnP (by rw [hnB, Y.suppName]; decide)
  have hskip : SkipFacts T e.platform s (fun u => u) u0 ((preparedCellV T.toThrowableT (freshCell P1.m.cls kX) a u0 sen).withEntry W.cur) :=
    ⟨{ ci198 := ci198, i198 := i198, fBack := fB }, ⟨hk198, hg198, ha198, hsB⟩, by
      have := fresh_default (c := P1.m.cls) tyB
      rw [htB] at this
      simpa [preparedCellV, Cell.setSlot, Cell.withEntry, Array.getElem?_setIfInBounds, bC, bS, bP, bC.symm, bS.symm, bP.symm, defaultValue] using this, fun _ _ => rfl⟩
  obtain ⟨tm, methC, cdC, kC, vm₁, hnC, -, -, -, -, -, -, -, hW₁, st1⟩ := Steps.initColdS (tb := p.tables) (e := e) (below := below) (s := s) (U := W) X.here hexec X.warmed hpl hown (t := Bundle.initS xNS) rfl rfl (by decide)
    (a' (.methodLink RX8 172 (Bundle.initS xNS)) (by decide +kernel)) (a' (.instanceMethod (Bundle.initS xNS)) (by decide +kernel)) (bytes := xN_six) (maxL := 2) h.2.1
    (f := g) hg (a := a) (msg := msg) (rest := .ref a :: rest) hstack hd6
  cases Option.some.inj (hnC.symm.trans hP1m)
  have X₁ := X.noted hW₁
  obtain ⟨vm₂, X₂, st2⟩ := X₁.ctorMessageOffV hexec (g := { g with stack := .ref a :: rest }) hg hsize T L Z LZ M LM (P1 :: P2 :: Ps)
    (fun P hP => by
      rcases List.mem_cons.mp hP with rfl | hP
      · exact L1
      rcases List.mem_cons.mp hP with rfl | hP
      · exact L2
      exact hL P hP) ⟨hP12, hsup, hpass⟩ (u0 := u0) (sen := sen) (self := a) hmsg (cell := freshCell P1.m.cls kX) (cellS := cellS)
    hcell (fun _ => by simp) (by simp) rfl rfl hsel0 hselF hcellS hneS hknownS (by rw [hkeep _ (hout' _)]; exact hu0) (by rw [hkeep _ (hout' _)]; exact hsen)
    (Takes.of_laid hk hord tyC (by rw [Y.causeType]; rfl)) (Takes.of_laid hk hord tyS (by rw [Y.stackType]; exact fits_refV_array _ u0)) (Takes.of_laid hk hord tyP (by rw [Y.suppType]; exact fits_refV_object _ sen))
    (Takes.of_laid hk hord tyM (by rw [Y.msgType]; exact fits_refV_object _ ⟨msg, hmsg⟩)) Y.objLocals hskip htr [] hd6
    (by simp only [List.length_cons, hlen, List.length_nil]; omega) (by simp only [List.length_cons, hlen, List.length_nil]; omega)
  obtain ⟨hwalk, hrun, hended, hWU, hsame⟩ := X₂.athrowLeaves hexec (g := { g with stack := .ref a :: rest, pc := g.pc + 3 }) hg hlocked hentered hout (a := a) (rest := rest) rfl hd9
  have hlt : a < ((W.setVm vm₁).setVm vm₂).heap.size := (Array.getElem?_eq_some_iff.mp hcell).1
  have hU := heapAt_setCell_self (s := (W.setVm vm₁).setVm vm₂) (plainBareV T.toThrowableT (freshCell P1.m.cls kX) a u0 sen msg) hlt
  refine ⟨_, st1 _ (fun acts => ?_), hrun, hended, hWU, hsame.weaken (fun y hy hlt' => ?_) (Nat.le_refl _) (Nat.le_refl _), _, hU, rfl, rfl⟩
  · rw [doInvoke_state]
    exact st2 _ hwalk
  · rcases List.mem_append.mp hy with h1 | h1
    · exact h1
    · exfalso
      have hb : y.base = a := by
        simp only [List.mem_cons, List.not_mem_nil, or_false] at h1
        rcases h1 with rfl | rfl | rfl | rfl | rfl <;> rfl
      rw [hb] at hlt'
      exact Nat.not_lt.mpr hnew hlt'
end XNS
/-- the words of such a throw -/
def xNw9 : List Cond := [.classLink RX8 168 xNS, .initialized xNS, .code (Bundle.initS xNS) xN_six 2 none, .methodLink xNS 13 (Bundle.initS xRT)] ++ xN_at.filter vx_no
section XNT
variable {G : xG} {p : Program} {l : Launch} {e : Env} {R : Room} {s : State} {m : MethodId} {args : Array Value} {below : List Frame} {meth : Method} {c : Code} {A : Nat → Prop} {nL : Nat} {Q : State → Prop} {k0 n0 kc ks : Nat}
variable {cc : ByteArray} {pc : Nat} {L : List (Nat × Value)} {st0 : List Value} {S S0 Sx : xS} {Qm : Option Value → xS → Prop} {QX : String → xS → Prop}
theorem xNw9_ok : xNw9.all (fun w => w.onTables) = true := by decide +kernel
theorem xNw9_good : ∀ w ∈ xNw9.filter goodWord, w ∈ lw_tbl := by decide +kernel
theorem xNw9_rest : ∀ w ∈ xNw9.filter (fun w => !goodWord w), w ∈ xNest := by decide +kernel
theorem xN_words (C : xC G p c cc nL s args RX8 m A) : ∀ w ∈ xNw9, w.onTables = true ∧ w.before args s = true := fun w hw => by
  refine ⟨List.all_eq_true.mp xNw9_ok w hw, ?_⟩
  by_cases g : goodWord w = true
  · exact C.1.2.2.2.2 w (List.mem_filter.mpr ⟨xNw9_good w (List.mem_filter.mpr ⟨hw, g⟩), g⟩)
  · exact va_Nw.use (List.all_eq_true.mp xNw9_ok w hw) (C.2.2.2.1 w (xNw9_rest w (List.mem_filter.mpr ⟨hw, by cases hg : goodWord w; rfl; exact absurd hg g⟩)))
theorem xi_throwN (C : xC G p c cc nL s args RX8 m A) (hA : A = va_A (xwd G S0) s.heap.size) (hZ : Q = vxA_MQ below (fun mc ms => xPostY kc ks mc ms G S0 s.heap.size Qm) (fun mc ms => xPostYX kc ks mc ms G S0 s.heap.size QX) args s A) (hl9 : l.stackTraces = false) (hlocks : meth.locks = false) (ht : ∀ x ∈ c.exceptionTable.toList, False) {f0 lo0 : Nat} (hRoom : R = { frames := f0, cells := xgc S0 + kc, slots := xgs S0 + ks, locals := lo0 }) {text : String} {is : Nat} (htx : Cond.stringRef RX8 is text ∈ tables_1) (ha : xAl S0 Sx) (e1 : S 33 (-1) = Sx 33 (-1))
    (hR : 5 < f0 ∧ (st0.map fun v => v.category).sum + 82 ≤ lo0) (hc : k0 + 1 ≤ kc) (hs : n0 + 6 ≤ ks)
    (d0 : decode cc pc = .ok (.new 168, 3)) (d1 : decode cc (pc + 3) = .ok (.dup, 1)) (d2 : decode cc (pc + 4) = .ok (.ldc is, 2)) (d3 : decode cc (pc + 6) = .ok (.invokespecial 172, 3)) (d4 : decode cc (pc + 9) = .ok (.athrow, 1)) (hw : xval G S) (hq : QX xNS S) : xV G p l e R s m args below meth c A nL Q (k0 + (xgc S0 - xgc Sx)) (n0 + (xgs S0 - xgs Sx)) pc L st0 S := by
  refine xV_alY e1 ?_
  have ha' : xAl S0 S := ha.eq e1
  intro H locs ls hP hD hS hls
  subst hZ
  subst hA
  have hnw := xN_words C
  obtain ⟨sa, hsa⟩ := C.2.2.2.2.2.2.2.2.1.1 RX8 is text htx
  refine xr_Y (mc := k0 + (xgc S0 - xgc S) + 1) (ms := n0 + (xgs S0 - xgs S) + 6) ?_
  intro T hT X
  have hb := C.1.2.1
  have hexec := C.1.1
  have htr : e.platform.stackTraces = false := (show e.platform.stackTraces = l.stackTraces by rw [X.admits.platform]).trans hl9
  have Y := vx_rebase X (R' := { frames := R.frames, locals := R.locals, cells := 1, slots := 6 }) (Nat.le_refl _) (Nat.le_refl _) (by rw [hRoom]; have := ha'.1; simp only []; omega) (by rw [hRoom]; have := ha'.2; simp only []; omega)
  obtain ⟨s', hA⟩ : ∃ z, z = (T.setVm s.vm).setFrames (.invoking m args :: below) := ⟨_, rfl⟩
  rw [← hA] at Y
  have hvm : s'.vm = s.vm := by rw [hA]; rfl
  have hhp : s'.heap = H := by rw [hA]; exact hT
  have hW0 : s.WarmedH s'.vm := by rw [hvm]; exact State.WarmedH.refl s
  have hat' : ∀ w ∈ xNw9, w.before args s' = true := fun w hw => va_tabs (hnw w hw).1 hvm.symm (hnw w hw).2
  have hU' : vx_Zq Bundle.tN "UNASSIGNED_STACK" Bundle.steD (va_A (xwd G S0) s.heap.size) s' s'.heap := by rw [hhp]; exact vx_Zq.moved hW0.alike (C.2.2.2.2.2.2.1.kept hS.2.1)
  have hN' : vx_Zq Bundle.tN "SUPPRESSED_SENTINEL" Bundle.listD (va_A (xwd G S0) s.heap.size) s' s'.heap := by rw [hhp]; exact vx_Zq.moved hW0.alike (C.2.2.2.2.2.2.2.1.kept hS.2.1)
  have h : xN_ok args s' := ⟨vx_own (fun w hw => hat' w (List.mem_append_right _ hw)) (vx_isRefq hU'.1) (vx_isRefq hN'.1) hU'.2.word hN'.2.word, hat' _ (by unfold xNw9; simp), hat' _ (by unfold xNw9; simp)⟩
  have hown' : s'.vm.findClass RX8 = some m.cls := by rw [hvm]; exact C.1.2.2.2.1
  have hins : (Cond.instantiable xNS 6).before args s' = true := h.1 _ (by decide +kernel)
  obtain ⟨vm₁, cX, kX, hfX, hkX, -, -, X₁, st1⟩ := Y.newCold hexec (own := RX8) (C := xNS) (index := 168) (n := 6) hown' (hat' (.classLink RX8 168 xNS) (by unfold xNw9; simp)) hins (hat' (.initialized xNS) (by unfold xNw9; simp))
    (g := F0 m pc ls st0) rfl (by rw [hb]; exact d0) (Nat.le_refl _) (Nat.le_refl _)
  generalize hT1 : (T.setVm vm₁).pushCell { cls := cX, slots := kX.instanceTypes.map defaultValue, vm := .none } = T1 at X₁ st1
  have hcat : (Value.ref T.heap.size).category = 1 := rfl
  have hcellA : T1.heap[T.heap.size]? = some (freshCell cX kX) := by rw [← hT1]; exact State.heap_pushCell_size _ _
  have d3' : decode c.code (pc + 3) = .ok (.dup, 1) := by rw [hb]; exact d1
  have d4' : decode c.code (pc + 4) = .ok (.ldc is, 2) := by rw [hb]; exact d2
  have hstr' : vk_R RX8 is text sa s' := vk_R.warm hW0 hsa
  have hRf : 5 < R.frames := by rw [hRoom]; exact hR.1
  have hRl : (st0.map fun v => v.category).sum + 82 ≤ R.locals := by rw [hRoom]; exact hR.2
  obtain ⟨U, hsteps, hrun, hend, hW, hsame, ce, hce, hO, hOv⟩ := xN_ctor X₁ hexec htr hown' h (fun x hx => nomatch hx) hfX hkX hcellA (by rw [hhp, hT]; exact Nat.le_refl _) (msg := .ref sa) rfl
    (g := { method := m, pc := pc + 6, locals := ls, stack := .ref sa :: .ref T.heap.size :: .ref T.heap.size :: st0, locked := none }) rfl (hls.1.trans C.1.2.2.1.symm) rfl rfl (rest := st0) rfl
    (by rw [hb]; exact d3) (by rw [hb]; exact d4) (fun x hx => (ht x hx).elim) hRf (by simp only [List.map_cons, List.sum_cons, hcat]; omega) hlocks
  obtain ⟨f1, f2⟩ := vx_frame hsame
  rw [hhp] at f1 f2
  have hWs : s.WarmedH U.vm := State.WarmedH.trans hW0 hW
  have hcl : s.vm.findClass xNS = some ce.cls := by
    have h9 := hfX
    rw [hvm] at h9
    rw [hO]
    exact h9
  have hall : s.sameButNew ({ U with vm := s.vm } : State) locs (k0 + (xgc S0 - xgc S) + 1) (n0 + (xgs S0 - xgs S) + 6) := by
    subst hA
    obtain ⟨e1, e2⟩ := hsame
    rw [State.setFrames_setFrames] at e1
    have h2 : (T.setVm s.vm).sameButNew ({ U with vm := s.vm } : State) [] (0 + 1) (0 + 6) := ⟨e1, e2⟩
    have h3 := X.same.trans h2
    rw [List.append_nil] at h3
    exact h3.mono (Nat.le_refl _) (Nat.le_refl _)
  refine ⟨U, ?_, .threw T.heap.size, hrun, hend, Or.inr ⟨T.heap.size, rfl, xNS, ce, locs, ⟨⟨S, hq, ⟨?_, ?_⟩, ha', hw, hP.kept (fun k q h9 => f2 q.1 (vx_lt hP h9) (fun z hz => nomatch hz)), hD⟩, ⟨Nat.le_trans hS.1 f1, fun q h1 h2 => (f2 q (Nat.lt_of_lt_of_le h1 hS.1) (fun z hz => nomatch hz)).trans (hS.2.1 q h1 h2)⟩⟩, hce, hOv, hcl, hWs, hall, fun z hz => hS.2.2 z hz⟩⟩
  · refine st1 _ ?_
    show Steps p.tables e below (T1.setTop { method := m, pc := pc + 3, locals := ls, stack := .ref T.heap.size :: st0, locked := none }) _
    jvm_step X₁.here [X₁.here.top, hexec, d3', Value.category]
    exact X₁.ldcString hexec (own := RX8) (text := text) (index := is) (a := sa) hown' hstr'.1 hstr'.2
      (g := { method := m, pc := pc + 4, locals := ls, stack := .ref T.heap.size :: .ref T.heap.size :: st0, locked := none }) rfl d4' _ hsteps
  · have := ha'.1; omega
  · have := ha'.2; omega
theorem xi_throwNW (C : xC G p c cc nL s args RX8 m A) (hA : A = va_A (xwd G S0) s.heap.size) (hZ : Q = vxA_MQ below (fun mc ms => xPostY kc ks mc ms G S0 s.heap.size Qm) (fun mc ms => xPostYX kc ks mc ms G S0 s.heap.size QX) args s A) (hl9 : l.stackTraces = false) (hlocks : meth.locks = false) (ht : ∀ x ∈ c.exceptionTable.toList, False) {f0 lo0 : Nat} (hRoom : R = { frames := f0, cells := xgc S0 + kc, slots := xgs S0 + ks, locals := lo0 }) {text : String} {is : Nat} (htx : Cond.stringRef RX8 is text ∈ tables_1) (ha : xAl S0 Sx) (e1 : S 33 (-1) = Sx 33 (-1))
    (hR : 5 < f0 ∧ (st0.map fun v => v.category).sum + 82 ≤ lo0) (hc : k0 + 1 ≤ kc) (hs : n0 + 6 ≤ ks)
    (d0 : decode cc pc = .ok (.new 168, 3)) (d1 : decode cc (pc + 3) = .ok (.dup, 1)) (d2 : decode cc (pc + 4) = .ok (.ldc_w is, 3)) (d3 : decode cc (pc + 7) = .ok (.invokespecial 172, 3)) (d4 : decode cc (pc + 10) = .ok (.athrow, 1)) (hw : xval G S) (hq : QX xNS S) : xV G p l e R s m args below meth c A nL Q (k0 + (xgc S0 - xgc Sx)) (n0 + (xgs S0 - xgs Sx)) pc L st0 S := by
  refine xV_alY e1 ?_
  have ha' : xAl S0 S := ha.eq e1
  intro H locs ls hP hD hS hls
  subst hZ
  subst hA
  have hnw := xN_words C
  obtain ⟨sa, hsa⟩ := C.2.2.2.2.2.2.2.2.1.1 RX8 is text htx
  refine xr_Y (mc := k0 + (xgc S0 - xgc S) + 1) (ms := n0 + (xgs S0 - xgs S) + 6) ?_
  intro T hT X
  have hb := C.1.2.1
  have hexec := C.1.1
  have htr : e.platform.stackTraces = false := (show e.platform.stackTraces = l.stackTraces by rw [X.admits.platform]).trans hl9
  have Y := vx_rebase X (R' := { frames := R.frames, locals := R.locals, cells := 1, slots := 6 }) (Nat.le_refl _) (Nat.le_refl _) (by rw [hRoom]; have := ha'.1; simp only []; omega) (by rw [hRoom]; have := ha'.2; simp only []; omega)
  obtain ⟨s', hA⟩ : ∃ z, z = (T.setVm s.vm).setFrames (.invoking m args :: below) := ⟨_, rfl⟩
  rw [← hA] at Y
  have hvm : s'.vm = s.vm := by rw [hA]; rfl
  have hhp : s'.heap = H := by rw [hA]; exact hT
  have hW0 : s.WarmedH s'.vm := by rw [hvm]; exact State.WarmedH.refl s
  have hat' : ∀ w ∈ xNw9, w.before args s' = true := fun w hw => va_tabs (hnw w hw).1 hvm.symm (hnw w hw).2
  have hU' : vx_Zq Bundle.tN "UNASSIGNED_STACK" Bundle.steD (va_A (xwd G S0) s.heap.size) s' s'.heap := by rw [hhp]; exact vx_Zq.moved hW0.alike (C.2.2.2.2.2.2.1.kept hS.2.1)
  have hN' : vx_Zq Bundle.tN "SUPPRESSED_SENTINEL" Bundle.listD (va_A (xwd G S0) s.heap.size) s' s'.heap := by rw [hhp]; exact vx_Zq.moved hW0.alike (C.2.2.2.2.2.2.2.1.kept hS.2.1)
  have h : xN_ok args s' := ⟨vx_own (fun w hw => hat' w (List.mem_append_right _ hw)) (vx_isRefq hU'.1) (vx_isRefq hN'.1) hU'.2.word hN'.2.word, hat' _ (by unfold xNw9; simp), hat' _ (by unfold xNw9; simp)⟩
  have hown' : s'.vm.findClass RX8 = some m.cls := by rw [hvm]; exact C.1.2.2.2.1
  have hins : (Cond.instantiable xNS 6).before args s' = true := h.1 _ (by decide +kernel)
  obtain ⟨vm₁, cX, kX, hfX, hkX, -, -, X₁, st1⟩ := Y.newCold hexec (own := RX8) (C := xNS) (index := 168) (n := 6) hown' (hat' (.classLink RX8 168 xNS) (by unfold xNw9; simp)) hins (hat' (.initialized xNS) (by unfold xNw9; simp))
    (g := F0 m pc ls st0) rfl (by rw [hb]; exact d0) (Nat.le_refl _) (Nat.le_refl _)
  generalize hT1 : (T.setVm vm₁).pushCell { cls := cX, slots := kX.instanceTypes.map defaultValue, vm := .none } = T1 at X₁ st1
  have hcat : (Value.ref T.heap.size).category = 1 := rfl
  have hcellA : T1.heap[T.heap.size]? = some (freshCell cX kX) := by rw [← hT1]; exact State.heap_pushCell_size _ _
  have d3' : decode c.code (pc + 3) = .ok (.dup, 1) := by rw [hb]; exact d1
  have d4' : decode c.code (pc + 4) = .ok (.ldc_w is, 3) := by rw [hb]; exact d2
  have hstr' : vk_R RX8 is text sa s' := vk_R.warm hW0 hsa
  have hRf : 5 < R.frames := by rw [hRoom]; exact hR.1
  have hRl : (st0.map fun v => v.category).sum + 82 ≤ R.locals := by rw [hRoom]; exact hR.2
  obtain ⟨U, hsteps, hrun, hend, hW, hsame, ce, hce, hO, hOv⟩ := xN_ctor X₁ hexec htr hown' h (fun x hx => nomatch hx) hfX hkX hcellA (by rw [hhp, hT]; exact Nat.le_refl _) (msg := .ref sa) rfl
    (g := { method := m, pc := pc + 7, locals := ls, stack := .ref sa :: .ref T.heap.size :: .ref T.heap.size :: st0, locked := none }) rfl (hls.1.trans C.1.2.2.1.symm) rfl rfl (rest := st0) rfl
    (by rw [hb]; exact d3) (by rw [hb]; exact d4) (fun x hx => (ht x hx).elim) hRf (by simp only [List.map_cons, List.sum_cons, hcat]; omega) hlocks
  obtain ⟨f1, f2⟩ := vx_frame hsame
  rw [hhp] at f1 f2
  have hWs : s.WarmedH U.vm := State.WarmedH.trans hW0 hW
  have hcl : s.vm.findClass xNS = some ce.cls := by
    have h9 := hfX
    rw [hvm] at h9
    rw [hO]
    exact h9
  have hall : s.sameButNew ({ U with vm := s.vm } : State) locs (k0 + (xgc S0 - xgc S) + 1) (n0 + (xgs S0 - xgs S) + 6) := by
    subst hA
    obtain ⟨e1, e2⟩ := hsame
    rw [State.setFrames_setFrames] at e1
    have h2 : (T.setVm s.vm).sameButNew ({ U with vm := s.vm } : State) [] (0 + 1) (0 + 6) := ⟨e1, e2⟩
    have h3 := X.same.trans h2
    rw [List.append_nil] at h3
    exact h3.mono (Nat.le_refl _) (Nat.le_refl _)
  refine ⟨U, ?_, .threw T.heap.size, hrun, hend, Or.inr ⟨T.heap.size, rfl, xNS, ce, locs, ⟨⟨S, hq, ⟨?_, ?_⟩, ha', hw, hP.kept (fun k q h9 => f2 q.1 (vx_lt hP h9) (fun z hz => nomatch hz)), hD⟩, ⟨Nat.le_trans hS.1 f1, fun q h1 h2 => (f2 q (Nat.lt_of_lt_of_le h1 hS.1) (fun z hz => nomatch hz)).trans (hS.2.1 q h1 h2)⟩⟩, hce, hOv, hcl, hWs, hall, fun z hz => hS.2.2 z hz⟩⟩
  · refine st1 _ ?_
    show Steps p.tables e below (T1.setTop { method := m, pc := pc + 3, locals := ls, stack := .ref T.heap.size :: st0, locked := none }) _
    jvm_step X₁.here [X₁.here.top, hexec, d3', Value.category]
    exact X₁.ldcStringW hexec (own := RX8) (text := text) (index := is) (a := sa) hown' hstr'.1 hstr'.2
      (g := { method := m, pc := pc + 4, locals := ls, stack := .ref T.heap.size :: .ref T.heap.size :: st0, locked := none }) rfl d4' _ hsteps
  · have := ha'.1; omega
  · have := ha'.2; omega
end XNT

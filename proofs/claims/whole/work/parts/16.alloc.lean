/-! contracts whose allocation is told by the state behind: the growth of the row of edges. vxA_back, vxA_backW, vxA_runV, vxA_runSX follow the rows of part 01 word for word, with the counts told behind the call -/
section VXAL
def vxA_Met (l : Launch) (y : MethodName) (ws : List Cond) (rm : Room) (Pc : Array Value → State → Prop) (Qc : Nat → Nat → Array Value → State → Outcome → State → Prop) (XC : Nat → Nat → String → State → State → Prop) (free : Addr → Prop) : Prop :=
  MetFree l y (headSpec ws rm) Pc (fun _ _ _ _ _ => True) (fun a st o t => ∃ mc ms, vx_Q (Qc mc ms) (XC mc ms) mc ms free a st o t)
def vxA_Po (Qc : Nat → Nat → Array Value → State → Outcome → State → Prop) (free : Addr → Prop) : Pt → Array Value → Option Value → Pt → Prop := fun A a v B => ∃ mc ms, PostOf (Qc mc ms) mc ms free A a v B
def vxA_PX (XC : Nat → Nat → String → State → State → Prop) (free : Addr → Prop) : Pt → Array Value → Addr → Pt → Prop := fun A a q B => ∃ mc ms, vx_Post (XC mc ms) mc ms free A a q B
def vxA_Run (p : Program) (l : Launch) (e : Env) (R : Room) (s : State) (m : MethodId) (args : Array Value) (below : List Frame) (meth : Method) (c : Code) (H : Heap) (locs : List Loc) (cells slots : Nat) (g : JFrame) (rest : List Value) (Qa : Nat → Nat → State → Outcome → State → Prop) (XC : Nat → Nat → String → State → State → Prop) (free : Addr → Prop) : Prop :=
  ∀ T : State, T.heap = H → Stand p l e R s m args below meth c T locs cells slots →
    (∃ (mc ms : Nat) (v : Option Value) (st₀ t T' : State) (L : List Loc), st₀.heap = H ∧ Stand p l e R s m args below meth c T' (locs ++ L) (cells + mc) (slots + ms) ∧ (∀ q ∈ L, free q.base) ∧ T'.heap = t.heap ∧ T'.vm = t.vm ∧ Qa mc ms st₀ (.returned v) t ∧
      Goes p e below T g T' { g with pc := g.pc + 3, stack := v.toList ++ rest }) ∨
    (∃ (mc ms : Nat) (q : Addr) (st₀ t T' : State) (L : List Loc) (E : String) (ce : Cell), st₀.heap = H ∧ Stand p l e R s m args below meth c T' (locs ++ L) (cells + mc) (slots + ms) ∧ (∀ z ∈ L, free z.base) ∧ T'.heap = t.heap ∧ T'.vm = t.vm ∧ XC mc ms E st₀ t ∧ t.heap[q]? = some ce ∧ ce.vm = .none ∧ s.vm.findClass E = some ce.cls ∧
      Steps p.tables e below (T.setTop g) ((T'.setTop { g with stack := rest }).pushFrame (.throwing q)))
section
variable {l : Launch} {R : Room} {p : Program} {e : Env} {below : List Frame} {s : State} {sargs : Array Value} {y : MethodName} {len W9 : Nat}
theorem vxA_back {ws : List Cond} {rm : Room} {Pc : Array Value → State → Prop} {Qc : Nat → Nat → Array Value → State → Outcome → State → Prop} {XC : Nat → Nat → String → State → State → Prop} {free : Addr → Prop} {bytes : ByteArray} {maxL : Nat} {ret : Option FieldType}
    (hM : vxA_Met l y ws rm Pc Qc XC free) (hblind : FrameBlind Pc)
    (hframes : rm.frames + 1 ≤ R.frames) (hlocals : W9 + (maxL + 11) + rm.locals ≤ R.locals)
    (hws : ∀ w ∈ ws, ∀ a' U, s.WarmedH U.vm → w.before a' U = true) (hcode : Cond.code y bytes maxL ret ∈ ws) (hinit : ∀ a' U, s.WarmedH U.vm → (Cond.initialized y.cls).before a' U = true) :
    vx_Back l R p e below s sargs y len W9 (PreOf R rm.cells rm.slots Pc) (vxA_Po Qc free) (vxA_PX XC free) := by
  intro m meth c A g ig mk a X hg hsize hdg hW hn hp
  have h1 : (headSpec ws rm).pre.before a A.U = true := atoms_intro fun w hw => hws w hw _ _ X.warmed
  have h2 : (Cond.code y bytes maxL ret).before a A.U = true := hws _ hcode _ _ X.warmed
  have h3 : (Cond.initialized y.cls).before a A.U = true := hinit _ _ X.warmed
  have h4 : A.cells + (headSpec ws rm).room.cells ≤ R.cells := hp.1
  have h5 : A.slots + (headSpec ws rm).room.slots ≤ R.slots := hp.2.1
  have hPc : Pc a (A.U.calling g mk a) := hblind _ _ _ _ hp.2.2
  obtain ⟨U, Ls, c0, s0⟩ := A
  dsimp only [Pt.U, Pt.locs, Pt.cells, Pt.slots] at h1 h2 h3 h4 h5 X hn hPc ⊢
  obtain ⟨methY, cY, hmY, hcY, -, hlY, -, -, -, -⟩ := Cond.code_spec hn h2
  obtain ⟨kY, hkY, -⟩ := className_of_methodNamed hn
  have hinitY : kY.init = .initialized := Cond.initialized_spec (findClass_of_methodNamed hn) hkY h3
  have h : At U g.method c below := by rw [hg]; exact X.here
  have hlocals9 : W9 + (maxL + 11) + (headSpec ws rm).room.locals ≤ R.locals := hlocals
  have happ : (headSpec ws rm).appliesLoose y e.platform (U.calling g mk a) = true :=
    Spec.appliesLoose_calling (g := g) h hdg hn hkY hinitY
      (X.room_calling (g := g) (R' := (headSpec ws rm).room) hsize hmY hcY hframes (by rw [hlY]; omega) h4 h5) h1
  obtain ⟨mid, hmid⟩ := h.above
  have hfr : (U.setTop g).frames = (.java g :: mid) ++ below := by rw [State.frames_setTop' g h.top, hmid]; rfl
  obtain ⟨o, s₂, hsteps, -, hend, hq⟩ := Steps.callFree hM p X.admits X.cas X.clock (acts := []) hfr happ hPc trivial
  obtain ⟨mc, ms, hq'⟩ := (show ∃ mc ms, vx_Q (Qc mc ms) (XC mc ms) mc ms free a (U.calling g mk a) o s₂ from hq)
  rw [State.frames_setTop' g h.top] at hend
  obtain ⟨g₀, hg0⟩ := Option.isSome_iff_exists.mp h.top
  obtain ⟨r, hr⟩ := State.topJava?_eq_some.mp hg0
  have hr' : (({ U with heap := s₂.heap, slotsUsed := s₂.slotsUsed } : State).setVm s₂.vm).frames = .java g₀ :: r := hr
  rcases hq' with ⟨hqc, L, hfe, hL⟩ | ⟨q, rfl, E, ce, L, hx, hce, hcv, hcl, hW₂, hsm, hL⟩
  · obtain ⟨⟨v, rfl⟩, hW₂, e2, q2, q3, q4, q5, q6⟩ := id hfe
    have e3 : s₂ = ({ (U.calling g mk a).setFrames s₂.frames with heap := s₂.heap, slotsUsed := s₂.slotsUsed } : State).setVm s₂.vm := by
      have : s₂ = ({ s₂ with vm := (U.calling g mk a).vm } : State).setVm s₂.vm := rfl
      rw [e2] at this
      exact this
    obtain ⟨c₂, i₂, len₂, hc₂, hd₂, hf₂⟩ := hend
    have hW' : U.WarmedH s₂.vm := hW₂
    have hcc : c₂ = c := by
      have h1 : s₂.code? g.method = U.code? g.method := by
        rw [State.code?_eq, State.code?_eq, hW'.alike.method?]
      exact Option.some.inj (hc₂.symm.trans (h1.trans h.code))
    subst hcc
    have hlen : len₂ = len := by rw [hdg] at hd₂; cases hd₂; rfl
    subst hlen
    have hs₂ : s₂ = (({ U with heap := s₂.heap, slotsUsed := s₂.slotsUsed } : State).setVm s₂.vm).setTop { g with pc := g.pc + len₂, stack := v.toList ++ g.stack } := by
      refine e3.trans ?_
      rw [hf₂, State.calling_eq h.top, State.setFrames_setFrames, State.setTop_of_frames _ hr', hr]
      rfl
    have hsame : U.sameButNew ({ U with heap := s₂.heap, slotsUsed := s₂.slotsUsed } : State) L mc ms := by
      refine ⟨?_, q2, q3, q4, q5, q6⟩
      obtain ⟨t, ht, -⟩ := State.frames_cons hr
      show ({ U with heap := s₂.heap, slotsUsed := s₂.slotsUsed } : State) = { U.setFrames U.frames with heap := s₂.heap, slotsUsed := s₂.slotsUsed }
      rw [State.setFrames_self ht]
    subst hg
    refine Or.inl ⟨v, ⟨(({ U with heap := s₂.heap, slotsUsed := s₂.slotsUsed } : State).setVm s₂.vm), Ls ++ L, c0 + mc, s0 + ms⟩,
      ⟨X.admits, X.cas, X.clock, X.frames, X.room, X.hears, X.method, X.code, (X.here.setHeapUsed s₂.heap s₂.slotsUsed).setVm hW'.alike, X.tail, State.WarmedH.trans X.warmed hW', X.limits, X.bytes, X.same.trans (hsame.setVm s.vm)⟩,
      ⟨mc, ms, g, mk, s₂, L, rfl, rfl, hqc, rfl, hL, rfl, rfl⟩, ?_⟩
    show Steps p.tables e below _ ((({ U with heap := s₂.heap, slotsUsed := s₂.slotsUsed } : State).setVm s₂.vm).setTop { g with pc := g.pc + len₂, stack := v.toList ++ g.stack })
    rw [← hs₂]
    exact hsteps
  · obtain ⟨e2, q2, q3, q4, q5, q6⟩ := id hsm
    have e3 : s₂ = ({ (U.calling g mk a).setFrames s₂.frames with heap := s₂.heap, slotsUsed := s₂.slotsUsed } : State).setVm s₂.vm := by
      have : s₂ = ({ s₂ with vm := (U.calling g mk a).vm } : State).setVm s₂.vm := rfl
      rw [e2] at this
      exact this
    have hf₂ : s₂.frames = .throwing q :: .java g :: U.frames.tail := hend
    have hW' : U.WarmedH s₂.vm := hW₂
    have hs₂ : s₂ = ((({ U with heap := s₂.heap, slotsUsed := s₂.slotsUsed } : State).setVm s₂.vm).setTop g).pushFrame (.throwing q) := by
      refine e3.trans ?_
      rw [hf₂, State.calling_eq h.top, State.setFrames_setFrames, State.pushFrame, State.frames_setTop _ hr', State.setTop_of_frames _ hr', State.setFrames_setFrames, hr]
      rfl
    have hsame : U.sameButNew ({ U with heap := s₂.heap, slotsUsed := s₂.slotsUsed } : State) L mc ms := by
      refine ⟨?_, q2, q3, q4, q5, q6⟩
      obtain ⟨t, ht, -⟩ := State.frames_cons hr
      show ({ U with heap := s₂.heap, slotsUsed := s₂.slotsUsed } : State) = { U.setFrames U.frames with heap := s₂.heap, slotsUsed := s₂.slotsUsed }
      rw [State.setFrames_self ht]
    subst hg
    refine Or.inr ⟨q, ⟨(({ U with heap := s₂.heap, slotsUsed := s₂.slotsUsed } : State).setVm s₂.vm), Ls ++ L, c0 + mc, s0 + ms⟩,
      ⟨X.admits, X.cas, X.clock, X.frames, X.room, X.hears, X.method, X.code, (X.here.setHeapUsed s₂.heap s₂.slotsUsed).setVm hW'.alike, X.tail, State.WarmedH.trans X.warmed hW', X.limits, X.bytes, X.same.trans (hsame.setVm s.vm)⟩,
      ⟨mc, ms, g, mk, s₂, L, E, ce, rfl, rfl, hx, hce, hcv, hcl, rfl, hL, rfl, rfl⟩, ?_⟩
    show Steps p.tables e below _ (((({ U with heap := s₂.heap, slotsUsed := s₂.slotsUsed } : State).setVm s₂.vm).setTop g).pushFrame (.throwing q))
    rw [← hs₂]
    exact hsteps
theorem vxA_backW {ws : List Cond} {rm : Room} {Pc : Array Value → State → Prop} {Qc : Nat → Nat → Array Value → State → Outcome → State → Prop} {XC : Nat → Nat → String → State → State → Prop} {free : Addr → Prop} {bytes : ByteArray} {maxL : Nat} {ret : Option FieldType} {hh : List (Nat × Nat × Nat × Nat)}
    (hM : vxA_Met l y ws rm Pc Qc XC free) (hblind : FrameBlind Pc)
    (hframes : rm.frames + 1 ≤ R.frames) (hlocals : W9 + (maxL + 11) + rm.locals ≤ R.locals)
    (hws : ∀ w ∈ ws, ∀ a' U, s.WarmedH U.vm → w.before a' U = true) (hcode : Cond.codeWith y bytes maxL ret hh ∈ ws) (hinit : ∀ a' U, s.WarmedH U.vm → (Cond.initialized y.cls).before a' U = true) :
    vx_Back l R p e below s sargs y len W9 (PreOf R rm.cells rm.slots Pc) (vxA_Po Qc free) (vxA_PX XC free) := by
  intro m meth c A g ig mk a X hg hsize hdg hW hn hp
  have h1 : (headSpec ws rm).pre.before a A.U = true := atoms_intro fun w hw => hws w hw _ _ X.warmed
  have h2 : (Cond.codeWith y bytes maxL ret hh).before a A.U = true := hws _ hcode _ _ X.warmed
  have h3 : (Cond.initialized y.cls).before a A.U = true := hinit _ _ X.warmed
  have h4 : A.cells + (headSpec ws rm).room.cells ≤ R.cells := hp.1
  have h5 : A.slots + (headSpec ws rm).room.slots ≤ R.slots := hp.2.1
  have hPc : Pc a (A.U.calling g mk a) := hblind _ _ _ _ hp.2.2
  obtain ⟨U, Ls, c0, s0⟩ := A
  dsimp only [Pt.U, Pt.locs, Pt.cells, Pt.slots] at h1 h2 h3 h4 h5 X hn hPc ⊢
  obtain ⟨m9, methY, cY, hn9, hmY, hcY, -, hlY, -⟩ := Cond.codeWith_spec h2
  cases Option.some.inj (hn9.symm.trans hn)
  obtain ⟨kY, hkY, -⟩ := className_of_methodNamed hn
  have hinitY : kY.init = .initialized := Cond.initialized_spec (findClass_of_methodNamed hn) hkY h3
  have h : At U g.method c below := by rw [hg]; exact X.here
  have hlocals9 : W9 + (maxL + 11) + (headSpec ws rm).room.locals ≤ R.locals := hlocals
  have happ : (headSpec ws rm).appliesLoose y e.platform (U.calling g mk a) = true :=
    Spec.appliesLoose_calling (g := g) h hdg hn hkY hinitY
      (X.room_calling (g := g) (R' := (headSpec ws rm).room) hsize hmY hcY hframes (by rw [hlY]; omega) h4 h5) h1
  obtain ⟨mid, hmid⟩ := h.above
  have hfr : (U.setTop g).frames = (.java g :: mid) ++ below := by rw [State.frames_setTop' g h.top, hmid]; rfl
  obtain ⟨o, s₂, hsteps, -, hend, hq⟩ := Steps.callFree hM p X.admits X.cas X.clock (acts := []) hfr happ hPc trivial
  obtain ⟨mc, ms, hq'⟩ := (show ∃ mc ms, vx_Q (Qc mc ms) (XC mc ms) mc ms free a (U.calling g mk a) o s₂ from hq)
  rw [State.frames_setTop' g h.top] at hend
  obtain ⟨g₀, hg0⟩ := Option.isSome_iff_exists.mp h.top
  obtain ⟨r, hr⟩ := State.topJava?_eq_some.mp hg0
  have hr' : (({ U with heap := s₂.heap, slotsUsed := s₂.slotsUsed } : State).setVm s₂.vm).frames = .java g₀ :: r := hr
  rcases hq' with ⟨hqc, L, hfe, hL⟩ | ⟨q, rfl, E, ce, L, hx, hce, hcv, hcl, hW₂, hsm, hL⟩
  · obtain ⟨⟨v, rfl⟩, hW₂, e2, q2, q3, q4, q5, q6⟩ := id hfe
    have e3 : s₂ = ({ (U.calling g mk a).setFrames s₂.frames with heap := s₂.heap, slotsUsed := s₂.slotsUsed } : State).setVm s₂.vm := by
      have : s₂ = ({ s₂ with vm := (U.calling g mk a).vm } : State).setVm s₂.vm := rfl
      rw [e2] at this
      exact this
    obtain ⟨c₂, i₂, len₂, hc₂, hd₂, hf₂⟩ := hend
    have hW' : U.WarmedH s₂.vm := hW₂
    have hcc : c₂ = c := by
      have h1 : s₂.code? g.method = U.code? g.method := by
        rw [State.code?_eq, State.code?_eq, hW'.alike.method?]
      exact Option.some.inj (hc₂.symm.trans (h1.trans h.code))
    subst hcc
    have hlen : len₂ = len := by rw [hdg] at hd₂; cases hd₂; rfl
    subst hlen
    have hs₂ : s₂ = (({ U with heap := s₂.heap, slotsUsed := s₂.slotsUsed } : State).setVm s₂.vm).setTop { g with pc := g.pc + len₂, stack := v.toList ++ g.stack } := by
      refine e3.trans ?_
      rw [hf₂, State.calling_eq h.top, State.setFrames_setFrames, State.setTop_of_frames _ hr', hr]
      rfl
    have hsame : U.sameButNew ({ U with heap := s₂.heap, slotsUsed := s₂.slotsUsed } : State) L mc ms := by
      refine ⟨?_, q2, q3, q4, q5, q6⟩
      obtain ⟨t, ht, -⟩ := State.frames_cons hr
      show ({ U with heap := s₂.heap, slotsUsed := s₂.slotsUsed } : State) = { U.setFrames U.frames with heap := s₂.heap, slotsUsed := s₂.slotsUsed }
      rw [State.setFrames_self ht]
    subst hg
    refine Or.inl ⟨v, ⟨(({ U with heap := s₂.heap, slotsUsed := s₂.slotsUsed } : State).setVm s₂.vm), Ls ++ L, c0 + mc, s0 + ms⟩,
      ⟨X.admits, X.cas, X.clock, X.frames, X.room, X.hears, X.method, X.code, (X.here.setHeapUsed s₂.heap s₂.slotsUsed).setVm hW'.alike, X.tail, State.WarmedH.trans X.warmed hW', X.limits, X.bytes, X.same.trans (hsame.setVm s.vm)⟩,
      ⟨mc, ms, g, mk, s₂, L, rfl, rfl, hqc, rfl, hL, rfl, rfl⟩, ?_⟩
    show Steps p.tables e below _ ((({ U with heap := s₂.heap, slotsUsed := s₂.slotsUsed } : State).setVm s₂.vm).setTop { g with pc := g.pc + len₂, stack := v.toList ++ g.stack })
    rw [← hs₂]
    exact hsteps
  · obtain ⟨e2, q2, q3, q4, q5, q6⟩ := id hsm
    have e3 : s₂ = ({ (U.calling g mk a).setFrames s₂.frames with heap := s₂.heap, slotsUsed := s₂.slotsUsed } : State).setVm s₂.vm := by
      have : s₂ = ({ s₂ with vm := (U.calling g mk a).vm } : State).setVm s₂.vm := rfl
      rw [e2] at this
      exact this
    have hf₂ : s₂.frames = .throwing q :: .java g :: U.frames.tail := hend
    have hW' : U.WarmedH s₂.vm := hW₂
    have hs₂ : s₂ = ((({ U with heap := s₂.heap, slotsUsed := s₂.slotsUsed } : State).setVm s₂.vm).setTop g).pushFrame (.throwing q) := by
      refine e3.trans ?_
      rw [hf₂, State.calling_eq h.top, State.setFrames_setFrames, State.pushFrame, State.frames_setTop _ hr', State.setTop_of_frames _ hr', State.setFrames_setFrames, hr]
      rfl
    have hsame : U.sameButNew ({ U with heap := s₂.heap, slotsUsed := s₂.slotsUsed } : State) L mc ms := by
      refine ⟨?_, q2, q3, q4, q5, q6⟩
      obtain ⟨t, ht, -⟩ := State.frames_cons hr
      show ({ U with heap := s₂.heap, slotsUsed := s₂.slotsUsed } : State) = { U.setFrames U.frames with heap := s₂.heap, slotsUsed := s₂.slotsUsed }
      rw [State.setFrames_self ht]
    subst hg
    refine Or.inr ⟨q, ⟨(({ U with heap := s₂.heap, slotsUsed := s₂.slotsUsed } : State).setVm s₂.vm), Ls ++ L, c0 + mc, s0 + ms⟩,
      ⟨X.admits, X.cas, X.clock, X.frames, X.room, X.hears, X.method, X.code, (X.here.setHeapUsed s₂.heap s₂.slotsUsed).setVm hW'.alike, X.tail, State.WarmedH.trans X.warmed hW', X.limits, X.bytes, X.same.trans (hsame.setVm s.vm)⟩,
      ⟨mc, ms, g, mk, s₂, L, E, ce, rfl, rfl, hx, hce, hcv, hcl, rfl, hL, rfl, rfl⟩, ?_⟩
    show Steps p.tables e below _ (((({ U with heap := s₂.heap, slotsUsed := s₂.slotsUsed } : State).setVm s₂.vm).setTop g).pushFrame (.throwing q))
    rw [← hs₂]
    exact hsteps
end
section
variable {p : Program} {l : Launch} {e : Env} {R : Room} {s : State} {m : MethodId} {args : Array Value} {below : List Frame} {meth : Method} {c : Code} {H : Heap} {locs : List Loc} {cells slots : Nat}
variable {y : MethodName} {bytes cc : ByteArray} {maxL nL mc ms n index : Nat} {ret : Option FieldType} {ws : List Cond} {rm : Room} {Pc : Array Value → State → Prop} {Qc : Nat → Nat → Array Value → State → Outcome → State → Prop} {XC : Nat → Nat → String → State → State → Prop} {free : Addr → Prop} {Ts : List Cond} {own C : String} {b : Addr} {As rest : List Value} {g : JFrame}
theorem vxA_callBack (cb : CallB R s args own index y bytes maxL ret ws rm mc ms n) (hM : vxA_Met l y ws rm Pc Qc XC free) (hbl : FrameBlind Pc) : vx_Back l R p e below s args y 3 8 (PreOf R rm.cells rm.slots Pc) (vxA_Po Qc free) (vxA_PX XC free) := by
  obtain ⟨hrc, hrs, hfr, hlo, hws, hcw, -, hini, -⟩ := cb
  exact vxA_back (bytes := bytes) (maxL := maxL) (ret := ret) hM hbl hfr hlo hws hcw (fun a' U hW => word_at hW (Or.inl (by first | rfl | simp [Cond.onTables, Cond.keeps, Cond.steady])) hini)
theorem vxA_runV (S : CallFix p m c cc nL s args Ts own) (hM : vxA_Met l y ws rm Pc Qc XC free) (cw : CallW R s args own C index y bytes maxL ret ws rm rm.cells rm.slots n) (hp : PreV s H C b Pc As)
    (hg : g.method = m) (hn : As.length = n) (hsize : g.locals.size = nL) (hstack : g.stack = As.reverse ++ .ref b :: rest) (hW : 2 * g.monitorRoom + (rest.map fun v => v.category).sum ≤ 8) (hdg : decode cc g.pc = .ok (.invokevirtual index, 3)) (hf : cells + rm.cells ≤ R.cells ∧ slots + rm.slots ≤ R.slots) :
    vxA_Run p l e R s m args below meth c H locs cells slots g rest (fun mc ms => Qc mc ms (Value.ref b :: As).toArray) XC free := by
  have hK : vx_Back l R p e below s args y 3 8 (PreOf R rm.cells rm.slots Pc) (vxA_Po Qc free) (vxA_PX XC free) := vxA_callBack cw.1 hM hp.1
  obtain ⟨⟨-, -, -, -, -, -, hcode, -, hy, hlen, hl⟩, hin, hse⟩ := cw
  obtain ⟨hx, hb, hml, ho, -⟩ := S
  obtain ⟨-, ⟨cellB, hcB, hoB, hclB⟩, hPc⟩ := hp
  intro T hT X
  rcases vx_callV X hx (C := C) (bytes := bytes) (maxL := maxL) (ret := ret) ho hl hin hse hcode hy hK (by rw [hT]; exact hcB) hoB hclB hg (hsize.trans hml.symm) (argsL := As) (rest := rest) (fun sig h => hn.trans (hlen sig h)) hstack hW (by rw [hb]; exact hdg)
    (fun vm₁ hW₁ => ⟨hf.1, hf.2, hPc (T.setVm vm₁) hT hW₁⟩) with ⟨v, vm₁, ⟨U', l2, c2, s2⟩, hW₁, X', ⟨mc, ms, g', mk, t, L, e1, e2, hq, h1, hL, h2, h3⟩, st⟩ | ⟨q, vm₁, ⟨U', l2, c2, s2⟩, hW₁, X', ⟨mc, ms, g', mk, t, L, E, ce, e1, e2, hq, hce, hcv, hcl, h1, hL, h2, h3⟩, st⟩
  · dsimp only [Pt.U, Pt.locs, Pt.cells, Pt.slots] at X' e1 e2 h1 h2 h3 st
    subst h1; subst h2; subst h3
    exact Or.inl ⟨mc, ms, v, (T.setVm vm₁).calling g' mk (Value.ref b :: As).toArray, t, U', L, hT, X', hL, e1, e2, hq, st⟩
  · dsimp only [Pt.U, Pt.locs, Pt.cells, Pt.slots] at X' e1 e2 h1 h2 h3 st hcl
    subst h1; subst h2; subst h3
    exact Or.inr ⟨mc, ms, q, (T.setVm vm₁).calling g' mk (Value.ref b :: As).toArray, t, U', L, E, ce, hT, X', hL, e1, e2, hq, hce, hcv, vx_cls hW₁ hcl, st⟩
theorem vxA_runSX {hh : List (Nat × Nat × Nat × Nat)} (S : CallFix p m c cc nL s args Ts own) (hM : vxA_Met l y ws rm Pc Qc XC free) (cw : vx_CSW R s args own index y bytes maxL ret hh ws rm rm.cells rm.slots n) (hp : PreS s H Pc As)
    (hg : g.method = m) (hn : As.length = n) (hsize : g.locals.size = nL) (hstack : g.stack = As.reverse ++ rest) (hW : 2 * g.monitorRoom + (rest.map fun v => v.category).sum ≤ 8) (hdg : decode cc g.pc = .ok (.invokestatic index, 3)) (hf : cells + rm.cells ≤ R.cells ∧ slots + rm.slots ≤ R.slots) :
    vxA_Run p l e R s m args below meth c H locs cells slots g rest (fun mc ms => Qc mc ms As.toArray) XC free := by
  obtain ⟨⟨hrc, hrs, hfr, hlo, hws, hcw⟩, hcode, hini, hy, hlen, hl, hstt⟩ := cw
  have hK : vx_Back l R p e below s args y 3 8 (PreOf R rm.cells rm.slots Pc) (vxA_Po Qc free) (vxA_PX XC free) := vxA_backW (hh := hh) (bytes := bytes) (maxL := maxL) (ret := ret) hM hp.1 hfr hlo hws hcw (fun a' U hW => word_at hW (Or.inl (by first | rfl | simp [Cond.onTables, Cond.keeps, Cond.steady])) hini)
  obtain ⟨hx, hb, hml, ho, -⟩ := S
  intro T hT X
  rcases vx_callSX X hx (hh := hh) (bytes := bytes) (maxL := maxL) (ret := ret) ho hl hstt hini hcode hy hK hg (hsize.trans hml.symm) (argsL := As) (rest := rest) (fun sig h => hn.trans (hlen sig h)) hstack hW (by rw [hb]; exact hdg)
    (fun vm₁ hW₁ => ⟨hf.1, hf.2, hp.2 (T.setVm vm₁) hT hW₁⟩) with ⟨v, vm₁, ⟨U', l2, c2, s2⟩, hW₁, X', ⟨mc, ms, g', mk, t, L, e1, e2, hq, h1, hL, h2, h3⟩, st⟩ | ⟨q, vm₁, ⟨U', l2, c2, s2⟩, hW₁, X', ⟨mc, ms, g', mk, t, L, E, ce, e1, e2, hq, hce, hcv, hcl, h1, hL, h2, h3⟩, st⟩
  · dsimp only [Pt.U, Pt.locs, Pt.cells, Pt.slots] at X' e1 e2 h1 h2 h3 st
    subst h1; subst h2; subst h3
    exact Or.inl ⟨mc, ms, v, (T.setVm vm₁).calling g' mk As.toArray, t, U', L, hT, X', hL, e1, e2, hq, st⟩
  · dsimp only [Pt.U, Pt.locs, Pt.cells, Pt.slots] at X' e1 e2 h1 h2 h3 st hcl
    subst h1; subst h2; subst h3
    exact Or.inr ⟨mc, ms, q, (T.setVm vm₁).calling g' mk As.toArray, t, U', L, E, ce, hT, X', hL, e1, e2, hq, hce, hcv, vx_cls hW₁ hcl, st⟩
end
/-- what a body owes at its end -/
def vxA_MQ (below : List Frame) (Qc : Nat → Nat → Array Value → State → Outcome → State → Prop) (XC : Nat → Nat → String → State → State → Prop) (a : Array Value) (s : State) (free : Addr → Prop) : State → Prop := fun t =>
  ∃ o, t.status = .running ∧ Ended t below o ∧ ∃ mc ms, vx_Q (Qc mc ms) (XC mc ms) mc ms free a s o t
theorem vxA_ofW {l : Launch} {y : MethodName} {ws ws' : List Cond} {rm : Room} {Pc : Array Value → State → Prop} {Qc : Nat → Nat → Array Value → State → Outcome → State → Prop} {XC : Nat → Nat → String → State → State → Prop} {free : Addr → Prop} {cc : ByteArray} {maxL : Nat} {ret : Option FieldType}
    (hy : plainName y.cls = true) (hw : ws = Cond.code y cc maxL ret :: ws')
    (body : ∀ p e s m args below meth c s₁, BodyLoose p l y (headSpec ws rm) cc maxL ret e s m args below meth c s₁ → c.maxLocals = maxL → (∀ x ∈ c.exceptionTable.toList, False) → Pc args s →
      W p l e (headSpec ws rm).room s m args below meth c s.heap [] 0 0 (vxA_MQ below Qc XC args s free) (entryFrame m args maxL)) : vxA_Met l y ws rm Pc Qc XC free := by
  refine MetFree.of_bodyS (code := cc) (maxLocals := maxL) (ret := ret) hy ?_ ?_
  · intro args s m h hn
    obtain ⟨meth, c, h1, h2, h3, h4, h5, h6, -, -⟩ := Cond.code_spec hn (atoms_spec (ws := ws) h _ (by rw [hw]; exact List.mem_cons_self))
    exact ⟨meth, c, h1, h2, h3, h4, h5, h6⟩
  · intro p e s m args below meth c s₁ B hml hP _
    have hh0 : s₁.heap = s.heap := by rw [B.state]; rfl
    have ht : ∀ x ∈ c.exceptionTable.toList, False := by
      obtain ⟨meth9, c9, h1, h2, -, -, -, -, h7, -⟩ := Cond.code_spec B.named (atoms_spec (ws := ws) B.pre _ (by rw [hw]; exact List.mem_cons_self))
      cases Option.some.inj (h1.symm.trans B.method)
      cases Option.some.inj (h2.symm.trans (Stand.of_body B).code)
      intro x hx
      rw [Array.isEmpty_iff.mp h7] at hx
      cases hx
    obtain ⟨t, a1, o, b1, b2, b3⟩ := body p e s m args below meth c s₁ B hml ht hP s₁ hh0 (Stand.of_body B)
    exact ⟨t, o, a1, b1, b2, b3⟩
end VXAL
/-! the growth that the row of edges still has before it, by its length: how many rows, how many slots -/
def xgN (n : Int) : Nat × Nat :=
  if n = 8192 then (7, 1824384 - 8192) else if n = 16384 then (6, 1824384 - 8192 - 16384) else if n = 32768 then (5, 1824384 - 8192 - 16384 - 32768) else if n = 65536 then (4, 1824384 - 8192 - 16384 - 32768 - 65536) else if n = 131072 then (3, 524288 + 784000 + 262144) else if n = 262144 then (2, 524288 + 784000) else if n = 524288 then (1, 784000) else (0, 0)
abbrev xgc (S : xS) : Nat := (xgN (S 33 (-1))).1
abbrev xgs (S : xS) : Nat := (xgN (S 33 (-1))).2
/-- behind S0, with no more growth left than it had -/
def xAl (S0 S : xS) : Prop := xgc S ≤ xgc S0 ∧ xgs S ≤ xgs S0
theorem xAl.refl (S : xS) : xAl S S := ⟨Nat.le_refl _, Nat.le_refl _⟩
theorem xAl.eq {S0 S S' : xS} (h : xAl S0 S) (e : S' 33 (-1) = S 33 (-1)) : xAl S0 S' := by
  unfold xAl xgc xgs at *; rw [e]; exact h
def xPostA (mc ms : Nat) (G : xG) (S : xS) (sz : Nat) (Q : Option Value → xS → Prop) : Array Value → State → Outcome → State → Prop := fun _ st oc t => (∃ (r : Option Value) (S' : xS), oc = .returned r ∧ Q r S' ∧ (mc + xgc S' ≤ xgc S ∧ ms + xgs S' ≤ xgs S) ∧ xval G S' ∧ va_P G.1 vwCl (xwd G S') t.heap ∧ va_D (va_A (xwd G S) sz) (xwd G S')) ∧ va_F (va_A (xwd G S) sz) st t
/-- the contract of a method that returns, and lets the row of edges grow -/
def xMA (l : Launch) (y : MethodName) (ws : List Cond) (rm : Room) (G : xG) (av : List Value) (S : xS) (Q : Option Value → xS → Prop) : Prop := ∀ sz : Nat, vxA_Met l y ws rm (xPre G av S sz) (fun mc ms => xPostA mc ms G S sz Q) (fun _ _ _ _ _ => False) (va_A (xwd G S) sz)
section XKA
variable {G : xG} {p : Program} {l : Launch} {e : Env} {R : Room} {s : State} {m : MethodId} {args : Array Value} {below : List Frame} {meth : Method} {c : Code} {A : Nat → Prop} {nL : Nat} {Q : State → Prop} {cells slots : Nat}
variable {cc : ByteArray} {own : String} {pc : Nat} {L : List (Nat × Value)} {st st0 : List Value} {S S0 Sx : xS}
theorem xV_al {S1 : xS} (e1 : S1 33 (-1) = Sx 33 (-1)) (k : xV G p l e R s m args below meth c A nL Q (xgc S0 - xgc S1) (xgs S0 - xgs S1) pc L st S) : xV G p l e R s m args below meth c A nL Q (xgc S0 - xgc Sx) (xgs S0 - xgs Sx) pc L st S := by
  unfold xgc xgs at *; rw [← e1]; exact k
theorem xc_VA (C : xC G p c cc nL s args own m A) {y : MethodName} {bytes : ByteArray} {maxL n index f lo f0 lo0 : Nat} {ret : Option FieldType} {q ci : Nat} {fs : List (Nat × Nat)} {T : u_T} {N : Nat} {ty : Nat → FieldType} {As : List Value} {Qm : Option Value → xS → Prop} (hw : xval G S) (ha : xAl S0 Sx) (e1 : S 33 (-1) = Sx 33 (-1)) (hRoom : R = { frames := f0, cells := xgc S0, slots := xgs S0, locals := lo0 })
    (hM : xMA l y (xws y bytes maxL ret) ({ frames := f, cells := xgc S, slots := xgs S, locals := lo }) G (.ref (G.2.2.1 q) :: As) S Qm) (hy : xYk y bytes maxL ret n) (hv : xYv y) (hl : Cond.methodLink own index y ∈ xBIG) (hR : f + 1 ≤ f0 ∧ 8 + (maxL + 11) + lo ≤ lo0)
    (hK : xKl ci y.cls T N ty) (hq : G.2.2.2.1[q]? = some (.inr (ci, fs))) (hn : As.length = n) (hst : st0 = As.reverse ++ .ref (G.2.2.1 q) :: st) (hcat : (st.map fun v => v.category).sum ≤ 8) (d : decode cc pc = .ok (.invokevirtual index, 3))
    (k : ∀ (r : Option Value) (S' : xS), Qm r S' → xval G S' → xAl S0 S' → xV G p l e R s m args below meth c A nL Q (xgc S0 - xgc S') (xgs S0 - xgs S') (pc + 3) L (r.toList ++ st) S') : xV G p l e R s m args below meth c A nL Q (xgc S0 - xgc Sx) (xgs S0 - xgs Sx) pc L st0 S := by
  subst hst
  refine xV_al e1 ?_
  have ha' : xAl S0 S := ha.eq e1
  intro H locs ls hP hD hS hls T hT X
  have cb : CallB R s args own index y bytes maxL ret (xws y bytes maxL ret) ({ frames := f, cells := xgc S, slots := xgs S, locals := lo }) (xgc S) (xgs S) n := xcallB C hy hl (by rw [hRoom]; exact hR)
  have hr := vxA_runV (rest := st) (g := F0 m pc ls (As.reverse ++ .ref (G.2.2.1 q) :: st)) C.1 (hM H.size) ⟨cb, C.1.2.2.2.2 _ hv.1, C.1.2.2.2.2 _ hv.2⟩ ⟨xPre.blind, va_recv C.2.1 hP hK.1 (xw_obj hq), xPre.make C hw hP hD hS _⟩ rfl hn hls.1 rfl (lv_room hcat) d (e := e) (below := below) (meth := meth) (locs := locs) (cells := xgc S0 - xgc S) (slots := xgs S0 - xgs S) (by rw [hRoom]; exact ⟨by have := ha'.1; simp only []; omega, by have := ha'.2; simp only []; omega⟩)
  rcases hr T hT X with ⟨mc, ms, v, st₀, t, T', LL, h0, X', hL, e1, e2, ⟨⟨r, S', hv, hq, hg, hval, hp, hd⟩, hF⟩, stp⟩ | ⟨mc, ms, q9, st₀, t, T', LL, E, ce, h0, X', hL, e1, e2, hx, -⟩
  · cases hv
    obtain ⟨k1, k2⟩ := xc_keep C hD hS h0 e1 hF hd hL
    have ha2 : xAl S0 S' := ⟨by have := ha'.1; omega, by have := ha'.2; omega⟩
    obtain ⟨t2, a1, b1⟩ := k v S' hq hval ha2 T'.heap (locs ++ LL) ls (by rw [e1]; exact hp) k1 k2 hls T' rfl (stand_widen X' (by have := ha'.1; have := ha2.1; omega) (by have := ha'.2; have := ha2.2; omega))
    exact ⟨t2, stp t2 a1, b1⟩
  · exact hx.elim
theorem xr_A {Qm : Option Value → xS → Prop} {mc ms : Nat} {Z : State → Prop} (hZ : Z = vxA_MQ below (fun mc ms => xPostA mc ms G S0 s.heap.size Qm) (fun _ _ _ _ _ => False) args s A) (k : xV G p l e R s m args below meth c A nL (MQ below (xPostA mc ms G S0 s.heap.size Qm) args s mc ms A) cells slots pc L st S) : xV G p l e R s m args below meth c A nL Z cells slots pc L st S := by
  intro H locs ls hP hD hS hls T hT X
  obtain ⟨t, a1, o, b1, b2, b3, b4⟩ := k H locs ls hP hD hS hls T hT X
  subst hZ
  exact ⟨t, a1, o, b1, b2, mc, ms, Or.inl ⟨b3, b4⟩⟩
theorem xr_iA {ty : FieldType} {Qm : Option Value → xS → Prop} {a : Int} {Z : State → Prop} (C : xC G p c cc nL s args own m A) (hA : A = va_A (xwd G S0) s.heap.size) (hZ : Z = vxA_MQ below (fun mc ms => xPostA mc ms G S0 s.heap.size Qm) (fun _ _ _ _ _ => False) args s A) (ha : xAl S0 Sx) (e1 : S 33 (-1) = Sx 33 (-1)) (hr : meth.sig.returnType = some ty) (hlocks : meth.locks = false) (hn : narrow ty (.int (iN a)) = .int (iN a)) (d : decode cc pc = .ok (.ireturn, 1)) (hw : xval G S) (hq : Qm (some (.int (iN a))) S) : xV G p l e R s m args below meth c A nL Z (xgc S0 - xgc Sx) (xgs S0 - xgs Sx) pc L [.int (iN a)] S := by
  refine xV_al e1 (xr_A (mc := xgc S0 - xgc S) (ms := xgs S0 - xgs S) hZ ?_)
  have ha' : xAl S0 S := ha.eq e1
  intro H locs ls hP hD hS hls
  subst hA
  exact W.zret C.1.1 C.1.2.1 hr hn (fun t ht hW => ⟨⟨_, S, rfl, hq, ⟨by have := ha'.1; omega, by have := ha'.2; omega⟩, hw, by rw [ht]; exact hP, hD⟩, hS.F ht⟩) (fun q hq => hS.2.2 q hq) d hlocks
theorem xr_vA {Qm : Option Value → xS → Prop} {Z : State → Prop} (C : xC G p c cc nL s args own m A) (hA : A = va_A (xwd G S0) s.heap.size) (hZ : Z = vxA_MQ below (fun mc ms => xPostA mc ms G S0 s.heap.size Qm) (fun _ _ _ _ _ => False) args s A) (ha : xAl S0 Sx) (e1 : S 33 (-1) = Sx 33 (-1)) (hr : meth.sig.returnType = none) (hlocks : meth.locks = false) (d : decode cc pc = .ok (.return_, 1)) (hw : xval G S) (hq : Qm none S) : xV G p l e R s m args below meth c A nL Z (xgc S0 - xgc Sx) (xgs S0 - xgs Sx) pc L [] S := by
  refine xV_al e1 (xr_A (mc := xgc S0 - xgc S) (ms := xgs S0 - xgs S) hZ ?_)
  have ha' : xAl S0 S := ha.eq e1
  intro H locs ls hP hD hS hls
  subst hA
  exact W.vret C.1.1 C.1.2.1 hr (fun t ht hW => ⟨⟨_, S, rfl, hq, ⟨by have := ha'.1; omega, by have := ha'.2; omega⟩, hw, by rw [ht]; exact hP, hD⟩, hS.F ht⟩) (fun q hq => hS.2.2 q hq) d hlocks
theorem xmA_of {y : MethodName} {f lo : Nat} {av : List Value} {Qm : Option Value → xS → Prop} {maxL : Nat} {ret : Option FieldType} (own : String) (hown : y.cls = own) (hy : plainName y.cls = true) (hav : (lg_sl av).length ≤ maxL)
    (body : ∀ (p : Program) (e : Env) (s : State) (m : MethodId) (args : Array Value) (below : List Frame) (meth : Method) (c : Code) (A : Nat → Prop) (Z : State → Prop) (R : Room), R = { frames := f, cells := xgc S0, slots := xgs S0, locals := lo } → xC G p c cc maxL s args own m A → A = va_A (xwd G S0) s.heap.size → Z = vxA_MQ below (fun mc ms => xPostA mc ms G S0 s.heap.size Qm) (fun _ _ _ _ _ => False) args s A → meth.sig.returnType = ret → meth.locks = false → xval G S0 →
      xV G p l e R s m args below meth c A maxL Z (xgc S0 - xgc S0) (xgs S0 - xgs S0) 0 (lv_args 0 av) [] S0) : xMA l y (xws y cc maxL ret) ({ frames := f, cells := xgc S0, slots := xgs S0, locals := lo }) G av S0 Qm := by
  intro sz
  refine vxA_ofW (cc := cc) (maxL := maxL) (ret := ret) hy rfl ?_
  intro p e s m args below meth c s₁ B hml ht hv
  obtain ⟨rfl, hsz, hw, hP, hK, hD, hE⟩ := hv
  subst hsz
  have hts := atoms_spec (ws := xws y cc maxL ret) B.pre
  have hl := lv_entry av hav
  rw [lg_entry_eq]
  have h9 := body p e s m _ below meth c (va_A (xwd G S0) s.heap.size) _ _ rfl ⟨⟨B.exec, B.bytes, hml, hown ▸ findClass_of_methodNamed B.named, fun w h => hts w (List.mem_cons_of_mem _ h)⟩, hK, fun q h => Or.inr h, hE⟩ rfl rfl B.returns B.notSynchronized hw s.heap [] _ hP hD.self va_S.rf hl
  rw [Nat.sub_self, Nat.sub_self] at h9
  exact h9
end XKA

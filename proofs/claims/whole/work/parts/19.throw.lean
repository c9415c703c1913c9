/-! own kit: methods that return or throw -/
def xPostY (kc ks mc ms : Nat) (G : xG) (S : xS) (sz : Nat) (Q : Option Value → xS → Prop) : Array Value → State → Outcome → State → Prop := fun _ st oc t => (∃ (r : Option Value) (S' : xS), oc = .returned r ∧ Q r S' ∧ (mc + xgc S' ≤ xgc S + kc ∧ ms + xgs S' ≤ xgs S + ks) ∧ xAl S S' ∧ xval G S' ∧ va_P G.1 vwCl (xwd G S') t.heap ∧ va_D (va_A (xwd G S) sz) (xwd G S')) ∧ va_F (va_A (xwd G S) sz) st t
def xPostYX (kc ks mc ms : Nat) (G : xG) (S : xS) (sz : Nat) (QX : String → xS → Prop) : String → State → State → Prop := fun E st t => (∃ S' : xS, QX E S' ∧ (mc + xgc S' ≤ xgc S + kc ∧ ms + xgs S' ≤ xgs S + ks) ∧ xAl S S' ∧ xval G S' ∧ va_P G.1 vwCl (xwd G S') t.heap ∧ va_D (va_A (xwd G S) sz) (xwd G S')) ∧ va_F (va_A (xwd G S) sz) st t
/-- the contract of a method that returns or throws -/
def xMY (l : Launch) (y : MethodName) (ws : List Cond) (rm : Room) (G : xG) (av : List Value) (S : xS) (Q : Option Value → xS → Prop) (QX : String → xS → Prop) (kc ks : Nat) : Prop := ∀ sz : Nat, vxA_Met l y ws rm (xPre G av S sz) (fun mc ms => xPostY kc ks mc ms G S sz Q) (fun mc ms => xPostYX kc ks mc ms G S sz QX) (va_A (xwd G S) sz)
abbrev xnm : List String := ["java/lang/RuntimeException", "java/lang/Exception"]
/-- the words of a throw -/
def xTw (own cls : String) (ik ic : Nat) : Prop := Bundle.fit cls = true ∧ Cond.classLink own ik cls ∈ xBIG ∧ Cond.initialized cls ∈ xBIG ∧ (∀ w ∈ vx_atS own ic cls xnm, w.onTables = true ∧ (w ∈ xBIG ∨ w ∈ xNest))
theorem xTw_of {own cls : String} {ik ic : Nat} (h1 : Bundle.fit cls = true) (h2 : Cond.classLink own ik cls ∈ xBIG) (h3 : Cond.initialized cls ∈ xBIG) (h4 : ∀ w ∈ (vx_atS own ic cls xnm).filter goodWord, w ∈ lw_tbl) (h5 : (vx_atS own ic cls xnm).all (fun w => w.onTables) = true) (h6 : ∀ w ∈ (vx_atS own ic cls xnm).filter (fun w => !goodWord w), w ∈ xNest) : xTw own cls ik ic :=
  ⟨h1, h2, h3, fun w hw => by
    refine ⟨List.all_eq_true.mp h5 w hw, ?_⟩
    by_cases g : goodWord w = true
    · exact Or.inl (List.mem_filter.mpr ⟨h4 w (List.mem_filter.mpr ⟨hw, g⟩), g⟩)
    · exact Or.inr (h6 w (List.mem_filter.mpr ⟨hw, by cases hg : goodWord w; rfl; exact absurd hg g⟩))⟩
theorem xrm {a b k0 k : Nat} (h : k0 ≤ k) : k0 + (a - b) + 0 ≤ a + k := by omega
theorem xAl.trans {S0 S S' : xS} (h : xAl S0 S) (h' : xAl S S') : xAl S0 S' := ⟨Nat.le_trans h'.1 h.1, Nat.le_trans h'.2 h.2⟩
/-- a callee with a table of handlers: its words -/
def xYh (y : MethodName) (bytes : ByteArray) (maxL : Nat) (ret : Option FieldType) (hh : List (Nat × Nat × Nat × Nat)) (n : Nat) : Prop := Cond.codeWith y bytes maxL ret hh ∈ xBIG ∧ Cond.initialized y.cls ∈ xBIG ∧ (y.cls ≠ "java/lang/invoke/MethodHandle" ∧ y.cls ≠ "java/lang/invoke/VarHandle") ∧ (parseMethodDescriptor y.desc).map (fun d => d.parameters.length) = some n
abbrev xwsH (y : MethodName) (b : ByteArray) (n : Nat) (r : Option FieldType) (hh : List (Nat × Nat × Nat × Nat)) : List Cond := .codeWith y b n r hh :: xBIG
theorem xgoodH {y : MethodName} {b : ByteArray} {n : Nat} {r : Option FieldType} {hh : List (Nat × Nat × Nat × Nat)} (h : Cond.codeWith y b n r hh ∈ xBIG) : GoodIn xBIG (xwsH y b n r hh) := fun w hw => (List.mem_cons.mp hw).elim (fun e => by rw [e]; exact xgood h) xgood
section XKX
variable {G : xG} {p : Program} {l : Launch} {e : Env} {R : Room} {s : State} {m : MethodId} {args : Array Value} {below : List Frame} {meth : Method} {c : Code} {A : Nat → Prop} {nL : Nat} {Q : State → Prop} {cells slots k0 n0 kc ks : Nat}
variable {cc : ByteArray} {own : String} {pc : Nat} {L : List (Nat × Value)} {st st0 : List Value} {S S0 Sx : xS} {Qm : Option Value → xS → Prop} {QX : String → xS → Prop}
/-- an exception on its way -/
def xT (G : xG) (p : Program) (l : Launch) (e : Env) (R : Room) (s : State) (m : MethodId) (args : Array Value) (below : List Frame) (meth : Method) (c : Code) (A : Nat → Prop) (nL : Nat) (Q : State → Prop) (cells slots pc : Nat) (L : List (Nat × Value)) (st : List Value) (E : String) (S : xS) : Prop :=
  ∀ (H : Heap) (locs : List Loc) (ls : Array Slot) (q9 : Addr) (ce : Cell), va_P G.1 vwCl (xwd G S) H → va_D A (xwd G S) → va_S A s.heap H locs → lv_has ls nL L → H[q9]? = some ce → ce.vm = .none → s.vm.findClass E = some ce.cls → vx_W p l e R s m args below meth c H locs cells slots Q (F0 m pc ls st) q9
theorem xV_alY {S1 : xS} (e1 : S1 33 (-1) = Sx 33 (-1)) (k : xV G p l e R s m args below meth c A nL Q (k0 + (xgc S0 - xgc S1)) (n0 + (xgs S0 - xgs S1)) pc L st S) : xV G p l e R s m args below meth c A nL Q (k0 + (xgc S0 - xgc Sx)) (n0 + (xgs S0 - xgs Sx)) pc L st S := by
  unfold xgc xgs at *; rw [← e1]; exact k
theorem xT_alY {S1 : xS} {E : String} (e1 : S1 33 (-1) = Sx 33 (-1)) (k : xT G p l e R s m args below meth c A nL Q (k0 + (xgc S0 - xgc S1)) (n0 + (xgs S0 - xgs S1)) pc L st E S) : xT G p l e R s m args below meth c A nL Q (k0 + (xgc S0 - xgc Sx)) (n0 + (xgs S0 - xgs Sx)) pc L st E S := by
  unfold xgc xgs at *; rw [← e1]; exact k
theorem xr_Y {g : JFrame} {H : Heap} {locs : List Loc} {mc ms : Nat} {Qc : Nat → Nat → Array Value → State → Outcome → State → Prop} {XC : Nat → Nat → String → State → State → Prop} (k : W p l e R s m args below meth c H locs cells slots (vx_MQ below (Qc mc ms) (XC mc ms) args s mc ms A) g) : W p l e R s m args below meth c H locs cells slots (vxA_MQ below Qc XC args s A) g := by
  intro T hT X
  obtain ⟨t, a1, o, b1, b2, b3⟩ := k T hT X
  exact ⟨t, a1, o, b1, b2, mc, ms, b3⟩
theorem xr_YW {g : JFrame} {H : Heap} {locs : List Loc} {mc ms : Nat} {q9 : Addr} {Qc : Nat → Nat → Array Value → State → Outcome → State → Prop} {XC : Nat → Nat → String → State → State → Prop} (k : vx_W p l e R s m args below meth c H locs cells slots (vx_MQ below (Qc mc ms) (XC mc ms) args s mc ms A) g q9) : vx_W p l e R s m args below meth c H locs cells slots (vxA_MQ below Qc XC args s A) g q9 := by
  intro T hT X
  obtain ⟨t, a1, o, b1, b2, b3⟩ := k T hT X
  exact ⟨t, a1, o, b1, b2, mc, ms, b3⟩
theorem xt_out {E : String} (C : xC G p c cc nL s args own m A) (hA : A = va_A (xwd G S0) s.heap.size) (hZ : Q = vxA_MQ below (fun mc ms => xPostY kc ks mc ms G S0 s.heap.size Qm) (fun mc ms => xPostYX kc ks mc ms G S0 s.heap.size QX) args s A) (hlocks : meth.locks = false) (ht : ∀ x ∈ c.exceptionTable.toList, False) (ha : xAl S0 Sx) (e1 : S 33 (-1) = Sx 33 (-1)) (hc : k0 ≤ kc) (hs : n0 ≤ ks) (hw : xval G S) (hq : QX E S) : xT G p l e R s m args below meth c A nL Q (k0 + (xgc S0 - xgc Sx)) (n0 + (xgs S0 - xgs Sx)) pc L st E S := by
  refine xT_alY e1 ?_
  have ha' : xAl S0 S := ha.eq e1
  intro H locs ls q9 ce hP hD hS hls hce hcv hcl
  subst hZ
  subst hA
  refine xr_YW (mc := k0 + (xgc S0 - xgc S)) (ms := n0 + (xgs S0 - xgs S)) (vx_out (fun x hx => (ht x hx).elim) hlocks hce hcv hcl (fun t ht hW => ⟨⟨S, hq, ⟨?_, ?_⟩, ha', hw, by rw [ht]; exact hP, hD⟩, hS.F ht⟩) (fun q hq => hS.2.2 q hq) (Nat.le_refl _) (Nat.le_refl _))
  · have := ha'.1; omega
  · have := ha'.2; omega
theorem xi_throw (C : xC G p c cc nL s args own m A) (hA : A = va_A (xwd G S0) s.heap.size) (hZ : Q = vxA_MQ below (fun mc ms => xPostY kc ks mc ms G S0 s.heap.size Qm) (fun mc ms => xPostYX kc ks mc ms G S0 s.heap.size QX) args s A) (hl9 : l.stackTraces = false) (hlocks : meth.locks = false) (ht : ∀ x ∈ c.exceptionTable.toList, False) {f0 lo0 : Nat} (hRoom : R = { frames := f0, cells := xgc S0 + kc, slots := xgs S0 + ks, locals := lo0 }) {cls text : String} {ik is ic : Nat} (hw9 : xTw own cls ik ic) (htx : Cond.stringRef own is text ∈ tables_1) (ha : xAl S0 Sx) (e1 : S 33 (-1) = Sx 33 (-1))
    (hR : 5 < f0 ∧ (st0.map fun v => v.category).sum + 82 ≤ lo0) (hc : k0 + 1 ≤ kc) (hs : n0 + 6 ≤ ks)
    (d0 : decode cc pc = .ok (.new ik, 3)) (d1 : decode cc (pc + 3) = .ok (.dup, 1)) (d2 : decode cc (pc + 4) = .ok (.ldc is, 2)) (d3 : decode cc (pc + 6) = .ok (.invokespecial ic, 3)) (d4 : decode cc (pc + 9) = .ok (.athrow, 1)) (hw : xval G S) (hq : QX cls S) : xV G p l e R s m args below meth c A nL Q (k0 + (xgc S0 - xgc Sx)) (n0 + (xgs S0 - xgs Sx)) pc L st0 S := by
  refine xV_alY e1 ?_
  have ha' : xAl S0 S := ha.eq e1
  intro H locs ls hP hD hS hls
  subst hZ
  subst hA
  have hK := C.1.2.2.2.2
  obtain ⟨sa, hsa⟩ := C.2.2.2.2.2.2.2.2.1.1 own is text htx
  refine xr_Y (mc := k0 + (xgc S0 - xgc S) + 1) (ms := n0 + (xgs S0 - xgs S) + 6) (vx_throwS (names := xnm) (cls := cls) (text := text) C.1.1 C.1.2.1 hl9 C.1.2.2.2.1 hw9.1 (by decide) (hK _ hw9.2.1) (hK _ hw9.2.2.1) hsa (fun w hw => (hw9.2.2.2 w hw).2.elim (hK _) (fun q => va_Nw.use (hw9.2.2.2 w hw).1 (C.2.2.2.1 w q))) (fun w hw => ?_) C.2.2.2.2.2.2.1 C.2.2.2.2.2.2.2.1 hS (hls.1.trans C.1.2.2.1.symm) d0 d1 d2 d3 d4 (fun x hx => (ht x hx).elim) (by rw [hRoom]; exact hR.1) (by rw [hRoom]; exact hR.2) (by rw [hRoom]; have := ha'.1; simp only []; omega) (by rw [hRoom]; have := ha'.2; simp only []; omega) hlocks (fun t hal hz hk => ⟨⟨S, hq, ⟨?_, ?_⟩, ha', hw, hP.kept (fun k q h9 => hk q.1 (vx_lt hP h9)), hD⟩, ⟨Nat.le_trans hS.1 hz, fun q h1 h2 => (hk q (Nat.lt_of_lt_of_le h1 hS.1)).trans (hS.2.1 q h1 h2)⟩⟩) (fun z hz => hS.2.2 z hz) (Nat.le_refl _) (Nat.le_refl _))
  · rcases List.mem_cons.mp hw with h | h
    · rw [h]; rfl
    · rcases List.mem_cons.mp h with h | h
      · rw [h]; rfl
      · unfold vx_ot
        rw [(hw9.2.2.2 w h).1]
        exact Bool.true_or _
  · have := ha'.1; omega
  · have := ha'.2; omega
theorem xi_throwW (C : xC G p c cc nL s args own m A) (hA : A = va_A (xwd G S0) s.heap.size) (hZ : Q = vxA_MQ below (fun mc ms => xPostY kc ks mc ms G S0 s.heap.size Qm) (fun mc ms => xPostYX kc ks mc ms G S0 s.heap.size QX) args s A) (hl9 : l.stackTraces = false) (hlocks : meth.locks = false) (ht : ∀ x ∈ c.exceptionTable.toList, False) {f0 lo0 : Nat} (hRoom : R = { frames := f0, cells := xgc S0 + kc, slots := xgs S0 + ks, locals := lo0 }) {cls text : String} {ik is ic : Nat} (hw9 : xTw own cls ik ic) (htx : Cond.stringRef own is text ∈ tables_1) (ha : xAl S0 Sx) (e1 : S 33 (-1) = Sx 33 (-1))
    (hR : 5 < f0 ∧ (st0.map fun v => v.category).sum + 82 ≤ lo0) (hc : k0 + 1 ≤ kc) (hs : n0 + 6 ≤ ks)
    (d0 : decode cc pc = .ok (.new ik, 3)) (d1 : decode cc (pc + 3) = .ok (.dup, 1)) (d2 : decode cc (pc + 4) = .ok (.ldc_w is, 3)) (d3 : decode cc (pc + 7) = .ok (.invokespecial ic, 3)) (d4 : decode cc (pc + 10) = .ok (.athrow, 1)) (hw : xval G S) (hq : QX cls S) : xV G p l e R s m args below meth c A nL Q (k0 + (xgc S0 - xgc Sx)) (n0 + (xgs S0 - xgs Sx)) pc L st0 S := by
  refine xV_alY e1 ?_
  have ha' : xAl S0 S := ha.eq e1
  intro H locs ls hP hD hS hls
  subst hZ
  subst hA
  have hK := C.1.2.2.2.2
  obtain ⟨sa, hsa⟩ := C.2.2.2.2.2.2.2.2.1.1 own is text htx
  refine xr_Y (mc := k0 + (xgc S0 - xgc S) + 1) (ms := n0 + (xgs S0 - xgs S) + 6) (vx_throwSW (names := xnm) (cls := cls) (text := text) C.1.1 C.1.2.1 hl9 C.1.2.2.2.1 hw9.1 (by decide) (hK _ hw9.2.1) (hK _ hw9.2.2.1) hsa (fun w hw => (hw9.2.2.2 w hw).2.elim (hK _) (fun q => va_Nw.use (hw9.2.2.2 w hw).1 (C.2.2.2.1 w q))) (fun w hw => ?_) C.2.2.2.2.2.2.1 C.2.2.2.2.2.2.2.1 hS (hls.1.trans C.1.2.2.1.symm) d0 d1 d2 d3 d4 (fun x hx => (ht x hx).elim) (by rw [hRoom]; exact hR.1) (by rw [hRoom]; exact hR.2) (by rw [hRoom]; have := ha'.1; simp only []; omega) (by rw [hRoom]; have := ha'.2; simp only []; omega) hlocks (fun t hal hz hk => ⟨⟨S, hq, ⟨?_, ?_⟩, ha', hw, hP.kept (fun k q h9 => hk q.1 (vx_lt hP h9)), hD⟩, ⟨Nat.le_trans hS.1 hz, fun q h1 h2 => (hk q (Nat.lt_of_lt_of_le h1 hS.1)).trans (hS.2.1 q h1 h2)⟩⟩) (fun z hz => hS.2.2 z hz) (Nat.le_refl _) (Nat.le_refl _))
  · rcases List.mem_cons.mp hw with h | h
    · rw [h]; rfl
    · rcases List.mem_cons.mp h with h | h
      · rw [h]; rfl
      · unfold vx_ot
        rw [(hw9.2.2.2 w h).1]
        exact Bool.true_or _
  · have := ha'.1; omega
  · have := ha'.2; omega
theorem xc_runY (C : xC G p c cc nL s args own m A) (hw : xval G S) (ha : xAl S0 Sx) (e1 : S 33 (-1) = Sx 33 (-1)) {f lo : Nat} {a : Array Value} {i0 j0 : Nat}
    (hr : ∀ (H : Heap) (locs : List Loc) (ls : Array Slot), va_P G.1 vwCl (xwd G S) H → va_D A (xwd G S) → va_S A s.heap H locs → lv_has ls nL L → vxA_Run p l e R s m args below meth c H locs (k0 + (xgc S0 - xgc S)) (n0 + (xgs S0 - xgs S)) (F0 m pc ls st0) st (fun mc ms => xPostY i0 j0 mc ms G S H.size Qm a) (fun mc ms => xPostYX i0 j0 mc ms G S H.size QX) (va_A (xwd G S) H.size))
    (kx : ∀ (E : String) (S' : xS), QX E S' → xval G S' → xAl S0 S' → xT G p l e R s m args below meth c A nL Q (k0 + i0 + (xgc S0 - xgc S')) (n0 + j0 + (xgs S0 - xgs S')) pc L st E S')
    (k : ∀ (r : Option Value) (S' : xS), Qm r S' → xval G S' → xAl S0 S' → xV G p l e R s m args below meth c A nL Q (k0 + i0 + (xgc S0 - xgc S')) (n0 + j0 + (xgs S0 - xgs S')) (pc + 3) L (r.toList ++ st) S') : xV G p l e R s m args below meth c A nL Q (k0 + (xgc S0 - xgc Sx)) (n0 + (xgs S0 - xgs Sx)) pc L st0 S := by
  refine xV_alY e1 ?_
  have ha' : xAl S0 S := ha.eq e1
  intro H locs ls hP hD hS hl T hT X
  rcases hr H locs ls hP hD hS hl T hT X with ⟨mc, ms, v, st₀, t, T', LL, h0, X', hL, e1, e2, ⟨⟨r, S', hv, hq, hg, hal, hval, hp, hd⟩, hF⟩, stp⟩ | ⟨mc, ms, q9, st₀, t, T', LL, E, ce, h0, X', hL, e1, e2, ⟨⟨S', hq, hg, hal, hval, hp, hd⟩, hF⟩, hce, hcv, hcl, stp⟩
  · cases hv
    obtain ⟨k1, k2⟩ := xc_keep C hD hS h0 e1 hF hd hL
    have ha2 := ha'.trans hal
    obtain ⟨t2, a1, b1⟩ := k v S' hq hval ha2 T'.heap (locs ++ LL) ls (by rw [e1]; exact hp) k1 k2 hl T' rfl (stand_widen X' (by have := ha'.1; have := ha2.1; have := hg.1; omega) (by have := ha'.2; have := ha2.2; have := hg.2; omega))
    exact ⟨t2, stp t2 a1, b1⟩
  · obtain ⟨k1, k2⟩ := xc_keep C hD hS h0 e1 hF hd hL
    have ha2 := ha'.trans hal
    obtain ⟨t2, a1, b1⟩ := kx E S' hq hval ha2 T'.heap (locs ++ LL) ls q9 ce (by rw [e1]; exact hp) k1 k2 hl (by rw [e1]; exact hce) hcv hcl T' rfl (stand_widen X' (by have := ha'.1; have := ha2.1; have := hg.1; omega) (by have := ha'.2; have := ha2.2; have := hg.2; omega))
    exact ⟨t2, stp.trans a1, b1⟩
theorem xc_VY (C : xC G p c cc nL s args own m A) {y : MethodName} {bytes : ByteArray} {maxL n index i0 j0 f lo f0 lo0 : Nat} {ret : Option FieldType} {q ci : Nat} {fs : List (Nat × Nat)} {T : u_T} {N : Nat} {ty : Nat → FieldType} {As : List Value} (hw : xval G S) (ha : xAl S0 Sx) (e1 : S 33 (-1) = Sx 33 (-1)) (hRoom : R = { frames := f0, cells := xgc S0 + kc, slots := xgs S0 + ks, locals := lo0 })
    (hM : xMY l y (xws y bytes maxL ret) ({ frames := f, cells := xgc S + i0, slots := xgs S + j0, locals := lo }) G (.ref (G.2.2.1 q) :: As) S Qm QX i0 j0) (hy : xYk y bytes maxL ret n) (hv : xYv y) (hl : Cond.methodLink own index y ∈ xBIG) (hR : (f + 1 ≤ f0 ∧ 8 + (maxL + 11) + lo ≤ lo0) ∧ k0 + i0 ≤ kc ∧ n0 + j0 ≤ ks)
    (hK : xKl ci y.cls T N ty) (hq : G.2.2.2.1[q]? = some (.inr (ci, fs))) (hn : As.length = n) (hst : st0 = As.reverse ++ .ref (G.2.2.1 q) :: st) (hcat : (st.map fun v => v.category).sum ≤ 8) (d : decode cc pc = .ok (.invokevirtual index, 3))
    (kx : ∀ (E : String) (S' : xS), QX E S' → xval G S' → xAl S0 S' → xT G p l e R s m args below meth c A nL Q (k0 + i0 + (xgc S0 - xgc S')) (n0 + j0 + (xgs S0 - xgs S')) pc L st E S')
    (k : ∀ (r : Option Value) (S' : xS), Qm r S' → xval G S' → xAl S0 S' → xV G p l e R s m args below meth c A nL Q (k0 + i0 + (xgc S0 - xgc S')) (n0 + j0 + (xgs S0 - xgs S')) (pc + 3) L (r.toList ++ st) S') : xV G p l e R s m args below meth c A nL Q (k0 + (xgc S0 - xgc Sx)) (n0 + (xgs S0 - xgs Sx)) pc L st0 S := by
  subst hst
  have ha' : xAl S0 S := ha.eq e1
  refine xc_runY C hw ha e1 (f := f) (lo := lo) (a := (Value.ref (G.2.2.1 q) :: As).toArray) (i0 := i0) (j0 := j0) (fun H locs ls hP hD hS hls => ?_) kx k
  have cb : CallB R s args own index y bytes maxL ret (xws y bytes maxL ret) ({ frames := f, cells := xgc S + i0, slots := xgs S + j0, locals := lo }) (xgc S + i0) (xgs S + j0) n := xcallB C hy hl (by rw [hRoom]; exact hR.1)
  exact vxA_runV C.1 (hM H.size) ⟨cb, C.1.2.2.2.2 _ hv.1, C.1.2.2.2.2 _ hv.2⟩ ⟨xPre.blind, va_recv C.2.1 hP hK.1 (xw_obj hq), xPre.make C hw hP hD hS _⟩ rfl hn hls.1 rfl (lv_room hcat) d (by rw [hRoom]; exact ⟨by have := ha'.1; have := hR.2.1; simp only []; omega, by have := ha'.2; have := hR.2.2; simp only []; omega⟩)
theorem vxA_callBackS {y : MethodName} {bytes : ByteArray} {maxL n index : Nat} {ret : Option FieldType} {ws : List Cond} {rm : Room} {Pc : Array Value → State → Prop} {Qc : Nat → Nat → Array Value → State → Outcome → State → Prop} {XC : Nat → Nat → String → State → State → Prop} {free : Addr → Prop} {Ts : List Cond} {As rest : List Value} {g : JFrame} {H : Heap} {locs : List Loc} (S : CallFix p m c cc nL s args Ts own) (hM : vxA_Met l y ws rm Pc Qc XC free) (cw : CallB R s args own index y bytes maxL ret ws rm rm.cells rm.slots n ∧ (Cond.static y).before args s = true) (hp : PreS s H Pc As)
    (hg : g.method = m) (hn : As.length = n) (hsize : g.locals.size = nL) (hstack : g.stack = As.reverse ++ rest) (hW : 2 * g.monitorRoom + (rest.map fun v => v.category).sum ≤ 8) (hdg : decode cc g.pc = .ok (.invokestatic index, 3)) (hf : cells + rm.cells ≤ R.cells ∧ slots + rm.slots ≤ R.slots) :
    vxA_Run p l e R s m args below meth c H locs cells slots g rest (fun mc ms => Qc mc ms As.toArray) XC free := by
  have hK : vx_Back l R p e below s args y 3 8 (PreOf R rm.cells rm.slots Pc) (vxA_Po Qc free) (vxA_PX XC free) := vxA_callBack cw.1 hM hp.1
  obtain ⟨⟨-, -, -, -, -, -, hcode, hini, hy, hlen, hl⟩, hstt⟩ := cw
  obtain ⟨hx, hb, hml, ho, -⟩ := S
  intro T hT X
  rcases vx_callS X hx (bytes := bytes) (maxL := maxL) (ret := ret) ho hl hstt hini hcode hy hK hg (hsize.trans hml.symm) (argsL := As) (rest := rest) (fun sig h => hn.trans (hlen sig h)) hstack hW (by rw [hb]; exact hdg)
    (fun vm₁ hW₁ => ⟨hf.1, hf.2, hp.2 (T.setVm vm₁) hT hW₁⟩) with ⟨v, vm₁, ⟨U', l2, c2, s2⟩, hW₁, X', ⟨mc, ms, g', mk, t, L, e1, e2, hq, h1, hL, h2, h3⟩, st⟩ | ⟨q, vm₁, ⟨U', l2, c2, s2⟩, hW₁, X', ⟨mc, ms, g', mk, t, L, E, ce, e1, e2, hq, hce, hcv, hcl, h1, hL, h2, h3⟩, st⟩
  · dsimp only [Pt.U, Pt.locs, Pt.cells, Pt.slots] at X' e1 e2 h1 h2 h3 st
    subst h1; subst h2; subst h3
    exact Or.inl ⟨mc, ms, v, (T.setVm vm₁).calling g' mk As.toArray, t, U', L, hT, X', hL, e1, e2, hq, st⟩
  · dsimp only [Pt.U, Pt.locs, Pt.cells, Pt.slots] at X' e1 e2 h1 h2 h3 st hcl
    subst h1; subst h2; subst h3
    exact Or.inr ⟨mc, ms, q, (T.setVm vm₁).calling g' mk As.toArray, t, U', L, E, ce, hT, X', hL, e1, e2, hq, hce, hcv, vx_cls hW₁ hcl, st⟩
theorem xc_SY (C : xC G p c cc nL s args own m A) {y : MethodName} {bytes : ByteArray} {maxL n index i0 j0 f lo f0 lo0 : Nat} {ret : Option FieldType} {As : List Value} (hw : xval G S) (ha : xAl S0 Sx) (e1 : S 33 (-1) = Sx 33 (-1)) (hRoom : R = { frames := f0, cells := xgc S0 + kc, slots := xgs S0 + ks, locals := lo0 })
    (hM : xMY l y (xws y bytes maxL ret) ({ frames := f, cells := xgc S + i0, slots := xgs S + j0, locals := lo }) G As S Qm QX i0 j0) (hy : xYk y bytes maxL ret n) (hv : Cond.static y ∈ xBIG) (hl : Cond.methodLink own index y ∈ xBIG) (hR : (f + 1 ≤ f0 ∧ 8 + (maxL + 11) + lo ≤ lo0) ∧ k0 + i0 ≤ kc ∧ n0 + j0 ≤ ks)
    (hn : As.length = n) (hst : st0 = As.reverse ++ st) (hcat : (st.map fun v => v.category).sum ≤ 8) (d : decode cc pc = .ok (.invokestatic index, 3))
    (kx : ∀ (E : String) (S' : xS), QX E S' → xval G S' → xAl S0 S' → xT G p l e R s m args below meth c A nL Q (k0 + i0 + (xgc S0 - xgc S')) (n0 + j0 + (xgs S0 - xgs S')) pc L st E S')
    (k : ∀ (r : Option Value) (S' : xS), Qm r S' → xval G S' → xAl S0 S' → xV G p l e R s m args below meth c A nL Q (k0 + i0 + (xgc S0 - xgc S')) (n0 + j0 + (xgs S0 - xgs S')) (pc + 3) L (r.toList ++ st) S') : xV G p l e R s m args below meth c A nL Q (k0 + (xgc S0 - xgc Sx)) (n0 + (xgs S0 - xgs Sx)) pc L st0 S := by
  subst hst
  have ha' : xAl S0 S := ha.eq e1
  refine xc_runY C hw ha e1 (f := f) (lo := lo) (a := As.toArray) (i0 := i0) (j0 := j0) (fun H locs ls hP hD hS hls => ?_) kx k
  have cb : CallB R s args own index y bytes maxL ret (xws y bytes maxL ret) ({ frames := f, cells := xgc S + i0, slots := xgs S + j0, locals := lo }) (xgc S + i0) (xgs S + j0) n := xcallB C hy hl (by rw [hRoom]; exact hR.1)
  exact vxA_callBackS C.1 (hM H.size) ⟨cb, C.1.2.2.2.2 _ hv⟩ ⟨xPre.blind, xPre.make C hw hP hD hS _⟩ rfl hn hls.1 rfl (lv_room hcat) d (by rw [hRoom]; exact ⟨by have := ha'.1; have := hR.2.1; simp only []; omega, by have := ha'.2; have := hR.2.2; simp only []; omega⟩)
/-- a static callee with handlers of its own -/
theorem xc_SH (C : xC G p c cc nL s args own m A) {y : MethodName} {bytes : ByteArray} {maxL n index i0 j0 f lo f0 lo0 : Nat} {ret : Option FieldType} {hh : List (Nat × Nat × Nat × Nat)} {As : List Value} (hw : xval G S) (ha : xAl S0 Sx) (e1 : S 33 (-1) = Sx 33 (-1)) (hRoom : R = { frames := f0, cells := xgc S0 + kc, slots := xgs S0 + ks, locals := lo0 })
    (hM : xMY l y (xwsH y bytes maxL ret hh) ({ frames := f, cells := xgc S + i0, slots := xgs S + j0, locals := lo }) G As S Qm QX i0 j0) (hy : xYh y bytes maxL ret hh n) (hv : Cond.static y ∈ xBIG) (hl : Cond.methodLink own index y ∈ xBIG) (hR : (f + 1 ≤ f0 ∧ 8 + (maxL + 11) + lo ≤ lo0) ∧ k0 + i0 ≤ kc ∧ n0 + j0 ≤ ks)
    (hn : As.length = n) (hst : st0 = As.reverse ++ st) (hcat : (st.map fun v => v.category).sum ≤ 8) (d : decode cc pc = .ok (.invokestatic index, 3))
    (kx : ∀ (E : String) (S' : xS), QX E S' → xval G S' → xAl S0 S' → xT G p l e R s m args below meth c A nL Q (k0 + i0 + (xgc S0 - xgc S')) (n0 + j0 + (xgs S0 - xgs S')) pc L st E S')
    (k : ∀ (r : Option Value) (S' : xS), Qm r S' → xval G S' → xAl S0 S' → xV G p l e R s m args below meth c A nL Q (k0 + i0 + (xgc S0 - xgc S')) (n0 + j0 + (xgs S0 - xgs S')) (pc + 3) L (r.toList ++ st) S') : xV G p l e R s m args below meth c A nL Q (k0 + (xgc S0 - xgc Sx)) (n0 + (xgs S0 - xgs Sx)) pc L st0 S := by
  subst hst
  have ha' : xAl S0 S := ha.eq e1
  refine xc_runY C hw ha e1 (f := f) (lo := lo) (a := As.toArray) (i0 := i0) (j0 := j0) (fun H locs ls hP hD hS hls => ?_) kx k
  have ht := C.1.2.2.2.2
  have cw : vx_CSW R s args own index y bytes maxL ret hh (xwsH y bytes maxL ret hh) ({ frames := f, cells := xgc S + i0, slots := xgs S + j0, locals := lo }) (xgc S + i0) (xgs S + j0) n := ⟨⟨rfl, rfl, by rw [hRoom]; exact hR.1.1, by rw [hRoom]; exact hR.1.2, (fun w hw a' U hW => word_at hW ((xgoodH hy.1 w hw).2) (ht _ (xgoodH hy.1 w hw).1)), List.mem_cons_self⟩, ht _ hy.1, ht _ hy.2.1, hy.2.2.1, (fun sig hs => by have h9 := hy.2.2.2; rw [hs] at h9; exact (Option.some.inj h9).symm), ht _ hl, ht _ hv⟩
  exact vxA_runSX C.1 (hM H.size) cw ⟨xPre.blind, xPre.make C hw hP hD hS _⟩ rfl hn hls.1 rfl (lv_room hcat) d (by rw [hRoom]; exact ⟨by have := ha'.1; have := hR.2.1; simp only []; omega, by have := ha'.2; have := hR.2.2; simp only []; omega⟩)
/-- a callee that lets the row of edges grow -/
theorem xc_VAY (C : xC G p c cc nL s args own m A) {y : MethodName} {bytes : ByteArray} {maxL n index f lo f0 lo0 : Nat} {ret : Option FieldType} {q ci : Nat} {fs : List (Nat × Nat)} {T : u_T} {N : Nat} {ty : Nat → FieldType} {As : List Value} (hw : xval G S) (ha : xAl S0 Sx) (e1 : S 33 (-1) = Sx 33 (-1)) (hRoom : R = { frames := f0, cells := xgc S0 + kc, slots := xgs S0 + ks, locals := lo0 })
    (hM : xMA l y (xws y bytes maxL ret) ({ frames := f, cells := xgc S, slots := xgs S, locals := lo }) G (.ref (G.2.2.1 q) :: As) S Qm) (hy : xYk y bytes maxL ret n) (hv : xYv y) (hl : Cond.methodLink own index y ∈ xBIG) (hR : (f + 1 ≤ f0 ∧ 8 + (maxL + 11) + lo ≤ lo0) ∧ k0 ≤ kc ∧ n0 ≤ ks)
    (hK : xKl ci y.cls T N ty) (hq : G.2.2.2.1[q]? = some (.inr (ci, fs))) (hn : As.length = n) (hst : st0 = As.reverse ++ .ref (G.2.2.1 q) :: st) (hcat : (st.map fun v => v.category).sum ≤ 8) (d : decode cc pc = .ok (.invokevirtual index, 3))
    (k : ∀ (r : Option Value) (S' : xS), Qm r S' → xval G S' → xAl S0 S' → xV G p l e R s m args below meth c A nL Q (k0 + (xgc S0 - xgc S')) (n0 + (xgs S0 - xgs S')) (pc + 3) L (r.toList ++ st) S') : xV G p l e R s m args below meth c A nL Q (k0 + (xgc S0 - xgc Sx)) (n0 + (xgs S0 - xgs Sx)) pc L st0 S := by
  subst hst
  have ha' : xAl S0 S := ha.eq e1
  refine xV_alY e1 ?_
  intro H locs ls hP hD hS hls T hT X
  have cb : CallB R s args own index y bytes maxL ret (xws y bytes maxL ret) ({ frames := f, cells := xgc S, slots := xgs S, locals := lo }) (xgc S) (xgs S) n := xcallB C hy hl (by rw [hRoom]; exact hR.1)
  have hr := vxA_runV (rest := st) (g := F0 m pc ls (As.reverse ++ .ref (G.2.2.1 q) :: st)) C.1 (hM H.size) ⟨cb, C.1.2.2.2.2 _ hv.1, C.1.2.2.2.2 _ hv.2⟩ ⟨xPre.blind, va_recv C.2.1 hP hK.1 (xw_obj hq), xPre.make C hw hP hD hS _⟩ rfl hn hls.1 rfl (lv_room hcat) d (e := e) (below := below) (meth := meth) (locs := locs) (cells := k0 + (xgc S0 - xgc S)) (slots := n0 + (xgs S0 - xgs S)) (by rw [hRoom]; exact ⟨by have := ha'.1; have := hR.2.1; simp only []; omega, by have := ha'.2; have := hR.2.2; simp only []; omega⟩)
  rcases hr T hT X with ⟨mc, ms, v, st₀, t, T', LL, h0, X', hL, e1, e2, ⟨⟨r, S', hv, hq, hg, hval, hp, hd⟩, hF⟩, stp⟩ | ⟨mc, ms, q9, st₀, t, T', LL, E, ce, h0, X', hL, e1, e2, hx, -⟩
  · cases hv
    obtain ⟨k1, k2⟩ := xc_keep C hD hS h0 e1 hF hd hL
    have ha2 : xAl S0 S' := ⟨by have := ha'.1; omega, by have := ha'.2; omega⟩
    obtain ⟨t2, a1, b1⟩ := k v S' hq hval ha2 T'.heap (locs ++ LL) ls (by rw [e1]; exact hp) k1 k2 hls T' rfl (stand_widen X' (by have := ha'.1; have := ha2.1; have := hg.1; omega) (by have := ha'.2; have := ha2.2; have := hg.2; omega))
    exact ⟨t2, stp t2 a1, b1⟩
  · exact hx.elim
theorem xr_iY {a : Int} (C : xC G p c cc nL s args own m A) (hA : A = va_A (xwd G S0) s.heap.size) (hZ : Q = vxA_MQ below (fun mc ms => xPostY kc ks mc ms G S0 s.heap.size Qm) (fun mc ms => xPostYX kc ks mc ms G S0 s.heap.size QX) args s A) (ha : xAl S0 Sx) (e1 : S 33 (-1) = Sx 33 (-1)) {ty : FieldType} (hr : meth.sig.returnType = some ty) (hlocks : meth.locks = false) (hn : narrow ty (.int (iN a)) = .int (iN a)) (d : decode cc pc = .ok (.ireturn, 1)) (hc : k0 ≤ kc) (hs : n0 ≤ ks) (hw : xval G S) (hq : Qm (some (.int (iN a))) S) : xV G p l e R s m args below meth c A nL Q (k0 + (xgc S0 - xgc Sx)) (n0 + (xgs S0 - xgs Sx)) pc L [.int (iN a)] S := by
  refine xV_alY e1 ?_
  have ha' : xAl S0 S := ha.eq e1
  intro H locs ls hP hD hS hls
  subst hZ
  subst hA
  refine xr_Y (mc := k0 + (xgc S0 - xgc S)) (ms := n0 + (xgs S0 - xgs S)) (vx_ret (W.zret C.1.1 C.1.2.1 hr hn (fun t ht hW => ⟨⟨_, S, rfl, hq, ⟨?_, ?_⟩, ha', hw, by rw [ht]; exact hP, hD⟩, hS.F ht⟩) (fun q hq => hS.2.2 q hq) d hlocks))
  · have := ha'.1; omega
  · have := ha'.2; omega
theorem xr_jY {a : Int} (C : xC G p c cc nL s args own m A) (hA : A = va_A (xwd G S0) s.heap.size) (hZ : Q = vxA_MQ below (fun mc ms => xPostY kc ks mc ms G S0 s.heap.size Qm) (fun mc ms => xPostYX kc ks mc ms G S0 s.heap.size QX) args s A) (ha : xAl S0 Sx) (e1 : S 33 (-1) = Sx 33 (-1)) (hr : meth.sig.returnType = some .long) (hlocks : meth.locks = false) (d : decode cc pc = .ok (.lreturn, 1)) (hc : k0 ≤ kc) (hs : n0 ≤ ks) (hw : xval G S) (hq : Qm (some (.long (jN a))) S) : xV G p l e R s m args below meth c A nL Q (k0 + (xgc S0 - xgc Sx)) (n0 + (xgs S0 - xgs Sx)) pc L [.long (jN a)] S := by
  refine xV_alY e1 ?_
  have ha' : xAl S0 S := ha.eq e1
  intro H locs ls hP hD hS hls
  subst hZ
  subst hA
  refine xr_Y (mc := k0 + (xgc S0 - xgc S)) (ms := n0 + (xgs S0 - xgs S)) (vx_ret (W.lret C.1.1 C.1.2.1 hr (fun t ht hW => ⟨⟨_, S, rfl, hq, ⟨?_, ?_⟩, ha', hw, by rw [ht]; exact hP, hD⟩, hS.F ht⟩) (fun q hq => hS.2.2 q hq) d hlocks))
  · have := ha'.1; omega
  · have := ha'.2; omega
theorem xr_vY (C : xC G p c cc nL s args own m A) (hA : A = va_A (xwd G S0) s.heap.size) (hZ : Q = vxA_MQ below (fun mc ms => xPostY kc ks mc ms G S0 s.heap.size Qm) (fun mc ms => xPostYX kc ks mc ms G S0 s.heap.size QX) args s A) (ha : xAl S0 Sx) (e1 : S 33 (-1) = Sx 33 (-1)) (hr : meth.sig.returnType = none) (hlocks : meth.locks = false) (d : decode cc pc = .ok (.return_, 1)) (hc : k0 ≤ kc) (hs : n0 ≤ ks) (hw : xval G S) (hq : Qm none S) : xV G p l e R s m args below meth c A nL Q (k0 + (xgc S0 - xgc Sx)) (n0 + (xgs S0 - xgs Sx)) pc L [] S := by
  refine xV_alY e1 ?_
  have ha' : xAl S0 S := ha.eq e1
  intro H locs ls hP hD hS hls
  subst hZ
  subst hA
  refine xr_Y (mc := k0 + (xgc S0 - xgc S)) (ms := n0 + (xgs S0 - xgs S)) (vx_ret (W.vret C.1.1 C.1.2.1 hr (fun t ht hW => ⟨⟨_, S, rfl, hq, ⟨?_, ?_⟩, ha', hw, by rw [ht]; exact hP, hD⟩, hS.F ht⟩) (fun q hq => hS.2.2 q hq) d hlocks))
  · have := ha'.1; omega
  · have := ha'.2; omega
theorem xmY_of {y : MethodName} {f lo : Nat} {av : List Value} {maxL : Nat} {ret : Option FieldType} (own : String) (hown : y.cls = own) (hy : plainName y.cls = true) (hav : (lg_sl av).length ≤ maxL)
    (body : ∀ (p : Program) (e : Env) (s : State) (m : MethodId) (args : Array Value) (below : List Frame) (meth : Method) (c : Code) (A : Nat → Prop) (Q : State → Prop) (R : Room), R = { frames := f, cells := xgc S0 + kc, slots := xgs S0 + ks, locals := lo } → xC G p c cc maxL s args own m A → A = va_A (xwd G S0) s.heap.size → Q = vxA_MQ below (fun mc ms => xPostY kc ks mc ms G S0 s.heap.size Qm) (fun mc ms => xPostYX kc ks mc ms G S0 s.heap.size QX) args s A → meth.sig.returnType = ret → meth.locks = false → (∀ x ∈ c.exceptionTable.toList, False) → xval G S0 →
      xV G p l e R s m args below meth c A maxL Q (0 + (xgc S0 - xgc S0)) (0 + (xgs S0 - xgs S0)) 0 (lv_args 0 av) [] S0) : xMY l y (xws y cc maxL ret) ({ frames := f, cells := xgc S0 + kc, slots := xgs S0 + ks, locals := lo }) G av S0 Qm QX kc ks := by
  intro sz
  refine vxA_ofW (cc := cc) (maxL := maxL) (ret := ret) hy rfl ?_
  intro p e s m args below meth c s₁ B hml ht hv
  obtain ⟨rfl, hsz, hw, hP, hK, hD, hE⟩ := hv
  subst hsz
  have hts := atoms_spec (ws := xws y cc maxL ret) B.pre
  have hl := lv_entry av hav
  rw [lg_entry_eq]
  have h9 := body p e s m _ below meth c (va_A (xwd G S0) s.heap.size) _ _ rfl ⟨⟨B.exec, B.bytes, hml, hown ▸ findClass_of_methodNamed B.named, fun w h => hts w (List.mem_cons_of_mem _ h)⟩, hK, fun q h => Or.inr h, hE⟩ rfl rfl B.returns B.notSynchronized ht hw s.heap [] _ hP hD.self va_S.rf hl
  rw [Nat.sub_self, Nat.sub_self] at h9
  exact h9
theorem vxA_ofWH {l : Launch} {y : MethodName} {ws ws' : List Cond} {rm : Room} {Pc : Array Value → State → Prop} {Qc : Nat → Nat → Array Value → State → Outcome → State → Prop} {XC : Nat → Nat → String → State → State → Prop} {free : Addr → Prop} {cc : ByteArray} {maxL : Nat} {ret : Option FieldType} {hh : List (Nat × Nat × Nat × Nat)}
    (hy : plainName y.cls = true) (hw : ws = Cond.codeWith y cc maxL ret hh :: ws')
    (body : ∀ p e s m args below meth c s₁, BodyLoose p l y (headSpec ws rm) cc maxL ret e s m args below meth c s₁ → c.maxLocals = maxL → Pc args s →
      W p l e (headSpec ws rm).room s m args below meth c s.heap [] 0 0 (vxA_MQ below Qc XC args s free) (entryFrame m args maxL)) : vxA_Met l y ws rm Pc Qc XC free := by
  refine MetFree.of_bodyS (code := cc) (maxLocals := maxL) (ret := ret) hy ?_ ?_
  · intro args s m h hn
    obtain ⟨m9, meth, c, hn9, h1, h2, h3, h4, -, h5, h6, -⟩ := Cond.codeWith_spec (atoms_spec (ws := ws) h _ (by rw [hw]; exact List.mem_cons_self))
    cases hn.symm.trans hn9
    exact ⟨meth, c, h1, h2, h3, h4, h5, h6⟩
  · intro p e s m args below meth c s₁ B hml hP _
    have hh0 : s₁.heap = s.heap := by rw [B.state]; rfl
    obtain ⟨t, a1, o, b1, b2, b3⟩ := body p e s m args below meth c s₁ B hml hP s₁ hh0 (Stand.of_body B)
    exact ⟨t, o, a1, b1, b2, b3⟩
theorem xmH_of {y : MethodName} {f lo : Nat} {av : List Value} {maxL : Nat} {ret : Option FieldType} {hh : List (Nat × Nat × Nat × Nat)} (own : String) (hown : y.cls = own) (hy : plainName y.cls = true) (hav : (lg_sl av).length ≤ maxL)
    (body : ∀ (p : Program) (e : Env) (s : State) (m : MethodId) (args : Array Value) (below : List Frame) (meth : Method) (c : Code) (A : Nat → Prop) (Q : State → Prop) (R : Room), R = { frames := f, cells := xgc S0 + kc, slots := xgs S0 + ks, locals := lo } → xC G p c cc maxL s args own m A → A = va_A (xwd G S0) s.heap.size → Q = vxA_MQ below (fun mc ms => xPostY kc ks mc ms G S0 s.heap.size Qm) (fun mc ms => xPostYX kc ks mc ms G S0 s.heap.size QX) args s A → meth.sig.returnType = ret → meth.locks = false → c.exceptionTable.toList = tableOf hh → xval G S0 →
      xV G p l e R s m args below meth c A maxL Q (0 + (xgc S0 - xgc S0)) (0 + (xgs S0 - xgs S0)) 0 (lv_args 0 av) [] S0) : xMY l y (xwsH y cc maxL ret hh) ({ frames := f, cells := xgc S0 + kc, slots := xgs S0 + ks, locals := lo }) G av S0 Qm QX kc ks := by
  intro sz
  refine vxA_ofWH (cc := cc) (maxL := maxL) (ret := ret) (hh := hh) hy rfl ?_
  intro p e s m args below meth c s₁ B hml hv
  obtain ⟨rfl, hsz, hw, hP, hK, hD, hE⟩ := hv
  subst hsz
  have hts := atoms_spec (ws := xwsH y cc maxL ret hh) B.pre
  have hl := lv_entry av hav
  rw [lg_entry_eq]
  have h9 := body p e s m _ below meth c (va_A (xwd G S0) s.heap.size) _ _ rfl ⟨⟨B.exec, B.bytes, hml, hown ▸ findClass_of_methodNamed B.named, fun w h => hts w (List.mem_cons_of_mem _ h)⟩, hK, fun q h => Or.inr h, hE⟩ rfl rfl B.returns B.notSynchronized (vx_table (x := y) B (hts _ List.mem_cons_self)) hw s.heap [] _ hP hD.self va_S.rf hl
  rw [Nat.sub_self, Nat.sub_self] at h9
  exact h9
/-- caught here -/
theorem xt_catch {name E : String} (C : xC G p c cc nL s args own m A) (pre : List ExceptionTableEntry) (x : ExceptionTableEntry) (suf : List ExceptionTableEntry) (hsplit : c.exceptionTable.toList = pre ++ x :: suf)
    (hpass : ∀ z ∈ pre, covers z pc = false ∨ (z.catchType ≠ 0 ∧ ∃ nm : String, Cond.classLink own z.catchType nm ∈ xBIG ∧ va_Nc E nm s)) (hx : covers x pc = true) (h0 : x.catchType ≠ 0)
    (hlink : Cond.classLink own x.catchType name ∈ xBIG) (hcast : Cond.castable E name ∈ xNest)
    (k : ∀ q9 : Nat, xV G p l e R s m args below meth c A nL Q cells slots x.handlerPc L [.ref q9] S) : xT G p l e R s m args below meth c A nL Q cells slots pc L st E S := by
  intro H locs ls q9 ce hP hD hS hls hce hcv hcl
  refine vx_catch C.1.2.2.2.1 pre x suf hsplit (fun z hz => ?_) hx h0 (C.1.2.2.2.2 _ hlink) (va_Nw.use rfl (C.2.2.2.1 _ hcast)) hce hcv hcl (k q9 H locs ls hP hD hS hls)
  rcases hpass z hz with h | ⟨h1, nm, h2, h3⟩
  · exact Or.inl h
  · exact Or.inr ⟨h1, nm, C.1.2.2.2.2 _ h2, h3⟩
end XKX

/-! own kit: floating point -/
abbrev xQd (Q : UInt64 → xS → Prop) : Option Value → xS → Prop := fun r S' => ∃ x : UInt64, r = some (.double x) ∧ Q x S'
abbrev xQf (Q : UInt32 → xS → Prop) : Option Value → xS → Prop := fun r S' => ∃ x : UInt32, r = some (.float x) ∧ Q x S'
theorem xdv (x : UInt64) : (jN x.toInt64.toInt).toUInt64 = x := by
  show (Int64.ofInt x.toInt64.toInt).toUInt64 = x
  rw [Int64.ofInt_toInt]
  rfl
theorem xRJ_d (x : UInt64) : xRJ x.toInt64.toInt := ⟨Int64.le_toInt _, Int64.toInt_lt _⟩
theorem xup_rowD {S : xS} {q : Nat} {i : Int} {x : UInt64} (hi : 0 ≤ i) : vf_upd (fun j : Nat => (jN (S q j)).toUInt64) i.toNat x = fun j : Nat => (jN (xup S q i x.toInt64.toInt q j)).toUInt64 := by
  funext j
  unfold vf_upd xup
  by_cases h : j = i.toNat
  · rw [if_pos h, if_pos ⟨rfl, by omega⟩, xdv]
  · rw [if_neg h, if_neg (fun z => h (by have := z.2; omega))]
section XF
variable {G : xG} {p : Program} {l : Launch} {e : Env} {R : Room} {s : State} {m : MethodId} {args : Array Value} {below : List Frame} {meth : Method} {c : Code} {A : Nat → Prop} {nL : Nat} {Q : State → Prop} {cells slots k0 n0 kc ks : Nat}
variable {cc : ByteArray} {own : String} {pc : Nat} {L : List (Nat × Value)} {st st0 : List Value} {S S0 Sx : xS}
theorem xi_i2d (C : xC G p c cc nL s args own m A) {a : Int} (d : decode cc pc = .ok (.i2d, 1)) (k : xV G p l e R s m args below meth c A nL Q cells slots (pc + 1) L (.double (FP.i2d (iN a)) :: st) S) : xV G p l e R s m args below meth c A nL Q cells slots pc L (.int (iN a) :: st) S := by
  intro H locs ls hP hD hS hl
  exact lv_i2d C.1.1 C.1.2.1 d (k H locs ls hP hD hS hl)
theorem xi_l2d (C : xC G p c cc nL s args own m A) {a : Int} (d : decode cc pc = .ok (.l2d, 1)) (k : xV G p l e R s m args below meth c A nL Q cells slots (pc + 1) L (.double (FP.l2d (jN a)) :: st) S) : xV G p l e R s m args below meth c A nL Q cells slots pc L (.long (jN a) :: st) S := by
  intro H locs ls hP hD hS hl
  exact lv_l2d C.1.1 C.1.2.1 d (k H locs ls hP hD hS hl)
theorem xi_i2f (C : xC G p c cc nL s args own m A) {a : Int} (d : decode cc pc = .ok (.i2f, 1)) (k : xV G p l e R s m args below meth c A nL Q cells slots (pc + 1) L (.float (FP.i2f (iN a)) :: st) S) : xV G p l e R s m args below meth c A nL Q cells slots pc L (.int (iN a) :: st) S := by
  intro H locs ls hP hD hS hl
  exact lv_i2f C.1.1 C.1.2.1 d (k H locs ls hP hD hS hl)
theorem xi_l2f (C : xC G p c cc nL s args own m A) {a : Int} (d : decode cc pc = .ok (.l2f, 1)) (k : xV G p l e R s m args below meth c A nL Q cells slots (pc + 1) L (.float (FP.l2f (jN a)) :: st) S) : xV G p l e R s m args below meth c A nL Q cells slots pc L (.long (jN a) :: st) S := by
  intro H locs ls hP hD hS hl
  exact lv_l2f C.1.1 C.1.2.1 d (k H locs ls hP hD hS hl)
theorem xi_ddiv (C : xC G p c cc nL s args own m A) {x y : UInt64} (d : decode cc pc = .ok (.ddiv, 1)) (hn : vf_n64 (FP.ddiv x y)) (k : xV G p l e R s m args below meth c A nL Q cells slots (pc + 1) L (.double (FP.ddiv x y) :: st) S) : xV G p l e R s m args below meth c A nL Q cells slots pc L (.double y :: .double x :: st) S := by
  intro H locs ls hP hD hS hl
  exact lv_ddiv C.1.1 C.1.2.1 d hn (k H locs ls hP hD hS hl)
theorem xi_fdiv (C : xC G p c cc nL s args own m A) {x y : UInt32} (d : decode cc pc = .ok (.fdiv, 1)) (hn : vf_n32 (FP.fdiv x y)) (k : xV G p l e R s m args below meth c A nL Q cells slots (pc + 1) L (.float (FP.fdiv x y) :: st) S) : xV G p l e R s m args below meth c A nL Q cells slots pc L (.float y :: .float x :: st) S := by
  intro H locs ls hP hD hS hl
  exact lv_fdiv C.1.1 C.1.2.1 d hn (k H locs ls hP hD hS hl)
theorem xi_f2d (C : xC G p c cc nL s args own m A) {x : UInt32} (d : decode cc pc = .ok (.f2d, 1)) (hn : vf_n64 (FP.f2d x)) (k : xV G p l e R s m args below meth c A nL Q cells slots (pc + 1) L (.double (FP.f2d x) :: st) S) : xV G p l e R s m args below meth c A nL Q cells slots pc L (.float x :: st) S := by
  intro H locs ls hP hD hS hl
  exact lv_f2d C.1.1 C.1.2.1 d hn (k H locs ls hP hD hS hl)
theorem xi_dconst0 (C : xC G p c cc nL s args own m A) (d : decode cc pc = .ok (.dconst 0, 1)) (k : xV G p l e R s m args below meth c A nL Q cells slots (pc + 1) L (.double FP.dconst0 :: st) S) : xV G p l e R s m args below meth c A nL Q cells slots pc L (st) S := by
  intro H locs ls hP hD hS hl
  exact lv_dconst0 C.1.1 C.1.2.1 d (k H locs ls hP hD hS hl)
theorem xi_fconst0 (C : xC G p c cc nL s args own m A) (d : decode cc pc = .ok (.fconst 0, 1)) (k : xV G p l e R s m args below meth c A nL Q cells slots (pc + 1) L (.float FP.fconst0 :: st) S) : xV G p l e R s m args below meth c A nL Q cells slots pc L (st) S := by
  intro H locs ls hP hD hS hl
  exact lv_fconst0 C.1.1 C.1.2.1 d (k H locs ls hP hD hS hl)
theorem xi_dcmp (C : xC G p c cc nL s args own m A) {x y : UInt64} {op : CmpOp} (d : decode cc pc = .ok (.dcmp op, 1)) (k : xV G p l e R s m args below meth c A nL Q cells slots (pc + 1) L (.int (Op.cmpValue (FP.dcmp x y) op) :: st) S) : xV G p l e R s m args below meth c A nL Q cells slots pc L (.double y :: .double x :: st) S := by
  intro H locs ls hP hD hS hl
  exact lv_dcmp C.1.1 C.1.2.1 d (k H locs ls hP hD hS hl)
theorem xi_fcmp (C : xC G p c cc nL s args own m A) {x y : UInt32} {op : CmpOp} (d : decode cc pc = .ok (.fcmp op, 1)) (k : xV G p l e R s m args below meth c A nL Q cells slots (pc + 1) L (.int (Op.cmpValue (FP.fcmp x y) op) :: st) S) : xV G p l e R s m args below meth c A nL Q cells slots pc L (.float y :: .float x :: st) S := by
  intro H locs ls hP hD hS hl
  exact lv_fcmp C.1.1 C.1.2.1 d (k H locs ls hP hD hS hl)
theorem xi_daload (C : xC G p c cc nL s args own m A) {q n : Nat} {i : Int} (hq : G.2.2.2.1[q]? = some (.inl (4, n))) (hn : 0 < n ∧ n < 2147483648) (hi : 0 ≤ i ∧ i < (n : Int)) (d : decode cc pc = .ok (.daload, 1)) (k : xV G p l e R s m args below meth c A nL Q cells slots (pc + 1) L (.double (jN (S q i)).toUInt64 :: st) S) : xV G p l e R s m args below meth c A nL Q cells slots pc L (.int (iN i) :: .ref (G.2.2.1 q) :: st) S := by
  intro H locs ls hP hD hS hl
  obtain ⟨h1, h2⟩ := iN_ix hn.2 hi
  refine va_dald C.1.1 C.1.2.1 C.2.1 hP q 4 (f := fun j : Nat => (jN (S q j)).toUInt64) (xw_arr hq hn.1) rfl h1 d ?_
  rw [h2]
  have k := k H locs ls hP hD hS hl
  rw [← Int.toNat_of_nonneg hi.1] at k
  exact k
theorem xi_dastore (C : xC G p c cc nL s args own m A) {q n : Nat} {i : Int} {x : UInt64} (hq : G.2.2.2.1[q]? = some (.inl (4, n))) (hn : 0 < n ∧ n < 2147483648) (hi : 0 ≤ i ∧ i < (n : Int)) (d : decode cc pc = .ok (.dastore, 1)) (k : xV G p l e R s m args below meth c A nL Q cells slots (pc + 1) L st (xup S q i x.toInt64.toInt)) : xV G p l e R s m args below meth c A nL Q cells slots pc L (.double x :: .int (iN i) :: .ref (G.2.2.1 q) :: st) S := by
  intro H locs ls hP hD hS hl
  obtain ⟨h1, h2⟩ := iN_ix hn.2 hi
  refine va_dast C.1.1 C.1.2.1 C.2.1 hP hD hS q 4 (f := fun j : Nat => (jN (S q j)).toUInt64) (xw_arr hq hn.1) rfl h1 d (fun H1 locs1 hP1 hD1 hS1 => ?_)
  rw [h2, xup_rowD hi.1] at hP1 hD1
  have e := xset_arr (S := S) (v := x.toInt64.toInt) hq hn.1 hi.1
  exact k H1 locs1 ls (e ▸ hP1) (e ▸ hD1) hS1 hl
theorem xr_d {S0 : xS} {Qm : Option Value → xS → Prop} {a : UInt64} {mc ms : Nat} (C : xC G p c cc nL s args own m A) (hA : A = va_A (xwd G S0) s.heap.size) (hZ : Q = MQ below (xPost G S0 s.heap.size Qm) args s mc ms A) (hr : meth.sig.returnType = some .double) (hlocks : meth.locks = false) (d : decode cc pc = .ok (.dreturn, 1)) (hc : cells ≤ mc) (hs : slots ≤ ms) (hw : xval G S) (hq : Qm (some (.double a)) S) : xV G p l e R s m args below meth c A nL Q cells slots pc L [.double a] S := by
  intro H locs ls hP hD hS hls
  subst hZ
  refine W.widen hc hs ?_
  subst hA
  exact W.dret C.1.1 C.1.2.1 hr (fun t ht hW => ⟨⟨_, S, rfl, hq, hw, by rw [ht]; exact hP, hD⟩, hS.F ht⟩) (fun q hq => hS.2.2 q hq) d hlocks
theorem xr_dY {Qm : Option Value → xS → Prop} {QX : String → xS → Prop} {a : UInt64} (C : xC G p c cc nL s args own m A) (hA : A = va_A (xwd G S0) s.heap.size) (hZ : Q = vxA_MQ below (fun mc ms => xPostY kc ks mc ms G S0 s.heap.size Qm) (fun mc ms => xPostYX kc ks mc ms G S0 s.heap.size QX) args s A) (ha : xAl S0 Sx) (e1 : S 33 (-1) = Sx 33 (-1)) (hr : meth.sig.returnType = some .double) (hlocks : meth.locks = false) (d : decode cc pc = .ok (.dreturn, 1)) (hc : k0 ≤ kc) (hs : n0 ≤ ks) (hw : xval G S) (hq : Qm (some (.double a)) S) : xV G p l e R s m args below meth c A nL Q (k0 + (xgc S0 - xgc Sx)) (n0 + (xgs S0 - xgs Sx)) pc L [.double a] S := by
  refine xV_alY e1 ?_
  have ha' : xAl S0 S := ha.eq e1
  intro H locs ls hP hD hS hls
  subst hZ
  subst hA
  refine xr_Y (mc := k0 + (xgc S0 - xgc S)) (ms := n0 + (xgs S0 - xgs S)) (vx_ret (W.dret C.1.1 C.1.2.1 hr (fun t ht hW => ⟨⟨_, S, rfl, hq, ⟨?_, ?_⟩, ha', hw, by rw [ht]; exact hP, hD⟩, hS.F ht⟩) (fun q hq => hS.2.2 q hq) d hlocks))
  · have := ha'.1; omega
  · have := ha'.2; omega
theorem xc_Vd (C : xC G p c cc nL s args own m A) {y : MethodName} {bytes : ByteArray} {maxL n index mc ms f lo : Nat} {ret : Option FieldType} {q ci : Nat} {fs : List (Nat × Nat)} {T : u_T} {N : Nat} {ty : Nat → FieldType} {As : List Value} {Qm : UInt64 → xS → Prop} (hw : xval G S)
    (hM : xM l y (xws y bytes maxL ret) ({ frames := f, cells := mc, slots := ms, locals := lo }) G (.ref (G.2.2.1 q) :: As) S (xQd Qm) mc ms) (hy : xYk y bytes maxL ret n) (hv : xYv y) (hl : Cond.methodLink own index y ∈ xBIG) (hR : f + 1 ≤ R.frames ∧ 8 + (maxL + 11) + lo ≤ R.locals)
    (hK : xKl ci y.cls T N ty) (hq : G.2.2.2.1[q]? = some (.inr (ci, fs))) (hn : As.length = n) (hst : st0 = As.reverse ++ .ref (G.2.2.1 q) :: st) (hcat : (st.map fun v => v.category).sum ≤ 8) (hf : cells + mc ≤ R.cells ∧ slots + ms ≤ R.slots) (d : decode cc pc = .ok (.invokevirtual index, 3))
    (k : ∀ (x : UInt64) (S' : xS), Qm x S' → xval G S' → xV G p l e R s m args below meth c A nL Q (cells + mc) (slots + ms) (pc + 3) L (.double x :: st) S') : xV G p l e R s m args below meth c A nL Q cells slots pc L st0 S :=
  xc_V C hw hM hy hv hl hR hK hq hn hst hcat hf d (fun r S' hq hw => by obtain ⟨x, rfl, h⟩ := hq; exact k x S' h hw)
theorem xr_f {S0 : xS} {Qm : Option Value → xS → Prop} {a : UInt32} {mc ms : Nat} (C : xC G p c cc nL s args own m A) (hA : A = va_A (xwd G S0) s.heap.size) (hZ : Q = MQ below (xPost G S0 s.heap.size Qm) args s mc ms A) (hr : meth.sig.returnType = some .float) (hlocks : meth.locks = false) (d : decode cc pc = .ok (.freturn, 1)) (hc : cells ≤ mc) (hs : slots ≤ ms) (hw : xval G S) (hq : Qm (some (.float a)) S) : xV G p l e R s m args below meth c A nL Q cells slots pc L [.float a] S := by
  intro H locs ls hP hD hS hls
  subst hZ
  refine W.widen hc hs ?_
  subst hA
  exact W.fret C.1.1 C.1.2.1 hr (fun t ht hW => ⟨⟨_, S, rfl, hq, hw, by rw [ht]; exact hP, hD⟩, hS.F ht⟩) (fun q hq => hS.2.2 q hq) d hlocks
theorem xr_fY {Qm : Option Value → xS → Prop} {QX : String → xS → Prop} {a : UInt32} (C : xC G p c cc nL s args own m A) (hA : A = va_A (xwd G S0) s.heap.size) (hZ : Q = vxA_MQ below (fun mc ms => xPostY kc ks mc ms G S0 s.heap.size Qm) (fun mc ms => xPostYX kc ks mc ms G S0 s.heap.size QX) args s A) (ha : xAl S0 Sx) (e1 : S 33 (-1) = Sx 33 (-1)) (hr : meth.sig.returnType = some .float) (hlocks : meth.locks = false) (d : decode cc pc = .ok (.freturn, 1)) (hc : k0 ≤ kc) (hs : n0 ≤ ks) (hw : xval G S) (hq : Qm (some (.float a)) S) : xV G p l e R s m args below meth c A nL Q (k0 + (xgc S0 - xgc Sx)) (n0 + (xgs S0 - xgs Sx)) pc L [.float a] S := by
  refine xV_alY e1 ?_
  have ha' : xAl S0 S := ha.eq e1
  intro H locs ls hP hD hS hls
  subst hZ
  subst hA
  refine xr_Y (mc := k0 + (xgc S0 - xgc S)) (ms := n0 + (xgs S0 - xgs S)) (vx_ret (W.fret C.1.1 C.1.2.1 hr (fun t ht hW => ⟨⟨_, S, rfl, hq, ⟨?_, ?_⟩, ha', hw, by rw [ht]; exact hP, hD⟩, hS.F ht⟩) (fun q hq => hS.2.2 q hq) d hlocks))
  · have := ha'.1; omega
  · have := ha'.2; omega
theorem xc_Vf (C : xC G p c cc nL s args own m A) {y : MethodName} {bytes : ByteArray} {maxL n index mc ms f lo : Nat} {ret : Option FieldType} {q ci : Nat} {fs : List (Nat × Nat)} {T : u_T} {N : Nat} {ty : Nat → FieldType} {As : List Value} {Qm : UInt32 → xS → Prop} (hw : xval G S)
    (hM : xM l y (xws y bytes maxL ret) ({ frames := f, cells := mc, slots := ms, locals := lo }) G (.ref (G.2.2.1 q) :: As) S (xQf Qm) mc ms) (hy : xYk y bytes maxL ret n) (hv : xYv y) (hl : Cond.methodLink own index y ∈ xBIG) (hR : f + 1 ≤ R.frames ∧ 8 + (maxL + 11) + lo ≤ R.locals)
    (hK : xKl ci y.cls T N ty) (hq : G.2.2.2.1[q]? = some (.inr (ci, fs))) (hn : As.length = n) (hst : st0 = As.reverse ++ .ref (G.2.2.1 q) :: st) (hcat : (st.map fun v => v.category).sum ≤ 8) (hf : cells + mc ≤ R.cells ∧ slots + ms ≤ R.slots) (d : decode cc pc = .ok (.invokevirtual index, 3))
    (k : ∀ (x : UInt32) (S' : xS), Qm x S' → xval G S' → xV G p l e R s m args below meth c A nL Q (cells + mc) (slots + ms) (pc + 3) L (.float x :: st) S') : xV G p l e R s m args below meth c A nL Q cells slots pc L st0 S :=
  xc_V C hw hM hy hv hl hR hK hq hn hst hcat hf d (fun r S' hq hw => by obtain ⟨x, rfl, h⟩ := hq; exact k x S' h hw)
end XF

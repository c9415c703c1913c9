/-! own kit: the law's own frame -/
def xsI (xs : Nat → Int32) : Int → Int := fun z => (xs z.toNat).toInt
theorem xR_I (x : Int32) : xR x.toInt := xR_of x
theorem iN_I (x : Int32) : iN x.toInt = x := iN_of x
theorem xrK {k a b : Nat} {c d : Nat} (h : a ≤ b) : k + a + (c - d) ≤ k + b + (c - d) := by omega
theorem xrL {k a x r c i : Nat} (h : k + c + x ≤ r) (hh : a + i ≤ c) : k + a + i + x ≤ r := by omega
theorem xrM {k a x y r c : Nat} (h : k + c + x ≤ r) (hh : a ≤ c) : k + a + (x - y) + 0 ≤ r := by omega
section XLW
variable {G : xG} {p : Program} {l : Launch} {e : Env} {R : Room} {s : State} {m : MethodId} {args : Array Value} {below : List Frame} {meth : Method} {c : Code} {A : Nat → Prop} {nL : Nat} {Q : State → Prop} {cells slots k0 n0 : Nat}
variable {cc : ByteArray} {own : String} {pc : Nat} {L : List (Nat × Value)} {st st0 : List Value} {S S0 Sx : xS} {Qm : Option Value → xS → Prop} {QX : String → xS → Prop}
theorem xV_wid {k n : Nat} (h1 : cells ≤ k) (h2 : slots ≤ n) (kk : xV G p l e R s m args below meth c A nL Q k n pc L st S) : xV G p l e R s m args below meth c A nL Q cells slots pc L st S := fun H locs ls hP hD hS hl => W.widen h1 h2 (kk H locs ls hP hD hS hl)
theorem xi_sld (C : xC G p c cc nL s args own m A) {b n : Nat} {xs : Nat → Int32} {i : Int} (hX : va_X b n xs s s.heap) (hbl : b < s.heap.size) (hbA : ¬ A b) (hi : 0 ≤ i ∧ i < (n : Int)) (hn : n ≤ 3584) (d : decode cc pc = .ok (.iaload, 1)) (k : xV G p l e R s m args below meth c A nL Q cells slots (pc + 1) L (.int (iN (xsI xs i)) :: st) S) : xV G p l e R s m args below meth c A nL Q cells slots pc L (.int (iN i) :: .ref b :: st) S := by
  intro H locs ls hP hD hS hl
  obtain ⟨h1, h2⟩ := iN_ix (show n < 2147483648 by omega) hi
  refine va_sld C.1.1 C.1.2.1 hX hbl hbA hS h1 d ?_
  rw [h2]
  have k := k H locs ls hP hD hS hl
  unfold xsI at k
  rw [iN_I] at k
  exact k
theorem xi_sldF (C : xC G p c cc nL s args own m A) {b n : Nat} {xs : Nat → Int32} {f : Int → Int} {i : Int} (hff : f = xsI xs) (hX : va_X b n xs s s.heap) (hbl : b < s.heap.size) (hbA : ¬ A b) (hi : 0 ≤ i ∧ i < (n : Int)) (hn : n ≤ 3584) (d : decode cc pc = .ok (.iaload, 1)) (k : xV G p l e R s m args below meth c A nL Q cells slots (pc + 1) L (.int (iN (f i)) :: st) S) : xV G p l e R s m args below meth c A nL Q cells slots pc L (.int (iN i) :: .ref b :: st) S := xi_sld C hX hbl hbA hi hn d (hff ▸ k)
theorem xi_slen (C : xC G p c cc nL s args own m A) {b n : Nat} {xs : Nat → Int32} (hX : va_X b n xs s s.heap) (hbl : b < s.heap.size) (hbA : ¬ A b) (d : decode cc pc = .ok (.arraylength, 1)) (k : xV G p l e R s m args below meth c A nL Q cells slots (pc + 1) L (.int (iN (n : Int)) :: st) S) : xV G p l e R s m args below meth c A nL Q cells slots pc L (.ref b :: st) S := by
  intro H locs ls hP hD hS hl
  refine va_slen C.1.1 C.1.2.1 hX hbl hbA hS d ?_
  have k := k H locs ls hP hD hS hl
  rw [iN_nI] at k
  exact k
theorem xi_dcmpI (C : xC G p c cc nL s args own m A) {x y : UInt64} {op : CmpOp} (d : decode cc pc = .ok (.dcmp op, 1)) (k : xV G p l e R s m args below meth c A nL Q cells slots (pc + 1) L (.int (iN (Op.cmpValue (FP.dcmp x y) op).toInt) :: st) S) : xV G p l e R s m args below meth c A nL Q cells slots pc L (.double y :: .double x :: st) S := xi_dcmp C d (by rw [iN_I] at k; exact k)
theorem xi_fcmpI (C : xC G p c cc nL s args own m A) {x y : UInt32} {op : CmpOp} (d : decode cc pc = .ok (.fcmp op, 1)) (k : xV G p l e R s m args below meth c A nL Q cells slots (pc + 1) L (.int (iN (Op.cmpValue (FP.fcmp x y) op).toInt) :: st) S) : xV G p l e R s m args below meth c A nL Q cells slots pc L (.float y :: .float x :: st) S := xi_fcmp C d (by rw [iN_I] at k; exact k)
theorem xi_dload (C : xC G p c cc nL s args own m A) {x : UInt64} {i : Nat} (j : Nat) (d : decode cc pc = .ok (.dload i, 2)) (hj : L[j]? = some (i, .double x)) (k : xV G p l e R s m args below meth c A nL Q cells slots (pc + 2) L (.double x :: st) S) : xV G p l e R s m args below meth c A nL Q cells slots pc L st S := by
  intro H locs ls hP hD hS hl
  exact lv_dload C.1.1 C.1.2.1 d (lv_at hl j hj) (k H locs ls hP hD hS hl)
theorem xi_fload (C : xC G p c cc nL s args own m A) {x : UInt32} {i : Nat} (j : Nat) (d : decode cc pc = .ok (.fload i, 2)) (hj : L[j]? = some (i, .float x)) (k : xV G p l e R s m args below meth c A nL Q cells slots (pc + 2) L (.float x :: st) S) : xV G p l e R s m args below meth c A nL Q cells slots pc L st S := by
  intro H locs ls hP hD hS hl
  exact lv_fload C.1.1 C.1.2.1 d (lv_at hl j hj) (k H locs ls hP hD hS hl)
theorem xi_fstore (C : xC G p c cc nL s args own m A) {x : UInt32} {i : Nat} {L' : List (Nat × Value)} (d : decode cc pc = .ok (.fstore i, 2)) (hn : i < nL) (hL : (i, Value.float x) :: L.filter (fun q => !(q.1 == i) && !(q.1 + 1 == i && q.2.category == 2)) = L') (k : xV G p l e R s m args below meth c A nL Q cells slots (pc + 2) L' st S) : xV G p l e R s m args below meth c A nL Q cells slots pc L (.float x :: st) S := by
  intro H locs ls hP hD hS hl
  exact lv_fstore C.1.1 C.1.2.1 d hl hn hL (fun ls2 hl2 => k H locs ls2 hP hD hS hl2)
theorem xi_dstore (C : xC G p c cc nL s args own m A) {x : UInt64} {i : Nat} {L' : List (Nat × Value)} (d : decode cc pc = .ok (.dstore i, 2)) (hn : i + 1 < nL) (hL : (i, Value.double x) :: L.filter (fun q => !(q.1 == i) && (!(q.1 == i + 1) && !(q.1 + 1 == i && q.2.category == 2))) = L') (k : xV G p l e R s m args below meth c A nL Q cells slots (pc + 2) L' st S) : xV G p l e R s m args below meth c A nL Q cells slots pc L (.double x :: st) S := by
  intro H locs ls hP hD hS hl
  exact lv_dstore C.1.1 C.1.2.1 d hl hn hL (fun ls2 hl2 => k H locs ls2 hP hD hS hl2)
/-- a static callee with handlers of its own, in a frame whose room is given at large -/
theorem xl_SH (C : xC G p c cc nL s args own m A) {y : MethodName} {bytes : ByteArray} {maxL n index i0 j0 f lo : Nat} {ret : Option FieldType} {hh : List (Nat × Nat × Nat × Nat)} {As : List Value} (hw : xval G S) (ha : xAl S0 Sx) (e1 : S 33 (-1) = Sx 33 (-1))
    (hM : xMY l y (xwsH y bytes maxL ret hh) ({ frames := f, cells := xgc S + i0, slots := xgs S + j0, locals := lo }) G As S Qm QX i0 j0) (hy : xYh y bytes maxL ret hh n) (hv : Cond.static y ∈ xBIG) (hl : Cond.methodLink own index y ∈ xBIG) (hR : f + 1 ≤ R.frames ∧ 8 + (maxL + 11) + lo ≤ R.locals) (hC : k0 + i0 + xgc S0 ≤ R.cells ∧ n0 + j0 + xgs S0 ≤ R.slots)
    (hn : As.length = n) (hst : st0 = As.reverse ++ st) (hcat : (st.map fun v => v.category).sum ≤ 8) (d : decode cc pc = .ok (.invokestatic index, 3))
    (kx : ∀ (E : String) (S' : xS), QX E S' → xval G S' → xAl S0 S' → xT G p l e R s m args below meth c A nL Q (k0 + i0 + (xgc S0 - xgc S')) (n0 + j0 + (xgs S0 - xgs S')) pc L st E S')
    (k : ∀ (r : Option Value) (S' : xS), Qm r S' → xval G S' → xAl S0 S' → xV G p l e R s m args below meth c A nL Q (k0 + i0 + (xgc S0 - xgc S')) (n0 + j0 + (xgs S0 - xgs S')) (pc + 3) L (r.toList ++ st) S') : xV G p l e R s m args below meth c A nL Q (k0 + (xgc S0 - xgc Sx)) (n0 + (xgs S0 - xgs Sx)) pc L st0 S := by
  subst hst
  have ha' : xAl S0 S := ha.eq e1
  refine xc_runY C hw ha e1 (f := f) (lo := lo) (a := As.toArray) (i0 := i0) (j0 := j0) (fun H locs ls hP hD hS hls => ?_) kx k
  have ht := C.1.2.2.2.2
  have cw : vx_CSW R s args own index y bytes maxL ret hh (xwsH y bytes maxL ret hh) ({ frames := f, cells := xgc S + i0, slots := xgs S + j0, locals := lo }) (xgc S + i0) (xgs S + j0) n := ⟨⟨rfl, rfl, hR.1, hR.2, (fun w hw a' U hW => word_at hW ((xgoodH hy.1 w hw).2) (ht _ (xgoodH hy.1 w hw).1)), List.mem_cons_self⟩, ht _ hy.1, ht _ hy.2.1, hy.2.2.1, (fun sig hs => by have h9 := hy.2.2.2; rw [hs] at h9; exact (Option.some.inj h9).symm), ht _ hl, ht _ hv⟩
  exact vxA_runSX C.1 (hM H.size) cw ⟨xPre.blind, xPre.make C hw hP hD hS _⟩ rfl hn hls.1 rfl (lv_room hcat) d ⟨by have := ha'.1; have := hC.1; simp only []; omega, by have := ha'.2; have := hC.2; simp only []; omega⟩
end XLW
theorem xl_L_131 : Cond.methodLink RL 131 yL_addProcess ∈ xBIG := xmt3 23 (by decide +kernel) (by decide +kernel)
theorem xkh_L_addProcess : xYh yL_addProcess cL_addProcess 3 (some .int) [(0, 8, 11, 13)] 2 := ⟨xmt3 25 (by decide +kernel) (by decide +kernel), xmt1 0 (by decide +kernel) (by decide +kernel), ⟨by decide +kernel, by decide +kernel⟩, by decide +kernel⟩
theorem xs_L_addProcess : Cond.static yL_addProcess ∈ xBIG := xmt3 24 (by decide +kernel) (by decide +kernel)
theorem xl_L_136 : Cond.methodLink RL 136 yX9_addProcess ∈ xBIG := xmt6 234 (by decide +kernel) (by decide +kernel)
theorem xk_X9_addProcess : xYk yX9_addProcess cX9_addProcess 1 (some .int) 0 := ⟨xmt6 237 (by decide +kernel) (by decide +kernel), xmt1 10 (by decide +kernel) (by decide +kernel), ⟨by decide +kernel, by decide +kernel⟩, by decide +kernel⟩
theorem xv_X9_addProcess : xYv yX9_addProcess := ⟨xmt6 235 (by decide +kernel) (by decide +kernel), xmt6 236 (by decide +kernel) (by decide +kernel)⟩
theorem xl_L_137 : Cond.methodLink RL 137 yX9_thrown ∈ xBIG := xmt6 230 (by decide +kernel) (by decide +kernel)
theorem xk_X9_thrown : xYk yX9_thrown cX9_thrown 1 (some .int) 0 := ⟨xmt6 233 (by decide +kernel) (by decide +kernel), xmt1 10 (by decide +kernel) (by decide +kernel), ⟨by decide +kernel, by decide +kernel⟩, by decide +kernel⟩
theorem xv_X9_thrown : xYv yX9_thrown := ⟨xmt6 231 (by decide +kernel) (by decide +kernel), xmt6 232 (by decide +kernel) (by decide +kernel)⟩
theorem xl_L_140 : Cond.methodLink RL 140 yL_addStep ∈ xBIG := xmt3 111 (by decide +kernel) (by decide +kernel)
theorem xkh_L_addStep : xYh yL_addStep cL_addStep 9 (some .int) [(0, 18, 21, 19), (0, 18, 25, 21), (0, 18, 29, 13)] 8 := ⟨xmt3 113 (by decide +kernel) (by decide +kernel), xmt1 0 (by decide +kernel) (by decide +kernel), ⟨by decide +kernel, by decide +kernel⟩, by decide +kernel⟩
theorem xs_L_addStep : Cond.static yL_addStep ∈ xBIG := xmt3 112 (by decide +kernel) (by decide +kernel)
theorem xl_L_143 : Cond.methodLink RL 143 yX9_addStep ∈ xBIG := xmt7 6 (by decide +kernel) (by decide +kernel)
theorem xk_X9_addStep : xYk yX9_addStep cX9_addStep 8 (some .int) 6 := ⟨xmt7 9 (by decide +kernel) (by decide +kernel), xmt1 10 (by decide +kernel) (by decide +kernel), ⟨by decide +kernel, by decide +kernel⟩, by decide +kernel⟩
theorem xv_X9_addStep : xYv yX9_addStep := ⟨xmt7 7 (by decide +kernel) (by decide +kernel), xmt7 8 (by decide +kernel) (by decide +kernel)⟩
theorem xl_L_144 : Cond.methodLink RL 144 yL_addChannel ∈ xBIG := xmt3 200 (by decide +kernel) (by decide +kernel)
theorem xkh_L_addChannel : xYh yL_addChannel cL_addChannel 4 (some .int) [(0, 9, 12, 21), (0, 9, 15, 13)] 3 := ⟨xmt3 202 (by decide +kernel) (by decide +kernel), xmt1 0 (by decide +kernel) (by decide +kernel), ⟨by decide +kernel, by decide +kernel⟩, by decide +kernel⟩
theorem xs_L_addChannel : Cond.static yL_addChannel ∈ xBIG := xmt3 201 (by decide +kernel) (by decide +kernel)
theorem xl_L_147 : Cond.methodLink RL 147 yX9_addChannel ∈ xBIG := xmt7 24 (by decide +kernel) (by decide +kernel)
theorem xk_X9_addChannel : xYk yX9_addChannel cX9_addChannel 2 (some .int) 1 := ⟨xmt7 27 (by decide +kernel) (by decide +kernel), xmt1 10 (by decide +kernel) (by decide +kernel), ⟨by decide +kernel, by decide +kernel⟩, by decide +kernel⟩
theorem xv_X9_addChannel : xYv yX9_addChannel := ⟨xmt7 25 (by decide +kernel) (by decide +kernel), xmt7 26 (by decide +kernel) (by decide +kernel)⟩
theorem xl_L_148 : Cond.methodLink RL 148 yL_setStart ∈ xBIG := xmt3 213 (by decide +kernel) (by decide +kernel)
theorem xkh_L_setStart : xYh yL_setStart cL_setStart 5 (some .int) [(0, 10, 13, 21)] 4 := ⟨xmt3 215 (by decide +kernel) (by decide +kernel), xmt1 0 (by decide +kernel) (by decide +kernel), ⟨by decide +kernel, by decide +kernel⟩, by decide +kernel⟩
theorem xs_L_setStart : Cond.static yL_setStart ∈ xBIG := xmt3 214 (by decide +kernel) (by decide +kernel)
theorem xl_L_151 : Cond.methodLink RL 151 yX9_setStart ∈ xBIG := xmt7 28 (by decide +kernel) (by decide +kernel)
theorem xk_X9_setStart : xYk yX9_setStart cX9_setStart 4 (some .int) 2 := ⟨xmt7 31 (by decide +kernel) (by decide +kernel), xmt1 10 (by decide +kernel) (by decide +kernel), ⟨by decide +kernel, by decide +kernel⟩, by decide +kernel⟩
theorem xv_X9_setStart : xYv yX9_setStart := ⟨xmt7 29 (by decide +kernel) (by decide +kernel), xmt7 30 (by decide +kernel) (by decide +kernel)⟩
theorem xl_L_152 : Cond.methodLink RL 152 yL_setMarks ∈ xBIG := xmt3 229 (by decide +kernel) (by decide +kernel)
theorem xkh_L_setMarks : xYh yL_setMarks cL_setMarks 7 (some .int) [(0, 21, 24, 19), (0, 21, 28, 21)] 6 := ⟨xmt3 231 (by decide +kernel) (by decide +kernel), xmt1 0 (by decide +kernel) (by decide +kernel), ⟨by decide +kernel, by decide +kernel⟩, by decide +kernel⟩
theorem xs_L_setMarks : Cond.static yL_setMarks ∈ xBIG := xmt3 230 (by decide +kernel) (by decide +kernel)
theorem xl_L_155 : Cond.methodLink RL 155 yX9_setMarks ∈ xBIG := xmt7 32 (by decide +kernel) (by decide +kernel)
theorem xk_X9_setMarks : xYk yX9_setMarks cX9_setMarks 7 (some .boolean) 4 := ⟨xmt7 35 (by decide +kernel) (by decide +kernel), xmt1 10 (by decide +kernel) (by decide +kernel), ⟨by decide +kernel, by decide +kernel⟩, by decide +kernel⟩
theorem xv_X9_setMarks : xYv yX9_setMarks := ⟨xmt7 33 (by decide +kernel) (by decide +kernel), xmt7 34 (by decide +kernel) (by decide +kernel)⟩
theorem xl_L_156 : Cond.methodLink RL 156 yL_addInvariant ∈ xBIG := xmt4 0 (by decide +kernel) (by decide +kernel)
theorem xkh_L_addInvariant : xYh yL_addInvariant cL_addInvariant 5 (some .int) [(0, 10, 13, 21), (0, 10, 17, 13)] 4 := ⟨xmt4 2 (by decide +kernel) (by decide +kernel), xmt1 0 (by decide +kernel) (by decide +kernel), ⟨by decide +kernel, by decide +kernel⟩, by decide +kernel⟩
theorem xs_L_addInvariant : Cond.static yL_addInvariant ∈ xBIG := xmt4 1 (by decide +kernel) (by decide +kernel)
theorem xl_L_158 : Cond.methodLink RL 158 yX9_addInvariant ∈ xBIG := xmt7 36 (by decide +kernel) (by decide +kernel)
theorem xk_X9_addInvariant : xYk yX9_addInvariant cX9_addInvariant 3 (some .int) 2 := ⟨xmt7 39 (by decide +kernel) (by decide +kernel), xmt1 10 (by decide +kernel) (by decide +kernel), ⟨by decide +kernel, by decide +kernel⟩, by decide +kernel⟩
theorem xv_X9_addInvariant : xYv yX9_addInvariant := ⟨xmt7 37 (by decide +kernel) (by decide +kernel), xmt7 38 (by decide +kernel) (by decide +kernel)⟩
theorem xl_L_159 : Cond.methodLink RL 159 yL_areAlike ∈ xBIG := xmt4 12 (by decide +kernel) (by decide +kernel)
theorem xkh_L_areAlike : xYh yL_areAlike cL_areAlike 5 (some .int) [(0, 17, 20, 19)] 4 := ⟨xmt4 14 (by decide +kernel) (by decide +kernel), xmt1 0 (by decide +kernel) (by decide +kernel), ⟨by decide +kernel, by decide +kernel⟩, by decide +kernel⟩
theorem xs_L_areAlike : Cond.static yL_areAlike ∈ xBIG := xmt4 13 (by decide +kernel) (by decide +kernel)
theorem xl_L_161 : Cond.methodLink RL 161 yX9_areAlike ∈ xBIG := xmt7 40 (by decide +kernel) (by decide +kernel)
theorem xk_X9_areAlike : xYk yX9_areAlike cX9_areAlike 3 (some .boolean) 2 := ⟨xmt7 43 (by decide +kernel) (by decide +kernel), xmt1 10 (by decide +kernel) (by decide +kernel), ⟨by decide +kernel, by decide +kernel⟩, by decide +kernel⟩
theorem xv_X9_areAlike : xYv yX9_areAlike := ⟨xmt7 41 (by decide +kernel) (by decide +kernel), xmt7 42 (by decide +kernel) (by decide +kernel)⟩
theorem xl_L_162 : Cond.methodLink RL 162 yL_begin ∈ xBIG := xmt4 34 (by decide +kernel) (by decide +kernel)
theorem xkh_L_begin : xYh yL_begin cL_begin 4 (some .int) [(0, 9, 12, 21), (0, 9, 15, 46)] 3 := ⟨xmt4 36 (by decide +kernel) (by decide +kernel), xmt1 0 (by decide +kernel) (by decide +kernel), ⟨by decide +kernel, by decide +kernel⟩, by decide +kernel⟩
theorem xs_L_begin : Cond.static yL_begin ∈ xBIG := xmt4 35 (by decide +kernel) (by decide +kernel)
theorem xl_L_165 : Cond.methodLink RL 165 yX9_begin ∈ xBIG := xmt7 55 (by decide +kernel) (by decide +kernel)
theorem xk_X9_begin : xYk yX9_begin cX9_begin 3 (some .char) 1 := ⟨xmt7 58 (by decide +kernel) (by decide +kernel), xmt1 10 (by decide +kernel) (by decide +kernel), ⟨by decide +kernel, by decide +kernel⟩, by decide +kernel⟩
theorem xv_X9_begin : xYv yX9_begin := ⟨xmt7 56 (by decide +kernel) (by decide +kernel), xmt7 57 (by decide +kernel) (by decide +kernel)⟩
theorem xl_L_166 : Cond.methodLink RL 166 yL_search ∈ xBIG := xmt4 115 (by decide +kernel) (by decide +kernel)
theorem xkh_L_search : xYh yL_search cL_search 4 (some .int) [(0, 9, 12, 13), (0, 9, 15, 21)] 3 := ⟨xmt4 117 (by decide +kernel) (by decide +kernel), xmt1 0 (by decide +kernel) (by decide +kernel), ⟨by decide +kernel, by decide +kernel⟩, by decide +kernel⟩
theorem xs_L_search : Cond.static yL_search ∈ xBIG := xmt4 116 (by decide +kernel) (by decide +kernel)
theorem xl_L_168 : Cond.methodLink RL 168 yX9_search ∈ xBIG := xmt7 96 (by decide +kernel) (by decide +kernel)
theorem xk_X9_search : xYk yX9_search cX9_search 4 (some .int) 1 := ⟨xmt7 99 (by decide +kernel) (by decide +kernel), xmt1 10 (by decide +kernel) (by decide +kernel), ⟨by decide +kernel, by decide +kernel⟩, by decide +kernel⟩
theorem xv_X9_search : xYv yX9_search := ⟨xmt7 97 (by decide +kernel) (by decide +kernel), xmt7 98 (by decide +kernel) (by decide +kernel)⟩
theorem xl_L_169 : Cond.methodLink RL 169 yL_verdict ∈ xBIG := xmt4 193 (by decide +kernel) (by decide +kernel)
theorem xkh_L_verdict : xYh yL_verdict cL_verdict 3 (some .int) [(0, 8, 11, 13)] 2 := ⟨xmt4 195 (by decide +kernel) (by decide +kernel), xmt1 0 (by decide +kernel) (by decide +kernel), ⟨by decide +kernel, by decide +kernel⟩, by decide +kernel⟩
theorem xs_L_verdict : Cond.static yL_verdict ∈ xBIG := xmt4 194 (by decide +kernel) (by decide +kernel)
theorem xl_L_171 : Cond.methodLink RL 171 yX9_verdict ∈ xBIG := xmt7 175 (by decide +kernel) (by decide +kernel)
theorem xk_X9_verdict : xYk yX9_verdict cX9_verdict 1 (some .char) 0 := ⟨xmt7 178 (by decide +kernel) (by decide +kernel), xmt1 10 (by decide +kernel) (by decide +kernel), ⟨by decide +kernel, by decide +kernel⟩, by decide +kernel⟩
theorem xv_X9_verdict : xYv yX9_verdict := ⟨xmt7 176 (by decide +kernel) (by decide +kernel), xmt7 177 (by decide +kernel) (by decide +kernel)⟩
theorem xl_L_172 : Cond.methodLink RL 172 yL_states ∈ xBIG := xmt4 200 (by decide +kernel) (by decide +kernel)
theorem xkh_L_states : xYh yL_states cL_states 3 (some .int) [(0, 8, 11, 13)] 2 := ⟨xmt4 202 (by decide +kernel) (by decide +kernel), xmt1 0 (by decide +kernel) (by decide +kernel), ⟨by decide +kernel, by decide +kernel⟩, by decide +kernel⟩
theorem xs_L_states : Cond.static yL_states ∈ xBIG := xmt4 201 (by decide +kernel) (by decide +kernel)
theorem xl_L_174 : Cond.methodLink RL 174 yX9_states ∈ xBIG := xmt7 179 (by decide +kernel) (by decide +kernel)
theorem xk_X9_states : xYk yX9_states cX9_states 1 (some .int) 0 := ⟨xmt7 182 (by decide +kernel) (by decide +kernel), xmt1 10 (by decide +kernel) (by decide +kernel), ⟨by decide +kernel, by decide +kernel⟩, by decide +kernel⟩
theorem xv_X9_states : xYv yX9_states := ⟨xmt7 180 (by decide +kernel) (by decide +kernel), xmt7 181 (by decide +kernel) (by decide +kernel)⟩
theorem xl_L_175 : Cond.methodLink RL 175 yL_goneOn ∈ xBIG := xmt4 207 (by decide +kernel) (by decide +kernel)
theorem xkh_L_goneOn : xYh yL_goneOn cL_goneOn 3 (some .int) [(0, 8, 11, 13)] 2 := ⟨xmt4 209 (by decide +kernel) (by decide +kernel), xmt1 0 (by decide +kernel) (by decide +kernel), ⟨by decide +kernel, by decide +kernel⟩, by decide +kernel⟩
theorem xs_L_goneOn : Cond.static yL_goneOn ∈ xBIG := xmt4 208 (by decide +kernel) (by decide +kernel)
theorem xl_L_177 : Cond.methodLink RL 177 yX9_goneOn ∈ xBIG := xmt7 183 (by decide +kernel) (by decide +kernel)
theorem xk_X9_goneOn : xYk yX9_goneOn cX9_goneOn 1 (some .int) 0 := ⟨xmt7 186 (by decide +kernel) (by decide +kernel), xmt1 10 (by decide +kernel) (by decide +kernel), ⟨by decide +kernel, by decide +kernel⟩, by decide +kernel⟩
theorem xv_X9_goneOn : xYv yX9_goneOn := ⟨xmt7 184 (by decide +kernel) (by decide +kernel), xmt7 185 (by decide +kernel) (by decide +kernel)⟩
theorem xl_L_178 : Cond.methodLink RL 178 yL_codeOf ∈ xBIG := xmt4 214 (by decide +kernel) (by decide +kernel)
theorem xkh_L_codeOf : xYh yL_codeOf cL_codeOf 4 (some .int) [(0, 8, 11, 13), (0, 8, 14, 19)] 3 := ⟨xmt4 216 (by decide +kernel) (by decide +kernel), xmt1 0 (by decide +kernel) (by decide +kernel), ⟨by decide +kernel, by decide +kernel⟩, by decide +kernel⟩
theorem xs_L_codeOf : Cond.static yL_codeOf ∈ xBIG := xmt4 215 (by decide +kernel) (by decide +kernel)
theorem xl_L_180 : Cond.methodLink RL 180 yX9_codeOf ∈ xBIG := xmt7 187 (by decide +kernel) (by decide +kernel)
theorem xk_X9_codeOf : xYk yX9_codeOf cX9_codeOf 2 (some .long) 1 := ⟨xmt7 190 (by decide +kernel) (by decide +kernel), xmt1 10 (by decide +kernel) (by decide +kernel), ⟨by decide +kernel, by decide +kernel⟩, by decide +kernel⟩
theorem xv_X9_codeOf : xYv yX9_codeOf := ⟨xmt7 188 (by decide +kernel) (by decide +kernel), xmt7 189 (by decide +kernel) (by decide +kernel)⟩
theorem xl_L_181 : Cond.methodLink RL 181 yL_moves ∈ xBIG := xmt4 226 (by decide +kernel) (by decide +kernel)
theorem xkh_L_moves : xYh yL_moves cL_moves 4 (some .int) [(0, 9, 12, 13), (0, 9, 15, 19)] 3 := ⟨xmt4 228 (by decide +kernel) (by decide +kernel), xmt1 0 (by decide +kernel) (by decide +kernel), ⟨by decide +kernel, by decide +kernel⟩, by decide +kernel⟩
theorem xs_L_moves : Cond.static yL_moves ∈ xBIG := xmt4 227 (by decide +kernel) (by decide +kernel)
theorem xl_L_183 : Cond.methodLink RL 183 yX9_moves ∈ xBIG := xmt7 195 (by decide +kernel) (by decide +kernel)
theorem xk_X9_moves : xYk yX9_moves cX9_moves 2 (some .int) 1 := ⟨xmt7 198 (by decide +kernel) (by decide +kernel), xmt1 10 (by decide +kernel) (by decide +kernel), ⟨by decide +kernel, by decide +kernel⟩, by decide +kernel⟩
theorem xv_X9_moves : xYv yX9_moves := ⟨xmt7 196 (by decide +kernel) (by decide +kernel), xmt7 197 (by decide +kernel) (by decide +kernel)⟩
theorem xl_L_184 : Cond.methodLink RL 184 yL_reached ∈ xBIG := xmt4 237 (by decide +kernel) (by decide +kernel)
theorem xkh_L_reached : xYh yL_reached cL_reached 5 (some .int) [(0, 9, 12, 13), (0, 9, 16, 19), (0, 9, 20, 72)] 4 := ⟨xmt4 239 (by decide +kernel) (by decide +kernel), xmt1 0 (by decide +kernel) (by decide +kernel), ⟨by decide +kernel, by decide +kernel⟩, by decide +kernel⟩
theorem xs_L_reached : Cond.static yL_reached ∈ xBIG := xmt4 238 (by decide +kernel) (by decide +kernel)
theorem xl_L_186 : Cond.methodLink RL 186 yX9_reached ∈ xBIG := xmt7 203 (by decide +kernel) (by decide +kernel)
theorem xk_X9_reached : xYk yX9_reached cX9_reached 3 (some .long) 2 := ⟨xmt7 206 (by decide +kernel) (by decide +kernel), xmt1 10 (by decide +kernel) (by decide +kernel), ⟨by decide +kernel, by decide +kernel⟩, by decide +kernel⟩
theorem xv_X9_reached : xYv yX9_reached := ⟨xmt7 204 (by decide +kernel) (by decide +kernel), xmt7 205 (by decide +kernel) (by decide +kernel)⟩
theorem xl_L_187 : Cond.methodLink RL 187 yL_variableIn ∈ xBIG := xmt5 25 (by decide +kernel) (by decide +kernel)
theorem xkh_L_variableIn : xYh yL_variableIn cL_variableIn 5 (some .int) [(0, 10, 13, 13), (0, 10, 17, 19), (0, 10, 21, 21)] 4 := ⟨xmt5 27 (by decide +kernel) (by decide +kernel), xmt1 0 (by decide +kernel) (by decide +kernel), ⟨by decide +kernel, by decide +kernel⟩, by decide +kernel⟩
theorem xs_L_variableIn : Cond.static yL_variableIn ∈ xBIG := xmt5 26 (by decide +kernel) (by decide +kernel)
theorem xl_L_189 : Cond.methodLink RL 189 yX9_variableIn ∈ xBIG := xmt7 207 (by decide +kernel) (by decide +kernel)
theorem xk_X9_variableIn : xYk yX9_variableIn cX9_variableIn 3 (some .int) 2 := ⟨xmt7 210 (by decide +kernel) (by decide +kernel), xmt1 10 (by decide +kernel) (by decide +kernel), ⟨by decide +kernel, by decide +kernel⟩, by decide +kernel⟩
theorem xv_X9_variableIn : xYv yX9_variableIn := ⟨xmt7 208 (by decide +kernel) (by decide +kernel), xmt7 209 (by decide +kernel) (by decide +kernel)⟩
theorem xl_L_190 : Cond.methodLink RL 190 yL_made ∈ xBIG := xmt5 36 (by decide +kernel) (by decide +kernel)
theorem xkh_L_made : xYh yL_made cL_made 3 (some .int) [(0, 7, 10, 13)] 2 := ⟨xmt5 38 (by decide +kernel) (by decide +kernel), xmt1 0 (by decide +kernel) (by decide +kernel), ⟨by decide +kernel, by decide +kernel⟩, by decide +kernel⟩
theorem xs_L_made : Cond.static yL_made ∈ xBIG := xmt5 37 (by decide +kernel) (by decide +kernel)
theorem xl_L_192 : Cond.methodLink RL 192 yX9_made ∈ xBIG := xmt7 211 (by decide +kernel) (by decide +kernel)
theorem xk_X9_made : xYk yX9_made cX9_made 1 (some .long) 0 := ⟨xmt7 214 (by decide +kernel) (by decide +kernel), xmt1 10 (by decide +kernel) (by decide +kernel), ⟨by decide +kernel, by decide +kernel⟩, by decide +kernel⟩
theorem xv_X9_made : xYv yX9_made := ⟨xmt7 212 (by decide +kernel) (by decide +kernel), xmt7 213 (by decide +kernel) (by decide +kernel)⟩
theorem xl_L_193 : Cond.methodLink RL 193 yL_fault ∈ xBIG := xmt5 43 (by decide +kernel) (by decide +kernel)
theorem xkh_L_fault : xYh yL_fault cL_fault 3 (some .int) [(0, 8, 11, 13), (0, 8, 14, 72)] 2 := ⟨xmt5 45 (by decide +kernel) (by decide +kernel), xmt1 0 (by decide +kernel) (by decide +kernel), ⟨by decide +kernel, by decide +kernel⟩, by decide +kernel⟩
theorem xs_L_fault : Cond.static yL_fault ∈ xBIG := xmt5 44 (by decide +kernel) (by decide +kernel)
theorem xl_L_195 : Cond.methodLink RL 195 yX9_fault ∈ xBIG := xmt7 215 (by decide +kernel) (by decide +kernel)
theorem xk_X9_fault : xYk yX9_fault cX9_fault 1 (some .char) 0 := ⟨xmt7 218 (by decide +kernel) (by decide +kernel), xmt1 10 (by decide +kernel) (by decide +kernel), ⟨by decide +kernel, by decide +kernel⟩, by decide +kernel⟩
theorem xv_X9_fault : xYv yX9_fault := ⟨xmt7 216 (by decide +kernel) (by decide +kernel), xmt7 217 (by decide +kernel) (by decide +kernel)⟩
theorem xl_L_196 : Cond.methodLink RL 196 yL_traceLength ∈ xBIG := xmt5 55 (by decide +kernel) (by decide +kernel)
theorem xkh_L_traceLength : xYh yL_traceLength cL_traceLength 3 (some .int) [(0, 8, 11, 13), (0, 8, 14, 72)] 2 := ⟨xmt5 57 (by decide +kernel) (by decide +kernel), xmt1 0 (by decide +kernel) (by decide +kernel), ⟨by decide +kernel, by decide +kernel⟩, by decide +kernel⟩
theorem xs_L_traceLength : Cond.static yL_traceLength ∈ xBIG := xmt5 56 (by decide +kernel) (by decide +kernel)
theorem xl_L_198 : Cond.methodLink RL 198 yX9_traceLength ∈ xBIG := xmt7 223 (by decide +kernel) (by decide +kernel)
theorem xk_X9_traceLength : xYk yX9_traceLength cX9_traceLength 1 (some .int) 0 := ⟨xmt7 226 (by decide +kernel) (by decide +kernel), xmt1 10 (by decide +kernel) (by decide +kernel), ⟨by decide +kernel, by decide +kernel⟩, by decide +kernel⟩
theorem xv_X9_traceLength : xYv yX9_traceLength := ⟨xmt7 224 (by decide +kernel) (by decide +kernel), xmt7 225 (by decide +kernel) (by decide +kernel)⟩
theorem xl_L_199 : Cond.methodLink RL 199 yL_traceProcess ∈ xBIG := xmt5 62 (by decide +kernel) (by decide +kernel)
theorem xkh_L_traceProcess : xYh yL_traceProcess cL_traceProcess 4 (some .int) [(0, 9, 12, 13), (0, 9, 15, 72), (0, 9, 18, 19)] 3 := ⟨xmt5 64 (by decide +kernel) (by decide +kernel), xmt1 0 (by decide +kernel) (by decide +kernel), ⟨by decide +kernel, by decide +kernel⟩, by decide +kernel⟩
theorem xs_L_traceProcess : Cond.static yL_traceProcess ∈ xBIG := xmt5 63 (by decide +kernel) (by decide +kernel)
theorem xl_L_201 : Cond.methodLink RL 201 yX9_traceProcess ∈ xBIG := xmt7 231 (by decide +kernel) (by decide +kernel)
theorem xk_X9_traceProcess : xYk yX9_traceProcess cX9_traceProcess 2 (some .int) 1 := ⟨xmt7 234 (by decide +kernel) (by decide +kernel), xmt1 10 (by decide +kernel) (by decide +kernel), ⟨by decide +kernel, by decide +kernel⟩, by decide +kernel⟩
theorem xv_X9_traceProcess : xYv yX9_traceProcess := ⟨xmt7 232 (by decide +kernel) (by decide +kernel), xmt7 233 (by decide +kernel) (by decide +kernel)⟩
theorem xl_L_202 : Cond.methodLink RL 202 yL_traceStep ∈ xBIG := xmt5 76 (by decide +kernel) (by decide +kernel)
theorem xkh_L_traceStep : xYh yL_traceStep cL_traceStep 4 (some .int) [(0, 9, 12, 13), (0, 9, 15, 72), (0, 9, 18, 19)] 3 := ⟨xmt5 78 (by decide +kernel) (by decide +kernel), xmt1 0 (by decide +kernel) (by decide +kernel), ⟨by decide +kernel, by decide +kernel⟩, by decide +kernel⟩
theorem xs_L_traceStep : Cond.static yL_traceStep ∈ xBIG := xmt5 77 (by decide +kernel) (by decide +kernel)
theorem xl_L_204 : Cond.methodLink RL 204 yX9_traceStep ∈ xBIG := xmt7 239 (by decide +kernel) (by decide +kernel)
theorem xk_X9_traceStep : xYk yX9_traceStep cX9_traceStep 2 (some .int) 1 := ⟨xmt8 2 (by decide +kernel) (by decide +kernel), xmt1 10 (by decide +kernel) (by decide +kernel), ⟨by decide +kernel, by decide +kernel⟩, by decide +kernel⟩
theorem xv_X9_traceStep : xYv yX9_traceStep := ⟨xmt8 0 (by decide +kernel) (by decide +kernel), xmt8 1 (by decide +kernel) (by decide +kernel)⟩
theorem xl_L_205 : Cond.methodLink RL 205 yL_replays ∈ xBIG := xmt5 86 (by decide +kernel) (by decide +kernel)
theorem xkh_L_replays : xYh yL_replays cL_replays 3 (some .int) [(0, 15, 18, 13), (0, 15, 21, 72)] 2 := ⟨xmt5 88 (by decide +kernel) (by decide +kernel), xmt1 0 (by decide +kernel) (by decide +kernel), ⟨by decide +kernel, by decide +kernel⟩, by decide +kernel⟩
theorem xs_L_replays : Cond.static yL_replays ∈ xBIG := xmt5 87 (by decide +kernel) (by decide +kernel)
theorem xl_L_207 : Cond.methodLink RL 207 yX9_replays ∈ xBIG := xmt8 3 (by decide +kernel) (by decide +kernel)
theorem xk_X9_replays : xYk yX9_replays cX9_replays 1 (some .boolean) 0 := ⟨xmt8 6 (by decide +kernel) (by decide +kernel), xmt1 10 (by decide +kernel) (by decide +kernel), ⟨by decide +kernel, by decide +kernel⟩, by decide +kernel⟩
theorem xv_X9_replays : xYv yX9_replays := ⟨xmt8 4 (by decide +kernel) (by decide +kernel), xmt8 5 (by decide +kernel) (by decide +kernel)⟩
theorem xl_L_208 : Cond.methodLink RL 208 yL_recurs ∈ xBIG := xmt5 94 (by decide +kernel) (by decide +kernel)
theorem xkh_L_recurs : xYh yL_recurs cL_recurs 6 (some .int) [(0, 19, 22, 21), (0, 19, 26, 13)] 5 := ⟨xmt5 96 (by decide +kernel) (by decide +kernel), xmt1 0 (by decide +kernel) (by decide +kernel), ⟨by decide +kernel, by decide +kernel⟩, by decide +kernel⟩
theorem xs_L_recurs : Cond.static yL_recurs ∈ xBIG := xmt5 95 (by decide +kernel) (by decide +kernel)
theorem xl_L_211 : Cond.methodLink RL 211 yX9_recurs ∈ xBIG := xmt8 7 (by decide +kernel) (by decide +kernel)
theorem xl_L_212 : Cond.methodLink RL 212 yL_recursByTaking ∈ xBIG := xmt5 159 (by decide +kernel) (by decide +kernel)
theorem xkh_L_recursByTaking : xYh yL_recursByTaking cL_recursByTaking 5 (some .int) [(0, 17, 20, 21), (0, 17, 24, 13)] 4 := ⟨xmt5 161 (by decide +kernel) (by decide +kernel), xmt1 0 (by decide +kernel) (by decide +kernel), ⟨by decide +kernel, by decide +kernel⟩, by decide +kernel⟩
theorem xs_L_recursByTaking : Cond.static yL_recursByTaking ∈ xBIG := xmt5 160 (by decide +kernel) (by decide +kernel)
theorem xl_L_214 : Cond.methodLink RL 214 yX9_recursByTaking ∈ xBIG := xmt8 54 (by decide +kernel) (by decide +kernel)
theorem xk_X9_recursByTaking : xYk yX9_recursByTaking cX9_recursByTaking 3 (some .boolean) 2 := ⟨xmt8 57 (by decide +kernel) (by decide +kernel), xmt1 10 (by decide +kernel) (by decide +kernel), ⟨by decide +kernel, by decide +kernel⟩, by decide +kernel⟩
theorem xv_X9_recursByTaking : xYv yX9_recursByTaking := ⟨xmt8 55 (by decide +kernel) (by decide +kernel), xmt8 56 (by decide +kernel) (by decide +kernel)⟩
theorem xl_L_215 : Cond.methodLink RL 215 yL_comes ∈ xBIG := xmt5 184 (by decide +kernel) (by decide +kernel)
theorem xkh_L_comes : xYh yL_comes cL_comes 6 (some .int) [(0, 19, 22, 21), (0, 19, 26, 13)] 5 := ⟨xmt5 186 (by decide +kernel) (by decide +kernel), xmt1 0 (by decide +kernel) (by decide +kernel), ⟨by decide +kernel, by decide +kernel⟩, by decide +kernel⟩
theorem xs_L_comes : Cond.static yL_comes ∈ xBIG := xmt5 185 (by decide +kernel) (by decide +kernel)
theorem xl_L_217 : Cond.methodLink RL 217 yX9_comes ∈ xBIG := xmt8 59 (by decide +kernel) (by decide +kernel)
theorem xk_X9_comes : xYk yX9_comes cX9_comes 5 (some .boolean) 3 := ⟨xmt8 62 (by decide +kernel) (by decide +kernel), xmt1 10 (by decide +kernel) (by decide +kernel), ⟨by decide +kernel, by decide +kernel⟩, by decide +kernel⟩
theorem xv_X9_comes : xYv yX9_comes := ⟨xmt8 60 (by decide +kernel) (by decide +kernel), xmt8 61 (by decide +kernel) (by decide +kernel)⟩
theorem xl_L_218 : Cond.methodLink RL 218 yL_follows ∈ xBIG := xmt5 208 (by decide +kernel) (by decide +kernel)
theorem xkh_L_follows : xYh yL_follows cL_follows 8 (some .int) [(0, 23, 26, 21), (0, 23, 30, 13)] 7 := ⟨xmt5 210 (by decide +kernel) (by decide +kernel), xmt1 0 (by decide +kernel) (by decide +kernel), ⟨by decide +kernel, by decide +kernel⟩, by decide +kernel⟩
theorem xs_L_follows : Cond.static yL_follows ∈ xBIG := xmt5 209 (by decide +kernel) (by decide +kernel)
theorem xl_L_221 : Cond.methodLink RL 221 yX9_follows ∈ xBIG := xmt8 67 (by decide +kernel) (by decide +kernel)
theorem xk_X9_follows : xYk yX9_follows cX9_follows 7 (some .boolean) 5 := ⟨xmt8 70 (by decide +kernel) (by decide +kernel), xmt1 10 (by decide +kernel) (by decide +kernel), ⟨by decide +kernel, by decide +kernel⟩, by decide +kernel⟩
theorem xv_X9_follows : xYv yX9_follows := ⟨xmt8 68 (by decide +kernel) (by decide +kernel), xmt8 69 (by decide +kernel) (by decide +kernel)⟩
theorem xl_L_222 : Cond.methodLink RL 222 yL_distance ∈ xBIG := xmt5 219 (by decide +kernel) (by decide +kernel)
theorem xkh_L_distance : xYh yL_distance cL_distance 5 (some .int) [(0, 10, 13, 21), (0, 10, 17, 13), (0, 10, 21, 72)] 4 := ⟨xmt5 221 (by decide +kernel) (by decide +kernel), xmt1 0 (by decide +kernel) (by decide +kernel), ⟨by decide +kernel, by decide +kernel⟩, by decide +kernel⟩
theorem xs_L_distance : Cond.static yL_distance ∈ xBIG := xmt5 220 (by decide +kernel) (by decide +kernel)
theorem xl_L_224 : Cond.methodLink RL 224 yX9_distance ∈ xBIG := xmt8 71 (by decide +kernel) (by decide +kernel)
theorem xk_X9_distance : xYk yX9_distance cX9_distance 4 (some .int) 2 := ⟨xmt8 74 (by decide +kernel) (by decide +kernel), xmt1 10 (by decide +kernel) (by decide +kernel), ⟨by decide +kernel, by decide +kernel⟩, by decide +kernel⟩
theorem xv_X9_distance : xYv yX9_distance := ⟨xmt8 72 (by decide +kernel) (by decide +kernel), xmt8 73 (by decide +kernel) (by decide +kernel)⟩
theorem xl_L_225 : Cond.methodLink RL 225 yL_components ∈ xBIG := xmt5 231 (by decide +kernel) (by decide +kernel)
theorem xkh_L_components : xYh yL_components cL_components 3 (some .int) [(0, 8, 11, 13)] 2 := ⟨xmt5 233 (by decide +kernel) (by decide +kernel), xmt1 0 (by decide +kernel) (by decide +kernel), ⟨by decide +kernel, by decide +kernel⟩, by decide +kernel⟩
theorem xs_L_components : Cond.static yL_components ∈ xBIG := xmt5 232 (by decide +kernel) (by decide +kernel)
theorem xl_L_227 : Cond.methodLink RL 227 yX9_components ∈ xBIG := xmt8 75 (by decide +kernel) (by decide +kernel)
theorem xk_X9_components : xYk yX9_components cX9_components 2 (some .int) 0 := ⟨xmt8 78 (by decide +kernel) (by decide +kernel), xmt1 10 (by decide +kernel) (by decide +kernel), ⟨by decide +kernel, by decide +kernel⟩, by decide +kernel⟩
theorem xv_X9_components : xYv yX9_components := ⟨xmt8 76 (by decide +kernel) (by decide +kernel), xmt8 77 (by decide +kernel) (by decide +kernel)⟩
theorem xl_L_228 : Cond.methodLink RL 228 yL_meanMoves ∈ xBIG := xmt6 2 (by decide +kernel) (by decide +kernel)
theorem xkh_L_meanMoves : xYh yL_meanMoves cL_meanMoves 3 (some .int) [(0, 7, 10, 13)] 2 := ⟨xmt6 4 (by decide +kernel) (by decide +kernel), xmt1 0 (by decide +kernel) (by decide +kernel), ⟨by decide +kernel, by decide +kernel⟩, by decide +kernel⟩
theorem xs_L_meanMoves : Cond.static yL_meanMoves ∈ xBIG := xmt6 3 (by decide +kernel) (by decide +kernel)
theorem xl_L_231 : Cond.methodLink RL 231 yX9_meanMoves ∈ xBIG := xmt8 79 (by decide +kernel) (by decide +kernel)
theorem xk_X9_meanMoves : xYk yX9_meanMoves cX9_meanMoves 3 (some .double) 0 := ⟨xmt8 82 (by decide +kernel) (by decide +kernel), xmt1 10 (by decide +kernel) (by decide +kernel), ⟨by decide +kernel, by decide +kernel⟩, by decide +kernel⟩
theorem xv_X9_meanMoves : xYv yX9_meanMoves := ⟨xmt8 80 (by decide +kernel) (by decide +kernel), xmt8 81 (by decide +kernel) (by decide +kernel)⟩
theorem xl_L_232 : Cond.methodLink RL 232 yL_newShare ∈ xBIG := xmt6 14 (by decide +kernel) (by decide +kernel)
theorem xkh_L_newShare : xYh yL_newShare cL_newShare 3 (some .int) [(0, 8, 11, 13), (0, 8, 14, 125)] 2 := ⟨xmt6 16 (by decide +kernel) (by decide +kernel), xmt1 0 (by decide +kernel) (by decide +kernel), ⟨by decide +kernel, by decide +kernel⟩, by decide +kernel⟩
theorem xs_L_newShare : Cond.static yL_newShare ∈ xBIG := xmt6 15 (by decide +kernel) (by decide +kernel)
theorem xl_L_234 : Cond.methodLink RL 234 yX9_newShare ∈ xBIG := xmt8 83 (by decide +kernel) (by decide +kernel)
theorem xk_X9_newShare : xYk yX9_newShare cX9_newShare 1 (some .float) 0 := ⟨xmt8 86 (by decide +kernel) (by decide +kernel), xmt1 10 (by decide +kernel) (by decide +kernel), ⟨by decide +kernel, by decide +kernel⟩, by decide +kernel⟩
theorem xv_X9_newShare : xYv yX9_newShare := ⟨xmt8 84 (by decide +kernel) (by decide +kernel), xmt8 85 (by decide +kernel) (by decide +kernel)⟩
theorem xl_L_235 : Cond.methodLink RL 235 yX8_isSound ∈ xBIG := xmt2 119 (by decide +kernel) (by decide +kernel)
theorem xk_X8_isSound : xYk yX8_isSound cX8_isSound 1 (some .boolean) 0 := ⟨xmt2 122 (by decide +kernel) (by decide +kernel), xmt1 1 (by decide +kernel) (by decide +kernel), ⟨by decide +kernel, by decide +kernel⟩, by decide +kernel⟩
theorem xv_X8_isSound : xYv yX8_isSound := ⟨xmt2 120 (by decide +kernel) (by decide +kernel), xmt2 121 (by decide +kernel) (by decide +kernel)⟩
theorem xl_L_238 : Cond.methodLink RL 238 yX9_isSound ∈ xBIG := xmt8 87 (by decide +kernel) (by decide +kernel)
theorem xk_X9_isSound : xYk yX9_isSound cX9_isSound 1 (some .boolean) 0 := ⟨xmt8 90 (by decide +kernel) (by decide +kernel), xmt1 10 (by decide +kernel) (by decide +kernel), ⟨by decide +kernel, by decide +kernel⟩, by decide +kernel⟩
theorem xv_X9_isSound : xYv yX9_isSound := ⟨xmt8 88 (by decide +kernel) (by decide +kernel), xmt8 89 (by decide +kernel) (by decide +kernel)⟩

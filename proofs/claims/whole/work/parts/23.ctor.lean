/-! own kit: constructors, over worlds told as lists -/
def xNw (ca : Nat → ClassId) (U : State) : Prop := (∀ w ∈ xNest, va_Nw w U) ∧ U.vm.findClass "[I" = some (ca 0) ∧ U.vm.findClass "[J" = some (ca 1) ∧ U.vm.findClass "[Z" = some (ca 2) ∧ U.vm.findClass "[C" = some (ca 3) ∧ U.vm.findClass "[D" = some (ca 4)
theorem xNw.same {ca : Nat → ClassId} {U U' : State} (hvm : U'.vm = U.vm) (h : xNw ca U) : xNw ca U' := by
  obtain ⟨h1, h2, h3, h4, h5, h6⟩ := h
  refine ⟨fun w hw => ?_, by rw [hvm]; exact h2, by rw [hvm]; exact h3, by rw [hvm]; exact h4, by rw [hvm]; exact h5, by rw [hvm]; exact h6⟩
  have hn := (List.mem_filter.mp hw).2
  cases w <;> first | exact va_Nw.same rfl hvm.symm (h1 _ hw) | (simp [xisNest] at hn)
theorem xNw.at {ca : Nat → ClassId} {s U : State} (hW : s.WarmedH U.vm) (h : xNw ca s) : xNw ca U := by
  obtain ⟨h1, h2, h3, h4, h5, h6⟩ := h
  refine ⟨fun w hw => ?_, by rw [hW.alike.findClass]; exact h2, by rw [hW.alike.findClass]; exact h3, by rw [hW.alike.findClass]; exact h4, by rw [hW.alike.findClass]; exact h5, by rw [hW.alike.findClass]; exact h6⟩
  have hn := (List.mem_filter.mp hw).2
  cases w <;> first | exact va_Nw.warmF hW (h1 _ hw) | exact va_Nw.warmM hW (h1 _ hw) | exact va_Nw.warmC hW (h1 _ hw) | exact va_Nw.warmD hW (h1 _ hw) | (simp [xisNest] at hn)
def xPreB (D : va_G) (ca : Nat → ClassId) (av : List Value) (w0 : va_W) (sz : Nat) : Array Value → State → Prop := va_Pc av (fun U => U.heap.size = sz ∧ va_P D vwCl w0 U.heap ∧ va_K D vwCl (xtys ca) U ∧ va_D (fun _ => True) w0 ∧ xNw ca U)
def xPostB (D : va_G) (w0 : va_W) (sz : Nat) (post : va_W → Prop) : Array Value → State → Outcome → State → Prop := fun _ st oc t => (∃ w : va_W, oc = .returned none ∧ post w ∧ va_P D vwCl w t.heap ∧ va_D (va_A w0 sz) w) ∧ va_F (va_A w0 sz) st t
/-- the contract of a constructor -/
def xMB (l : Launch) (y : MethodName) (ws : List Cond) (rm : Room) (D : va_G) (ca : Nat → ClassId) (av : List Value) (w0 : va_W) (post : va_W → Prop) (mc ms : Nat) : Prop := ∀ sz : Nat, Met l y ws rm (xPreB D ca av w0 sz) (xPostB D w0 sz post) mc ms (va_A w0 sz)
theorem xPreB.blind {D : va_G} {ca : Nat → ClassId} {av : List Value} {w0 : va_W} {sz : Nat} : FrameBlind (xPreB D ca av w0 sz) := by
  intro a U g mk q
  obtain ⟨q0, q1, q2, q3, q4, q5⟩ := q
  exact ⟨q0, q1, q2, va_K.moved (u := U) (U := U.calling g mk a) (Vm.Alike.refl U.vm) q3, q4, xNw.same (U := U) (U' := U.calling g mk a) rfl q5⟩
section XB
variable {D : va_G} {ca : Nat → ClassId} {p : Program} {l : Launch} {e : Env} {R : Room} {s : State} {m : MethodId} {args : Array Value} {below : List Frame} {meth : Method} {c : Code} {A : Nat → Prop} {nL : Nat} {Q : State → Prop} {cells slots : Nat}
variable {cc : ByteArray} {own : String} {pc : Nat} {L : List (Nat × Value)} {st st0 : List Value} {ws : va_W}
def xB (D : va_G) (p : Program) (l : Launch) (e : Env) (R : Room) (s : State) (m : MethodId) (args : Array Value) (below : List Frame) (meth : Method) (c : Code) (A : Nat → Prop) (nL : Nat) (Q : State → Prop) (cells slots pc : Nat) (L : List (Nat × Value)) (st : List Value) (ws : va_W) : Prop :=
  ∀ (H : Heap) (locs : List Loc) (ls : Array Slot), va_P D vwCl ws H → va_D A ws → va_S A s.heap H locs → lv_has ls nL L → W p l e R s m args below meth c H locs cells slots Q (F0 m pc ls st)
def xCb (D : va_G) (ca : Nat → ClassId) (p : Program) (c : Code) (cc : ByteArray) (nL : Nat) (s : State) (args : Array Value) (own : String) (m : MethodId) (A : Nat → Prop) : Prop := CallFix p m c cc nL s args xBIG own ∧ va_K D vwCl (xtys ca) s ∧ (∀ q, s.heap.size ≤ q → A q) ∧ xNw ca s
theorem xb_iconst (C : xCb D ca p c cc nL s args own m A) {n v : Int} (d : decode cc pc = .ok (.iconst n, 1)) (hv : n = v) (k : xB D p l e R s m args below meth c A nL Q cells slots (pc + 1) L (.int (iN v) :: st) ws) : xB D p l e R s m args below meth c A nL Q cells slots pc L st ws := by
  intro H locs ls hP hD hS hl
  subst hv
  exact lv_iconst C.1.1 C.1.2.1 d rfl (k H locs ls hP hD hS hl)
theorem xb_bipush (C : xCb D ca p c cc nL s args own m A) {n v : Int} (d : decode cc pc = .ok (.bipush n, 2)) (hv : (Int8.ofInt n).toInt32 = iN v) (k : xB D p l e R s m args below meth c A nL Q cells slots (pc + 2) L (.int (iN v) :: st) ws) : xB D p l e R s m args below meth c A nL Q cells slots pc L st ws := by
  intro H locs ls hP hD hS hl
  exact lv_bipush C.1.1 C.1.2.1 d hv (k H locs ls hP hD hS hl)
theorem xb_sipush (C : xCb D ca p c cc nL s args own m A) {n v : Int} (d : decode cc pc = .ok (.sipush n, 3)) (hv : (Int16.ofInt n).toInt32 = iN v) (k : xB D p l e R s m args below meth c A nL Q cells slots (pc + 3) L (.int (iN v) :: st) ws) : xB D p l e R s m args below meth c A nL Q cells slots pc L st ws := by
  intro H locs ls hP hD hS hl
  exact lv_sipush C.1.1 C.1.2.1 d hv (k H locs ls hP hD hS hl)
theorem xb_ldc (C : xCb D ca p c cc nL s args own m A) {index : Nat} {w : Int32} {v : Int} (hw : Cond.constant own index w ∈ xBIG) (hv : w = iN v) (d : decode cc pc = .ok (.ldc index, 2)) (k : xB D p l e R s m args below meth c A nL Q cells slots (pc + 2) L (.int (iN v) :: st) ws) : xB D p l e R s m args below meth c A nL Q cells slots pc L st ws := by
  intro H locs ls hP hD hS hl
  subst hv
  exact lv_ldc C.1.1 C.1.2.1 C.1.2.2.2.1 (C.1.2.2.2.2 _ hw) d (k H locs ls hP hD hS hl)
theorem xb_aload_n (C : xCb D ca p c cc nL s args own m A) {n : Fin 4} {x : Nat} {i : Nat} (j : Nat) (d : decode cc pc = .ok (.aload_n n, 1)) (hi : (n : Nat) = i) (hj : L[j]? = some (i, .ref x)) (k : xB D p l e R s m args below meth c A nL Q cells slots (pc + 1) L (.ref x :: st) ws) : xB D p l e R s m args below meth c A nL Q cells slots pc L st ws := by
  intro H locs ls hP hD hS hl
  exact lv_aload_n C.1.1 C.1.2.1 d hi (lv_at hl j hj) (k H locs ls hP hD hS hl)
theorem xb_astore_n (C : xCb D ca p c cc nL s args own m A) {n : Fin 4} {x : Nat} {i : Nat} {L' : List (Nat × Value)} (d : decode cc pc = .ok (.astore_n n, 1)) (hi : (n : Nat) = i) (hn : i < nL) (hL : (i, Value.ref x) :: L.filter (fun q => !(q.1 == i) && !(q.1 + 1 == i && q.2.category == 2)) = L') (k : xB D p l e R s m args below meth c A nL Q cells slots (pc + 1) L' st ws) : xB D p l e R s m args below meth c A nL Q cells slots pc L (.ref x :: st) ws := by
  intro H locs ls hP hD hS hl
  exact lv_astore_n C.1.1 C.1.2.1 d hi hl hn hL (fun ls2 hl2 => k H locs ls2 hP hD hS hl2)
theorem xb_astore (C : xCb D ca p c cc nL s args own m A) {x : Nat} {i : Nat} {L' : List (Nat × Value)} (d : decode cc pc = .ok (.astore i, 2)) (hn : i < nL) (hL : (i, Value.ref x) :: L.filter (fun q => !(q.1 == i) && !(q.1 + 1 == i && q.2.category == 2)) = L') (k : xB D p l e R s m args below meth c A nL Q cells slots (pc + 2) L' st ws) : xB D p l e R s m args below meth c A nL Q cells slots pc L (.ref x :: st) ws := by
  intro H locs ls hP hD hS hl
  exact lv_astore C.1.1 C.1.2.1 d hl hn hL (fun ls2 hl2 => k H locs ls2 hP hD hS hl2)
theorem xb_istore (C : xCb D ca p c cc nL s args own m A) {x : Int32} {i : Nat} {L' : List (Nat × Value)} (d : decode cc pc = .ok (.istore i, 2)) (hn : i < nL) (hL : (i, Value.int x) :: L.filter (fun q => !(q.1 == i) && !(q.1 + 1 == i && q.2.category == 2)) = L') (k : xB D p l e R s m args below meth c A nL Q cells slots (pc + 2) L' st ws) : xB D p l e R s m args below meth c A nL Q cells slots pc L (.int x :: st) ws := by
  intro H locs ls hP hD hS hl
  exact lv_istore C.1.1 C.1.2.1 d hl hn hL (fun ls2 hl2 => k H locs ls2 hP hD hS hl2)
theorem xb_dup (C : xCb D ca p c cc nL s args own m A) {va : Value} (d : decode cc pc = .ok (.dup, 1)) (hv : va.category = 1) (k : xB D p l e R s m args below meth c A nL Q cells slots (pc + 1) L (va :: va :: st) ws) : xB D p l e R s m args below meth c A nL Q cells slots pc L (va :: st) ws := by
  intro H locs ls hP hD hS hl
  exact lv_dup C.1.1 C.1.2.1 d hv (k H locs ls hP hD hS hl)
theorem xb_getR (C : xCb D ca p c cc nL s args own m A) {index : Nat} {b ci : Nat} {Cn : String} {T : u_T} {N : Nat} {ty : Nat → FieldType} {fs : List Value} {v : Value} (hK : xKl ci Cn T N ty) (q : Nat) (hq : ws[q]? = some (b, .inr (ci, fs))) (kk : Nat) (hk : kk < N) (hl0 : Cond.fieldLink own index (T kk).1 (T kk).2.1 (T kk).2.2.1 ∈ xBIG) (hf : fs[kk]? = some v) (d : decode cc pc = .ok (.getfield index, 3)) (k : xB D p l e R s m args below meth c A nL Q cells slots (pc + 3) L (v :: st) ws) : xB D p l e R s m args below meth c A nL Q cells slots pc L (.ref b :: st) ws := by
  intro H locs ls hP hD hS hl
  exact va_get C.1.1 C.1.2.1 C.1.2.2.2.2 hK.2.1 C.1.2.2.2.1 C.2.1 hP q hq hK.1 kk hk (C.1.2.2.2.2 _ hl0) (fun x h => h) hf d (k H locs ls hP hD hS hl)
theorem xb_putF (C : xCb D ca p c cc nL s args own m A) (hin : meth.name = "<init>") {index : Nat} {b ci : Nat} {Cn : String} {T : u_T} {N : Nat} {ty : Nat → FieldType} {fs : List Value} {v : Value} (hK : xKl ci Cn T N ty) (q : Nat) (hq : ws[q]? = some (b, .inr (ci, fs))) (kk : Nat) (hk : kk < N) (hl0 : Cond.fieldLink own index (T kk).1 (T kk).2.1 (T kk).2.2.1 ∈ xBIG) (hfin : (T kk).2.2.2 = true) (hdecl : (T kk).1 = own) (hn : narrow (ty kk) v = v) (hfit : fits (ty kk) v = true) (hlen : kk < fs.length) (d : decode cc pc = .ok (.putfield index, 3)) (k : xB D p l e R s m args below meth c A nL Q cells slots (pc + 3) L st (ws.set q (b, .inr (ci, fs.set kk v)))) : xB D p l e R s m args below meth c A nL Q cells slots pc L (v :: .ref b :: st) ws := by
  intro H locs ls hP hD hS hl
  exact va_putF C.1.1 C.1.2.1 C.1.2.2.2.2 hK.2.1 ty hK.2.2.1 hK.2.2.2 C.1.2.2.2.1 C.2.1 hP hD hS q hq hK.1 kk hk (C.1.2.2.2.2 _ hl0) (fun _ h9 => h9) hfin hin hdecl (hK.2.2.1 kk hk) hn hfit hlen d (fun H1 locs1 hP1 hD1 hS1 => k H1 locs1 ls hP1 hD1 hS1 hl)
theorem xb_putO (C : xCb D ca p c cc nL s args own m A) {index : Nat} {b ci : Nat} {Cn : String} {T : u_T} {N : Nat} {ty : Nat → FieldType} {fs : List Value} {v : Value} (hK : xKl ci Cn T N ty) (q : Nat) (hq : ws[q]? = some (b, .inr (ci, fs))) (kk : Nat) (hk : kk < N) (hl0 : Cond.fieldLink own index (T kk).1 (T kk).2.1 (T kk).2.2.1 ∈ xBIG) (hfin : (T kk).2.2.2 = false) (hn : narrow (ty kk) v = v) (hfit : fits (ty kk) v = true) (hlen : kk < fs.length) (d : decode cc pc = .ok (.putfield index, 3)) (k : xB D p l e R s m args below meth c A nL Q cells slots (pc + 3) L st (ws.set q (b, .inr (ci, fs.set kk v)))) : xB D p l e R s m args below meth c A nL Q cells slots pc L (v :: .ref b :: st) ws := by
  intro H locs ls hP hD hS hl
  exact va_put C.1.1 C.1.2.1 C.1.2.2.2.2 hK.2.1 ty hK.2.2.1 hK.2.2.2 C.1.2.2.2.1 C.2.1 hP hD hS q hq hK.1 kk hk (C.1.2.2.2.2 _ hl0) (fun _ h9 => h9) hfin (hK.2.2.1 kk hk) hn hfit hlen d (fun H1 locs1 hP1 hD1 hS1 => k H1 locs1 ls hP1 hD1 hS1 hl)
theorem xb_newaI (C : xCb D ca p c cc nL s args own m A) (hw : Cond.arrayClass .int ∈ xBIG) {n : Nat} {v : Int} (hv : (n : Int) = v) (hn : n ≤ 60000000) (hf : cells + 1 ≤ R.cells ∧ slots + n ≤ R.slots) (d : decode cc pc = .ok (.newarray .int, 2)) (k : ∀ a : Nat, xB D p l e R s m args below meth c A nL Q (cells + 1) (slots + n) (pc + 2) L (.ref a :: st) (ws ++ [(a, .inl (ca 0, n, xrow 0 (fun _ => 0)))])) : xB D p l e R s m args below meth c A nL Q cells slots pc L (.int (iN v) :: st) ws := by
  subst hv
  rw [show xrow 0 (fun _ => 0) = .inl (fun _ => 0) from congrArg Sum.inl (funext fun _ => iN_0)] at k
  intro H locs ls hP hD hS hl
  have hn0 : ¬ iN (n : Int) < 0 := by rw [iN_nI]; exact nI_pos (by omega)
  have hnc : (iN (n : Int)).toNatClampNeg = n := by rw [iN_nI]; exact nI_clamp (by omega)
  refine va_newaK (atype := .int) C.1.1 C.1.2.1 (C.1.2.2.2.2 _ hw) rfl d rfl hn0 hnc (by show n * 4 ≤ _; omega) hf.1 hf.2 rfl (fun H1 cA e1 z1 o1 hAr hNm => ?_)
  have hcA : cA = ca 0 := by
    have h8 : s.vm.findClass "[I" = some cA := hNm
    exact Option.some.inj (h8.symm.trans C.2.2.2.2.1)
  subst hcA
  have hkk : ∀ (k : Nat) (x : Nat × va_E), ws[k]? = some x → H1[x.1]? = H[x.1]? := fun k x hx => o1 x.1 ((hP k x hx).lt)
  have hP1 : va_P D vwCl (ws ++ [(H.size, .inl (ca 0, n, .inl (fun _ => 0)))]) H1 := (hP.kept hkk).app (fun k x hx => by
    have hz : k < 1 := (List.getElem?_eq_some_iff.mp hx).1
    rw [show k = 0 by omega] at hx
    cases hx
    exact e1)
  have hD1 : va_D A (ws ++ [(H.size, .inl (ca 0, n, .inl (fun _ => 0)))]) := hD.push hP rfl (C.2.2.1 _ hS.1)
  have hS1 : va_S A s.heap H1 locs := ⟨Nat.le_trans hS.1 (by omega), fun x h1 h2 => (o1 x (Nat.lt_of_lt_of_le h1 hS.1)).trans (hS.2.1 x h1 h2), hS.2.2⟩
  exact k H.size H1 locs ls hP1 hD1 hS1 hl
theorem xb_newaJ (C : xCb D ca p c cc nL s args own m A) (hw : Cond.arrayClass .long ∈ xBIG) {n : Nat} {v : Int} (hv : (n : Int) = v) (hn : n ≤ 60000000) (hf : cells + 1 ≤ R.cells ∧ slots + n ≤ R.slots) (d : decode cc pc = .ok (.newarray .long, 2)) (k : ∀ a : Nat, xB D p l e R s m args below meth c A nL Q (cells + 1) (slots + n) (pc + 2) L (.ref a :: st) (ws ++ [(a, .inl (ca 1, n, xrow 1 (fun _ => 0)))])) : xB D p l e R s m args below meth c A nL Q cells slots pc L (.int (iN v) :: st) ws := by
  subst hv
  rw [show xrow 1 (fun _ => 0) = .inr (.inl (fun _ => 0)) from congrArg (fun z => Sum.inr (Sum.inl z)) (funext fun _ => jN_0)] at k
  intro H locs ls hP hD hS hl
  have hn0 : ¬ iN (n : Int) < 0 := by rw [iN_nI]; exact nI_pos (by omega)
  have hnc : (iN (n : Int)).toNatClampNeg = n := by rw [iN_nI]; exact nI_clamp (by omega)
  refine va_newaK (atype := .long) C.1.1 C.1.2.1 (C.1.2.2.2.2 _ hw) rfl d rfl hn0 hnc (by show n * 8 ≤ _; omega) hf.1 hf.2 rfl (fun H1 cA e1 z1 o1 hAr hNm => ?_)
  have hcA : cA = ca 1 := by
    have h8 : s.vm.findClass "[J" = some cA := hNm
    exact Option.some.inj (h8.symm.trans C.2.2.2.2.2.1)
  subst hcA
  have hkk : ∀ (k : Nat) (x : Nat × va_E), ws[k]? = some x → H1[x.1]? = H[x.1]? := fun k x hx => o1 x.1 ((hP k x hx).lt)
  have hP1 : va_P D vwCl (ws ++ [(H.size, .inl (ca 1, n, .inr (.inl (fun _ => 0))))]) H1 := (hP.kept hkk).app (fun k x hx => by
    have hz : k < 1 := (List.getElem?_eq_some_iff.mp hx).1
    rw [show k = 0 by omega] at hx
    cases hx
    exact e1)
  have hD1 : va_D A (ws ++ [(H.size, .inl (ca 1, n, .inr (.inl (fun _ => 0))))]) := hD.push hP rfl (C.2.2.1 _ hS.1)
  have hS1 : va_S A s.heap H1 locs := ⟨Nat.le_trans hS.1 (by omega), fun x h1 h2 => (o1 x (Nat.lt_of_lt_of_le h1 hS.1)).trans (hS.2.1 x h1 h2), hS.2.2⟩
  exact k H.size H1 locs ls hP1 hD1 hS1 hl
theorem xb_newaZ (C : xCb D ca p c cc nL s args own m A) (hw : Cond.arrayClass .boolean ∈ xBIG) {n : Nat} {v : Int} (hv : (n : Int) = v) (hn : n ≤ 60000000) (hf : cells + 1 ≤ R.cells ∧ slots + n ≤ R.slots) (d : decode cc pc = .ok (.newarray .boolean, 2)) (k : ∀ a : Nat, xB D p l e R s m args below meth c A nL Q (cells + 1) (slots + n) (pc + 2) L (.ref a :: st) (ws ++ [(a, .inl (ca 2, n, xrow 2 (fun _ => 0)))])) : xB D p l e R s m args below meth c A nL Q cells slots pc L (.int (iN v) :: st) ws := by
  subst hv
  rw [show xrow 2 (fun _ => 0) = .inl (fun _ => 0) from congrArg Sum.inl (funext fun _ => iN_0)] at k
  intro H locs ls hP hD hS hl
  have hn0 : ¬ iN (n : Int) < 0 := by rw [iN_nI]; exact nI_pos (by omega)
  have hnc : (iN (n : Int)).toNatClampNeg = n := by rw [iN_nI]; exact nI_clamp (by omega)
  refine va_newaK (atype := .boolean) C.1.1 C.1.2.1 (C.1.2.2.2.2 _ hw) rfl d rfl hn0 hnc (by show n * 1 ≤ _; omega) hf.1 hf.2 rfl (fun H1 cA e1 z1 o1 hAr hNm => ?_)
  have hcA : cA = ca 2 := by
    have h8 : s.vm.findClass "[Z" = some cA := hNm
    exact Option.some.inj (h8.symm.trans C.2.2.2.2.2.2.1)
  subst hcA
  have hkk : ∀ (k : Nat) (x : Nat × va_E), ws[k]? = some x → H1[x.1]? = H[x.1]? := fun k x hx => o1 x.1 ((hP k x hx).lt)
  have hP1 : va_P D vwCl (ws ++ [(H.size, .inl (ca 2, n, .inl (fun _ => 0)))]) H1 := (hP.kept hkk).app (fun k x hx => by
    have hz : k < 1 := (List.getElem?_eq_some_iff.mp hx).1
    rw [show k = 0 by omega] at hx
    cases hx
    exact e1)
  have hD1 : va_D A (ws ++ [(H.size, .inl (ca 2, n, .inl (fun _ => 0)))]) := hD.push hP rfl (C.2.2.1 _ hS.1)
  have hS1 : va_S A s.heap H1 locs := ⟨Nat.le_trans hS.1 (by omega), fun x h1 h2 => (o1 x (Nat.lt_of_lt_of_le h1 hS.1)).trans (hS.2.1 x h1 h2), hS.2.2⟩
  exact k H.size H1 locs ls hP1 hD1 hS1 hl
theorem xb_newaC (C : xCb D ca p c cc nL s args own m A) (hw : Cond.arrayClass .char ∈ xBIG) {n : Nat} {v : Int} (hv : (n : Int) = v) (hn : n ≤ 60000000) (hf : cells + 1 ≤ R.cells ∧ slots + n ≤ R.slots) (d : decode cc pc = .ok (.newarray .char, 2)) (k : ∀ a : Nat, xB D p l e R s m args below meth c A nL Q (cells + 1) (slots + n) (pc + 2) L (.ref a :: st) (ws ++ [(a, .inl (ca 3, n, xrow 3 (fun _ => 0)))])) : xB D p l e R s m args below meth c A nL Q cells slots pc L (.int (iN v) :: st) ws := by
  subst hv
  rw [show xrow 3 (fun _ => 0) = .inl (fun _ => 0) from congrArg Sum.inl (funext fun _ => iN_0)] at k
  intro H locs ls hP hD hS hl
  have hn0 : ¬ iN (n : Int) < 0 := by rw [iN_nI]; exact nI_pos (by omega)
  have hnc : (iN (n : Int)).toNatClampNeg = n := by rw [iN_nI]; exact nI_clamp (by omega)
  refine va_newaK (atype := .char) C.1.1 C.1.2.1 (C.1.2.2.2.2 _ hw) rfl d rfl hn0 hnc (by show n * 2 ≤ _; omega) hf.1 hf.2 rfl (fun H1 cA e1 z1 o1 hAr hNm => ?_)
  have hcA : cA = ca 3 := by
    have h8 : s.vm.findClass "[C" = some cA := hNm
    exact Option.some.inj (h8.symm.trans C.2.2.2.2.2.2.2.1)
  subst hcA
  have hkk : ∀ (k : Nat) (x : Nat × va_E), ws[k]? = some x → H1[x.1]? = H[x.1]? := fun k x hx => o1 x.1 ((hP k x hx).lt)
  have hP1 : va_P D vwCl (ws ++ [(H.size, .inl (ca 3, n, .inl (fun _ => 0)))]) H1 := (hP.kept hkk).app (fun k x hx => by
    have hz : k < 1 := (List.getElem?_eq_some_iff.mp hx).1
    rw [show k = 0 by omega] at hx
    cases hx
    exact e1)
  have hD1 : va_D A (ws ++ [(H.size, .inl (ca 3, n, .inl (fun _ => 0)))]) := hD.push hP rfl (C.2.2.1 _ hS.1)
  have hS1 : va_S A s.heap H1 locs := ⟨Nat.le_trans hS.1 (by omega), fun x h1 h2 => (o1 x (Nat.lt_of_lt_of_le h1 hS.1)).trans (hS.2.1 x h1 h2), hS.2.2⟩
  exact k H.size H1 locs ls hP1 hD1 hS1 hl
theorem xb_newaD (C : xCb D ca p c cc nL s args own m A) (hw : Cond.arrayClass .double ∈ xBIG) {n : Nat} {v : Int} (hv : (n : Int) = v) (hn : n ≤ 60000000) (hf : cells + 1 ≤ R.cells ∧ slots + n ≤ R.slots) (d : decode cc pc = .ok (.newarray .double, 2)) (k : ∀ a : Nat, xB D p l e R s m args below meth c A nL Q (cells + 1) (slots + n) (pc + 2) L (.ref a :: st) (ws ++ [(a, .inl (ca 4, n, xrow 4 (fun _ => 0)))])) : xB D p l e R s m args below meth c A nL Q cells slots pc L (.int (iN v) :: st) ws := by
  subst hv
  rw [show xrow 4 (fun _ => 0) = .inr (.inr (.inr (.inl (fun _ => 0)))) from congrArg (fun z => Sum.inr (Sum.inr (Sum.inr (Sum.inl z)))) (funext fun _ => (show (jN 0).toUInt64 = 0 by rw [jN_0]; rfl))] at k
  intro H locs ls hP hD hS hl
  have hn0 : ¬ iN (n : Int) < 0 := by rw [iN_nI]; exact nI_pos (by omega)
  have hnc : (iN (n : Int)).toNatClampNeg = n := by rw [iN_nI]; exact nI_clamp (by omega)
  refine va_newaK (atype := .double) C.1.1 C.1.2.1 (C.1.2.2.2.2 _ hw) rfl d rfl hn0 hnc (by show n * 8 ≤ _; omega) hf.1 hf.2 rfl (fun H1 cA e1 z1 o1 hAr hNm => ?_)
  have hcA : cA = ca 4 := by
    have h8 : s.vm.findClass "[D" = some cA := hNm
    exact Option.some.inj (h8.symm.trans C.2.2.2.2.2.2.2.2)
  subst hcA
  have hkk : ∀ (k : Nat) (x : Nat × va_E), ws[k]? = some x → H1[x.1]? = H[x.1]? := fun k x hx => o1 x.1 ((hP k x hx).lt)
  have hP1 : va_P D vwCl (ws ++ [(H.size, .inl (ca 4, n, .inr (.inr (.inr (.inl (fun _ => 0))))))]) H1 := (hP.kept hkk).app (fun k x hx => by
    have hz : k < 1 := (List.getElem?_eq_some_iff.mp hx).1
    rw [show k = 0 by omega] at hx
    cases hx
    exact e1)
  have hD1 : va_D A (ws ++ [(H.size, .inl (ca 4, n, .inr (.inr (.inr (.inl (fun _ => 0))))))]) := hD.push hP rfl (C.2.2.1 _ hS.1)
  have hS1 : va_S A s.heap H1 locs := ⟨Nat.le_trans hS.1 (by omega), fun x h1 h2 => (o1 x (Nat.lt_of_lt_of_le h1 hS.1)).trans (hS.2.1 x h1 h2), hS.2.2⟩
  exact k H.size H1 locs ls hP1 hD1 hS1 hl
theorem xb_new (C : xCb D ca p c cc nL s args own m A) {index ci N : Nat} {Cn : String} {T : u_T} {ty : Nat → FieldType} {fs : List Value} (hK : xKl ci Cn T N ty) (hcl : Cond.classLink own index Cn ∈ xBIG) (hinst : Cond.instantiable Cn N ∈ xBIG) (hini : Cond.initialized Cn ∈ xBIG) (hfs : ∀ j, j < N → defaultValue (ty j) = vp_V fs j) (hf : cells + 1 ≤ R.cells ∧ slots + N ≤ R.slots) (d : decode cc pc = .ok (.new index, 3)) (k : ∀ q : Nat, xB D p l e R s m args below meth c A nL Q (cells + 1) (slots + N) (pc + 3) L (.ref q :: st) (ws ++ [(q, .inr (ci, fs))])) : xB D p l e R s m args below meth c A nL Q cells slots pc L st ws := by
  intro H locs ls hP hD hS hl
  exact va_new C.1.1 C.1.2.1 C.1.2.2.2.2 hK.2.1 ty hK.2.2.1 C.1.2.2.2.1 (C.1.2.2.2.2 _ hcl) (C.1.2.2.2.2 _ hinst) (C.1.2.2.2.2 _ hini) C.2.1 hP hD hS C.2.2.1 hK.1 hfs hf.1 hf.2 d (fun q H1 hP1 hD1 hS1 => k q H1 locs ls hP1 hD1 hS1 hl)
theorem xb_objInit (C : xCb D ca p c cc nL s args own m A) {index : Nat} {b : Nat} (hl0 : Cond.methodLink own index objectInit ∈ xBIG) (h1 : Cond.instanceMethod objectInit ∈ xBIG) (h2 : Cond.code objectInit ⟨#[0xb1]⟩ 1 none ∈ xBIG) (d : decode cc pc = .ok (.invokespecial index, 3)) (hR : 1 ≤ R.frames ∧ (st.map fun v => v.category).sum + 12 ≤ R.locals) (k : xB D p l e R s m args below meth c A nL Q cells slots (pc + 3) L st ws) : xB D p l e R s m args below meth c A nL Q cells slots pc L (.ref b :: st) ws := by
  intro H locs ls hP hD hS hl
  refine W.objInit C.1.1 C.1.2.1 C.1.2.2.2.1 (C.1.2.2.2.2 _ hl0) (C.1.2.2.2.2 _ h1) (C.1.2.2.2.2 _ h2) rfl (by rw [C.1.2.2.1]; exact hl.1) rfl d hR.1 (by have := hR.2; show 2 * 0 + _ + 12 ≤ _; omega) (W.eq (g2 := F0 m (pc + 3) ls st) rfl (k H locs ls hP hD hS hl))
theorem xb_run (C : xCb D ca p c cc nL s args own m A) {mc ms i : Nat} {b : Nat} {e0 : va_E} {post : va_W → Prop} {wr : va_W} (isR : List Nat) (hi : ws[i]? = some (b, e0)) (hRr : isR.map (fun j => ws[j]?) = wr.map some) (hnd : va_nd isR = true) (hdis : ∀ j ∈ isR, j ∉ [i]) {a : Array Value}
    (hr : ∀ (H : Heap) (locs : List Loc) (ls : Array Slot), va_P D vwCl [(b, e0)] H → va_D (fun _ => True) [(b, e0)] → lv_has ls nL L → va_Run p l e R s m args below meth c H locs cells slots mc ms (F0 m pc ls st0) st (xPostB D [(b, e0)] H.size post a) (va_A [(b, e0)] H.size))
    (k : ∀ w1, post w1 → xB D p l e R s m args below meth c A nL Q (cells + mc) (slots + ms) (pc + 3) L st (wr ++ w1)) : xB D p l e R s m args below meth c A nL Q cells slots pc L st0 ws := by
  intro H locs ls hP hD hS hls
  have hPc := hP.sub (ws' := [(b, e0)]) [i] (by simp [hi])
  have hDc := hD.sub (ws' := [(b, e0)]) [i] rfl (by simp [hi])
  have hFc := va_free (wc := [(b, e0)]) hD hS C.2.2.1 [i] (by simp [hi])
  intro T hT X
  obtain ⟨v, st₀, t, T', LL, h0, X', hL, e1, e2, ⟨⟨w1, hv, hp, hPw, hDw⟩, hF⟩, stp⟩ := hr H locs ls hPc (hDc.weaken (fun _ _ _ _ => trivial)) hls T hT X
  cases hv
  obtain ⟨hz, hk⟩ := hF
  rw [h0] at hz hk
  obtain ⟨hP2, hD2⟩ := va_join (wr := wr) (w1 := w1) (H := H) (H1 := T'.heap) hP hD [i] isR (by simp [hi]) hRr hnd hdis (fun q _ h2 => by rw [e1]; exact hk q ‹_› h2) hFc (by rw [e1]; exact hPw) hDw
  have hS2 : va_S A s.heap T'.heap (locs ++ LL) := by
    refine ⟨Nat.le_trans hS.1 (by rw [e1]; exact hz), fun q h1 h2 => ?_, fun q hq => ?_⟩
    · rw [e1, hk q (Nat.lt_of_lt_of_le h1 hS.1) (fun z => h2 (hFc q z))]
      exact hS.2.1 q h1 h2
    · rcases List.mem_append.mp hq with h | h
      · exact hS.2.2 q h
      · exact hFc _ (hL q h)
  obtain ⟨t2, a1, b1⟩ := k w1 hp T'.heap (locs ++ LL) ls hP2 hD2 hS2 hls T' rfl X'
  exact ⟨t2, stp t2 a1, b1⟩
theorem xPreB.make (C : xCb D ca p c cc nL s args own m A) {H : Heap} {w0 : va_W} (hP : va_P D vwCl w0 H) (hD : va_D (fun _ => True) w0) (av : List Value) : ∀ U : State, U.heap = H → s.WarmedH U.vm → xPreB D ca av w0 H.size av.toArray U := fun U hU hW => ⟨rfl, by rw [hU], by rw [hU]; exact hP, va_K.moved hW.alike C.2.1, hD, C.2.2.2.at hW⟩
theorem xb_call (C : xCb D ca p c cc nL s args own m A) {y : MethodName} {bytes : ByteArray} {maxL n index mc ms f lo i b : Nat} {As : List Value} {e0 : va_E} {post : va_W → Prop} {wr : va_W} (isR : List Nat) (hM : xMB l y (xws y bytes maxL none) ({ frames := f, cells := mc, slots := ms, locals := lo }) D ca (.ref b :: As) [(b, e0)] post mc ms) (hi : ws[i]? = some (b, e0)) (hRr : isR.map (fun j => ws[j]?) = wr.map some) (hnd : va_nd isR = true) (hdis : ∀ j ∈ isR, j ∉ [i])
    (hy : xYk y bytes maxL none n) (hy1 : y.name = "<init>") (hin : Cond.instanceMethod y ∈ xBIG) (hl : Cond.methodLink own index y ∈ xBIG) (hR : f + 1 ≤ R.frames ∧ 8 + (maxL + 11) + lo ≤ R.locals) (hn : As.length = n) (hst : st0 = As.reverse ++ .ref b :: st) (hcat : (st.map fun v => v.category).sum ≤ 8) (hf : cells + mc ≤ R.cells ∧ slots + ms ≤ R.slots) (d : decode cc pc = .ok (.invokespecial index, 3))
    (k : ∀ w1, post w1 → xB D p l e R s m args below meth c A nL Q (cells + mc) (slots + ms) (pc + 3) L st (wr ++ w1)) : xB D p l e R s m args below meth c A nL Q cells slots pc L st0 ws := by
  subst hst
  have hts := C.1.2.2.2.2
  refine xb_run C isR hi hRr hnd hdis (a := (Value.ref b :: As).toArray) (fun H locs ls hP hD hls => ?_) k
  have cb : CallB R s args own index y bytes maxL none (xws y bytes maxL none) ({ frames := f, cells := mc, slots := ms, locals := lo }) mc ms n := callB_of n hts (xgoodW hy.1) rfl rfl rfl (hts _ hy.2.1) (hts _ hl) ⟨hy.2.2.1.1, hy.2.2.1.2, hy.2.2.2⟩ hR
  exact va_runI C.1 (hM H.size) ⟨cb, hy1, hts _ hin⟩ ⟨xPreB.blind, xPreB.make C hP hD _⟩ rfl hn hls.1 rfl (lv_room hcat) d hf
theorem xb_callN (C : xCb D ca p c cc nL s args own m A) {y : MethodName} {bytes : ByteArray} {host : String} {maxL n index mc ms f lo i b : Nat} {As : List Value} {e0 : va_E} {post : va_W → Prop} {wr : va_W} (isR : List Nat) (hM : xMB l y (xws y bytes maxL none) ({ frames := f, cells := mc, slots := ms, locals := lo }) D ca (.ref b :: As) [(b, e0)] post mc ms) (hi : ws[i]? = some (b, e0)) (hRr : isR.map (fun j => ws[j]?) = wr.map some) (hnd : va_nd isR = true) (hdis : ∀ j ∈ isR, j ∉ [i])
    (hy : xYk y bytes maxL none n) (hy1 : y.name = "<init>") (hin : Cond.instanceMethod y ∈ xBIG) (hl : Cond.methodLinkNest own index y host ∈ xNest) (hR : f + 1 ≤ R.frames ∧ 8 + (maxL + 11) + lo ≤ R.locals) (hn : As.length = n) (hst : st0 = As.reverse ++ .ref b :: st) (hcat : (st.map fun v => v.category).sum ≤ 8) (hf : cells + mc ≤ R.cells ∧ slots + ms ≤ R.slots) (d : decode cc pc = .ok (.invokespecial index, 3))
    (k : ∀ w1, post w1 → xB D p l e R s m args below meth c A nL Q (cells + mc) (slots + ms) (pc + 3) L st (wr ++ w1)) : xB D p l e R s m args below meth c A nL Q cells slots pc L st0 ws := by
  subst hst
  have hts := C.1.2.2.2.2
  refine xb_run C isR hi hRr hnd hdis (a := (Value.ref b :: As).toArray) (fun H locs ls hP hD hls => ?_) k
  have cn : va_CN R s args own index y host bytes maxL none (xws y bytes maxL none) ({ frames := f, cells := mc, slots := ms, locals := lo }) mc ms n := va_cnB n hts (xgoodW hy.1) rfl rfl rfl (C.2.2.2.1 _ hl) (hts _ hy.2.1) ⟨hy.2.2.1.1, hy.2.2.1.2, hy.2.2.2⟩ hR
  exact va_runIN C.1 (hM H.size) ⟨cn, hy1, hts _ hin⟩ ⟨xPreB.blind, xPreB.make C hP hD _⟩ rfl hn hls.1 rfl (lv_room hcat) d hf
theorem xb_ret {w0 : va_W} {post : va_W → Prop} {mc ms : Nat} (C : xCb D ca p c cc nL s args own m A) (hA : A = va_A w0 s.heap.size) (hZ : Q = MQ below (xPostB D w0 s.heap.size post) args s mc ms A) (hr : meth.sig.returnType = none) (hlocks : meth.locks = false) (d : decode cc pc = .ok (.return_, 1)) (hc : cells ≤ mc) (hs : slots ≤ ms) (hq : post ws) : xB D p l e R s m args below meth c A nL Q cells slots pc L [] ws := by
  intro H locs ls hP hD hS hls
  subst hZ
  refine W.widen hc hs ?_
  subst hA
  exact W.vret C.1.1 C.1.2.1 hr (fun t ht hW => ⟨⟨ws, rfl, hq, by rw [ht]; exact hP, hD⟩, hS.F ht⟩) (fun q hq => hS.2.2 q hq) d hlocks
theorem xmB_of {y : MethodName} {rm : Room} {av : List Value} {w0 : va_W} {post : va_W → Prop} {mc ms maxL : Nat} (own : String) (hown : y.cls = own) (hy : plainName y.cls = true) (hnm : y.name = "<init>") (hav : (lg_sl av).length ≤ maxL)
    (body : ∀ (p : Program) (e : Env) (s : State) (m : MethodId) (args : Array Value) (below : List Frame) (meth : Method) (c : Code) (A : Nat → Prop) (Z : State → Prop), xCb D ca p c cc maxL s args own m A → A = va_A w0 s.heap.size → Z = MQ below (xPostB D w0 s.heap.size post) args s mc ms A → meth.sig.returnType = none → meth.locks = false → meth.name = "<init>" →
      xB D p l e rm s m args below meth c A maxL Z 0 0 0 (lv_args 0 av) [] w0) : xMB l y (xws y cc maxL none) rm D ca av w0 post mc ms := by
  intro sz
  refine Met.ofW (cc := cc) (maxL := maxL) (ret := none) hy rfl ?_
  intro p e s m args below meth c s₁ B hml hv
  obtain ⟨rfl, hsz, hP, hK, hD, hN⟩ := hv
  subst hsz
  have hts := atoms_spec (ws := xws y cc maxL none) B.pre
  have hl := lv_entry av hav
  have hin : meth.name = "<init>" := (name_of_methodNamed B.named B.method).1.trans hnm
  rw [lg_entry_eq]
  exact body p e s m _ below meth c (va_A w0 s.heap.size) _ ⟨⟨B.exec, B.bytes, hml, hown ▸ findClass_of_methodNamed B.named, fun w h => hts w (List.mem_cons_of_mem _ h)⟩, hK, fun q h => Or.inr h, hN⟩ rfl rfl B.returns B.notSynchronized hin s.heap [] _ hP hD.self va_S.rf hl
end XB

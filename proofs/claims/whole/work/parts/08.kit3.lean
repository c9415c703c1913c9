/-! own kit: contracts over plain states, calls, ends -/
def xPre (G : xG) (av : List Value) (S : xS) (sz : Nat) : Array Value → State → Prop := va_Pc av (fun U => U.heap.size = sz ∧ xval G S ∧ va_P G.1 vwCl (xwd G S) U.heap ∧ va_K G.1 vwCl (xtys G.2.1) U ∧ va_D (fun _ => True) (xwd G S) ∧ xE (va_A (xwd G S) sz) G.2.2.2.2.1 (G.2.1 0) U)
def xPost (G : xG) (S : xS) (sz : Nat) (Q : Option Value → xS → Prop) : Array Value → State → Outcome → State → Prop := fun _ st oc t => (∃ (r : Option Value) (S' : xS), oc = .returned r ∧ Q r S' ∧ xval G S' ∧ va_P G.1 vwCl (xwd G S') t.heap ∧ va_D (va_A (xwd G S) sz) (xwd G S')) ∧ va_F (va_A (xwd G S) sz) st t
/-- the contract of a method that returns -/
def xM (l : Launch) (y : MethodName) (ws : List Cond) (rm : Room) (G : xG) (av : List Value) (S : xS) (Q : Option Value → xS → Prop) (mc ms : Nat) : Prop := ∀ sz : Nat, Met l y ws rm (xPre G av S sz) (xPost G S sz Q) mc ms (va_A (xwd G S) sz)
def xPostX (G : xG) (S : xS) (sz : Nat) (QX : String → xS → Prop) : String → State → State → Prop := fun E st t => (∃ S' : xS, QX E S' ∧ xval G S' ∧ va_P G.1 vwCl (xwd G S') t.heap ∧ va_D (va_A (xwd G S) sz) (xwd G S')) ∧ va_F (va_A (xwd G S) sz) st t
/-- the contract of a method that returns or throws -/
def xMX (l : Launch) (y : MethodName) (ws : List Cond) (rm : Room) (G : xG) (av : List Value) (S : xS) (Q : Option Value → xS → Prop) (QX : String → xS → Prop) (mc ms : Nat) : Prop := ∀ sz : Nat, vx_Met l y ws rm (xPre G av S sz) (xPost G S sz Q) (xPostX G S sz QX) mc ms (va_A (xwd G S) sz)
abbrev xQi (Q : Int → xS → Prop) : Option Value → xS → Prop := fun r S' => ∃ x : Int, r = some (.int (iN x)) ∧ xR x ∧ Q x S'
abbrev xQj (Q : Int → xS → Prop) : Option Value → xS → Prop := fun r S' => ∃ x : Int, r = some (.long (jN x)) ∧ xRJ x ∧ Q x S'
abbrev xQv (Q : xS → Prop) : Option Value → xS → Prop := fun r S' => r = none ∧ Q S'
theorem xPre.blind {G : xG} {av : List Value} {S : xS} {sz : Nat} : FrameBlind (xPre G av S sz) := by
  intro a U g mk q
  obtain ⟨q0, q1, q2, q3, q4, q5, q6⟩ := q
  exact ⟨q0, q1, q2, q3, va_K.moved (u := U) (U := U.calling g mk a) (Vm.Alike.refl U.vm) q4, q5, xE.same (U := U) (U' := U.calling g mk a) rfl rfl q6⟩
section XK
variable {G : xG} {p : Program} {l : Launch} {e : Env} {R : Room} {s : State} {m : MethodId} {args : Array Value} {below : List Frame} {meth : Method} {c : Code} {A : Nat → Prop} {nL : Nat} {Q : State → Prop} {cells slots : Nat}
variable {cc : ByteArray} {own : String} {pc : Nat} {L : List (Nat × Value)} {st st0 : List Value} {S : xS}
theorem xA_in (C : xC G p c cc nL s args own m A) {H : Heap} {locs : List Loc} {S : xS} (hD : va_D A (xwd G S)) (hS : va_S A s.heap H locs) : ∀ q, va_A (xwd G S) H.size q → A q := by
  intro q h
  rcases h with ⟨k, e, h⟩ | h
  · exact hD.2 k (q, e) h
  · exact C.2.2.1 q (Nat.le_trans hS.1 h)
theorem xPre.make (C : xC G p c cc nL s args own m A) {H : Heap} {locs : List Loc} (hw : xval G S) (hP : va_P G.1 vwCl (xwd G S) H) (hD : va_D A (xwd G S)) (hS : va_S A s.heap H locs) (av : List Value) : ∀ U : State, U.heap = H → s.WarmedH U.vm → xPre G av S H.size av.toArray U := by
  intro U hU hW
  refine ⟨rfl, by rw [hU], hw, by rw [hU]; exact hP, va_K.moved hW.alike C.2.1, hD.weaken (fun _ _ _ _ => trivial), xE.at hW C.2.2.2 (fun a h1 h2 => by rw [hU]; exact hS.2.1 a h1 h2) (xA_in C hD hS)⟩
theorem xc_keep (C : xC G p c cc nL s args own m A) {H : Heap} {locs LL : List Loc} {S S' : xS} {t : State} {T' : State} {st₀ : State} (hD : va_D A (xwd G S)) (hS : va_S A s.heap H locs) (h0 : st₀.heap = H) (e1 : T'.heap = t.heap) (hF : va_F (va_A (xwd G S) H.size) st₀ t) (hd : va_D (va_A (xwd G S) H.size) (xwd G S')) (hL : ∀ q ∈ LL, va_A (xwd G S) H.size q.base) : va_D A (xwd G S') ∧ va_S A s.heap T'.heap (locs ++ LL) := by
  obtain ⟨hz, hk⟩ := hF
  rw [h0] at hz hk
  have hA := xA_in C hD hS
  refine ⟨hd.weaken (fun _ q _ h => hA q.1 h), Nat.le_trans hS.1 (by rw [e1]; exact hz), fun q h1 h2 => ?_, fun q hq => ?_⟩
  · rw [e1, hk q (Nat.lt_of_lt_of_le h1 hS.1) (fun z => h2 (hA q z))]
    exact hS.2.1 q h1 h2
  · rcases List.mem_append.mp hq with h | h
    · exact hS.2.2 q h
    · exact hA _ (hL q h)
theorem xc_run (C : xC G p c cc nL s args own m A) {mc ms : Nat} {Qm : Option Value → xS → Prop} {a : Array Value}
    (hr : ∀ (H : Heap) (locs : List Loc) (ls : Array Slot), va_P G.1 vwCl (xwd G S) H → va_D A (xwd G S) → va_S A s.heap H locs → lv_has ls nL L → va_Run p l e R s m args below meth c H locs cells slots mc ms (F0 m pc ls st0) st (xPost G S H.size Qm a) (va_A (xwd G S) H.size))
    (k : ∀ (r : Option Value) (S' : xS), Qm r S' → xval G S' → xV G p l e R s m args below meth c A nL Q (cells + mc) (slots + ms) (pc + 3) L (r.toList ++ st) S') : xV G p l e R s m args below meth c A nL Q cells slots pc L st0 S := by
  intro H locs ls hP hD hS hl T hT X
  obtain ⟨v, st₀, t, T', LL, h0, X', hL, e1, e2, ⟨⟨r, S', hv, hq, hval, hp, hd⟩, hF⟩, stp⟩ := hr H locs ls hP hD hS hl T hT X
  cases hv
  obtain ⟨k1, k2⟩ := xc_keep C hD hS h0 e1 hF hd hL
  obtain ⟨t2, a1, b1⟩ := k v S' hq hval T'.heap (locs ++ LL) ls (by rw [e1]; exact hp) k1 k2 hl T' rfl X'
  exact ⟨t2, stp t2 a1, b1⟩
/-- a callee's words -/
def xYk (y : MethodName) (bytes : ByteArray) (maxL : Nat) (ret : Option FieldType) (n : Nat) : Prop := Cond.code y bytes maxL ret ∈ xBIG ∧ Cond.initialized y.cls ∈ xBIG ∧ (y.cls ≠ "java/lang/invoke/MethodHandle" ∧ y.cls ≠ "java/lang/invoke/VarHandle") ∧ (parseMethodDescriptor y.desc).map (fun d => d.parameters.length) = some n
def xYv (y : MethodName) : Prop := Cond.instanceMethod y ∈ xBIG ∧ Cond.selects y.cls y y ∈ xBIG
theorem xcallB (C : xC G p c cc nL s args own m A) {y : MethodName} {bytes : ByteArray} {maxL n index mc ms f lo : Nat} {ret : Option FieldType} (hy : xYk y bytes maxL ret n) (hl : Cond.methodLink own index y ∈ xBIG) (hR : f + 1 ≤ R.frames ∧ 8 + (maxL + 11) + lo ≤ R.locals) : CallB R s args own index y bytes maxL ret (xws y bytes maxL ret) ({ frames := f, cells := mc, slots := ms, locals := lo }) mc ms n :=
  callB_of n C.1.2.2.2.2 (xgoodW hy.1) rfl rfl rfl (C.1.2.2.2.2 _ hy.2.1) (C.1.2.2.2.2 _ hl) ⟨hy.2.2.1.1, hy.2.2.1.2, hy.2.2.2⟩ hR
theorem xc_V (C : xC G p c cc nL s args own m A) {y : MethodName} {bytes : ByteArray} {maxL n index mc ms f lo : Nat} {ret : Option FieldType} {q ci : Nat} {fs : List (Nat × Nat)} {T : u_T} {N : Nat} {ty : Nat → FieldType} {As : List Value} {Qm : Option Value → xS → Prop} (hw : xval G S)
    (hM : xM l y (xws y bytes maxL ret) ({ frames := f, cells := mc, slots := ms, locals := lo }) G (.ref (G.2.2.1 q) :: As) S Qm mc ms) (hy : xYk y bytes maxL ret n) (hv : xYv y) (hl : Cond.methodLink own index y ∈ xBIG) (hR : f + 1 ≤ R.frames ∧ 8 + (maxL + 11) + lo ≤ R.locals)
    (hK : xKl ci y.cls T N ty) (hq : G.2.2.2.1[q]? = some (.inr (ci, fs))) (hn : As.length = n) (hst : st0 = As.reverse ++ .ref (G.2.2.1 q) :: st) (hcat : (st.map fun v => v.category).sum ≤ 8) (hf : cells + mc ≤ R.cells ∧ slots + ms ≤ R.slots) (d : decode cc pc = .ok (.invokevirtual index, 3))
    (k : ∀ (r : Option Value) (S' : xS), Qm r S' → xval G S' → xV G p l e R s m args below meth c A nL Q (cells + mc) (slots + ms) (pc + 3) L (r.toList ++ st) S') : xV G p l e R s m args below meth c A nL Q cells slots pc L st0 S := by
  subst hst
  refine xc_run C (a := (Value.ref (G.2.2.1 q) :: As).toArray) (fun H locs ls hP hD hS hls => ?_) k
  exact va_runV C.1 (hM H.size) ⟨xcallB C hy hl hR, C.1.2.2.2.2 _ hv.1, C.1.2.2.2.2 _ hv.2⟩ ⟨xPre.blind, va_recv C.2.1 hP hK.1 (xw_obj hq), xPre.make C hw hP hD hS _⟩ rfl hn hls.1 rfl (lv_room hcat) d hf
theorem xc_S (C : xC G p c cc nL s args own m A) {y : MethodName} {bytes : ByteArray} {maxL n index mc ms f lo : Nat} {ret : Option FieldType} {As : List Value} {Qm : Option Value → xS → Prop} (hw : xval G S)
    (hM : xM l y (xws y bytes maxL ret) ({ frames := f, cells := mc, slots := ms, locals := lo }) G As S Qm mc ms) (hy : xYk y bytes maxL ret n) (hv : Cond.static y ∈ xBIG) (hl : Cond.methodLink own index y ∈ xBIG) (hR : f + 1 ≤ R.frames ∧ 8 + (maxL + 11) + lo ≤ R.locals)
    (hn : As.length = n) (hst : st0 = As.reverse ++ st) (hcat : (st.map fun v => v.category).sum ≤ 8) (hf : cells + mc ≤ R.cells ∧ slots + ms ≤ R.slots) (d : decode cc pc = .ok (.invokestatic index, 3))
    (k : ∀ (r : Option Value) (S' : xS), Qm r S' → xval G S' → xV G p l e R s m args below meth c A nL Q (cells + mc) (slots + ms) (pc + 3) L (r.toList ++ st) S') : xV G p l e R s m args below meth c A nL Q cells slots pc L st0 S := by
  subst hst
  refine xc_run C (a := As.toArray) (fun H locs ls hP hD hS hls => ?_) k
  exact va_runS C.1 (hM H.size) ⟨xcallB C hy hl hR, C.1.2.2.2.2 _ hv⟩ ⟨xPre.blind, xPre.make C hw hP hD hS _⟩ rfl hn hls.1 rfl (lv_room hcat) d hf
/-! ends -/
theorem xr_i {ty : FieldType} {S0 : xS} {Qm : Option Value → xS → Prop} {a : Int} {mc ms : Nat} (C : xC G p c cc nL s args own m A) (hA : A = va_A (xwd G S0) s.heap.size) (hZ : Q = MQ below (xPost G S0 s.heap.size Qm) args s mc ms A) (hr : meth.sig.returnType = some ty) (hlocks : meth.locks = false) (hn : narrow ty (.int (iN a)) = .int (iN a)) (d : decode cc pc = .ok (.ireturn, 1)) (hc : cells ≤ mc) (hs : slots ≤ ms) (hw : xval G S) (hq : Qm (some (.int (iN a))) S) : xV G p l e R s m args below meth c A nL Q cells slots pc L [.int (iN a)] S := by
  intro H locs ls hP hD hS hls
  subst hZ
  refine W.widen hc hs ?_
  subst hA
  exact W.zret C.1.1 C.1.2.1 hr hn (fun t ht hW => ⟨⟨_, S, rfl, hq, hw, by rw [ht]; exact hP, hD⟩, hS.F ht⟩) (fun q hq => hS.2.2 q hq) d hlocks
theorem xr_j {S0 : xS} {Qm : Option Value → xS → Prop} {a : Int} {mc ms : Nat} (C : xC G p c cc nL s args own m A) (hA : A = va_A (xwd G S0) s.heap.size) (hZ : Q = MQ below (xPost G S0 s.heap.size Qm) args s mc ms A) (hr : meth.sig.returnType = some .long) (hlocks : meth.locks = false) (d : decode cc pc = .ok (.lreturn, 1)) (hc : cells ≤ mc) (hs : slots ≤ ms) (hw : xval G S) (hq : Qm (some (.long (jN a))) S) : xV G p l e R s m args below meth c A nL Q cells slots pc L [.long (jN a)] S := by
  intro H locs ls hP hD hS hls
  subst hZ
  refine W.widen hc hs ?_
  subst hA
  exact W.lret C.1.1 C.1.2.1 hr (fun t ht hW => ⟨⟨_, S, rfl, hq, hw, by rw [ht]; exact hP, hD⟩, hS.F ht⟩) (fun q hq => hS.2.2 q hq) d hlocks
theorem xr_v {S0 : xS} {Qm : Option Value → xS → Prop} {mc ms : Nat} (C : xC G p c cc nL s args own m A) (hA : A = va_A (xwd G S0) s.heap.size) (hZ : Q = MQ below (xPost G S0 s.heap.size Qm) args s mc ms A) (hr : meth.sig.returnType = none) (hlocks : meth.locks = false) (d : decode cc pc = .ok (.return_, 1)) (hc : cells ≤ mc) (hs : slots ≤ ms) (hw : xval G S) (hq : Qm none S) : xV G p l e R s m args below meth c A nL Q cells slots pc L [] S := by
  intro H locs ls hP hD hS hls
  subst hZ
  refine W.widen hc hs ?_
  subst hA
  exact W.vret C.1.1 C.1.2.1 hr (fun t ht hW => ⟨⟨_, S, rfl, hq, hw, by rw [ht]; exact hP, hD⟩, hS.F ht⟩) (fun q hq => hS.2.2 q hq) d hlocks
theorem xr_x {Qc : Array Value → State → Outcome → State → Prop} {XC : String → State → State → Prop} {mc ms : Nat} {free : Addr → Prop} (k : xV G p l e R s m args below meth c A nL (MQ below Qc args s mc ms free) cells slots pc L st S) : xV G p l e R s m args below meth c A nL (vx_MQ below Qc XC args s mc ms free) cells slots pc L st S := fun H locs ls hP hD hS hls => vx_ret (k H locs ls hP hD hS hls)
theorem xm_of {y : MethodName} {rm : Room} {av : List Value} {Qm : Option Value → xS → Prop} {mc ms maxL : Nat} {ret : Option FieldType} (own : String) (hown : y.cls = own) (hy : plainName y.cls = true) (hav : (lg_sl av).length ≤ maxL)
    (body : ∀ (p : Program) (e : Env) (s : State) (m : MethodId) (args : Array Value) (below : List Frame) (meth : Method) (c : Code) (A : Nat → Prop) (Z : State → Prop), xC G p c cc maxL s args own m A → A = va_A (xwd G S) s.heap.size → Z = MQ below (xPost G S s.heap.size Qm) args s mc ms A → meth.sig.returnType = ret → meth.locks = false → xval G S →
      xV G p l e rm s m args below meth c A maxL Z 0 0 0 (lv_args 0 av) [] S) : xM l y (xws y cc maxL ret) rm G av S Qm mc ms := by
  intro sz
  refine Met.ofW (cc := cc) (maxL := maxL) (ret := ret) hy rfl ?_
  intro p e s m args below meth c s₁ B hml hv
  obtain ⟨rfl, hsz, hw, hP, hK, hD, hE⟩ := hv
  subst hsz
  have hts := atoms_spec (ws := xws y cc maxL ret) B.pre
  have hl := lv_entry av hav
  rw [lg_entry_eq]
  refine body p e s m _ below meth c (va_A (xwd G S) s.heap.size) _ ⟨⟨B.exec, B.bytes, hml, hown ▸ findClass_of_methodNamed B.named, fun w h => hts w (List.mem_cons_of_mem _ h)⟩, hK, fun q h => Or.inr h, hE⟩ rfl rfl B.returns B.notSynchronized hw s.heap [] _ hP hD.self va_S.rf hl
end XK
/-! loops: fuel inside -/
def xLn0 (b : (xS → Prop) → xS → Prop) : Nat → xS → Prop
  | 0, _ => False
  | n + 1, S => b (xLn0 b n) S
def xL0 (b : (xS → Prop) → xS → Prop) (S : xS) : Prop := ∃ n, xLn0 b n S
def xLn1 (b : (Int → xS → Prop) → Int → xS → Prop) : Nat → Int → xS → Prop
  | 0, _, _ => False
  | n + 1, x1, S => b (xLn1 b n) x1 S
def xL1 (b : (Int → xS → Prop) → Int → xS → Prop) (x1 : Int) (S : xS) : Prop := ∃ n, xLn1 b n x1 S
def xLn2 (b : (Int → Int → xS → Prop) → Int → Int → xS → Prop) : Nat → Int → Int → xS → Prop
  | 0, _, _, _ => False
  | n + 1, x1, x2, S => b (xLn2 b n) x1 x2 S
def xL2 (b : (Int → Int → xS → Prop) → Int → Int → xS → Prop) (x1 x2 : Int) (S : xS) : Prop := ∃ n, xLn2 b n x1 x2 S
def xLn3 (b : (Int → Int → Int → xS → Prop) → Int → Int → Int → xS → Prop) : Nat → Int → Int → Int → xS → Prop
  | 0, _, _, _, _ => False
  | n + 1, x1, x2, x3, S => b (xLn3 b n) x1 x2 x3 S
def xL3 (b : (Int → Int → Int → xS → Prop) → Int → Int → Int → xS → Prop) (x1 x2 x3 : Int) (S : xS) : Prop := ∃ n, xLn3 b n x1 x2 x3 S
def xLn4 (b : (Int → Int → Int → Int → xS → Prop) → Int → Int → Int → Int → xS → Prop) : Nat → Int → Int → Int → Int → xS → Prop
  | 0, _, _, _, _, _ => False
  | n + 1, x1, x2, x3, x4, S => b (xLn4 b n) x1 x2 x3 x4 S
def xL4 (b : (Int → Int → Int → Int → xS → Prop) → Int → Int → Int → Int → xS → Prop) (x1 x2 x3 x4 : Int) (S : xS) : Prop := ∃ n, xLn4 b n x1 x2 x3 x4 S
def xLn5 (b : (Int → Int → Int → Int → Int → xS → Prop) → Int → Int → Int → Int → Int → xS → Prop) : Nat → Int → Int → Int → Int → Int → xS → Prop
  | 0, _, _, _, _, _, _ => False
  | n + 1, x1, x2, x3, x4, x5, S => b (xLn5 b n) x1 x2 x3 x4 x5 S
def xL5 (b : (Int → Int → Int → Int → Int → xS → Prop) → Int → Int → Int → Int → Int → xS → Prop) (x1 x2 x3 x4 x5 : Int) (S : xS) : Prop := ∃ n, xLn5 b n x1 x2 x3 x4 x5 S
def xLn6 (b : (Int → Int → Int → Int → Int → Int → xS → Prop) → Int → Int → Int → Int → Int → Int → xS → Prop) : Nat → Int → Int → Int → Int → Int → Int → xS → Prop
  | 0, _, _, _, _, _, _, _ => False
  | n + 1, x1, x2, x3, x4, x5, x6, S => b (xLn6 b n) x1 x2 x3 x4 x5 x6 S
def xL6 (b : (Int → Int → Int → Int → Int → Int → xS → Prop) → Int → Int → Int → Int → Int → Int → xS → Prop) (x1 x2 x3 x4 x5 x6 : Int) (S : xS) : Prop := ∃ n, xLn6 b n x1 x2 x3 x4 x5 x6 S
def xLn7 (b : (Int → Int → Int → Int → Int → Int → Int → xS → Prop) → Int → Int → Int → Int → Int → Int → Int → xS → Prop) : Nat → Int → Int → Int → Int → Int → Int → Int → xS → Prop
  | 0, _, _, _, _, _, _, _, _ => False
  | n + 1, x1, x2, x3, x4, x5, x6, x7, S => b (xLn7 b n) x1 x2 x3 x4 x5 x6 x7 S
def xL7 (b : (Int → Int → Int → Int → Int → Int → Int → xS → Prop) → Int → Int → Int → Int → Int → Int → Int → xS → Prop) (x1 x2 x3 x4 x5 x6 x7 : Int) (S : xS) : Prop := ∃ n, xLn7 b n x1 x2 x3 x4 x5 x6 x7 S
def xLn8 (b : (Int → Int → Int → Int → Int → Int → Int → Int → xS → Prop) → Int → Int → Int → Int → Int → Int → Int → Int → xS → Prop) : Nat → Int → Int → Int → Int → Int → Int → Int → Int → xS → Prop
  | 0, _, _, _, _, _, _, _, _, _ => False
  | n + 1, x1, x2, x3, x4, x5, x6, x7, x8, S => b (xLn8 b n) x1 x2 x3 x4 x5 x6 x7 x8 S
def xL8 (b : (Int → Int → Int → Int → Int → Int → Int → Int → xS → Prop) → Int → Int → Int → Int → Int → Int → Int → Int → xS → Prop) (x1 x2 x3 x4 x5 x6 x7 x8 : Int) (S : xS) : Prop := ∃ n, xLn8 b n x1 x2 x3 x4 x5 x6 x7 x8 S
/-- a loop: an invariant, a measure that falls -/
theorem xL0_inv {b : (xS → Prop) → xS → Prop} (I : xS → Prop) (μ : xS → Nat) (h : ∀ (S : xS), I  S → ∀ k : xS → Prop, (∀ (S' : xS), I  S' → μ  S' < μ  S → k  S') → b k  S) (S : xS) (h0 : I  S) : xL0 b  S := by
  refine ⟨μ  S + 1, ?_⟩
  have key : ∀ n (S : xS), μ  S < n → I  S → xLn0 b n  S := by
    intro n
    induction n with
    | zero => intro  S hm; exact absurd hm (Nat.not_lt_zero _)
    | succ n ih => intro  S hm hI; exact h  S hI (xLn0 b n) (fun  S' hI' hm' => ih  S' (by omega) hI')
  exact key _  S (Nat.lt_succ_self _) h0
/-- a place where ways meet -/
def xJ0 (rest : xS → Prop) (pre : (xS → Prop) → Prop) : Prop := pre rest
theorem xJ0_w {rest : xS → Prop} {pre : (xS → Prop) → Prop} {X : Prop} (Y : xS → Prop) (h : xJ0 rest pre) (hr : ∀ (S : xS), rest  S → Y  S) (hp : ∀ k : xS → Prop, (∀ (S : xS), k  S → Y  S) → pre k → X) : X := hp rest hr h
/-- a loop: an invariant, a measure that falls -/
theorem xL1_inv {b : (Int → xS → Prop) → Int → xS → Prop} (I : Int → xS → Prop) (μ : Int → xS → Nat) (h : ∀ (x1 : Int) (S : xS), I x1 S → ∀ k : Int → xS → Prop, (∀ (y1 : Int) (S' : xS), I y1 S' → μ y1 S' < μ x1 S → k y1 S') → b k x1 S) (x1 : Int) (S : xS) (h0 : I x1 S) : xL1 b x1 S := by
  refine ⟨μ x1 S + 1, ?_⟩
  have key : ∀ n (x1 : Int) (S : xS), μ x1 S < n → I x1 S → xLn1 b n x1 S := by
    intro n
    induction n with
    | zero => intro x1 S hm; exact absurd hm (Nat.not_lt_zero _)
    | succ n ih => intro x1 S hm hI; exact h x1 S hI (xLn1 b n) (fun y1 S' hI' hm' => ih y1 S' (by omega) hI')
  exact key _ x1 S (Nat.lt_succ_self _) h0
/-- a place where ways meet -/
def xJ1 (rest : Int → xS → Prop) (pre : (Int → xS → Prop) → Prop) : Prop := pre rest
theorem xJ1_w {rest : Int → xS → Prop} {pre : (Int → xS → Prop) → Prop} {X : Prop} (Y : Int → xS → Prop) (h : xJ1 rest pre) (hr : ∀ (x1 : Int) (S : xS), rest x1 S → Y x1 S) (hp : ∀ k : Int → xS → Prop, (∀ (x1 : Int) (S : xS), k x1 S → Y x1 S) → pre k → X) : X := hp rest hr h
/-- a loop: an invariant, a measure that falls -/
theorem xL2_inv {b : (Int → Int → xS → Prop) → Int → Int → xS → Prop} (I : Int → Int → xS → Prop) (μ : Int → Int → xS → Nat) (h : ∀ (x1 x2 : Int) (S : xS), I x1 x2 S → ∀ k : Int → Int → xS → Prop, (∀ (y1 y2 : Int) (S' : xS), I y1 y2 S' → μ y1 y2 S' < μ x1 x2 S → k y1 y2 S') → b k x1 x2 S) (x1 x2 : Int) (S : xS) (h0 : I x1 x2 S) : xL2 b x1 x2 S := by
  refine ⟨μ x1 x2 S + 1, ?_⟩
  have key : ∀ n (x1 x2 : Int) (S : xS), μ x1 x2 S < n → I x1 x2 S → xLn2 b n x1 x2 S := by
    intro n
    induction n with
    | zero => intro x1 x2 S hm; exact absurd hm (Nat.not_lt_zero _)
    | succ n ih => intro x1 x2 S hm hI; exact h x1 x2 S hI (xLn2 b n) (fun y1 y2 S' hI' hm' => ih y1 y2 S' (by omega) hI')
  exact key _ x1 x2 S (Nat.lt_succ_self _) h0
/-- a place where ways meet -/
def xJ2 (rest : Int → Int → xS → Prop) (pre : (Int → Int → xS → Prop) → Prop) : Prop := pre rest
theorem xJ2_w {rest : Int → Int → xS → Prop} {pre : (Int → Int → xS → Prop) → Prop} {X : Prop} (Y : Int → Int → xS → Prop) (h : xJ2 rest pre) (hr : ∀ (x1 x2 : Int) (S : xS), rest x1 x2 S → Y x1 x2 S) (hp : ∀ k : Int → Int → xS → Prop, (∀ (x1 x2 : Int) (S : xS), k x1 x2 S → Y x1 x2 S) → pre k → X) : X := hp rest hr h
/-- a loop: an invariant, a measure that falls -/
theorem xL3_inv {b : (Int → Int → Int → xS → Prop) → Int → Int → Int → xS → Prop} (I : Int → Int → Int → xS → Prop) (μ : Int → Int → Int → xS → Nat) (h : ∀ (x1 x2 x3 : Int) (S : xS), I x1 x2 x3 S → ∀ k : Int → Int → Int → xS → Prop, (∀ (y1 y2 y3 : Int) (S' : xS), I y1 y2 y3 S' → μ y1 y2 y3 S' < μ x1 x2 x3 S → k y1 y2 y3 S') → b k x1 x2 x3 S) (x1 x2 x3 : Int) (S : xS) (h0 : I x1 x2 x3 S) : xL3 b x1 x2 x3 S := by
  refine ⟨μ x1 x2 x3 S + 1, ?_⟩
  have key : ∀ n (x1 x2 x3 : Int) (S : xS), μ x1 x2 x3 S < n → I x1 x2 x3 S → xLn3 b n x1 x2 x3 S := by
    intro n
    induction n with
    | zero => intro x1 x2 x3 S hm; exact absurd hm (Nat.not_lt_zero _)
    | succ n ih => intro x1 x2 x3 S hm hI; exact h x1 x2 x3 S hI (xLn3 b n) (fun y1 y2 y3 S' hI' hm' => ih y1 y2 y3 S' (by omega) hI')
  exact key _ x1 x2 x3 S (Nat.lt_succ_self _) h0
/-- a place where ways meet -/
def xJ3 (rest : Int → Int → Int → xS → Prop) (pre : (Int → Int → Int → xS → Prop) → Prop) : Prop := pre rest
theorem xJ3_w {rest : Int → Int → Int → xS → Prop} {pre : (Int → Int → Int → xS → Prop) → Prop} {X : Prop} (Y : Int → Int → Int → xS → Prop) (h : xJ3 rest pre) (hr : ∀ (x1 x2 x3 : Int) (S : xS), rest x1 x2 x3 S → Y x1 x2 x3 S) (hp : ∀ k : Int → Int → Int → xS → Prop, (∀ (x1 x2 x3 : Int) (S : xS), k x1 x2 x3 S → Y x1 x2 x3 S) → pre k → X) : X := hp rest hr h
/-- a loop: an invariant, a measure that falls -/
theorem xL4_inv {b : (Int → Int → Int → Int → xS → Prop) → Int → Int → Int → Int → xS → Prop} (I : Int → Int → Int → Int → xS → Prop) (μ : Int → Int → Int → Int → xS → Nat) (h : ∀ (x1 x2 x3 x4 : Int) (S : xS), I x1 x2 x3 x4 S → ∀ k : Int → Int → Int → Int → xS → Prop, (∀ (y1 y2 y3 y4 : Int) (S' : xS), I y1 y2 y3 y4 S' → μ y1 y2 y3 y4 S' < μ x1 x2 x3 x4 S → k y1 y2 y3 y4 S') → b k x1 x2 x3 x4 S) (x1 x2 x3 x4 : Int) (S : xS) (h0 : I x1 x2 x3 x4 S) : xL4 b x1 x2 x3 x4 S := by
  refine ⟨μ x1 x2 x3 x4 S + 1, ?_⟩
  have key : ∀ n (x1 x2 x3 x4 : Int) (S : xS), μ x1 x2 x3 x4 S < n → I x1 x2 x3 x4 S → xLn4 b n x1 x2 x3 x4 S := by
    intro n
    induction n with
    | zero => intro x1 x2 x3 x4 S hm; exact absurd hm (Nat.not_lt_zero _)
    | succ n ih => intro x1 x2 x3 x4 S hm hI; exact h x1 x2 x3 x4 S hI (xLn4 b n) (fun y1 y2 y3 y4 S' hI' hm' => ih y1 y2 y3 y4 S' (by omega) hI')
  exact key _ x1 x2 x3 x4 S (Nat.lt_succ_self _) h0
/-- a place where ways meet -/
def xJ4 (rest : Int → Int → Int → Int → xS → Prop) (pre : (Int → Int → Int → Int → xS → Prop) → Prop) : Prop := pre rest
theorem xJ4_w {rest : Int → Int → Int → Int → xS → Prop} {pre : (Int → Int → Int → Int → xS → Prop) → Prop} {X : Prop} (Y : Int → Int → Int → Int → xS → Prop) (h : xJ4 rest pre) (hr : ∀ (x1 x2 x3 x4 : Int) (S : xS), rest x1 x2 x3 x4 S → Y x1 x2 x3 x4 S) (hp : ∀ k : Int → Int → Int → Int → xS → Prop, (∀ (x1 x2 x3 x4 : Int) (S : xS), k x1 x2 x3 x4 S → Y x1 x2 x3 x4 S) → pre k → X) : X := hp rest hr h
/-- a loop: an invariant, a measure that falls -/
theorem xL5_inv {b : (Int → Int → Int → Int → Int → xS → Prop) → Int → Int → Int → Int → Int → xS → Prop} (I : Int → Int → Int → Int → Int → xS → Prop) (μ : Int → Int → Int → Int → Int → xS → Nat) (h : ∀ (x1 x2 x3 x4 x5 : Int) (S : xS), I x1 x2 x3 x4 x5 S → ∀ k : Int → Int → Int → Int → Int → xS → Prop, (∀ (y1 y2 y3 y4 y5 : Int) (S' : xS), I y1 y2 y3 y4 y5 S' → μ y1 y2 y3 y4 y5 S' < μ x1 x2 x3 x4 x5 S → k y1 y2 y3 y4 y5 S') → b k x1 x2 x3 x4 x5 S) (x1 x2 x3 x4 x5 : Int) (S : xS) (h0 : I x1 x2 x3 x4 x5 S) : xL5 b x1 x2 x3 x4 x5 S := by
  refine ⟨μ x1 x2 x3 x4 x5 S + 1, ?_⟩
  have key : ∀ n (x1 x2 x3 x4 x5 : Int) (S : xS), μ x1 x2 x3 x4 x5 S < n → I x1 x2 x3 x4 x5 S → xLn5 b n x1 x2 x3 x4 x5 S := by
    intro n
    induction n with
    | zero => intro x1 x2 x3 x4 x5 S hm; exact absurd hm (Nat.not_lt_zero _)
    | succ n ih => intro x1 x2 x3 x4 x5 S hm hI; exact h x1 x2 x3 x4 x5 S hI (xLn5 b n) (fun y1 y2 y3 y4 y5 S' hI' hm' => ih y1 y2 y3 y4 y5 S' (by omega) hI')
  exact key _ x1 x2 x3 x4 x5 S (Nat.lt_succ_self _) h0
/-- a place where ways meet -/
def xJ5 (rest : Int → Int → Int → Int → Int → xS → Prop) (pre : (Int → Int → Int → Int → Int → xS → Prop) → Prop) : Prop := pre rest
theorem xJ5_w {rest : Int → Int → Int → Int → Int → xS → Prop} {pre : (Int → Int → Int → Int → Int → xS → Prop) → Prop} {X : Prop} (Y : Int → Int → Int → Int → Int → xS → Prop) (h : xJ5 rest pre) (hr : ∀ (x1 x2 x3 x4 x5 : Int) (S : xS), rest x1 x2 x3 x4 x5 S → Y x1 x2 x3 x4 x5 S) (hp : ∀ k : Int → Int → Int → Int → Int → xS → Prop, (∀ (x1 x2 x3 x4 x5 : Int) (S : xS), k x1 x2 x3 x4 x5 S → Y x1 x2 x3 x4 x5 S) → pre k → X) : X := hp rest hr h
/-- a loop: an invariant, a measure that falls -/
theorem xL6_inv {b : (Int → Int → Int → Int → Int → Int → xS → Prop) → Int → Int → Int → Int → Int → Int → xS → Prop} (I : Int → Int → Int → Int → Int → Int → xS → Prop) (μ : Int → Int → Int → Int → Int → Int → xS → Nat) (h : ∀ (x1 x2 x3 x4 x5 x6 : Int) (S : xS), I x1 x2 x3 x4 x5 x6 S → ∀ k : Int → Int → Int → Int → Int → Int → xS → Prop, (∀ (y1 y2 y3 y4 y5 y6 : Int) (S' : xS), I y1 y2 y3 y4 y5 y6 S' → μ y1 y2 y3 y4 y5 y6 S' < μ x1 x2 x3 x4 x5 x6 S → k y1 y2 y3 y4 y5 y6 S') → b k x1 x2 x3 x4 x5 x6 S) (x1 x2 x3 x4 x5 x6 : Int) (S : xS) (h0 : I x1 x2 x3 x4 x5 x6 S) : xL6 b x1 x2 x3 x4 x5 x6 S := by
  refine ⟨μ x1 x2 x3 x4 x5 x6 S + 1, ?_⟩
  have key : ∀ n (x1 x2 x3 x4 x5 x6 : Int) (S : xS), μ x1 x2 x3 x4 x5 x6 S < n → I x1 x2 x3 x4 x5 x6 S → xLn6 b n x1 x2 x3 x4 x5 x6 S := by
    intro n
    induction n with
    | zero => intro x1 x2 x3 x4 x5 x6 S hm; exact absurd hm (Nat.not_lt_zero _)
    | succ n ih => intro x1 x2 x3 x4 x5 x6 S hm hI; exact h x1 x2 x3 x4 x5 x6 S hI (xLn6 b n) (fun y1 y2 y3 y4 y5 y6 S' hI' hm' => ih y1 y2 y3 y4 y5 y6 S' (by omega) hI')
  exact key _ x1 x2 x3 x4 x5 x6 S (Nat.lt_succ_self _) h0
/-- a place where ways meet -/
def xJ6 (rest : Int → Int → Int → Int → Int → Int → xS → Prop) (pre : (Int → Int → Int → Int → Int → Int → xS → Prop) → Prop) : Prop := pre rest
theorem xJ6_w {rest : Int → Int → Int → Int → Int → Int → xS → Prop} {pre : (Int → Int → Int → Int → Int → Int → xS → Prop) → Prop} {X : Prop} (Y : Int → Int → Int → Int → Int → Int → xS → Prop) (h : xJ6 rest pre) (hr : ∀ (x1 x2 x3 x4 x5 x6 : Int) (S : xS), rest x1 x2 x3 x4 x5 x6 S → Y x1 x2 x3 x4 x5 x6 S) (hp : ∀ k : Int → Int → Int → Int → Int → Int → xS → Prop, (∀ (x1 x2 x3 x4 x5 x6 : Int) (S : xS), k x1 x2 x3 x4 x5 x6 S → Y x1 x2 x3 x4 x5 x6 S) → pre k → X) : X := hp rest hr h
/-- a loop: an invariant, a measure that falls -/
theorem xL7_inv {b : (Int → Int → Int → Int → Int → Int → Int → xS → Prop) → Int → Int → Int → Int → Int → Int → Int → xS → Prop} (I : Int → Int → Int → Int → Int → Int → Int → xS → Prop) (μ : Int → Int → Int → Int → Int → Int → Int → xS → Nat) (h : ∀ (x1 x2 x3 x4 x5 x6 x7 : Int) (S : xS), I x1 x2 x3 x4 x5 x6 x7 S → ∀ k : Int → Int → Int → Int → Int → Int → Int → xS → Prop, (∀ (y1 y2 y3 y4 y5 y6 y7 : Int) (S' : xS), I y1 y2 y3 y4 y5 y6 y7 S' → μ y1 y2 y3 y4 y5 y6 y7 S' < μ x1 x2 x3 x4 x5 x6 x7 S → k y1 y2 y3 y4 y5 y6 y7 S') → b k x1 x2 x3 x4 x5 x6 x7 S) (x1 x2 x3 x4 x5 x6 x7 : Int) (S : xS) (h0 : I x1 x2 x3 x4 x5 x6 x7 S) : xL7 b x1 x2 x3 x4 x5 x6 x7 S := by
  refine ⟨μ x1 x2 x3 x4 x5 x6 x7 S + 1, ?_⟩
  have key : ∀ n (x1 x2 x3 x4 x5 x6 x7 : Int) (S : xS), μ x1 x2 x3 x4 x5 x6 x7 S < n → I x1 x2 x3 x4 x5 x6 x7 S → xLn7 b n x1 x2 x3 x4 x5 x6 x7 S := by
    intro n
    induction n with
    | zero => intro x1 x2 x3 x4 x5 x6 x7 S hm; exact absurd hm (Nat.not_lt_zero _)
    | succ n ih => intro x1 x2 x3 x4 x5 x6 x7 S hm hI; exact h x1 x2 x3 x4 x5 x6 x7 S hI (xLn7 b n) (fun y1 y2 y3 y4 y5 y6 y7 S' hI' hm' => ih y1 y2 y3 y4 y5 y6 y7 S' (by omega) hI')
  exact key _ x1 x2 x3 x4 x5 x6 x7 S (Nat.lt_succ_self _) h0
/-- a place where ways meet -/
def xJ7 (rest : Int → Int → Int → Int → Int → Int → Int → xS → Prop) (pre : (Int → Int → Int → Int → Int → Int → Int → xS → Prop) → Prop) : Prop := pre rest
theorem xJ7_w {rest : Int → Int → Int → Int → Int → Int → Int → xS → Prop} {pre : (Int → Int → Int → Int → Int → Int → Int → xS → Prop) → Prop} {X : Prop} (Y : Int → Int → Int → Int → Int → Int → Int → xS → Prop) (h : xJ7 rest pre) (hr : ∀ (x1 x2 x3 x4 x5 x6 x7 : Int) (S : xS), rest x1 x2 x3 x4 x5 x6 x7 S → Y x1 x2 x3 x4 x5 x6 x7 S) (hp : ∀ k : Int → Int → Int → Int → Int → Int → Int → xS → Prop, (∀ (x1 x2 x3 x4 x5 x6 x7 : Int) (S : xS), k x1 x2 x3 x4 x5 x6 x7 S → Y x1 x2 x3 x4 x5 x6 x7 S) → pre k → X) : X := hp rest hr h
/-- a loop: an invariant, a measure that falls -/
theorem xL8_inv {b : (Int → Int → Int → Int → Int → Int → Int → Int → xS → Prop) → Int → Int → Int → Int → Int → Int → Int → Int → xS → Prop} (I : Int → Int → Int → Int → Int → Int → Int → Int → xS → Prop) (μ : Int → Int → Int → Int → Int → Int → Int → Int → xS → Nat) (h : ∀ (x1 x2 x3 x4 x5 x6 x7 x8 : Int) (S : xS), I x1 x2 x3 x4 x5 x6 x7 x8 S → ∀ k : Int → Int → Int → Int → Int → Int → Int → Int → xS → Prop, (∀ (y1 y2 y3 y4 y5 y6 y7 y8 : Int) (S' : xS), I y1 y2 y3 y4 y5 y6 y7 y8 S' → μ y1 y2 y3 y4 y5 y6 y7 y8 S' < μ x1 x2 x3 x4 x5 x6 x7 x8 S → k y1 y2 y3 y4 y5 y6 y7 y8 S') → b k x1 x2 x3 x4 x5 x6 x7 x8 S) (x1 x2 x3 x4 x5 x6 x7 x8 : Int) (S : xS) (h0 : I x1 x2 x3 x4 x5 x6 x7 x8 S) : xL8 b x1 x2 x3 x4 x5 x6 x7 x8 S := by
  refine ⟨μ x1 x2 x3 x4 x5 x6 x7 x8 S + 1, ?_⟩
  have key : ∀ n (x1 x2 x3 x4 x5 x6 x7 x8 : Int) (S : xS), μ x1 x2 x3 x4 x5 x6 x7 x8 S < n → I x1 x2 x3 x4 x5 x6 x7 x8 S → xLn8 b n x1 x2 x3 x4 x5 x6 x7 x8 S := by
    intro n
    induction n with
    | zero => intro x1 x2 x3 x4 x5 x6 x7 x8 S hm; exact absurd hm (Nat.not_lt_zero _)
    | succ n ih => intro x1 x2 x3 x4 x5 x6 x7 x8 S hm hI; exact h x1 x2 x3 x4 x5 x6 x7 x8 S hI (xLn8 b n) (fun y1 y2 y3 y4 y5 y6 y7 y8 S' hI' hm' => ih y1 y2 y3 y4 y5 y6 y7 y8 S' (by omega) hI')
  exact key _ x1 x2 x3 x4 x5 x6 x7 x8 S (Nat.lt_succ_self _) h0
/-- a place where ways meet -/
def xJ8 (rest : Int → Int → Int → Int → Int → Int → Int → Int → xS → Prop) (pre : (Int → Int → Int → Int → Int → Int → Int → Int → xS → Prop) → Prop) : Prop := pre rest
theorem xJ8_w {rest : Int → Int → Int → Int → Int → Int → Int → Int → xS → Prop} {pre : (Int → Int → Int → Int → Int → Int → Int → Int → xS → Prop) → Prop} {X : Prop} (Y : Int → Int → Int → Int → Int → Int → Int → Int → xS → Prop) (h : xJ8 rest pre) (hr : ∀ (x1 x2 x3 x4 x5 x6 x7 x8 : Int) (S : xS), rest x1 x2 x3 x4 x5 x6 x7 x8 S → Y x1 x2 x3 x4 x5 x6 x7 x8 S) (hp : ∀ k : Int → Int → Int → Int → Int → Int → Int → Int → xS → Prop, (∀ (x1 x2 x3 x4 x5 x6 x7 x8 : Int) (S : xS), k x1 x2 x3 x4 x5 x6 x7 x8 S → Y x1 x2 x3 x4 x5 x6 x7 x8 S) → pre k → X) : X := hp rest hr h

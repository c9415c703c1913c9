/-! own kit: a plain state (cell, index or field -> Int), its world, the judgement xV over plain states -/
abbrev xS : Type := Nat → Int → Int
def xup (S : xS) (q : Nat) (i v : Int) : xS := fun q' i' => if q' = q ∧ i' = i then v else S q' i'
theorem xup_at (S : xS) (q : Nat) (i v : Int) (q' : Nat) (i' : Int) : xup S q i v q' i' = if q' = q ∧ i' = i then v else S q' i' := rfl
theorem xup_same (S : xS) (q : Nat) (i v : Int) : xup S q i v q i = v := if_pos ⟨rfl, rfl⟩
theorem xup_cell {S : xS} {q q' : Nat} {i v : Int} (h : q' ≠ q) : xup S q i v q' = S q' := by
  funext j; exact if_neg (fun z => h z.1)
theorem xup_ne {S : xS} {q q' : Nat} {i i' v : Int} (h : i' ≠ i) : xup S q i v q' i' = S q' i' := if_neg (fun z => h z.2)
/-- a cell: an array (its kind among xtys, its length, 0: told by the state at -1, its address at -2), or an object (its class among vwCl, its fields: 0 int, 1 long, 2 a reference to a cell, 3 a reference to a cell that moves) -/
abbrev xD : Type := (Nat × Nat) ⊕ (Nat × List (Nat × Nat))
def xrow (t : Nat) (f : Int → Int) : (Nat → Int32) ⊕ (Nat → Int64) ⊕ (Nat → UInt32) ⊕ (Nat → UInt64) ⊕ (Nat → Option Nat) :=
  match t with
  | 1 => .inr (.inl (fun j => jN (f j)))
  | 4 => .inr (.inr (.inr (.inl (fun j => (jN (f j)).toUInt64))))
  | _ => .inl (fun j => iN (f j))
def xlen (S : xS) (q n : Nat) : Nat := if n = 0 then (S q (-1)).toNat else n
def xad (ad : Nat → Nat) (S : xS) (q : Nat) (d : xD) : Nat := match d with
  | .inl (_, 0) => (S q (-2)).toNat
  | _ => ad q
def xfld (ad : Nat → Nat) (S : xS) (v : Int) (e : Nat × Nat) : Value := match e.1 with
  | 0 => .int (iN v)
  | 1 => .long (jN v)
  | 2 => .ref (ad e.2)
  | _ => .ref (S e.2 (-2)).toNat
def xcell (ca : Nat → ClassId) (ad : Nat → Nat) (S : xS) (q : Nat) (d : xD) : va_E := match d with
  | .inl (t, n) => .inl (ca t, xlen S q n, xrow t (S q))
  | .inr (ci, fs) => .inr (ci, fs.mapIdx (fun k e => xfld ad S (S q k) e))
def xw (ca : Nat → ClassId) (ad : Nat → Nat) (lay : List xD) (S : xS) : va_W := lay.mapIdx (fun q d => (xad ad S q d, xcell ca ad S q d))
theorem xw_get {ca : Nat → ClassId} {ad : Nat → Nat} {lay : List xD} {S : xS} {q : Nat} {d : xD} (h : lay[q]? = some d) : (xw ca ad lay S)[q]? = some (xad ad S q d, xcell ca ad S q d) := by
  unfold xw; rw [List.getElem?_mapIdx, h]; rfl
theorem xad_up {ad : Nat → Nat} {S : xS} {q q' : Nat} {i v : Int} (hi : 0 ≤ i) (d : xD) : xad ad (xup S q i v) q' d = xad ad S q' d := by
  have e : xup S q i v q' (-2) = S q' (-2) := xup_ne (by omega)
  unfold xad; split
  · rw [e]
  · rfl
theorem xfld_up {ad : Nat → Nat} {S : xS} {q : Nat} {i v : Int} (hi : 0 ≤ i) (x : Int) (e : Nat × Nat) : xfld ad (xup S q i v) x e = xfld ad S x e := by
  have e2 : xup S q i v e.2 (-2) = S e.2 (-2) := xup_ne (by omega)
  unfold xfld; split <;> first | rfl | rw [e2]
theorem xcell_up {ca : Nat → ClassId} {ad : Nat → Nat} {S : xS} {q q' : Nat} {i v : Int} (hi : 0 ≤ i) (hq : q' ≠ q) (d : xD) : xcell ca ad (xup S q i v) q' d = xcell ca ad S q' d := by
  have e : xup S q i v q' = S q' := xup_cell hq
  unfold xcell xlen; split
  · rw [e]
  · simp only [e, xfld_up hi]
theorem xw_set {ca : Nat → ClassId} {ad : Nat → Nat} {lay : List xD} {S : xS} {q : Nat} {d : xD} {i v : Int} {a : Nat} (h : lay[q]? = some d) (hi : 0 ≤ i) (ha : xad ad S q d = a) : (xw ca ad lay S).set q (a, xcell ca ad (xup S q i v) q d) = xw ca ad lay (xup S q i v) := by
  subst ha
  apply List.ext_getElem?
  intro j
  have hlt : q < lay.length := (List.getElem?_eq_some_iff.mp h).1
  by_cases hj : j = q
  · subst hj
    rw [List.getElem?_set_self (by unfold xw; rw [List.length_mapIdx]; exact hlt), xw_get h, xad_up hi]
  · rw [List.getElem?_set_ne (Ne.symm hj)]
    unfold xw
    rw [List.getElem?_mapIdx, List.getElem?_mapIdx]
    cases lay[j]? with
    | none => rfl
    | some d' => simp only [Option.map_some, xad_up hi, xcell_up hi hj]
/-- the words of all methods: the good ones of the tables -/
def xBIG : List Cond := lw_tbl.filter goodWord
theorem xmem {w : Cond} (i : Nat) (h : lw_tbl[i]? = some w) (hg : goodWord w = true) : w ∈ xBIG := List.mem_filter.mpr ⟨List.mem_of_getElem? h, hg⟩
theorem xgood {w : Cond} (h : w ∈ xBIG) : w ∈ xBIG ∧ ((w.onTables && w.keeps) = true ∨ ∃ ty, w = .arrayClass ty) := ⟨h, good_of_word (List.mem_filter.mp h).2⟩
abbrev xws (y : MethodName) (b : ByteArray) (n : Nat) (r : Option FieldType) : List Cond := .code y b n r :: xBIG
theorem xgoodW {y : MethodName} {b : ByteArray} {n : Nat} {r : Option FieldType} (h : Cond.code y b n r ∈ xBIG) : GoodIn xBIG (xws y b n r) := fun w hw => (List.mem_cons.mp hw).elim (fun e => by rw [e]; exact xgood h) xgood
/-- links between nest mates: words that only the machine's tables decide -/
def xisNest : Cond → Bool
  | .fieldLinkNest _ _ _ _ _ _ => true
  | .methodLinkNest _ _ _ _ => true
  | .castable .. => true
  | .declares .. => true
  | _ => false
def xNest : List Cond := tables_1.filter xisNest
theorem xnest {w : Cond} (i : Nat) (h : tables_1[i]? = some w) (hg : xisNest w = true) : w ∈ xNest := List.mem_filter.mpr ⟨List.mem_of_getElem? h, hg⟩
def xFO : Nat → Value := fun j => .int (iN (3 + 2 * (j : Int)))
/-- exceptions that are not each other -/
def xNc : List (String × String) := ["java/lang/IllegalStateException", "java/lang/IllegalArgumentException", "java/lang/IndexOutOfBoundsException", "java/lang/UnsupportedOperationException", "java/util/NoSuchElementException", "java/lang/ArithmeticException"].flatMap (fun a => (["java/lang/IllegalStateException", "java/lang/IllegalArgumentException", "java/lang/IndexOutOfBoundsException", "java/lang/UnsupportedOperationException", "java/util/NoSuchElementException", "java/lang/ArithmeticException"].filter (fun b => a != b)).map (fun b => (a, b)))
/-- what the start gives beside the world: links of nest mates, the table FIRST_OWN (at tF), what a throw reads, the texts of the class's exceptions -/
def xE (A : Nat → Prop) (tF : Nat) (cI : ClassId) (U : State) : Prop := (∀ w ∈ xNest, va_Nw w U) ∧ va_Z "Statewarden" "FIRST_OWN" "[I" (.ref tF) A U U.heap ∧ va_T .int tF 3 xFO A U U.heap ∧ vx_Zq Bundle.tN "UNASSIGNED_STACK" Bundle.steD A U U.heap ∧ vx_Zq Bundle.tN "SUPPRESSED_SENTINEL" Bundle.listD A U U.heap ∧ ((∀ own k tx, Cond.stringRef own k tx ∈ tables_1 → ∃ a, vk_R own k tx a U) ∧ ∀ x : String × String, x ∈ xNc → va_Nc x.1 x.2 U) ∧ U.vm.findClass "[I" = some cI
abbrev xG : Type := va_G × (Nat → ClassId) × (Nat → Nat) × List xD × Nat × (Nat → Int → Bool)
abbrev xtys (ca : Nat → ClassId) : List (ClassId × FieldType) := [(ca 0, .int), (ca 1, .long), (ca 2, .boolean), (ca 3, .char), (ca 4, .double)]
abbrev xwd (G : xG) (S : xS) : va_W := xw G.2.1 G.2.2.1 G.2.2.2.1 S
/-- what the state holds is in range: where G's last part says so of a long, elsewhere of an int -/
def xval (G : xG) (S : xS) : Prop := ∀ (q : Nat) (i : Int), 0 ≤ i → (G.2.2.2.2.2 q i = false → xR (S q i)) ∧ (G.2.2.2.2.2 q i = true → xRJ (S q i))
theorem xval.i {G : xG} {S : xS} (h : xval G S) {q : Nat} {i : Int} (hi : 0 ≤ i) (hg : G.2.2.2.2.2 q i = false) : xR (S q i) := (h q i hi).1 hg
theorem xval.j {G : xG} {S : xS} (h : xval G S) {q : Nat} {i : Int} (hi : 0 ≤ i) (hg : G.2.2.2.2.2 q i = true) : xRJ (S q i) := (h q i hi).2 hg
theorem xval.up {G : xG} {S : xS} (h : xval G S) {q : Nat} {i v : Int} (hg : G.2.2.2.2.2 q i = false) (hv : xR v) : xval G (xup S q i v) := by
  intro q' i' hi'
  unfold xup
  by_cases z : q' = q ∧ i' = i
  · rw [if_pos z, z.1, z.2]
    exact ⟨fun _ => hv, fun h2 => absurd (hg.symm.trans h2) (by decide)⟩
  · rw [if_neg z]
    exact h q' i' hi'
theorem xval.upJ {G : xG} {S : xS} (h : xval G S) {q : Nat} {i v : Int} (hg : G.2.2.2.2.2 q i = true) (hv : xRJ v) : xval G (xup S q i v) := by
  intro q' i' hi'
  unfold xup
  by_cases z : q' = q ∧ i' = i
  · rw [if_pos z, z.1, z.2]
    exact ⟨fun h2 => absurd (hg.symm.trans h2) (by decide), fun _ => hv⟩
  · rw [if_neg z]
    exact h q' i' hi'
/-- at a place of a method: whatever heap holds the plain state, the walk goes on -/
def xV (G : xG) (p : Program) (l : Launch) (e : Env) (R : Room) (s : State) (m : MethodId) (args : Array Value) (below : List Frame) (meth : Method) (c : Code) (A : Nat → Prop) (nL : Nat) (Q : State → Prop) (cells slots pc : Nat) (L : List (Nat × Value)) (st : List Value) (S : xS) : Prop :=
  ∀ (H : Heap) (locs : List Loc) (ls : Array Slot), va_P G.1 vwCl (xwd G S) H → va_D A (xwd G S) → va_S A s.heap H locs → lv_has ls nL L → W p l e R s m args below meth c H locs cells slots Q (F0 m pc ls st)
def xC (G : xG) (p : Program) (c : Code) (cc : ByteArray) (nL : Nat) (s : State) (args : Array Value) (own : String) (m : MethodId) (A : Nat → Prop) : Prop :=
  CallFix p m c cc nL s args xBIG own ∧ va_K G.1 vwCl (xtys G.2.1) s ∧ (∀ q, s.heap.size ≤ q → A q) ∧ xE A G.2.2.2.2.1 (G.2.1 0) s
section XI
variable {G : xG} {p : Program} {l : Launch} {e : Env} {R : Room} {s : State} {m : MethodId} {args : Array Value} {below : List Frame} {meth : Method} {c : Code} {A : Nat → Prop} {nL : Nat} {Q : State → Prop} {cells slots : Nat}
variable {cc : ByteArray} {own : String} {pc : Nat} {L : List (Nat × Value)} {st : List Value} {S : xS}
theorem xi_iconst (C : xC G p c cc nL s args own m A) {n v : Int} (d : decode cc pc = .ok (.iconst n, 1)) (hv : n = v) (k : xV G p l e R s m args below meth c A nL Q cells slots (pc + 1) L (.int (iN v) :: st) S) : xV G p l e R s m args below meth c A nL Q cells slots pc L st S := by
  intro H locs ls hP hD hS hl
  subst hv
  exact lv_iconst C.1.1 C.1.2.1 d rfl (k H locs ls hP hD hS hl)
theorem xi_bipush (C : xC G p c cc nL s args own m A) {n v : Int} (d : decode cc pc = .ok (.bipush n, 2)) (hv : (Int8.ofInt n).toInt32 = iN v) (k : xV G p l e R s m args below meth c A nL Q cells slots (pc + 2) L (.int (iN v) :: st) S) : xV G p l e R s m args below meth c A nL Q cells slots pc L st S := by
  intro H locs ls hP hD hS hl
  exact lv_bipush C.1.1 C.1.2.1 d hv (k H locs ls hP hD hS hl)
theorem xi_sipush (C : xC G p c cc nL s args own m A) {n v : Int} (d : decode cc pc = .ok (.sipush n, 3)) (hv : (Int16.ofInt n).toInt32 = iN v) (k : xV G p l e R s m args below meth c A nL Q cells slots (pc + 3) L (.int (iN v) :: st) S) : xV G p l e R s m args below meth c A nL Q cells slots pc L st S := by
  intro H locs ls hP hD hS hl
  exact lv_sipush C.1.1 C.1.2.1 d hv (k H locs ls hP hD hS hl)
theorem xi_lconst (C : xC G p c cc nL s args own m A) {n : Fin 2} {v : Int} (d : decode cc pc = .ok (.lconst n, 1)) (hv : Int64.ofNat (n : Nat) = jN v) (k : xV G p l e R s m args below meth c A nL Q cells slots (pc + 1) L (.long (jN v) :: st) S) : xV G p l e R s m args below meth c A nL Q cells slots pc L st S := by
  intro H locs ls hP hD hS hl
  exact lv_lconst C.1.1 C.1.2.1 d hv (k H locs ls hP hD hS hl)
theorem xi_ldc (C : xC G p c cc nL s args own m A) {index : Nat} {w : Int32} {v : Int} (hw : Cond.constant own index w ∈ xBIG) (hv : w = iN v) (d : decode cc pc = .ok (.ldc index, 2)) (k : xV G p l e R s m args below meth c A nL Q cells slots (pc + 2) L (.int (iN v) :: st) S) : xV G p l e R s m args below meth c A nL Q cells slots pc L st S := by
  intro H locs ls hP hD hS hl
  subst hv
  exact lv_ldc C.1.1 C.1.2.1 C.1.2.2.2.1 (C.1.2.2.2.2 _ hw) d (k H locs ls hP hD hS hl)
theorem xi_ldc2 (C : xC G p c cc nL s args own m A) {index : Nat} {w : Int64} {v : Int} (hw : Cond.constantLong own index w ∈ xBIG) (hv : w = jN v) (d : decode cc pc = .ok (.ldc2_w index, 3)) (k : xV G p l e R s m args below meth c A nL Q cells slots (pc + 3) L (.long (jN v) :: st) S) : xV G p l e R s m args below meth c A nL Q cells slots pc L st S := by
  intro H locs ls hP hD hS hl
  subst hv
  exact lv_ldc2 C.1.1 C.1.2.1 C.1.2.2.2.1 (C.1.2.2.2.2 _ hw) d (k H locs ls hP hD hS hl)
theorem xi_iload_n (C : xC G p c cc nL s args own m A) {n : Fin 4} {x : Int32} {i : Nat} (j : Nat) (d : decode cc pc = .ok (.iload_n n, 1)) (hi : (n : Nat) = i) (hj : L[j]? = some (i, .int x)) (k : xV G p l e R s m args below meth c A nL Q cells slots (pc + 1) L (.int x :: st) S) : xV G p l e R s m args below meth c A nL Q cells slots pc L st S := by
  intro H locs ls hP hD hS hl
  exact lv_iload_n C.1.1 C.1.2.1 d hi (lv_at hl j hj) (k H locs ls hP hD hS hl)
theorem xi_iload (C : xC G p c cc nL s args own m A) {x : Int32} {i : Nat} (j : Nat) (d : decode cc pc = .ok (.iload i, 2)) (hj : L[j]? = some (i, .int x)) (k : xV G p l e R s m args below meth c A nL Q cells slots (pc + 2) L (.int x :: st) S) : xV G p l e R s m args below meth c A nL Q cells slots pc L st S := by
  intro H locs ls hP hD hS hl
  exact lv_iload C.1.1 C.1.2.1 d (lv_at hl j hj) (k H locs ls hP hD hS hl)
theorem xi_lload_n (C : xC G p c cc nL s args own m A) {n : Fin 4} {x : Int64} {i : Nat} (j : Nat) (d : decode cc pc = .ok (.lload_n n, 1)) (hi : (n : Nat) = i) (hj : L[j]? = some (i, .long x)) (k : xV G p l e R s m args below meth c A nL Q cells slots (pc + 1) L (.long x :: st) S) : xV G p l e R s m args below meth c A nL Q cells slots pc L st S := by
  intro H locs ls hP hD hS hl
  exact lv_lload_n C.1.1 C.1.2.1 d hi (lv_at hl j hj) (k H locs ls hP hD hS hl)
theorem xi_lload (C : xC G p c cc nL s args own m A) {x : Int64} {i : Nat} (j : Nat) (d : decode cc pc = .ok (.lload i, 2)) (hj : L[j]? = some (i, .long x)) (k : xV G p l e R s m args below meth c A nL Q cells slots (pc + 2) L (.long x :: st) S) : xV G p l e R s m args below meth c A nL Q cells slots pc L st S := by
  intro H locs ls hP hD hS hl
  exact lv_lload C.1.1 C.1.2.1 d (lv_at hl j hj) (k H locs ls hP hD hS hl)
theorem xi_aload_n (C : xC G p c cc nL s args own m A) {n : Fin 4} {x : Nat} {i : Nat} (j : Nat) (d : decode cc pc = .ok (.aload_n n, 1)) (hi : (n : Nat) = i) (hj : L[j]? = some (i, .ref x)) (k : xV G p l e R s m args below meth c A nL Q cells slots (pc + 1) L (.ref x :: st) S) : xV G p l e R s m args below meth c A nL Q cells slots pc L st S := by
  intro H locs ls hP hD hS hl
  exact lv_aload_n C.1.1 C.1.2.1 d hi (lv_at hl j hj) (k H locs ls hP hD hS hl)
theorem xi_aload (C : xC G p c cc nL s args own m A) {x : Nat} {i : Nat} (j : Nat) (d : decode cc pc = .ok (.aload i, 2)) (hj : L[j]? = some (i, .ref x)) (k : xV G p l e R s m args below meth c A nL Q cells slots (pc + 2) L (.ref x :: st) S) : xV G p l e R s m args below meth c A nL Q cells slots pc L st S := by
  intro H locs ls hP hD hS hl
  exact lv_aload C.1.1 C.1.2.1 d (lv_at hl j hj) (k H locs ls hP hD hS hl)
theorem xi_istore_n (C : xC G p c cc nL s args own m A) {n : Fin 4} {x : Int32} {i : Nat} {L' : List (Nat × Value)} (d : decode cc pc = .ok (.istore_n n, 1)) (hi : (n : Nat) = i) (hn : i < nL) (hL : (i, Value.int x) :: L.filter (fun q => !(q.1 == i) && !(q.1 + 1 == i && q.2.category == 2)) = L') (k : xV G p l e R s m args below meth c A nL Q cells slots (pc + 1) L' st S) : xV G p l e R s m args below meth c A nL Q cells slots pc L (.int x :: st) S := by
  intro H locs ls hP hD hS hl
  exact lv_istore_n C.1.1 C.1.2.1 d hi hl hn hL (fun ls2 hl2 => k H locs ls2 hP hD hS hl2)
theorem xi_istore (C : xC G p c cc nL s args own m A) {x : Int32} {i : Nat} {L' : List (Nat × Value)} (d : decode cc pc = .ok (.istore i, 2)) (hn : i < nL) (hL : (i, Value.int x) :: L.filter (fun q => !(q.1 == i) && !(q.1 + 1 == i && q.2.category == 2)) = L') (k : xV G p l e R s m args below meth c A nL Q cells slots (pc + 2) L' st S) : xV G p l e R s m args below meth c A nL Q cells slots pc L (.int x :: st) S := by
  intro H locs ls hP hD hS hl
  exact lv_istore C.1.1 C.1.2.1 d hl hn hL (fun ls2 hl2 => k H locs ls2 hP hD hS hl2)
theorem xi_lstore_n (C : xC G p c cc nL s args own m A) {n : Fin 4} {x : Int64} {i : Nat} {L' : List (Nat × Value)} (d : decode cc pc = .ok (.lstore_n n, 1)) (hi : (n : Nat) = i) (hn : i + 1 < nL) (hL : (i, Value.long x) :: L.filter (fun q => !(q.1 == i) && (!(q.1 == i + 1) && !(q.1 + 1 == i && q.2.category == 2))) = L') (k : xV G p l e R s m args below meth c A nL Q cells slots (pc + 1) L' st S) : xV G p l e R s m args below meth c A nL Q cells slots pc L (.long x :: st) S := by
  intro H locs ls hP hD hS hl
  exact lv_lstore_n C.1.1 C.1.2.1 d hi hl hn hL (fun ls2 hl2 => k H locs ls2 hP hD hS hl2)
theorem xi_lstore (C : xC G p c cc nL s args own m A) {x : Int64} {i : Nat} {L' : List (Nat × Value)} (d : decode cc pc = .ok (.lstore i, 2)) (hn : i + 1 < nL) (hL : (i, Value.long x) :: L.filter (fun q => !(q.1 == i) && (!(q.1 == i + 1) && !(q.1 + 1 == i && q.2.category == 2))) = L') (k : xV G p l e R s m args below meth c A nL Q cells slots (pc + 2) L' st S) : xV G p l e R s m args below meth c A nL Q cells slots pc L (.long x :: st) S := by
  intro H locs ls hP hD hS hl
  exact lv_lstore C.1.1 C.1.2.1 d hl hn hL (fun ls2 hl2 => k H locs ls2 hP hD hS hl2)
theorem xi_astore_n (C : xC G p c cc nL s args own m A) {n : Fin 4} {x : Nat} {i : Nat} {L' : List (Nat × Value)} (d : decode cc pc = .ok (.astore_n n, 1)) (hi : (n : Nat) = i) (hn : i < nL) (hL : (i, Value.ref x) :: L.filter (fun q => !(q.1 == i) && !(q.1 + 1 == i && q.2.category == 2)) = L') (k : xV G p l e R s m args below meth c A nL Q cells slots (pc + 1) L' st S) : xV G p l e R s m args below meth c A nL Q cells slots pc L (.ref x :: st) S := by
  intro H locs ls hP hD hS hl
  exact lv_astore_n C.1.1 C.1.2.1 d hi hl hn hL (fun ls2 hl2 => k H locs ls2 hP hD hS hl2)
theorem xi_astore (C : xC G p c cc nL s args own m A) {x : Nat} {i : Nat} {L' : List (Nat × Value)} (d : decode cc pc = .ok (.astore i, 2)) (hn : i < nL) (hL : (i, Value.ref x) :: L.filter (fun q => !(q.1 == i) && !(q.1 + 1 == i && q.2.category == 2)) = L') (k : xV G p l e R s m args below meth c A nL Q cells slots (pc + 2) L' st S) : xV G p l e R s m args below meth c A nL Q cells slots pc L (.ref x :: st) S := by
  intro H locs ls hP hD hS hl
  exact lv_astore C.1.1 C.1.2.1 d hl hn hL (fun ls2 hl2 => k H locs ls2 hP hD hS hl2)
theorem xi_iinc (C : xC G p c cc nL s args own m A) {i : Nat} {n a : Int} {L' : List (Nat × Value)} (j : Nat) (d : decode cc pc = .ok (.iinc i n, 3)) (hj : L[j]? = some (i, .int (iN a))) (hn : i < nL) (hL : (i, Value.int (iN (a + n))) :: L.filter (fun q => !(q.1 == i) && !(q.1 + 1 == i && q.2.category == 2)) = L') (k : xV G p l e R s m args below meth c A nL Q cells slots (pc + 3) L' st S) : xV G p l e R s m args below meth c A nL Q cells slots pc L st S := by
  intro H locs ls hP hD hS hl
  exact lv_iinc C.1.1 C.1.2.1 d hl hj (by rw [← iN_add]; rfl) hn hL (fun ls2 hl2 => k H locs ls2 hP hD hS hl2)
theorem xi_sub (ps : List Nat) {L' : List (Nat × Value)} (hL : lv_pick L ps = L') (k : xV G p l e R s m args below meth c A nL Q cells slots pc L' st S) : xV G p l e R s m args below meth c A nL Q cells slots pc L st S := fun H locs ls hP hD hS hl => k H locs ls hP hD hS (lv_sub hl ps hL)
theorem xi_iadd (C : xC G p c cc nL s args own m A) {a b : Int} (d : decode cc pc = .ok (.iadd, 1)) (k : xV G p l e R s m args below meth c A nL Q cells slots (pc + 1) L (.int (iN (a + b)) :: st) S) : xV G p l e R s m args below meth c A nL Q cells slots pc L (.int (iN b) :: .int (iN a) :: st) S := by
  intro H locs ls hP hD hS hl
  exact lv_iadd C.1.1 C.1.2.1 d (by rw [iN_add]; exact k H locs ls hP hD hS hl)
theorem xi_isub (C : xC G p c cc nL s args own m A) {a b : Int} (d : decode cc pc = .ok (.isub, 1)) (k : xV G p l e R s m args below meth c A nL Q cells slots (pc + 1) L (.int (iN (a - b)) :: st) S) : xV G p l e R s m args below meth c A nL Q cells slots pc L (.int (iN b) :: .int (iN a) :: st) S := by
  intro H locs ls hP hD hS hl
  exact lv_isub C.1.1 C.1.2.1 d (by rw [iN_sub]; exact k H locs ls hP hD hS hl)
theorem xi_imul (C : xC G p c cc nL s args own m A) {a b : Int} (d : decode cc pc = .ok (.imul, 1)) (k : xV G p l e R s m args below meth c A nL Q cells slots (pc + 1) L (.int (iN (a * b)) :: st) S) : xV G p l e R s m args below meth c A nL Q cells slots pc L (.int (iN b) :: .int (iN a) :: st) S := by
  intro H locs ls hP hD hS hl
  exact lv_imul C.1.1 C.1.2.1 d (by rw [iN_mul]; exact k H locs ls hP hD hS hl)
theorem xi_ladd (C : xC G p c cc nL s args own m A) {a b : Int} (d : decode cc pc = .ok (.ladd, 1)) (k : xV G p l e R s m args below meth c A nL Q cells slots (pc + 1) L (.long (jN (a + b)) :: st) S) : xV G p l e R s m args below meth c A nL Q cells slots pc L (.long (jN b) :: .long (jN a) :: st) S := by
  intro H locs ls hP hD hS hl
  exact lv_ladd C.1.1 C.1.2.1 d (by rw [jN_add]; exact k H locs ls hP hD hS hl)
theorem xi_lsub (C : xC G p c cc nL s args own m A) {a b : Int} (d : decode cc pc = .ok (.lsub, 1)) (k : xV G p l e R s m args below meth c A nL Q cells slots (pc + 1) L (.long (jN (a - b)) :: st) S) : xV G p l e R s m args below meth c A nL Q cells slots pc L (.long (jN b) :: .long (jN a) :: st) S := by
  intro H locs ls hP hD hS hl
  exact lv_lsub C.1.1 C.1.2.1 d (by rw [jN_sub]; exact k H locs ls hP hD hS hl)
theorem xi_lmul (C : xC G p c cc nL s args own m A) {a b : Int} (d : decode cc pc = .ok (.lmul, 1)) (k : xV G p l e R s m args below meth c A nL Q cells slots (pc + 1) L (.long (jN (a * b)) :: st) S) : xV G p l e R s m args below meth c A nL Q cells slots pc L (.long (jN b) :: .long (jN a) :: st) S := by
  intro H locs ls hP hD hS hl
  exact lv_lmul C.1.1 C.1.2.1 d (by rw [jN_mul]; exact k H locs ls hP hD hS hl)
theorem xi_idiv (C : xC G p c cc nL s args own m A) {a b : Int} (ha : xR a) (h0 : 0 ≤ a) (hb : xR b) (hb0 : 0 < b) (d : decode cc pc = .ok (.idiv, 1)) (k : xV G p l e R s m args below meth c A nL Q cells slots (pc + 1) L (.int (iN (a / b)) :: st) S) : xV G p l e R s m args below meth c A nL Q cells slots pc L (.int (iN b) :: .int (iN a) :: st) S := by
  intro H locs ls hP hD hS hl
  exact lv_idiv C.1.1 C.1.2.1 d (iN_nz hb hb0) (by rw [iN_div ha h0 hb hb0]; exact k H locs ls hP hD hS hl)
theorem xi_irem (C : xC G p c cc nL s args own m A) {a b : Int} (ha : xR a) (h0 : 0 ≤ a) (hb : xR b) (hb0 : 0 < b) (d : decode cc pc = .ok (.irem, 1)) (k : xV G p l e R s m args below meth c A nL Q cells slots (pc + 1) L (.int (iN (a % b)) :: st) S) : xV G p l e R s m args below meth c A nL Q cells slots pc L (.int (iN b) :: .int (iN a) :: st) S := by
  intro H locs ls hP hD hS hl
  exact lv_irem C.1.1 C.1.2.1 d (iN_nz hb hb0) (by rw [iN_rem ha h0 hb hb0]; exact k H locs ls hP hD hS hl)
theorem xi_ldiv (C : xC G p c cc nL s args own m A) {a b : Int} (ha : xRJ a) (h0 : 0 ≤ a) (hb : xRJ b) (hb0 : 0 < b) (d : decode cc pc = .ok (.ldiv, 1)) (k : xV G p l e R s m args below meth c A nL Q cells slots (pc + 1) L (.long (jN (a / b)) :: st) S) : xV G p l e R s m args below meth c A nL Q cells slots pc L (.long (jN b) :: .long (jN a) :: st) S := by
  intro H locs ls hP hD hS hl
  exact lv_ldiv C.1.1 C.1.2.1 d (jN_nz hb hb0) (by rw [jN_div ha h0 hb hb0]; exact k H locs ls hP hD hS hl)
theorem xi_lrem (C : xC G p c cc nL s args own m A) {a b : Int} (ha : xRJ a) (h0 : 0 ≤ a) (hb : xRJ b) (hb0 : 0 < b) (d : decode cc pc = .ok (.lrem, 1)) (k : xV G p l e R s m args below meth c A nL Q cells slots (pc + 1) L (.long (jN (a % b)) :: st) S) : xV G p l e R s m args below meth c A nL Q cells slots pc L (.long (jN b) :: .long (jN a) :: st) S := by
  intro H locs ls hP hD hS hl
  exact lv_lrem C.1.1 C.1.2.1 d (jN_nz hb hb0) (by rw [jN_rem ha h0 hb hb0]; exact k H locs ls hP hD hS hl)
theorem xi_iand (C : xC G p c cc nL s args own m A) {a b : Int} (d : decode cc pc = .ok (.iand, 1)) (k : xV G p l e R s m args below meth c A nL Q cells slots (pc + 1) L (.int (iN (xand a b)) :: st) S) : xV G p l e R s m args below meth c A nL Q cells slots pc L (.int (iN b) :: .int (iN a) :: st) S := by
  intro H locs ls hP hD hS hl
  have k := k H locs ls hP hD hS hl
  unfold xand at k
  rw [iN_of] at k
  exact lv_iand C.1.1 C.1.2.1 d k
theorem xi_ior (C : xC G p c cc nL s args own m A) {a b : Int} (d : decode cc pc = .ok (.ior, 1)) (k : xV G p l e R s m args below meth c A nL Q cells slots (pc + 1) L (.int (iN (xor32 a b)) :: st) S) : xV G p l e R s m args below meth c A nL Q cells slots pc L (.int (iN b) :: .int (iN a) :: st) S := by
  intro H locs ls hP hD hS hl
  have k := k H locs ls hP hD hS hl
  unfold xor32 at k
  rw [iN_of] at k
  exact lv_ior C.1.1 C.1.2.1 d k
theorem xi_ixor (C : xC G p c cc nL s args own m A) {a b : Int} (d : decode cc pc = .ok (.ixor, 1)) (k : xV G p l e R s m args below meth c A nL Q cells slots (pc + 1) L (.int (iN (xxor a b)) :: st) S) : xV G p l e R s m args below meth c A nL Q cells slots pc L (.int (iN b) :: .int (iN a) :: st) S := by
  intro H locs ls hP hD hS hl
  have k := k H locs ls hP hD hS hl
  unfold xxor at k
  rw [iN_of] at k
  exact lv_ixor C.1.1 C.1.2.1 d k
theorem xi_i2l (C : xC G p c cc nL s args own m A) {a : Int} (ha : xR a) (d : decode cc pc = .ok (.i2l, 1)) (k : xV G p l e R s m args below meth c A nL Q cells slots (pc + 1) L (.long (jN a) :: st) S) : xV G p l e R s m args below meth c A nL Q cells slots pc L (.int (iN a) :: st) S := by
  intro H locs ls hP hD hS hl
  exact lv_i2l C.1.1 C.1.2.1 d (iN_l ha) (k H locs ls hP hD hS hl)
theorem xi_l2i (C : xC G p c cc nL s args own m A) {a : Int} (d : decode cc pc = .ok (.l2i, 1)) (k : xV G p l e R s m args below meth c A nL Q cells slots (pc + 1) L (.int (iN a) :: st) S) : xV G p l e R s m args below meth c A nL Q cells slots pc L (.long (jN a) :: st) S := by
  intro H locs ls hP hD hS hl
  exact lv_l2i C.1.1 C.1.2.1 d (jN_i a) (k H locs ls hP hD hS hl)
theorem xi_dup (C : xC G p c cc nL s args own m A) {va : Value} (d : decode cc pc = .ok (.dup, 1)) (hv : va.category = 1) (k : xV G p l e R s m args below meth c A nL Q cells slots (pc + 1) L (va :: va :: st) S) : xV G p l e R s m args below meth c A nL Q cells slots pc L (va :: st) S := by
  intro H locs ls hP hD hS hl
  exact lv_dup C.1.1 C.1.2.1 d hv (k H locs ls hP hD hS hl)
theorem xi_dup_x1 (C : xC G p c cc nL s args own m A) {va vb : Value} (d : decode cc pc = .ok (.dup_x1, 1)) (hv : va.category = 1) (hw : vb.category = 1) (k : xV G p l e R s m args below meth c A nL Q cells slots (pc + 1) L (va :: vb :: va :: st) S) : xV G p l e R s m args below meth c A nL Q cells slots pc L (va :: vb :: st) S := by
  intro H locs ls hP hD hS hl
  exact lv_dup_x1 C.1.1 C.1.2.1 d hv hw (k H locs ls hP hD hS hl)
theorem xi_dup2 (C : xC G p c cc nL s args own m A) {va vb : Value} (d : decode cc pc = .ok (.dup2, 1)) (hv : va.category = 1) (hw : vb.category = 1) (k : xV G p l e R s m args below meth c A nL Q cells slots (pc + 1) L (va :: vb :: va :: vb :: st) S) : xV G p l e R s m args below meth c A nL Q cells slots pc L (va :: vb :: st) S := by
  intro H locs ls hP hD hS hl
  exact lv_dup2_11 C.1.1 C.1.2.1 d hv hw (k H locs ls hP hD hS hl)
theorem xi_pop (C : xC G p c cc nL s args own m A) {va : Value} (d : decode cc pc = .ok (.pop, 1)) (hv : va.category = 1) (k : xV G p l e R s m args below meth c A nL Q cells slots (pc + 1) L st S) : xV G p l e R s m args below meth c A nL Q cells slots pc L (va :: st) S := by
  intro H locs ls hP hD hS hl
  exact lv_pop C.1.1 C.1.2.1 d hv (k H locs ls hP hD hS hl)
theorem xi_goto (C : xC G p c cc nL s args own m A) {off : Int} (tgt : Nat) (d : decode cc pc = .ok (.goto off, 3)) (ht : (pc : Int) + off = (tgt : Int)) (k : xV G p l e R s m args below meth c A nL Q cells slots tgt L st S) : xV G p l e R s m args below meth c A nL Q cells slots pc L st S := by
  intro H locs ls hP hD hS hl
  exact lv_goto C.1.1 C.1.2.1 d ht (k H locs ls hP hD hS hl)
theorem xi_icmp_eq (C : xC G p c cc nL s args own m A) {a b off : Int} (tgt : Nat) (ha : xR a) (hb : xR b) (d : decode cc pc = .ok (.if_icmp .eq off, 3)) (ht : (pc : Int) + off = (tgt : Int)) (kt : a = b → xV G p l e R s m args below meth c A nL Q cells slots tgt L st S) (kf : ¬ a = b → xV G p l e R s m args below meth c A nL Q cells slots (pc + 3) L st S) : xV G p l e R s m args below meth c A nL Q cells slots pc L (.int (iN b) :: .int (iN a) :: st) S := by
  intro H locs ls hP hD hS hl
  exact lv_icmp_eq C.1.1 C.1.2.1 d ht (fun z => kt ((iN_eq ha hb).mp z) H locs ls hP hD hS hl) (fun z => kf (fun y => z ((iN_eq ha hb).mpr y)) H locs ls hP hD hS hl)
theorem xi_if_eq (C : xC G p c cc nL s args own m A) {a off : Int} (tgt : Nat) (ha : xR a) (d : decode cc pc = .ok (.ifCond .eq off, 3)) (ht : (pc : Int) + off = (tgt : Int)) (kt : a = 0 → xV G p l e R s m args below meth c A nL Q cells slots tgt L st S) (kf : ¬ a = 0 → xV G p l e R s m args below meth c A nL Q cells slots (pc + 3) L st S) : xV G p l e R s m args below meth c A nL Q cells slots pc L (.int (iN a) :: st) S := by
  intro H locs ls hP hD hS hl
  exact lv_if_eq C.1.1 C.1.2.1 d ht (fun z => kt ((iN_eq ha xR_0).mp (by rw [iN_0]; exact z)) H locs ls hP hD hS hl) (fun z => kf (fun y => z (by rw [← iN_0]; exact (iN_eq ha xR_0).mpr y)) H locs ls hP hD hS hl)
theorem xi_icmp_ne (C : xC G p c cc nL s args own m A) {a b off : Int} (tgt : Nat) (ha : xR a) (hb : xR b) (d : decode cc pc = .ok (.if_icmp .ne off, 3)) (ht : (pc : Int) + off = (tgt : Int)) (kt : ¬ a = b → xV G p l e R s m args below meth c A nL Q cells slots tgt L st S) (kf : a = b → xV G p l e R s m args below meth c A nL Q cells slots (pc + 3) L st S) : xV G p l e R s m args below meth c A nL Q cells slots pc L (.int (iN b) :: .int (iN a) :: st) S := by
  intro H locs ls hP hD hS hl
  exact lv_icmp_ne C.1.1 C.1.2.1 d ht (fun z => kt (fun y => z ((iN_eq ha hb).mpr y)) H locs ls hP hD hS hl) (fun z => kf ((iN_eq ha hb).mp z) H locs ls hP hD hS hl)
theorem xi_if_ne (C : xC G p c cc nL s args own m A) {a off : Int} (tgt : Nat) (ha : xR a) (d : decode cc pc = .ok (.ifCond .ne off, 3)) (ht : (pc : Int) + off = (tgt : Int)) (kt : ¬ a = 0 → xV G p l e R s m args below meth c A nL Q cells slots tgt L st S) (kf : a = 0 → xV G p l e R s m args below meth c A nL Q cells slots (pc + 3) L st S) : xV G p l e R s m args below meth c A nL Q cells slots pc L (.int (iN a) :: st) S := by
  intro H locs ls hP hD hS hl
  exact lv_if_ne C.1.1 C.1.2.1 d ht (fun z => kt (fun y => z (by rw [← iN_0]; exact (iN_eq ha xR_0).mpr y)) H locs ls hP hD hS hl) (fun z => kf ((iN_eq ha xR_0).mp (by rw [iN_0]; exact z)) H locs ls hP hD hS hl)
theorem xi_icmp_lt (C : xC G p c cc nL s args own m A) {a b off : Int} (tgt : Nat) (ha : xR a) (hb : xR b) (d : decode cc pc = .ok (.if_icmp .lt off, 3)) (ht : (pc : Int) + off = (tgt : Int)) (kt : a < b → xV G p l e R s m args below meth c A nL Q cells slots tgt L st S) (kf : ¬ a < b → xV G p l e R s m args below meth c A nL Q cells slots (pc + 3) L st S) : xV G p l e R s m args below meth c A nL Q cells slots pc L (.int (iN b) :: .int (iN a) :: st) S := by
  intro H locs ls hP hD hS hl
  exact lv_icmp_lt C.1.1 C.1.2.1 d ht (fun z => kt ((iN_lt ha hb).mp z) H locs ls hP hD hS hl) (fun z => kf (fun y => z ((iN_lt ha hb).mpr y)) H locs ls hP hD hS hl)
theorem xi_if_lt (C : xC G p c cc nL s args own m A) {a off : Int} (tgt : Nat) (ha : xR a) (d : decode cc pc = .ok (.ifCond .lt off, 3)) (ht : (pc : Int) + off = (tgt : Int)) (kt : a < 0 → xV G p l e R s m args below meth c A nL Q cells slots tgt L st S) (kf : ¬ a < 0 → xV G p l e R s m args below meth c A nL Q cells slots (pc + 3) L st S) : xV G p l e R s m args below meth c A nL Q cells slots pc L (.int (iN a) :: st) S := by
  intro H locs ls hP hD hS hl
  exact lv_if_lt C.1.1 C.1.2.1 d ht (fun z => kt ((iN_lt ha xR_0).mp (by rw [iN_0]; exact z)) H locs ls hP hD hS hl) (fun z => kf (fun y => z (by rw [← iN_0]; exact (iN_lt ha xR_0).mpr y)) H locs ls hP hD hS hl)
theorem xi_icmp_ge (C : xC G p c cc nL s args own m A) {a b off : Int} (tgt : Nat) (ha : xR a) (hb : xR b) (d : decode cc pc = .ok (.if_icmp .ge off, 3)) (ht : (pc : Int) + off = (tgt : Int)) (kt : b ≤ a → xV G p l e R s m args below meth c A nL Q cells slots tgt L st S) (kf : ¬ b ≤ a → xV G p l e R s m args below meth c A nL Q cells slots (pc + 3) L st S) : xV G p l e R s m args below meth c A nL Q cells slots pc L (.int (iN b) :: .int (iN a) :: st) S := by
  intro H locs ls hP hD hS hl
  exact lv_icmp_ge C.1.1 C.1.2.1 d ht (fun z => kt ((iN_le hb ha).mp z) H locs ls hP hD hS hl) (fun z => kf (fun y => z ((iN_le hb ha).mpr y)) H locs ls hP hD hS hl)
theorem xi_if_ge (C : xC G p c cc nL s args own m A) {a off : Int} (tgt : Nat) (ha : xR a) (d : decode cc pc = .ok (.ifCond .ge off, 3)) (ht : (pc : Int) + off = (tgt : Int)) (kt : 0 ≤ a → xV G p l e R s m args below meth c A nL Q cells slots tgt L st S) (kf : ¬ 0 ≤ a → xV G p l e R s m args below meth c A nL Q cells slots (pc + 3) L st S) : xV G p l e R s m args below meth c A nL Q cells slots pc L (.int (iN a) :: st) S := by
  intro H locs ls hP hD hS hl
  exact lv_if_ge C.1.1 C.1.2.1 d ht (fun z => kt ((iN_le xR_0 ha).mp (by rw [iN_0]; exact z)) H locs ls hP hD hS hl) (fun z => kf (fun y => z (by rw [← iN_0]; exact (iN_le xR_0 ha).mpr y)) H locs ls hP hD hS hl)
theorem xi_icmp_gt (C : xC G p c cc nL s args own m A) {a b off : Int} (tgt : Nat) (ha : xR a) (hb : xR b) (d : decode cc pc = .ok (.if_icmp .gt off, 3)) (ht : (pc : Int) + off = (tgt : Int)) (kt : b < a → xV G p l e R s m args below meth c A nL Q cells slots tgt L st S) (kf : ¬ b < a → xV G p l e R s m args below meth c A nL Q cells slots (pc + 3) L st S) : xV G p l e R s m args below meth c A nL Q cells slots pc L (.int (iN b) :: .int (iN a) :: st) S := by
  intro H locs ls hP hD hS hl
  exact lv_icmp_gt C.1.1 C.1.2.1 d ht (fun z => kt ((iN_lt hb ha).mp z) H locs ls hP hD hS hl) (fun z => kf (fun y => z ((iN_lt hb ha).mpr y)) H locs ls hP hD hS hl)
theorem xi_if_gt (C : xC G p c cc nL s args own m A) {a off : Int} (tgt : Nat) (ha : xR a) (d : decode cc pc = .ok (.ifCond .gt off, 3)) (ht : (pc : Int) + off = (tgt : Int)) (kt : 0 < a → xV G p l e R s m args below meth c A nL Q cells slots tgt L st S) (kf : ¬ 0 < a → xV G p l e R s m args below meth c A nL Q cells slots (pc + 3) L st S) : xV G p l e R s m args below meth c A nL Q cells slots pc L (.int (iN a) :: st) S := by
  intro H locs ls hP hD hS hl
  exact lv_if_gt C.1.1 C.1.2.1 d ht (fun z => kt ((iN_lt xR_0 ha).mp (by rw [iN_0]; exact z)) H locs ls hP hD hS hl) (fun z => kf (fun y => z (by rw [← iN_0]; exact (iN_lt xR_0 ha).mpr y)) H locs ls hP hD hS hl)
theorem xi_icmp_le (C : xC G p c cc nL s args own m A) {a b off : Int} (tgt : Nat) (ha : xR a) (hb : xR b) (d : decode cc pc = .ok (.if_icmp .le off, 3)) (ht : (pc : Int) + off = (tgt : Int)) (kt : a ≤ b → xV G p l e R s m args below meth c A nL Q cells slots tgt L st S) (kf : ¬ a ≤ b → xV G p l e R s m args below meth c A nL Q cells slots (pc + 3) L st S) : xV G p l e R s m args below meth c A nL Q cells slots pc L (.int (iN b) :: .int (iN a) :: st) S := by
  intro H locs ls hP hD hS hl
  exact lv_icmp_le C.1.1 C.1.2.1 d ht (fun z => kt ((iN_le ha hb).mp z) H locs ls hP hD hS hl) (fun z => kf (fun y => z ((iN_le ha hb).mpr y)) H locs ls hP hD hS hl)
theorem xi_if_le (C : xC G p c cc nL s args own m A) {a off : Int} (tgt : Nat) (ha : xR a) (d : decode cc pc = .ok (.ifCond .le off, 3)) (ht : (pc : Int) + off = (tgt : Int)) (kt : a ≤ 0 → xV G p l e R s m args below meth c A nL Q cells slots tgt L st S) (kf : ¬ a ≤ 0 → xV G p l e R s m args below meth c A nL Q cells slots (pc + 3) L st S) : xV G p l e R s m args below meth c A nL Q cells slots pc L (.int (iN a) :: st) S := by
  intro H locs ls hP hD hS hl
  exact lv_if_le C.1.1 C.1.2.1 d ht (fun z => kt ((iN_le ha xR_0).mp (by rw [iN_0]; exact z)) H locs ls hP hD hS hl) (fun z => kf (fun y => z (by rw [← iN_0]; exact (iN_le ha xR_0).mpr y)) H locs ls hP hD hS hl)
end XI

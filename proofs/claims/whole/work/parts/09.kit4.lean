section XL
variable {G : xG} {p : Program} {l : Launch} {e : Env} {R : Room} {s : State} {m : MethodId} {args : Array Value} {below : List Frame} {meth : Method} {c : Code} {A : Nat → Prop} {nL : Nat} {Q : State → Prop} {cells slots : Nat}
variable {cc : ByteArray} {own : String} {pc : Nat} {L : List (Nat × Value)} {st st0 : List Value} {S : xS}
theorem xc_Vi (C : xC G p c cc nL s args own m A) {y : MethodName} {bytes : ByteArray} {maxL n index mc ms f lo : Nat} {ret : Option FieldType} {q ci : Nat} {fs : List (Nat × Nat)} {T : u_T} {N : Nat} {ty : Nat → FieldType} {As : List Value} {Qm : Int → xS → Prop} (hw : xval G S)
    (hM : xM l y (xws y bytes maxL ret) ({ frames := f, cells := mc, slots := ms, locals := lo }) G (.ref (G.2.2.1 q) :: As) S (xQi Qm) mc ms) (hy : xYk y bytes maxL ret n) (hv : xYv y) (hl : Cond.methodLink own index y ∈ xBIG) (hR : f + 1 ≤ R.frames ∧ 8 + (maxL + 11) + lo ≤ R.locals)
    (hK : xKl ci y.cls T N ty) (hq : G.2.2.2.1[q]? = some (.inr (ci, fs))) (hn : As.length = n) (hst : st0 = As.reverse ++ .ref (G.2.2.1 q) :: st) (hcat : (st.map fun v => v.category).sum ≤ 8) (hf : cells + mc ≤ R.cells ∧ slots + ms ≤ R.slots) (d : decode cc pc = .ok (.invokevirtual index, 3))
    (k : ∀ (x : Int) (S' : xS), xR x → Qm x S' → xval G S' → xV G p l e R s m args below meth c A nL Q (cells + mc) (slots + ms) (pc + 3) L (.int (iN x) :: st) S') : xV G p l e R s m args below meth c A nL Q cells slots pc L st0 S :=
  xc_V C hw hM hy hv hl hR hK hq hn hst hcat hf d (fun r S' hq hw => by obtain ⟨x, rfl, hx, h⟩ := hq; exact k x S' hx h hw)
theorem xc_Vj (C : xC G p c cc nL s args own m A) {y : MethodName} {bytes : ByteArray} {maxL n index mc ms f lo : Nat} {ret : Option FieldType} {q ci : Nat} {fs : List (Nat × Nat)} {T : u_T} {N : Nat} {ty : Nat → FieldType} {As : List Value} {Qm : Int → xS → Prop} (hw : xval G S)
    (hM : xM l y (xws y bytes maxL ret) ({ frames := f, cells := mc, slots := ms, locals := lo }) G (.ref (G.2.2.1 q) :: As) S (xQj Qm) mc ms) (hy : xYk y bytes maxL ret n) (hv : xYv y) (hl : Cond.methodLink own index y ∈ xBIG) (hR : f + 1 ≤ R.frames ∧ 8 + (maxL + 11) + lo ≤ R.locals)
    (hK : xKl ci y.cls T N ty) (hq : G.2.2.2.1[q]? = some (.inr (ci, fs))) (hn : As.length = n) (hst : st0 = As.reverse ++ .ref (G.2.2.1 q) :: st) (hcat : (st.map fun v => v.category).sum ≤ 8) (hf : cells + mc ≤ R.cells ∧ slots + ms ≤ R.slots) (d : decode cc pc = .ok (.invokevirtual index, 3))
    (k : ∀ (x : Int) (S' : xS), xRJ x → Qm x S' → xval G S' → xV G p l e R s m args below meth c A nL Q (cells + mc) (slots + ms) (pc + 3) L (.long (jN x) :: st) S') : xV G p l e R s m args below meth c A nL Q cells slots pc L st0 S :=
  xc_V C hw hM hy hv hl hR hK hq hn hst hcat hf d (fun r S' hq hw => by obtain ⟨x, rfl, hx, h⟩ := hq; exact k x S' hx h hw)
theorem xc_Vv (C : xC G p c cc nL s args own m A) {y : MethodName} {bytes : ByteArray} {maxL n index mc ms f lo : Nat} {ret : Option FieldType} {q ci : Nat} {fs : List (Nat × Nat)} {T : u_T} {N : Nat} {ty : Nat → FieldType} {As : List Value} {Qm : xS → Prop} (hw : xval G S)
    (hM : xM l y (xws y bytes maxL ret) ({ frames := f, cells := mc, slots := ms, locals := lo }) G (.ref (G.2.2.1 q) :: As) S (xQv Qm) mc ms) (hy : xYk y bytes maxL ret n) (hv : xYv y) (hl : Cond.methodLink own index y ∈ xBIG) (hR : f + 1 ≤ R.frames ∧ 8 + (maxL + 11) + lo ≤ R.locals)
    (hK : xKl ci y.cls T N ty) (hq : G.2.2.2.1[q]? = some (.inr (ci, fs))) (hn : As.length = n) (hst : st0 = As.reverse ++ .ref (G.2.2.1 q) :: st) (hcat : (st.map fun v => v.category).sum ≤ 8) (hf : cells + mc ≤ R.cells ∧ slots + ms ≤ R.slots) (d : decode cc pc = .ok (.invokevirtual index, 3))
    (k : ∀ (S' : xS), Qm S' → xval G S' → xV G p l e R s m args below meth c A nL Q (cells + mc) (slots + ms) (pc + 3) L st S') : xV G p l e R s m args below meth c A nL Q cells slots pc L st0 S :=
  xc_V C hw hM hy hv hl hR hK hq hn hst hcat hf d (fun r S' hq hw => by obtain ⟨rfl, h⟩ := hq; exact k S' h hw)
theorem xc_Si (C : xC G p c cc nL s args own m A) {y : MethodName} {bytes : ByteArray} {maxL n index mc ms f lo : Nat} {ret : Option FieldType} {As : List Value} {Qm : Int → xS → Prop} (hw : xval G S)
    (hM : xM l y (xws y bytes maxL ret) ({ frames := f, cells := mc, slots := ms, locals := lo }) G As S (xQi Qm) mc ms) (hy : xYk y bytes maxL ret n) (hv : Cond.static y ∈ xBIG) (hl : Cond.methodLink own index y ∈ xBIG) (hR : f + 1 ≤ R.frames ∧ 8 + (maxL + 11) + lo ≤ R.locals)
    (hn : As.length = n) (hst : st0 = As.reverse ++ st) (hcat : (st.map fun v => v.category).sum ≤ 8) (hf : cells + mc ≤ R.cells ∧ slots + ms ≤ R.slots) (d : decode cc pc = .ok (.invokestatic index, 3))
    (k : ∀ (x : Int) (S' : xS), xR x → Qm x S' → xval G S' → xV G p l e R s m args below meth c A nL Q (cells + mc) (slots + ms) (pc + 3) L (.int (iN x) :: st) S') : xV G p l e R s m args below meth c A nL Q cells slots pc L st0 S :=
  xc_S C hw hM hy hv hl hR hn hst hcat hf d (fun r S' hq hw => by obtain ⟨x, rfl, hx, h⟩ := hq; exact k x S' hx h hw)
theorem xc_Sj (C : xC G p c cc nL s args own m A) {y : MethodName} {bytes : ByteArray} {maxL n index mc ms f lo : Nat} {ret : Option FieldType} {As : List Value} {Qm : Int → xS → Prop} (hw : xval G S)
    (hM : xM l y (xws y bytes maxL ret) ({ frames := f, cells := mc, slots := ms, locals := lo }) G As S (xQj Qm) mc ms) (hy : xYk y bytes maxL ret n) (hv : Cond.static y ∈ xBIG) (hl : Cond.methodLink own index y ∈ xBIG) (hR : f + 1 ≤ R.frames ∧ 8 + (maxL + 11) + lo ≤ R.locals)
    (hn : As.length = n) (hst : st0 = As.reverse ++ st) (hcat : (st.map fun v => v.category).sum ≤ 8) (hf : cells + mc ≤ R.cells ∧ slots + ms ≤ R.slots) (d : decode cc pc = .ok (.invokestatic index, 3))
    (k : ∀ (x : Int) (S' : xS), xRJ x → Qm x S' → xval G S' → xV G p l e R s m args below meth c A nL Q (cells + mc) (slots + ms) (pc + 3) L (.long (jN x) :: st) S') : xV G p l e R s m args below meth c A nL Q cells slots pc L st0 S :=
  xc_S C hw hM hy hv hl hR hn hst hcat hf d (fun r S' hq hw => by obtain ⟨x, rfl, hx, h⟩ := hq; exact k x S' hx h hw)
theorem xc_Sv (C : xC G p c cc nL s args own m A) {y : MethodName} {bytes : ByteArray} {maxL n index mc ms f lo : Nat} {ret : Option FieldType} {As : List Value} {Qm : xS → Prop} (hw : xval G S)
    (hM : xM l y (xws y bytes maxL ret) ({ frames := f, cells := mc, slots := ms, locals := lo }) G As S (xQv Qm) mc ms) (hy : xYk y bytes maxL ret n) (hv : Cond.static y ∈ xBIG) (hl : Cond.methodLink own index y ∈ xBIG) (hR : f + 1 ≤ R.frames ∧ 8 + (maxL + 11) + lo ≤ R.locals)
    (hn : As.length = n) (hst : st0 = As.reverse ++ st) (hcat : (st.map fun v => v.category).sum ≤ 8) (hf : cells + mc ≤ R.cells ∧ slots + ms ≤ R.slots) (d : decode cc pc = .ok (.invokestatic index, 3))
    (k : ∀ (S' : xS), Qm S' → xval G S' → xV G p l e R s m args below meth c A nL Q (cells + mc) (slots + ms) (pc + 3) L st S') : xV G p l e R s m args below meth c A nL Q cells slots pc L st0 S :=
  xc_S C hw hM hy hv hl hR hn hst hcat hf d (fun r S' hq hw => by obtain ⟨rfl, h⟩ := hq; exact k S' h hw)
theorem xlg_lt {a b : Int} (ha : xRJ a) (hb : xRJ b) : lg_cmp (jN a) (jN b) < 0 ↔ a < b := by
  unfold lg_cmp
  simp only [gt_iff_lt, jN_lt hb ha, jN_eq ha hb]
  split
  · exact ⟨fun h => absurd h (by decide), fun h => by omega⟩
  · split
    · exact ⟨fun h => absurd h (by decide), fun h => by omega⟩
    · exact ⟨fun _ => by omega, fun _ => by decide⟩
theorem xlg_gt {a b : Int} (ha : xRJ a) (hb : xRJ b) : 0 < lg_cmp (jN a) (jN b) ↔ b < a := by
  unfold lg_cmp
  simp only [gt_iff_lt, jN_lt hb ha, jN_eq ha hb]
  split
  · exact ⟨fun _ => by assumption, fun _ => by decide⟩
  · split
    · exact ⟨fun h => absurd h (by decide), fun h => by omega⟩
    · exact ⟨fun h => absurd h (by decide), fun h => by omega⟩
theorem xlg_eq {a b : Int} (ha : xRJ a) (hb : xRJ b) : lg_cmp (jN a) (jN b) = 0 ↔ a = b := by
  unfold lg_cmp
  simp only [gt_iff_lt, jN_lt hb ha, jN_eq ha hb]
  split
  · exact ⟨fun h => absurd h (by decide), fun h => by omega⟩
  · split
    · exact ⟨fun _ => by assumption, fun _ => rfl⟩
    · exact ⟨fun h => absurd h (by decide), fun h => by omega⟩
theorem xlg_ge {a b : Int} (ha : xRJ a) (hb : xRJ b) : 0 ≤ lg_cmp (jN a) (jN b) ↔ b ≤ a := by
  rw [lg_cmp_ge, jN_le hb ha]
theorem xlg_le {a b : Int} (ha : xRJ a) (hb : xRJ b) : lg_cmp (jN a) (jN b) ≤ 0 ↔ a ≤ b := by
  rw [lg_cmp_le, jN_le ha hb]
theorem xi_lcmp_lt (C : xC G p c cc nL s args own m A) {a b off : Int} (tgt : Nat) (ha : xRJ a) (hb : xRJ b) (d : decode cc pc = .ok (.lcmp, 1)) (d2 : decode cc (pc + 1) = .ok (.ifCond .lt off, 3)) (ht : ((pc + 1 : Nat) : Int) + off = (tgt : Int)) (kt : a < b → xV G p l e R s m args below meth c A nL Q cells slots tgt L st S) (kf : ¬ a < b → xV G p l e R s m args below meth c A nL Q cells slots (pc + 1 + 3) L st S) : xV G p l e R s m args below meth c A nL Q cells slots pc L (.long (jN b) :: .long (jN a) :: st) S := by
  intro H locs ls hP hD hS hl
  exact W.lcmp C.1.1 C.1.2.1 d (lv_if_lt C.1.1 C.1.2.1 d2 ht (fun z => kt ((xlg_lt ha hb).mp z) H locs ls hP hD hS hl) (fun z => kf (fun y => z ((xlg_lt ha hb).mpr y)) H locs ls hP hD hS hl))
theorem xi_lcmp_ge (C : xC G p c cc nL s args own m A) {a b off : Int} (tgt : Nat) (ha : xRJ a) (hb : xRJ b) (d : decode cc pc = .ok (.lcmp, 1)) (d2 : decode cc (pc + 1) = .ok (.ifCond .ge off, 3)) (ht : ((pc + 1 : Nat) : Int) + off = (tgt : Int)) (kt : b ≤ a → xV G p l e R s m args below meth c A nL Q cells slots tgt L st S) (kf : ¬ b ≤ a → xV G p l e R s m args below meth c A nL Q cells slots (pc + 1 + 3) L st S) : xV G p l e R s m args below meth c A nL Q cells slots pc L (.long (jN b) :: .long (jN a) :: st) S := by
  intro H locs ls hP hD hS hl
  exact W.lcmp C.1.1 C.1.2.1 d (lv_if_ge C.1.1 C.1.2.1 d2 ht (fun z => kt ((xlg_ge ha hb).mp z) H locs ls hP hD hS hl) (fun z => kf (fun y => z ((xlg_ge ha hb).mpr y)) H locs ls hP hD hS hl))
theorem xi_lcmp_gt (C : xC G p c cc nL s args own m A) {a b off : Int} (tgt : Nat) (ha : xRJ a) (hb : xRJ b) (d : decode cc pc = .ok (.lcmp, 1)) (d2 : decode cc (pc + 1) = .ok (.ifCond .gt off, 3)) (ht : ((pc + 1 : Nat) : Int) + off = (tgt : Int)) (kt : b < a → xV G p l e R s m args below meth c A nL Q cells slots tgt L st S) (kf : ¬ b < a → xV G p l e R s m args below meth c A nL Q cells slots (pc + 1 + 3) L st S) : xV G p l e R s m args below meth c A nL Q cells slots pc L (.long (jN b) :: .long (jN a) :: st) S := by
  intro H locs ls hP hD hS hl
  exact W.lcmp C.1.1 C.1.2.1 d (lv_if_gt C.1.1 C.1.2.1 d2 ht (fun z => kt ((xlg_gt ha hb).mp z) H locs ls hP hD hS hl) (fun z => kf (fun y => z ((xlg_gt ha hb).mpr y)) H locs ls hP hD hS hl))
theorem xi_lcmp_le (C : xC G p c cc nL s args own m A) {a b off : Int} (tgt : Nat) (ha : xRJ a) (hb : xRJ b) (d : decode cc pc = .ok (.lcmp, 1)) (d2 : decode cc (pc + 1) = .ok (.ifCond .le off, 3)) (ht : ((pc + 1 : Nat) : Int) + off = (tgt : Int)) (kt : a ≤ b → xV G p l e R s m args below meth c A nL Q cells slots tgt L st S) (kf : ¬ a ≤ b → xV G p l e R s m args below meth c A nL Q cells slots (pc + 1 + 3) L st S) : xV G p l e R s m args below meth c A nL Q cells slots pc L (.long (jN b) :: .long (jN a) :: st) S := by
  intro H locs ls hP hD hS hl
  exact W.lcmp C.1.1 C.1.2.1 d (lv_if_le C.1.1 C.1.2.1 d2 ht (fun z => kt ((xlg_le ha hb).mp z) H locs ls hP hD hS hl) (fun z => kf (fun y => z ((xlg_le ha hb).mpr y)) H locs ls hP hD hS hl))
theorem xi_lcmp_eq (C : xC G p c cc nL s args own m A) {a b off : Int} (tgt : Nat) (ha : xRJ a) (hb : xRJ b) (d : decode cc pc = .ok (.lcmp, 1)) (d2 : decode cc (pc + 1) = .ok (.ifCond .eq off, 3)) (ht : ((pc + 1 : Nat) : Int) + off = (tgt : Int)) (kt : a = b → xV G p l e R s m args below meth c A nL Q cells slots tgt L st S) (kf : ¬ a = b → xV G p l e R s m args below meth c A nL Q cells slots (pc + 1 + 3) L st S) : xV G p l e R s m args below meth c A nL Q cells slots pc L (.long (jN b) :: .long (jN a) :: st) S := by
  intro H locs ls hP hD hS hl
  exact W.lcmp C.1.1 C.1.2.1 d (lv_if_eq C.1.1 C.1.2.1 d2 ht (fun z => kt ((xlg_eq ha hb).mp z) H locs ls hP hD hS hl) (fun z => kf (fun y => z ((xlg_eq ha hb).mpr y)) H locs ls hP hD hS hl))
theorem xi_lcmp_ne (C : xC G p c cc nL s args own m A) {a b off : Int} (tgt : Nat) (ha : xRJ a) (hb : xRJ b) (d : decode cc pc = .ok (.lcmp, 1)) (d2 : decode cc (pc + 1) = .ok (.ifCond .ne off, 3)) (ht : ((pc + 1 : Nat) : Int) + off = (tgt : Int)) (kt : ¬ a = b → xV G p l e R s m args below meth c A nL Q cells slots tgt L st S) (kf : a = b → xV G p l e R s m args below meth c A nL Q cells slots (pc + 1 + 3) L st S) : xV G p l e R s m args below meth c A nL Q cells slots pc L (.long (jN b) :: .long (jN a) :: st) S := by
  intro H locs ls hP hD hS hl
  exact W.lcmp C.1.1 C.1.2.1 d (lv_if_ne C.1.1 C.1.2.1 d2 ht (fun z => kt (fun y => z ((xlg_eq ha hb).mpr y)) H locs ls hP hD hS hl) (fun z => kf ((xlg_eq ha hb).mp z) H locs ls hP hD hS hl))
theorem xi_lookup (C : xC G p c cc nL s args own m A) {a dflt off : Int} {ps : Array (Int × Int)} {len : Nat} (tgt : Nat) (ha : xR a) (d : decode cc pc = .ok (.lookupswitch dflt ps, len)) (hp : (ps.toList.zip (ps.toList.drop 1)).all (fun (a, next) => a.1 < next.1) = true) (ho : Op.lookupswitch.offset ps.toList dflt a = off) (ht : (pc : Int) + off = (tgt : Int)) (k : xV G p l e R s m args below meth c A nL Q cells slots tgt L st S) : xV G p l e R s m args below meth c A nL Q cells slots pc L (.int (iN a) :: st) S := by
  intro H locs ls hP hD hS hl
  exact lv_lookup C.1.1 C.1.2.1 d hp (by rw [iN_t ha]; exact ho) ht (k H locs ls hP hD hS hl)
end XL
theorem xW0 {b : (xS → Prop) → xS → Prop} (Y : xS → Prop) {S : xS} (h : xL0 b  S) (step : ∀ k : xS → Prop, (∀ (S' : xS), k  S' → Y  S') → ∀ (S' : xS), b k  S' → Y  S') : Y  S := by
  obtain ⟨n, h⟩ := h
  have key : ∀ n (S : xS), xLn0 b n  S → Y  S := by
    intro n
    induction n with
    | zero => intro  S h; exact h.elim
    | succ n ih => intro  S h; exact step (xLn0 b n) ih  S h
  exact key n  S h
theorem xW1 {b : (Int → xS → Prop) → Int → xS → Prop} (Y : Int → xS → Prop) {x1 : Int} {S : xS} (h : xL1 b x1 S) (step : ∀ k : Int → xS → Prop, (∀ (y1 : Int) (S' : xS), k y1 S' → Y y1 S') → ∀ (y1 : Int) (S' : xS), b k y1 S' → Y y1 S') : Y x1 S := by
  obtain ⟨n, h⟩ := h
  have key : ∀ n (x1 : Int) (S : xS), xLn1 b n x1 S → Y x1 S := by
    intro n
    induction n with
    | zero => intro x1 S h; exact h.elim
    | succ n ih => intro x1 S h; exact step (xLn1 b n) ih x1 S h
  exact key n x1 S h
theorem xW2 {b : (Int → Int → xS → Prop) → Int → Int → xS → Prop} (Y : Int → Int → xS → Prop) {x1 x2 : Int} {S : xS} (h : xL2 b x1 x2 S) (step : ∀ k : Int → Int → xS → Prop, (∀ (y1 y2 : Int) (S' : xS), k y1 y2 S' → Y y1 y2 S') → ∀ (y1 y2 : Int) (S' : xS), b k y1 y2 S' → Y y1 y2 S') : Y x1 x2 S := by
  obtain ⟨n, h⟩ := h
  have key : ∀ n (x1 x2 : Int) (S : xS), xLn2 b n x1 x2 S → Y x1 x2 S := by
    intro n
    induction n with
    | zero => intro x1 x2 S h; exact h.elim
    | succ n ih => intro x1 x2 S h; exact step (xLn2 b n) ih x1 x2 S h
  exact key n x1 x2 S h
theorem xW3 {b : (Int → Int → Int → xS → Prop) → Int → Int → Int → xS → Prop} (Y : Int → Int → Int → xS → Prop) {x1 x2 x3 : Int} {S : xS} (h : xL3 b x1 x2 x3 S) (step : ∀ k : Int → Int → Int → xS → Prop, (∀ (y1 y2 y3 : Int) (S' : xS), k y1 y2 y3 S' → Y y1 y2 y3 S') → ∀ (y1 y2 y3 : Int) (S' : xS), b k y1 y2 y3 S' → Y y1 y2 y3 S') : Y x1 x2 x3 S := by
  obtain ⟨n, h⟩ := h
  have key : ∀ n (x1 x2 x3 : Int) (S : xS), xLn3 b n x1 x2 x3 S → Y x1 x2 x3 S := by
    intro n
    induction n with
    | zero => intro x1 x2 x3 S h; exact h.elim
    | succ n ih => intro x1 x2 x3 S h; exact step (xLn3 b n) ih x1 x2 x3 S h
  exact key n x1 x2 x3 S h
theorem xW4 {b : (Int → Int → Int → Int → xS → Prop) → Int → Int → Int → Int → xS → Prop} (Y : Int → Int → Int → Int → xS → Prop) {x1 x2 x3 x4 : Int} {S : xS} (h : xL4 b x1 x2 x3 x4 S) (step : ∀ k : Int → Int → Int → Int → xS → Prop, (∀ (y1 y2 y3 y4 : Int) (S' : xS), k y1 y2 y3 y4 S' → Y y1 y2 y3 y4 S') → ∀ (y1 y2 y3 y4 : Int) (S' : xS), b k y1 y2 y3 y4 S' → Y y1 y2 y3 y4 S') : Y x1 x2 x3 x4 S := by
  obtain ⟨n, h⟩ := h
  have key : ∀ n (x1 x2 x3 x4 : Int) (S : xS), xLn4 b n x1 x2 x3 x4 S → Y x1 x2 x3 x4 S := by
    intro n
    induction n with
    | zero => intro x1 x2 x3 x4 S h; exact h.elim
    | succ n ih => intro x1 x2 x3 x4 S h; exact step (xLn4 b n) ih x1 x2 x3 x4 S h
  exact key n x1 x2 x3 x4 S h
theorem xW5 {b : (Int → Int → Int → Int → Int → xS → Prop) → Int → Int → Int → Int → Int → xS → Prop} (Y : Int → Int → Int → Int → Int → xS → Prop) {x1 x2 x3 x4 x5 : Int} {S : xS} (h : xL5 b x1 x2 x3 x4 x5 S) (step : ∀ k : Int → Int → Int → Int → Int → xS → Prop, (∀ (y1 y2 y3 y4 y5 : Int) (S' : xS), k y1 y2 y3 y4 y5 S' → Y y1 y2 y3 y4 y5 S') → ∀ (y1 y2 y3 y4 y5 : Int) (S' : xS), b k y1 y2 y3 y4 y5 S' → Y y1 y2 y3 y4 y5 S') : Y x1 x2 x3 x4 x5 S := by
  obtain ⟨n, h⟩ := h
  have key : ∀ n (x1 x2 x3 x4 x5 : Int) (S : xS), xLn5 b n x1 x2 x3 x4 x5 S → Y x1 x2 x3 x4 x5 S := by
    intro n
    induction n with
    | zero => intro x1 x2 x3 x4 x5 S h; exact h.elim
    | succ n ih => intro x1 x2 x3 x4 x5 S h; exact step (xLn5 b n) ih x1 x2 x3 x4 x5 S h
  exact key n x1 x2 x3 x4 x5 S h
theorem xW6 {b : (Int → Int → Int → Int → Int → Int → xS → Prop) → Int → Int → Int → Int → Int → Int → xS → Prop} (Y : Int → Int → Int → Int → Int → Int → xS → Prop) {x1 x2 x3 x4 x5 x6 : Int} {S : xS} (h : xL6 b x1 x2 x3 x4 x5 x6 S) (step : ∀ k : Int → Int → Int → Int → Int → Int → xS → Prop, (∀ (y1 y2 y3 y4 y5 y6 : Int) (S' : xS), k y1 y2 y3 y4 y5 y6 S' → Y y1 y2 y3 y4 y5 y6 S') → ∀ (y1 y2 y3 y4 y5 y6 : Int) (S' : xS), b k y1 y2 y3 y4 y5 y6 S' → Y y1 y2 y3 y4 y5 y6 S') : Y x1 x2 x3 x4 x5 x6 S := by
  obtain ⟨n, h⟩ := h
  have key : ∀ n (x1 x2 x3 x4 x5 x6 : Int) (S : xS), xLn6 b n x1 x2 x3 x4 x5 x6 S → Y x1 x2 x3 x4 x5 x6 S := by
    intro n
    induction n with
    | zero => intro x1 x2 x3 x4 x5 x6 S h; exact h.elim
    | succ n ih => intro x1 x2 x3 x4 x5 x6 S h; exact step (xLn6 b n) ih x1 x2 x3 x4 x5 x6 S h
  exact key n x1 x2 x3 x4 x5 x6 S h
theorem xW7 {b : (Int → Int → Int → Int → Int → Int → Int → xS → Prop) → Int → Int → Int → Int → Int → Int → Int → xS → Prop} (Y : Int → Int → Int → Int → Int → Int → Int → xS → Prop) {x1 x2 x3 x4 x5 x6 x7 : Int} {S : xS} (h : xL7 b x1 x2 x3 x4 x5 x6 x7 S) (step : ∀ k : Int → Int → Int → Int → Int → Int → Int → xS → Prop, (∀ (y1 y2 y3 y4 y5 y6 y7 : Int) (S' : xS), k y1 y2 y3 y4 y5 y6 y7 S' → Y y1 y2 y3 y4 y5 y6 y7 S') → ∀ (y1 y2 y3 y4 y5 y6 y7 : Int) (S' : xS), b k y1 y2 y3 y4 y5 y6 y7 S' → Y y1 y2 y3 y4 y5 y6 y7 S') : Y x1 x2 x3 x4 x5 x6 x7 S := by
  obtain ⟨n, h⟩ := h
  have key : ∀ n (x1 x2 x3 x4 x5 x6 x7 : Int) (S : xS), xLn7 b n x1 x2 x3 x4 x5 x6 x7 S → Y x1 x2 x3 x4 x5 x6 x7 S := by
    intro n
    induction n with
    | zero => intro x1 x2 x3 x4 x5 x6 x7 S h; exact h.elim
    | succ n ih => intro x1 x2 x3 x4 x5 x6 x7 S h; exact step (xLn7 b n) ih x1 x2 x3 x4 x5 x6 x7 S h
  exact key n x1 x2 x3 x4 x5 x6 x7 S h
theorem xW8 {b : (Int → Int → Int → Int → Int → Int → Int → Int → xS → Prop) → Int → Int → Int → Int → Int → Int → Int → Int → xS → Prop} (Y : Int → Int → Int → Int → Int → Int → Int → Int → xS → Prop) {x1 x2 x3 x4 x5 x6 x7 x8 : Int} {S : xS} (h : xL8 b x1 x2 x3 x4 x5 x6 x7 x8 S) (step : ∀ k : Int → Int → Int → Int → Int → Int → Int → Int → xS → Prop, (∀ (y1 y2 y3 y4 y5 y6 y7 y8 : Int) (S' : xS), k y1 y2 y3 y4 y5 y6 y7 y8 S' → Y y1 y2 y3 y4 y5 y6 y7 y8 S') → ∀ (y1 y2 y3 y4 y5 y6 y7 y8 : Int) (S' : xS), b k y1 y2 y3 y4 y5 y6 y7 y8 S' → Y y1 y2 y3 y4 y5 y6 y7 y8 S') : Y x1 x2 x3 x4 x5 x6 x7 x8 S := by
  obtain ⟨n, h⟩ := h
  have key : ∀ n (x1 x2 x3 x4 x5 x6 x7 x8 : Int) (S : xS), xLn8 b n x1 x2 x3 x4 x5 x6 x7 x8 S → Y x1 x2 x3 x4 x5 x6 x7 x8 S := by
    intro n
    induction n with
    | zero => intro x1 x2 x3 x4 x5 x6 x7 x8 S h; exact h.elim
    | succ n ih => intro x1 x2 x3 x4 x5 x6 x7 x8 S h; exact step (xLn8 b n) ih x1 x2 x3 x4 x5 x6 x7 x8 S h
  exact key n x1 x2 x3 x4 x5 x6 x7 x8 S h
def xfill (S : xS) (q : Nat) (n v : Int) : xS := fun q' i => if q' = q ∧ 0 ≤ i ∧ i < n then v else S q' i
/-- n places of a row from a place of another one -/
def xcopy (S : xS) (q0 : Nat) (i0 : Int) (q1 : Nat) (i1 n : Int) : xS := fun q i => if q = q1 ∧ i1 ≤ i ∧ i < i1 + n then S q0 (i - i1 + i0) else S q i

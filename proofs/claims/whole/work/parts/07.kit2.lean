theorem xE.same {A : Nat → Prop} {tF : Nat} {cI : ClassId} {U U' : State} (hvm : U'.vm = U.vm) (hH : U'.heap = U.heap) (h : xE A tF cI U) : xE A tF cI U' := by
  obtain ⟨h1, h2, h3, h4, h5, h6, h7⟩ := h
  have hal : U.vm.Alike U'.vm := by rw [hvm]; exact Vm.Alike.refl _
  refine ⟨fun w hw => ?_, by rw [hH]; exact va_Z.moved hal h2, by rw [hH]; exact va_T.moved hal h3, by rw [hH]; exact vx_Zq.moved hal h4, by rw [hH]; exact vx_Zq.moved hal h5, ⟨fun own k tx hm => ?_, fun x hx => va_Nc.moved hal (h6.2 x hx)⟩, by rw [hvm]; exact h7⟩
  · have hn := (List.mem_filter.mp hw).2
    cases w <;> first | exact va_Nw.same rfl hvm.symm (h1 _ hw) | (simp [xisNest] at hn)
  · obtain ⟨a, ha⟩ := h6.1 own k tx hm
    exact ⟨a, vk_R.same hvm ha⟩
theorem xE.at {A B : Nat → Prop} {tF : Nat} {cI : ClassId} {s U : State} (hW : s.WarmedH U.vm) (h : xE A tF cI s) (hq : ∀ a : Nat, a < s.heap.size → ¬ A a → U.heap[a]? = s.heap[a]?) (hAB : ∀ q, B q → A q) : xE B tF cI U := by
  obtain ⟨h1, h2, h3, h4, h5, h6, h7⟩ := h
  refine ⟨fun w hw => ?_, va_Z.moved hW.alike ((h2.kept hq).narrow hAB), va_T.moved hW.alike ((h3.kept hq).narrow hAB), vx_Zq.moved hW.alike ((h4.kept hq).narrow hAB), vx_Zq.moved hW.alike ((h5.kept hq).narrow hAB), ⟨fun own k tx hm => ?_, fun x hx => va_Nc.moved hW.alike (h6.2 x hx)⟩, by rw [hW.alike.findClass]; exact h7⟩
  · have hn := (List.mem_filter.mp hw).2
    cases w <;> first | exact va_Nw.warmF hW (h1 _ hw) | exact va_Nw.warmM hW (h1 _ hw) | exact va_Nw.warmC hW (h1 _ hw) | exact va_Nw.warmD hW (h1 _ hw) | (simp [xisNest] at hn)
  · obtain ⟨a, ha⟩ := h6.1 own k tx hm
    exact ⟨a, vk_R.warm hW ha⟩
theorem xw_arr {G : xG} {S : xS} {q t n : Nat} (hq : G.2.2.2.1[q]? = some (.inl (t, n))) (hn : 0 < n) : (xwd G S)[q]? = some (G.2.2.1 q, .inl (G.2.1 t, n, xrow t (S q))) := by
  unfold xwd
  rw [xw_get hq]
  obtain ⟨k, rfl⟩ : ∃ k, n = k + 1 := ⟨n - 1, by omega⟩
  rfl
theorem xw_dyn {G : xG} {S : xS} {q t : Nat} (hq : G.2.2.2.1[q]? = some (.inl (t, 0))) : (xwd G S)[q]? = some ((S q (-2)).toNat, .inl (G.2.1 t, (S q (-1)).toNat, xrow t (S q))) := by
  unfold xwd
  rw [xw_get hq]
  rfl
theorem xw_obj {G : xG} {S : xS} {q ci : Nat} {fs : List (Nat × Nat)} (hq : G.2.2.2.1[q]? = some (.inr (ci, fs))) : (xwd G S)[q]? = some (G.2.2.1 q, .inr (ci, fs.mapIdx (fun k e => xfld G.2.2.1 S (S q k) e))) := by
  unfold xwd
  rw [xw_get hq]
  rfl
theorem xrow_i {t : Nat} {f : Int → Int} (ht : t = 0 ∨ t = 2 ∨ t = 3) : xrow t f = .inl (fun j => iN (f j)) := by
  rcases ht with rfl | rfl | rfl <;> rfl
theorem xup_row {S : xS} {q : Nat} {i v : Int} (hi : 0 ≤ i) (F : Int → Int32) : upd (fun j : Nat => F (S q j)) i.toNat (F v) = fun j : Nat => F (xup S q i v q j) := by
  funext j
  unfold upd xup
  by_cases h : j = i.toNat
  · rw [if_pos h, if_pos ⟨rfl, by omega⟩]
  · rw [if_neg h, if_neg (fun z => h (by have := z.2; omega))]
theorem xup_rowL {S : xS} {q : Nat} {i v : Int} (hi : 0 ≤ i) (F : Int → Int64) : vp_updL (fun j : Nat => F (S q j)) i.toNat (F v) = fun j : Nat => F (xup S q i v q j) := by
  funext j
  unfold vp_updL xup
  by_cases h : j = i.toNat
  · rw [if_pos h, if_pos ⟨rfl, by omega⟩]
  · rw [if_neg h, if_neg (fun z => h (by have := z.2; omega))]
theorem xset_arr {G : xG} {S : xS} {q t n : Nat} {i v : Int} (hq : G.2.2.2.1[q]? = some (.inl (t, n))) (hn : 0 < n) (hi : 0 ≤ i) : (xwd G S).set q (G.2.2.1 q, .inl (G.2.1 t, n, xrow t (xup S q i v q))) = xwd G (xup S q i v) := by
  obtain ⟨k, rfl⟩ : ∃ k, n = k + 1 := ⟨n - 1, by omega⟩
  exact xw_set hq hi rfl
theorem xset_dyn {G : xG} {S : xS} {q t : Nat} {i v : Int} (hq : G.2.2.2.1[q]? = some (.inl (t, 0))) (hi : 0 ≤ i) : (xwd G S).set q ((S q (-2)).toNat, .inl (G.2.1 t, (S q (-1)).toNat, xrow t (xup S q i v q))) = xwd G (xup S q i v) := by
  have e := xw_set (ca := G.2.1) (ad := G.2.2.1) (S := S) (v := v) hq hi rfl
  have e1 : xcell G.2.1 G.2.2.1 (xup S q i v) q (.inl (t, 0)) = .inl (G.2.1 t, (S q (-1)).toNat, xrow t (xup S q i v q)) := by
    unfold xcell xlen
    rw [show xup S q i v q (-1) = S q (-1) from xup_ne (by omega)]
    rfl
  rw [e1] at e
  exact e
theorem xset_obj {G : xG} {S : xS} {q ci k : Nat} {fs : List (Nat × Nat)} {v : Int} {x : Value} {r : Nat × Nat} (hq : G.2.2.2.1[q]? = some (.inr (ci, fs))) (hk : fs[k]? = some r) (hx : xfld G.2.2.1 (xup S q k v) v r = x) : (xwd G S).set q (G.2.2.1 q, .inr (ci, (fs.mapIdx (fun k e => xfld G.2.2.1 S (S q k) e)).set k x)) = xwd G (xup S q k v) := by
  have hk0 : (0 : Int) ≤ (k : Int) := Int.natCast_nonneg k
  have e1 : xcell G.2.1 G.2.2.1 (xup S q k v) q (.inr (ci, fs)) = .inr (ci, (fs.mapIdx (fun k e => xfld G.2.2.1 S (S q k) e)).set k x) := by
    unfold xcell
    refine congrArg Sum.inr (congrArg (Prod.mk ci) ?_)
    have hlt : k < fs.length := (List.getElem?_eq_some_iff.mp hk).1
    apply List.ext_getElem?
    intro j
    by_cases hj : j = k
    · subst hj
      rw [List.getElem?_set_self (by rw [List.length_mapIdx]; exact hlt), List.getElem?_mapIdx, hk]
      show some (xfld G.2.2.1 (xup S q j v) (xup S q j v q j) r) = some x
      rw [xup_same, hx]
    · rw [List.getElem?_set_ne (Ne.symm hj), List.getElem?_mapIdx, List.getElem?_mapIdx]
      cases fs[j]? with
      | none => rfl
      | some z =>
        show some (xfld G.2.2.1 (xup S q k v) (xup S q k v q j) z) = some (xfld G.2.2.1 S (S q j) z)
        rw [xfld_up hk0, xup_ne (by omega)]
  rw [← e1]
  exact xw_set hq hk0 rfl
/-- a class among vwCl, its fields' words, types and names -/
def xKl (ci : Nat) (Cn : String) (T : u_T) (N : Nat) (ty : Nat → FieldType) : Prop := vwCl[ci]? = some (Cn, T, N) ∧ (∀ w ∈ u_ws Cn T N, w ∈ xBIG) ∧ (∀ k, k < N → parseFieldDescriptor (T k).2.2.1 = some (ty k)) ∧ ∀ a, a < N → ∀ b, b < N → a ≠ b → (T a).2.1 ≠ (T b).2.1
theorem xnarZ {v : Int} (h : v = 0 ∨ v = 1) : narrow .boolean (.int (iN v)) = .int (iN v) ∧ fits .boolean (.int (iN v)) = true := by
  rcases h with rfl | rfl <;> exact ⟨by decide +kernel, by decide +kernel⟩
theorem xnarC {v : Int} (h : 0 ≤ v ∧ v < 65536) : narrow .char (.int (iN v)) = .int (iN v) ∧ fits .char (.int (iN v)) = true := by
  obtain ⟨k, rfl⟩ := Int.eq_ofNat_of_zero_le h.1
  have e : iN ((k : Nat) : Int) = nI k := Int32.ofInt_eq_ofNat
  rw [e]
  exact pk_charN (by omega)
section XJ
variable {G : xG} {p : Program} {l : Launch} {e : Env} {R : Room} {s : State} {m : MethodId} {args : Array Value} {below : List Frame} {meth : Method} {c : Code} {A : Nat → Prop} {nL : Nat} {Q : State → Prop} {cells slots : Nat}
variable {cc : ByteArray} {own : String} {pc : Nat} {L : List (Nat × Value)} {st : List Value} {S : xS}
theorem xi_iaload (C : xC G p c cc nL s args own m A) {q n : Nat} {i : Int} (hq : G.2.2.2.1[q]? = some (.inl (0, n))) (hn : 0 < n ∧ n < 2147483648) (hi : 0 ≤ i ∧ i < (n : Int)) (d : decode cc pc = .ok (.iaload, 1)) (k : xV G p l e R s m args below meth c A nL Q cells slots (pc + 1) L (.int (iN (S q i)) :: st) S) : xV G p l e R s m args below meth c A nL Q cells slots pc L (.int (iN i) :: .ref (G.2.2.1 q) :: st) S := by
  intro H locs ls hP hD hS hl
  obtain ⟨h1, h2⟩ := iN_ix hn.2 hi
  refine va_iald C.1.1 C.1.2.1 C.2.1 hP q 0 (f := fun j : Nat => iN (S q j)) (xw_arr hq hn.1) rfl h1 d ?_
  rw [h2]
  have k := k H locs ls hP hD hS hl
  rw [← Int.toNat_of_nonneg hi.1] at k
  exact k
theorem xi_baload (C : xC G p c cc nL s args own m A) {q n : Nat} {i : Int} (hq : G.2.2.2.1[q]? = some (.inl (2, n))) (hn : 0 < n ∧ n < 2147483648) (hi : 0 ≤ i ∧ i < (n : Int)) (d : decode cc pc = .ok (.baload, 1)) (k : xV G p l e R s m args below meth c A nL Q cells slots (pc + 1) L (.int (iN (S q i)) :: st) S) : xV G p l e R s m args below meth c A nL Q cells slots pc L (.int (iN i) :: .ref (G.2.2.1 q) :: st) S := by
  intro H locs ls hP hD hS hl
  obtain ⟨h1, h2⟩ := iN_ix hn.2 hi
  refine va_zald C.1.1 C.1.2.1 C.2.1 hP q 2 (f := fun j : Nat => iN (S q j)) (xw_arr hq hn.1) rfl h1 d ?_
  rw [h2]
  have k := k H locs ls hP hD hS hl
  rw [← Int.toNat_of_nonneg hi.1] at k
  exact k
theorem xi_caload (C : xC G p c cc nL s args own m A) {q n : Nat} {i : Int} (hq : G.2.2.2.1[q]? = some (.inl (3, n))) (hn : 0 < n ∧ n < 2147483648) (hi : 0 ≤ i ∧ i < (n : Int)) (d : decode cc pc = .ok (.caload, 1)) (k : xV G p l e R s m args below meth c A nL Q cells slots (pc + 1) L (.int (iN (S q i)) :: st) S) : xV G p l e R s m args below meth c A nL Q cells slots pc L (.int (iN i) :: .ref (G.2.2.1 q) :: st) S := by
  intro H locs ls hP hD hS hl
  obtain ⟨h1, h2⟩ := iN_ix hn.2 hi
  refine va_cald C.1.1 C.1.2.1 C.2.1 hP q 3 (f := fun j : Nat => iN (S q j)) (xw_arr hq hn.1) rfl h1 d ?_
  rw [h2]
  have k := k H locs ls hP hD hS hl
  rw [← Int.toNat_of_nonneg hi.1] at k
  exact k
theorem xi_laload (C : xC G p c cc nL s args own m A) {q n : Nat} {i : Int} (hq : G.2.2.2.1[q]? = some (.inl (1, n))) (hn : 0 < n ∧ n < 2147483648) (hi : 0 ≤ i ∧ i < (n : Int)) (d : decode cc pc = .ok (.laload, 1)) (k : xV G p l e R s m args below meth c A nL Q cells slots (pc + 1) L (.long (jN (S q i)) :: st) S) : xV G p l e R s m args below meth c A nL Q cells slots pc L (.int (iN i) :: .ref (G.2.2.1 q) :: st) S := by
  intro H locs ls hP hD hS hl
  obtain ⟨h1, h2⟩ := iN_ix hn.2 hi
  refine va_lald C.1.1 C.1.2.1 C.2.1 hP q 1 (f := fun j : Nat => jN (S q j)) (xw_arr hq hn.1) rfl h1 d ?_
  rw [h2]
  have k := k H locs ls hP hD hS hl
  rw [← Int.toNat_of_nonneg hi.1] at k
  exact k
theorem xi_ialoadE (C : xC G p c cc nL s args own m A) {q : Nat} {i : Int} (hq : G.2.2.2.1[q]? = some (.inl (0, 0))) (hi : 0 ≤ i ∧ i < S q (-1) ∧ S q (-1) < 2147483648) (d : decode cc pc = .ok (.iaload, 1)) (k : xV G p l e R s m args below meth c A nL Q cells slots (pc + 1) L (.int (iN (S q i)) :: st) S) : xV G p l e R s m args below meth c A nL Q cells slots pc L (.int (iN i) :: .ref (S q (-2)).toNat :: st) S := by
  intro H locs ls hP hD hS hl
  obtain ⟨h1, h2⟩ := iN_ix (n := (S q (-1)).toNat) (by omega) ⟨hi.1, by omega⟩
  refine va_iald C.1.1 C.1.2.1 C.2.1 hP q 0 (f := fun j : Nat => iN (S q j)) (xw_dyn hq) rfl h1 d ?_
  rw [h2]
  have k := k H locs ls hP hD hS hl
  rw [← Int.toNat_of_nonneg hi.1] at k
  exact k
theorem xi_iastore (C : xC G p c cc nL s args own m A) {q n : Nat} {i v : Int} (hq : G.2.2.2.1[q]? = some (.inl (0, n))) (hn : 0 < n ∧ n < 2147483648) (hi : 0 ≤ i ∧ i < (n : Int)) (d : decode cc pc = .ok (.iastore, 1)) (k : xV G p l e R s m args below meth c A nL Q cells slots (pc + 1) L st (xup S q i v)) : xV G p l e R s m args below meth c A nL Q cells slots pc L (.int (iN v) :: .int (iN i) :: .ref (G.2.2.1 q) :: st) S := by
  intro H locs ls hP hD hS hl
  obtain ⟨h1, h2⟩ := iN_ix hn.2 hi
  refine va_iast C.1.1 C.1.2.1 C.2.1 hP hD hS q 0 (f := fun j : Nat => iN (S q j)) (xw_arr hq hn.1) rfl h1 d (fun H1 locs1 hP1 hD1 hS1 => ?_)
  rw [h2, xup_row hi.1 iN] at hP1 hD1
  have e := xset_arr (S := S) (v := v) hq hn.1 hi.1
  exact k H1 locs1 ls (e ▸ hP1) (e ▸ hD1) hS1 hl
theorem xi_bastore (C : xC G p c cc nL s args own m A) {q n : Nat} {i v : Int} (hq : G.2.2.2.1[q]? = some (.inl (2, n))) (hn : 0 < n ∧ n < 2147483648) (hi : 0 ≤ i ∧ i < (n : Int)) (hv : v = 0 ∨ v = 1) (d : decode cc pc = .ok (.bastore, 1)) (k : xV G p l e R s m args below meth c A nL Q cells slots (pc + 1) L st (xup S q i v)) : xV G p l e R s m args below meth c A nL Q cells slots pc L (.int (iN v) :: .int (iN i) :: .ref (G.2.2.1 q) :: st) S := by
  intro H locs ls hP hD hS hl
  obtain ⟨h1, h2⟩ := iN_ix hn.2 hi
  have e5 : vp_nar .boolean (iN v) = iN v := by unfold vp_nar; rw [(xnarZ hv).1]
  refine va_zast C.1.1 C.1.2.1 C.2.1 hP hD hS q 2 (f := fun j : Nat => iN (S q j)) (xw_arr hq hn.1) rfl h1 d (fun H1 locs1 hP1 hD1 hS1 => ?_)
  rw [h2, e5, xup_row hi.1 iN] at hP1 hD1
  have e := xset_arr (S := S) (v := v) hq hn.1 hi.1
  exact k H1 locs1 ls (e ▸ hP1) (e ▸ hD1) hS1 hl
theorem xi_castore (C : xC G p c cc nL s args own m A) {q n : Nat} {i v : Int} (hq : G.2.2.2.1[q]? = some (.inl (3, n))) (hn : 0 < n ∧ n < 2147483648) (hi : 0 ≤ i ∧ i < (n : Int)) (hv : 0 ≤ v ∧ v < 65536) (d : decode cc pc = .ok (.castore, 1)) (k : xV G p l e R s m args below meth c A nL Q cells slots (pc + 1) L st (xup S q i v)) : xV G p l e R s m args below meth c A nL Q cells slots pc L (.int (iN v) :: .int (iN i) :: .ref (G.2.2.1 q) :: st) S := by
  intro H locs ls hP hD hS hl
  obtain ⟨h1, h2⟩ := iN_ix hn.2 hi
  have e5 : vp_nar .char (iN v) = iN v := by unfold vp_nar; rw [(xnarC hv).1]
  refine va_cast C.1.1 C.1.2.1 C.2.1 hP hD hS q 3 (f := fun j : Nat => iN (S q j)) (xw_arr hq hn.1) rfl h1 d (fun H1 locs1 hP1 hD1 hS1 => ?_)
  rw [h2, e5, xup_row hi.1 iN] at hP1 hD1
  have e := xset_arr (S := S) (v := v) hq hn.1 hi.1
  exact k H1 locs1 ls (e ▸ hP1) (e ▸ hD1) hS1 hl
theorem xi_lastore (C : xC G p c cc nL s args own m A) {q n : Nat} {i v : Int} (hq : G.2.2.2.1[q]? = some (.inl (1, n))) (hn : 0 < n ∧ n < 2147483648) (hi : 0 ≤ i ∧ i < (n : Int)) (d : decode cc pc = .ok (.lastore, 1)) (k : xV G p l e R s m args below meth c A nL Q cells slots (pc + 1) L st (xup S q i v)) : xV G p l e R s m args below meth c A nL Q cells slots pc L (.long (jN v) :: .int (iN i) :: .ref (G.2.2.1 q) :: st) S := by
  intro H locs ls hP hD hS hl
  obtain ⟨h1, h2⟩ := iN_ix hn.2 hi
  refine va_last C.1.1 C.1.2.1 C.2.1 hP hD hS q 1 (f := fun j : Nat => jN (S q j)) (xw_arr hq hn.1) rfl h1 d (fun H1 locs1 hP1 hD1 hS1 => ?_)
  rw [h2, xup_rowL hi.1 jN] at hP1 hD1
  have e := xset_arr (S := S) (v := v) hq hn.1 hi.1
  exact k H1 locs1 ls (e ▸ hP1) (e ▸ hD1) hS1 hl
theorem xi_iastoreE (C : xC G p c cc nL s args own m A) {q : Nat} {i v : Int} (hq : G.2.2.2.1[q]? = some (.inl (0, 0))) (hi : 0 ≤ i ∧ i < S q (-1) ∧ S q (-1) < 2147483648) (d : decode cc pc = .ok (.iastore, 1)) (k : xV G p l e R s m args below meth c A nL Q cells slots (pc + 1) L st (xup S q i v)) : xV G p l e R s m args below meth c A nL Q cells slots pc L (.int (iN v) :: .int (iN i) :: .ref (S q (-2)).toNat :: st) S := by
  intro H locs ls hP hD hS hl
  obtain ⟨h1, h2⟩ := iN_ix (n := (S q (-1)).toNat) (by omega) ⟨hi.1, by omega⟩
  refine va_iast C.1.1 C.1.2.1 C.2.1 hP hD hS q 0 (f := fun j : Nat => iN (S q j)) (xw_dyn hq) rfl h1 d (fun H1 locs1 hP1 hD1 hS1 => ?_)
  rw [h2, xup_row hi.1 iN] at hP1 hD1
  have e := xset_dyn (S := S) (v := v) hq hi.1
  exact k H1 locs1 ls (e ▸ hP1) (e ▸ hD1) hS1 hl
theorem xi_alenE (C : xC G p c cc nL s args own m A) {q : Nat} (hq : G.2.2.2.1[q]? = some (.inl (0, 0))) (hi : 0 ≤ S q (-1)) (d : decode cc pc = .ok (.arraylength, 1)) (k : xV G p l e R s m args below meth c A nL Q cells slots (pc + 1) L (.int (iN (S q (-1))) :: st) S) : xV G p l e R s m args below meth c A nL Q cells slots pc L (.ref (S q (-2)).toNat :: st) S := by
  intro H locs ls hP hD hS hl
  refine va_alen C.1.1 C.1.2.1 C.2.1 hP q 0 (xw_dyn hq) rfl (v := iN (S q (-1))) ?_ d (k H locs ls hP hD hS hl)
  show Int32.ofNat (S q (-1)).toNat = Int32.ofInt (S q (-1))
  rw [← Int32.ofInt_eq_ofNat, Int.toNat_of_nonneg hi]
theorem xi_alen (C : xC G p c cc nL s args own m A) {q t n : Nat} {ni : Int} (hni : (n : Int) = ni) (hq : G.2.2.2.1[q]? = some (.inl (t, n))) (hn : 0 < n) (ht : t < 5) (d : decode cc pc = .ok (.arraylength, 1)) (k : xV G p l e R s m args below meth c A nL Q cells slots (pc + 1) L (.int (iN ni) :: st) S) : xV G p l e R s m args below meth c A nL Q cells slots pc L (.ref (G.2.2.1 q) :: st) S := by
  intro H locs ls hP hD hS hl
  subst hni
  have h5 : ∃ ty, (xtys G.2.1)[t]? = some (G.2.1 t, ty) := by
    rcases (show t = 0 ∨ t = 1 ∨ t = 2 ∨ t = 3 ∨ t = 4 by omega) with rfl | rfl | rfl | rfl | rfl <;> exact ⟨_, rfl⟩
  obtain ⟨ty, h5⟩ := h5
  refine va_alen C.1.1 C.1.2.1 C.2.1 hP q t (xw_arr hq hn) h5 (v := iN (n : Int)) ?_ d (k H locs ls hP hD hS hl)
  exact Int32.ofInt_eq_ofNat.symm
theorem xi_getI (C : xC G p c cc nL s args own m A) {q ci index : Nat} {fs : List (Nat × Nat)} {Cn : String} {T : u_T} {N : Nat} {ty : Nat → FieldType} {r : Nat} (hK : xKl ci Cn T N ty) (hq : G.2.2.2.1[q]? = some (.inr (ci, fs))) (kk : Nat) (hk : kk < N) {ki : Int} (hki : (kk : Int) = ki) (hl0 : Cond.fieldLink own index (T kk).1 (T kk).2.1 (T kk).2.2.1 ∈ xBIG) (hf : fs[kk]? = some (0, r)) (d : decode cc pc = .ok (.getfield index, 3)) (k : xV G p l e R s m args below meth c A nL Q cells slots (pc + 3) L (.int (iN (S q ki)) :: st) S) : xV G p l e R s m args below meth c A nL Q cells slots pc L (.ref (G.2.2.1 q) :: st) S := by
  intro H locs ls hP hD hS hl
  subst hki
  refine va_get C.1.1 C.1.2.1 C.1.2.2.2.2 hK.2.1 C.1.2.2.2.1 C.2.1 hP q (xw_obj hq) hK.1 kk hk (C.1.2.2.2.2 _ hl0) (fun x h => h) (v := .int (iN (S q kk))) ?_ d (k H locs ls hP hD hS hl)
  rw [List.getElem?_mapIdx, hf]
  rfl
theorem xi_getIN (C : xC G p c cc nL s args own m A) {host : String} {q ci index : Nat} {fs : List (Nat × Nat)} {Cn : String} {T : u_T} {N : Nat} {ty : Nat → FieldType} {r : Nat} (hK : xKl ci Cn T N ty) (hq : G.2.2.2.1[q]? = some (.inr (ci, fs))) (kk : Nat) (hk : kk < N) {ki : Int} (hki : (kk : Int) = ki) (hl0 : Cond.fieldLinkNest own index (T kk).1 (T kk).2.1 (T kk).2.2.1 host ∈ xNest) (hf : fs[kk]? = some (0, r)) (d : decode cc pc = .ok (.getfield index, 3)) (k : xV G p l e R s m args below meth c A nL Q cells slots (pc + 3) L (.int (iN (S q ki)) :: st) S) : xV G p l e R s m args below meth c A nL Q cells slots pc L (.ref (G.2.2.1 q) :: st) S := by
  intro H locs ls hP hD hS hl
  subst hki
  refine va_getN C.1.1 C.1.2.1 C.1.2.2.2.2 hK.2.1 C.1.2.2.2.1 C.2.1 hP q (xw_obj hq) hK.1 kk hk (va_Nw.use rfl (C.2.2.2.1 _ hl0)) (fun x h => h) (v := .int (iN (S q kk))) ?_ d (k H locs ls hP hD hS hl)
  rw [List.getElem?_mapIdx, hf]
  rfl
theorem xi_getJ (C : xC G p c cc nL s args own m A) {q ci index : Nat} {fs : List (Nat × Nat)} {Cn : String} {T : u_T} {N : Nat} {ty : Nat → FieldType} {r : Nat} (hK : xKl ci Cn T N ty) (hq : G.2.2.2.1[q]? = some (.inr (ci, fs))) (kk : Nat) (hk : kk < N) {ki : Int} (hki : (kk : Int) = ki) (hl0 : Cond.fieldLink own index (T kk).1 (T kk).2.1 (T kk).2.2.1 ∈ xBIG) (hf : fs[kk]? = some (1, r)) (d : decode cc pc = .ok (.getfield index, 3)) (k : xV G p l e R s m args below meth c A nL Q cells slots (pc + 3) L (.long (jN (S q ki)) :: st) S) : xV G p l e R s m args below meth c A nL Q cells slots pc L (.ref (G.2.2.1 q) :: st) S := by
  intro H locs ls hP hD hS hl
  subst hki
  refine va_get C.1.1 C.1.2.1 C.1.2.2.2.2 hK.2.1 C.1.2.2.2.1 C.2.1 hP q (xw_obj hq) hK.1 kk hk (C.1.2.2.2.2 _ hl0) (fun x h => h) (v := .long (jN (S q kk))) ?_ d (k H locs ls hP hD hS hl)
  rw [List.getElem?_mapIdx, hf]
  rfl
theorem xi_getJN (C : xC G p c cc nL s args own m A) {host : String} {q ci index : Nat} {fs : List (Nat × Nat)} {Cn : String} {T : u_T} {N : Nat} {ty : Nat → FieldType} {r : Nat} (hK : xKl ci Cn T N ty) (hq : G.2.2.2.1[q]? = some (.inr (ci, fs))) (kk : Nat) (hk : kk < N) {ki : Int} (hki : (kk : Int) = ki) (hl0 : Cond.fieldLinkNest own index (T kk).1 (T kk).2.1 (T kk).2.2.1 host ∈ xNest) (hf : fs[kk]? = some (1, r)) (d : decode cc pc = .ok (.getfield index, 3)) (k : xV G p l e R s m args below meth c A nL Q cells slots (pc + 3) L (.long (jN (S q ki)) :: st) S) : xV G p l e R s m args below meth c A nL Q cells slots pc L (.ref (G.2.2.1 q) :: st) S := by
  intro H locs ls hP hD hS hl
  subst hki
  refine va_getN C.1.1 C.1.2.1 C.1.2.2.2.2 hK.2.1 C.1.2.2.2.1 C.2.1 hP q (xw_obj hq) hK.1 kk hk (va_Nw.use rfl (C.2.2.2.1 _ hl0)) (fun x h => h) (v := .long (jN (S q kk))) ?_ d (k H locs ls hP hD hS hl)
  rw [List.getElem?_mapIdx, hf]
  rfl
theorem xi_getR (C : xC G p c cc nL s args own m A) {q ci index : Nat} {fs : List (Nat × Nat)} {Cn : String} {T : u_T} {N : Nat} {ty : Nat → FieldType} {r : Nat} (hK : xKl ci Cn T N ty) (hq : G.2.2.2.1[q]? = some (.inr (ci, fs))) (kk : Nat) (hk : kk < N) {ki : Int} (hki : (kk : Int) = ki) (hl0 : Cond.fieldLink own index (T kk).1 (T kk).2.1 (T kk).2.2.1 ∈ xBIG) (hf : fs[kk]? = some (2, r)) (d : decode cc pc = .ok (.getfield index, 3)) (k : xV G p l e R s m args below meth c A nL Q cells slots (pc + 3) L (.ref (G.2.2.1 r) :: st) S) : xV G p l e R s m args below meth c A nL Q cells slots pc L (.ref (G.2.2.1 q) :: st) S := by
  intro H locs ls hP hD hS hl
  subst hki
  refine va_get C.1.1 C.1.2.1 C.1.2.2.2.2 hK.2.1 C.1.2.2.2.1 C.2.1 hP q (xw_obj hq) hK.1 kk hk (C.1.2.2.2.2 _ hl0) (fun x h => h) (v := .ref (G.2.2.1 r)) ?_ d (k H locs ls hP hD hS hl)
  rw [List.getElem?_mapIdx, hf]
  rfl
theorem xi_getRN (C : xC G p c cc nL s args own m A) {host : String} {q ci index : Nat} {fs : List (Nat × Nat)} {Cn : String} {T : u_T} {N : Nat} {ty : Nat → FieldType} {r : Nat} (hK : xKl ci Cn T N ty) (hq : G.2.2.2.1[q]? = some (.inr (ci, fs))) (kk : Nat) (hk : kk < N) {ki : Int} (hki : (kk : Int) = ki) (hl0 : Cond.fieldLinkNest own index (T kk).1 (T kk).2.1 (T kk).2.2.1 host ∈ xNest) (hf : fs[kk]? = some (2, r)) (d : decode cc pc = .ok (.getfield index, 3)) (k : xV G p l e R s m args below meth c A nL Q cells slots (pc + 3) L (.ref (G.2.2.1 r) :: st) S) : xV G p l e R s m args below meth c A nL Q cells slots pc L (.ref (G.2.2.1 q) :: st) S := by
  intro H locs ls hP hD hS hl
  subst hki
  refine va_getN C.1.1 C.1.2.1 C.1.2.2.2.2 hK.2.1 C.1.2.2.2.1 C.2.1 hP q (xw_obj hq) hK.1 kk hk (va_Nw.use rfl (C.2.2.2.1 _ hl0)) (fun x h => h) (v := .ref (G.2.2.1 r)) ?_ d (k H locs ls hP hD hS hl)
  rw [List.getElem?_mapIdx, hf]
  rfl
theorem xi_getE (C : xC G p c cc nL s args own m A) {q ci index : Nat} {fs : List (Nat × Nat)} {Cn : String} {T : u_T} {N : Nat} {ty : Nat → FieldType} {r : Nat} (hK : xKl ci Cn T N ty) (hq : G.2.2.2.1[q]? = some (.inr (ci, fs))) (kk : Nat) (hk : kk < N) {ki : Int} (hki : (kk : Int) = ki) (hl0 : Cond.fieldLink own index (T kk).1 (T kk).2.1 (T kk).2.2.1 ∈ xBIG) (hf : fs[kk]? = some (3, r)) (d : decode cc pc = .ok (.getfield index, 3)) (k : xV G p l e R s m args below meth c A nL Q cells slots (pc + 3) L (.ref (S r (-2)).toNat :: st) S) : xV G p l e R s m args below meth c A nL Q cells slots pc L (.ref (G.2.2.1 q) :: st) S := by
  intro H locs ls hP hD hS hl
  subst hki
  refine va_get C.1.1 C.1.2.1 C.1.2.2.2.2 hK.2.1 C.1.2.2.2.1 C.2.1 hP q (xw_obj hq) hK.1 kk hk (C.1.2.2.2.2 _ hl0) (fun x h => h) (v := .ref (S r (-2)).toNat) ?_ d (k H locs ls hP hD hS hl)
  rw [List.getElem?_mapIdx, hf]
  rfl
theorem xi_getEN (C : xC G p c cc nL s args own m A) {host : String} {q ci index : Nat} {fs : List (Nat × Nat)} {Cn : String} {T : u_T} {N : Nat} {ty : Nat → FieldType} {r : Nat} (hK : xKl ci Cn T N ty) (hq : G.2.2.2.1[q]? = some (.inr (ci, fs))) (kk : Nat) (hk : kk < N) {ki : Int} (hki : (kk : Int) = ki) (hl0 : Cond.fieldLinkNest own index (T kk).1 (T kk).2.1 (T kk).2.2.1 host ∈ xNest) (hf : fs[kk]? = some (3, r)) (d : decode cc pc = .ok (.getfield index, 3)) (k : xV G p l e R s m args below meth c A nL Q cells slots (pc + 3) L (.ref (S r (-2)).toNat :: st) S) : xV G p l e R s m args below meth c A nL Q cells slots pc L (.ref (G.2.2.1 q) :: st) S := by
  intro H locs ls hP hD hS hl
  subst hki
  refine va_getN C.1.1 C.1.2.1 C.1.2.2.2.2 hK.2.1 C.1.2.2.2.1 C.2.1 hP q (xw_obj hq) hK.1 kk hk (va_Nw.use rfl (C.2.2.2.1 _ hl0)) (fun x h => h) (v := .ref (S r (-2)).toNat) ?_ d (k H locs ls hP hD hS hl)
  rw [List.getElem?_mapIdx, hf]
  rfl
theorem xi_putI (C : xC G p c cc nL s args own m A) {q ci index : Nat} {fs : List (Nat × Nat)} {Cn : String} {T : u_T} {N : Nat} {ty : Nat → FieldType} {r : Nat} (hK : xKl ci Cn T N ty) (hq : G.2.2.2.1[q]? = some (.inr (ci, fs))) (kk : Nat) (hk : kk < N) {ki : Int} (hki : (kk : Int) = ki) {v : Int} (hl0 : Cond.fieldLink own index (T kk).1 (T kk).2.1 (T kk).2.2.1 ∈ xBIG) (hf : fs[kk]? = some (0, r)) (hfin : (T kk).2.2.2 = false) (hty : ty kk = .int) (d : decode cc pc = .ok (.putfield index, 3)) (k : xV G p l e R s m args below meth c A nL Q cells slots (pc + 3) L st (xup S q ki v)) : xV G p l e R s m args below meth c A nL Q cells slots pc L (.int (iN v) :: .ref (G.2.2.1 q) :: st) S := by
  intro H locs ls hP hD hS hl
  subst hki
  have hnf : narrow .int (.int (iN v)) = .int (iN v) ∧ fits .int (.int (iN v)) = true := ⟨rfl, rfl⟩
  refine va_put C.1.1 C.1.2.1 C.1.2.2.2.2 hK.2.1 ty hK.2.2.1 hK.2.2.2 C.1.2.2.2.1 C.2.1 hP hD hS q (xw_obj hq) hK.1 kk hk (C.1.2.2.2.2 _ hl0) (fun x h => h) hfin ((hK.2.2.1 kk hk).trans (congrArg some hty)) hnf.1 hnf.2 (by rw [List.length_mapIdx]; exact (List.getElem?_eq_some_iff.mp hf).1) d (fun H1 locs1 hP1 hD1 hS1 => ?_)
  have e := xset_obj (S := S) (v := v) (x := .int (iN v)) hq hf rfl
  exact k H1 locs1 ls (e ▸ hP1) (e ▸ hD1) hS1 hl
theorem xi_putIN (C : xC G p c cc nL s args own m A) {host : String} {q ci index : Nat} {fs : List (Nat × Nat)} {Cn : String} {T : u_T} {N : Nat} {ty : Nat → FieldType} {r : Nat} (hK : xKl ci Cn T N ty) (hq : G.2.2.2.1[q]? = some (.inr (ci, fs))) (kk : Nat) (hk : kk < N) {ki : Int} (hki : (kk : Int) = ki) {v : Int} (hl0 : Cond.fieldLinkNest own index (T kk).1 (T kk).2.1 (T kk).2.2.1 host ∈ xNest) (hf : fs[kk]? = some (0, r)) (hfin : (T kk).2.2.2 = false) (hty : ty kk = .int) (d : decode cc pc = .ok (.putfield index, 3)) (k : xV G p l e R s m args below meth c A nL Q cells slots (pc + 3) L st (xup S q ki v)) : xV G p l e R s m args below meth c A nL Q cells slots pc L (.int (iN v) :: .ref (G.2.2.1 q) :: st) S := by
  intro H locs ls hP hD hS hl
  subst hki
  have hnf : narrow .int (.int (iN v)) = .int (iN v) ∧ fits .int (.int (iN v)) = true := ⟨rfl, rfl⟩
  refine va_putN C.1.1 C.1.2.1 C.1.2.2.2.2 hK.2.1 ty hK.2.2.1 hK.2.2.2 C.1.2.2.2.1 C.2.1 hP hD hS q (xw_obj hq) hK.1 kk hk (va_Nw.use rfl (C.2.2.2.1 _ hl0)) (fun x h => h) hfin ((hK.2.2.1 kk hk).trans (congrArg some hty)) hnf.1 hnf.2 (by rw [List.length_mapIdx]; exact (List.getElem?_eq_some_iff.mp hf).1) d (fun H1 locs1 hP1 hD1 hS1 => ?_)
  have e := xset_obj (S := S) (v := v) (x := .int (iN v)) hq hf rfl
  exact k H1 locs1 ls (e ▸ hP1) (e ▸ hD1) hS1 hl
theorem xi_putZ (C : xC G p c cc nL s args own m A) {q ci index : Nat} {fs : List (Nat × Nat)} {Cn : String} {T : u_T} {N : Nat} {ty : Nat → FieldType} {r : Nat} (hK : xKl ci Cn T N ty) (hq : G.2.2.2.1[q]? = some (.inr (ci, fs))) (kk : Nat) (hk : kk < N) {ki : Int} (hki : (kk : Int) = ki) {v : Int} (hl0 : Cond.fieldLink own index (T kk).1 (T kk).2.1 (T kk).2.2.1 ∈ xBIG) (hf : fs[kk]? = some (0, r)) (hfin : (T kk).2.2.2 = false) (hty : ty kk = .boolean) (hv : v = 0 ∨ v = 1) (d : decode cc pc = .ok (.putfield index, 3)) (k : xV G p l e R s m args below meth c A nL Q cells slots (pc + 3) L st (xup S q ki v)) : xV G p l e R s m args below meth c A nL Q cells slots pc L (.int (iN v) :: .ref (G.2.2.1 q) :: st) S := by
  intro H locs ls hP hD hS hl
  subst hki
  have hnf : narrow .boolean (.int (iN v)) = .int (iN v) ∧ fits .boolean (.int (iN v)) = true := xnarZ hv
  refine va_put C.1.1 C.1.2.1 C.1.2.2.2.2 hK.2.1 ty hK.2.2.1 hK.2.2.2 C.1.2.2.2.1 C.2.1 hP hD hS q (xw_obj hq) hK.1 kk hk (C.1.2.2.2.2 _ hl0) (fun x h => h) hfin ((hK.2.2.1 kk hk).trans (congrArg some hty)) hnf.1 hnf.2 (by rw [List.length_mapIdx]; exact (List.getElem?_eq_some_iff.mp hf).1) d (fun H1 locs1 hP1 hD1 hS1 => ?_)
  have e := xset_obj (S := S) (v := v) (x := .int (iN v)) hq hf rfl
  exact k H1 locs1 ls (e ▸ hP1) (e ▸ hD1) hS1 hl
theorem xi_putZN (C : xC G p c cc nL s args own m A) {host : String} {q ci index : Nat} {fs : List (Nat × Nat)} {Cn : String} {T : u_T} {N : Nat} {ty : Nat → FieldType} {r : Nat} (hK : xKl ci Cn T N ty) (hq : G.2.2.2.1[q]? = some (.inr (ci, fs))) (kk : Nat) (hk : kk < N) {ki : Int} (hki : (kk : Int) = ki) {v : Int} (hl0 : Cond.fieldLinkNest own index (T kk).1 (T kk).2.1 (T kk).2.2.1 host ∈ xNest) (hf : fs[kk]? = some (0, r)) (hfin : (T kk).2.2.2 = false) (hty : ty kk = .boolean) (hv : v = 0 ∨ v = 1) (d : decode cc pc = .ok (.putfield index, 3)) (k : xV G p l e R s m args below meth c A nL Q cells slots (pc + 3) L st (xup S q ki v)) : xV G p l e R s m args below meth c A nL Q cells slots pc L (.int (iN v) :: .ref (G.2.2.1 q) :: st) S := by
  intro H locs ls hP hD hS hl
  subst hki
  have hnf : narrow .boolean (.int (iN v)) = .int (iN v) ∧ fits .boolean (.int (iN v)) = true := xnarZ hv
  refine va_putN C.1.1 C.1.2.1 C.1.2.2.2.2 hK.2.1 ty hK.2.2.1 hK.2.2.2 C.1.2.2.2.1 C.2.1 hP hD hS q (xw_obj hq) hK.1 kk hk (va_Nw.use rfl (C.2.2.2.1 _ hl0)) (fun x h => h) hfin ((hK.2.2.1 kk hk).trans (congrArg some hty)) hnf.1 hnf.2 (by rw [List.length_mapIdx]; exact (List.getElem?_eq_some_iff.mp hf).1) d (fun H1 locs1 hP1 hD1 hS1 => ?_)
  have e := xset_obj (S := S) (v := v) (x := .int (iN v)) hq hf rfl
  exact k H1 locs1 ls (e ▸ hP1) (e ▸ hD1) hS1 hl
theorem xi_putC (C : xC G p c cc nL s args own m A) {q ci index : Nat} {fs : List (Nat × Nat)} {Cn : String} {T : u_T} {N : Nat} {ty : Nat → FieldType} {r : Nat} (hK : xKl ci Cn T N ty) (hq : G.2.2.2.1[q]? = some (.inr (ci, fs))) (kk : Nat) (hk : kk < N) {ki : Int} (hki : (kk : Int) = ki) {v : Int} (hl0 : Cond.fieldLink own index (T kk).1 (T kk).2.1 (T kk).2.2.1 ∈ xBIG) (hf : fs[kk]? = some (0, r)) (hfin : (T kk).2.2.2 = false) (hty : ty kk = .char) (hv : 0 ≤ v ∧ v < 65536) (d : decode cc pc = .ok (.putfield index, 3)) (k : xV G p l e R s m args below meth c A nL Q cells slots (pc + 3) L st (xup S q ki v)) : xV G p l e R s m args below meth c A nL Q cells slots pc L (.int (iN v) :: .ref (G.2.2.1 q) :: st) S := by
  intro H locs ls hP hD hS hl
  subst hki
  have hnf : narrow .char (.int (iN v)) = .int (iN v) ∧ fits .char (.int (iN v)) = true := xnarC hv
  refine va_put C.1.1 C.1.2.1 C.1.2.2.2.2 hK.2.1 ty hK.2.2.1 hK.2.2.2 C.1.2.2.2.1 C.2.1 hP hD hS q (xw_obj hq) hK.1 kk hk (C.1.2.2.2.2 _ hl0) (fun x h => h) hfin ((hK.2.2.1 kk hk).trans (congrArg some hty)) hnf.1 hnf.2 (by rw [List.length_mapIdx]; exact (List.getElem?_eq_some_iff.mp hf).1) d (fun H1 locs1 hP1 hD1 hS1 => ?_)
  have e := xset_obj (S := S) (v := v) (x := .int (iN v)) hq hf rfl
  exact k H1 locs1 ls (e ▸ hP1) (e ▸ hD1) hS1 hl
theorem xi_putCN (C : xC G p c cc nL s args own m A) {host : String} {q ci index : Nat} {fs : List (Nat × Nat)} {Cn : String} {T : u_T} {N : Nat} {ty : Nat → FieldType} {r : Nat} (hK : xKl ci Cn T N ty) (hq : G.2.2.2.1[q]? = some (.inr (ci, fs))) (kk : Nat) (hk : kk < N) {ki : Int} (hki : (kk : Int) = ki) {v : Int} (hl0 : Cond.fieldLinkNest own index (T kk).1 (T kk).2.1 (T kk).2.2.1 host ∈ xNest) (hf : fs[kk]? = some (0, r)) (hfin : (T kk).2.2.2 = false) (hty : ty kk = .char) (hv : 0 ≤ v ∧ v < 65536) (d : decode cc pc = .ok (.putfield index, 3)) (k : xV G p l e R s m args below meth c A nL Q cells slots (pc + 3) L st (xup S q ki v)) : xV G p l e R s m args below meth c A nL Q cells slots pc L (.int (iN v) :: .ref (G.2.2.1 q) :: st) S := by
  intro H locs ls hP hD hS hl
  subst hki
  have hnf : narrow .char (.int (iN v)) = .int (iN v) ∧ fits .char (.int (iN v)) = true := xnarC hv
  refine va_putN C.1.1 C.1.2.1 C.1.2.2.2.2 hK.2.1 ty hK.2.2.1 hK.2.2.2 C.1.2.2.2.1 C.2.1 hP hD hS q (xw_obj hq) hK.1 kk hk (va_Nw.use rfl (C.2.2.2.1 _ hl0)) (fun x h => h) hfin ((hK.2.2.1 kk hk).trans (congrArg some hty)) hnf.1 hnf.2 (by rw [List.length_mapIdx]; exact (List.getElem?_eq_some_iff.mp hf).1) d (fun H1 locs1 hP1 hD1 hS1 => ?_)
  have e := xset_obj (S := S) (v := v) (x := .int (iN v)) hq hf rfl
  exact k H1 locs1 ls (e ▸ hP1) (e ▸ hD1) hS1 hl
theorem xi_putJ (C : xC G p c cc nL s args own m A) {q ci index : Nat} {fs : List (Nat × Nat)} {Cn : String} {T : u_T} {N : Nat} {ty : Nat → FieldType} {r : Nat} (hK : xKl ci Cn T N ty) (hq : G.2.2.2.1[q]? = some (.inr (ci, fs))) (kk : Nat) (hk : kk < N) {ki : Int} (hki : (kk : Int) = ki) {v : Int} (hl0 : Cond.fieldLink own index (T kk).1 (T kk).2.1 (T kk).2.2.1 ∈ xBIG) (hf : fs[kk]? = some (1, r)) (hfin : (T kk).2.2.2 = false) (hty : ty kk = .long) (d : decode cc pc = .ok (.putfield index, 3)) (k : xV G p l e R s m args below meth c A nL Q cells slots (pc + 3) L st (xup S q ki v)) : xV G p l e R s m args below meth c A nL Q cells slots pc L (.long (jN v) :: .ref (G.2.2.1 q) :: st) S := by
  intro H locs ls hP hD hS hl
  subst hki
  have hnf : narrow .long (.long (jN v)) = .long (jN v) ∧ fits .long (.long (jN v)) = true := ⟨rfl, rfl⟩
  refine va_put C.1.1 C.1.2.1 C.1.2.2.2.2 hK.2.1 ty hK.2.2.1 hK.2.2.2 C.1.2.2.2.1 C.2.1 hP hD hS q (xw_obj hq) hK.1 kk hk (C.1.2.2.2.2 _ hl0) (fun x h => h) hfin ((hK.2.2.1 kk hk).trans (congrArg some hty)) hnf.1 hnf.2 (by rw [List.length_mapIdx]; exact (List.getElem?_eq_some_iff.mp hf).1) d (fun H1 locs1 hP1 hD1 hS1 => ?_)
  have e := xset_obj (S := S) (v := v) (x := .long (jN v)) hq hf rfl
  exact k H1 locs1 ls (e ▸ hP1) (e ▸ hD1) hS1 hl
theorem xi_putJN (C : xC G p c cc nL s args own m A) {host : String} {q ci index : Nat} {fs : List (Nat × Nat)} {Cn : String} {T : u_T} {N : Nat} {ty : Nat → FieldType} {r : Nat} (hK : xKl ci Cn T N ty) (hq : G.2.2.2.1[q]? = some (.inr (ci, fs))) (kk : Nat) (hk : kk < N) {ki : Int} (hki : (kk : Int) = ki) {v : Int} (hl0 : Cond.fieldLinkNest own index (T kk).1 (T kk).2.1 (T kk).2.2.1 host ∈ xNest) (hf : fs[kk]? = some (1, r)) (hfin : (T kk).2.2.2 = false) (hty : ty kk = .long) (d : decode cc pc = .ok (.putfield index, 3)) (k : xV G p l e R s m args below meth c A nL Q cells slots (pc + 3) L st (xup S q ki v)) : xV G p l e R s m args below meth c A nL Q cells slots pc L (.long (jN v) :: .ref (G.2.2.1 q) :: st) S := by
  intro H locs ls hP hD hS hl
  subst hki
  have hnf : narrow .long (.long (jN v)) = .long (jN v) ∧ fits .long (.long (jN v)) = true := ⟨rfl, rfl⟩
  refine va_putN C.1.1 C.1.2.1 C.1.2.2.2.2 hK.2.1 ty hK.2.2.1 hK.2.2.2 C.1.2.2.2.1 C.2.1 hP hD hS q (xw_obj hq) hK.1 kk hk (va_Nw.use rfl (C.2.2.2.1 _ hl0)) (fun x h => h) hfin ((hK.2.2.1 kk hk).trans (congrArg some hty)) hnf.1 hnf.2 (by rw [List.length_mapIdx]; exact (List.getElem?_eq_some_iff.mp hf).1) d (fun H1 locs1 hP1 hD1 hS1 => ?_)
  have e := xset_obj (S := S) (v := v) (x := .long (jN v)) hq hf rfl
  exact k H1 locs1 ls (e ▸ hP1) (e ▸ hD1) hS1 hl
end XJ

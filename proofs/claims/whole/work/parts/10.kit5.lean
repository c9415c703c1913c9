/-! own kit: ranges, shifts, statics, copies, fills -/
theorem xR_div {a b : Int} (ha : xR a) (h0 : 0 ≤ a) (_ : xR b) (hb0 : 0 < b) : xR (a / b) := ⟨by have := Int.ediv_nonneg h0 (Int.le_of_lt hb0); omega, by have := Int.ediv_le_self b h0; have := ha.2; omega⟩
theorem xR_mod {a b : Int} (_ : xR a) (_ : 0 ≤ a) (hb : xR b) (hb0 : 0 < b) : xR (a % b) := ⟨by have := Int.emod_nonneg a (by omega : b ≠ 0); omega, by have := Int.emod_lt_of_pos a hb0; have := hb.2; omega⟩
theorem xRJ_div {a b : Int} (ha : xRJ a) (h0 : 0 ≤ a) (_ : xRJ b) (hb0 : 0 < b) : xRJ (a / b) := ⟨by have := Int.ediv_nonneg h0 (Int.le_of_lt hb0); omega, by have := Int.ediv_le_self b h0; have := ha.2; omega⟩
theorem xRJ_mod {a b : Int} (_ : xRJ a) (_ : 0 ≤ a) (hb : xRJ b) (hb0 : 0 < b) : xRJ (a % b) := ⟨by have := Int.emod_nonneg a (by omega : b ≠ 0); omega, by have := Int.emod_lt_of_pos a hb0; have := hb.2; omega⟩
theorem xnn_div {a b : Int} (h0 : 0 ≤ a) (hb0 : 0 < b) : 0 ≤ a / b := Int.ediv_nonneg h0 (Int.le_of_lt hb0)
theorem xnn_mod {a b : Int} (_ : 0 ≤ a) (hb0 : 0 < b) : 0 ≤ a % b := Int.emod_nonneg a (by omega)
theorem xR_J {a : Int} (h : xR a) : xRJ a := ⟨by have := h.1; omega, by have := h.2; omega⟩
theorem xR_FO {i : Int} (h : 0 ≤ i ∧ i < 3) : xR (3 + 2 * i) := ⟨by omega, by omega⟩
theorem xR_shr {a : Int} {k : Nat} (h : xR a) : xR (a / 2 ^ k) := by
  have hp : (0 : Int) < 2 ^ k := Int.pow_pos (by decide)
  have hp1 : (1 : Int) ≤ 2 ^ k := hp
  refine ⟨(Int.le_ediv_iff_mul_le hp).mpr ?_, Int.ediv_lt_of_lt_mul hp ?_⟩
  · have : (-2147483648 : Int) * 2 ^ k ≤ -2147483648 * 1 := Int.mul_le_mul_of_nonpos_left (by decide) hp1
    have := h.1; omega
  · have : (2147483648 : Int) * 1 ≤ 2147483648 * 2 ^ k := Int.mul_le_mul_of_nonneg_left hp1 (by decide)
    have := h.2; omega
theorem xsh_n : ∀ n, n < 32 → ((nI n &&& 31).toBitVec.smod 32).toNat = n := by decide +kernel
theorem iN_nI (n : Nat) : iN (n : Int) = nI n := Int32.ofInt_eq_ofNat
theorem iN_bv (a : Int) : (iN a).toBitVec = BitVec.ofInt 32 a := rfl
theorem iN_shl {a b : Int} (hb : 0 ≤ b ∧ b < 31) : iN a <<< (iN b &&& 31) = iN (a * 2 ^ b.toNat) := by
  obtain ⟨k, rfl⟩ := Int.eq_ofNat_of_zero_le hb.1
  have hk : k < 32 := by omega
  rw [iN_nI, Int.toNat_natCast]
  apply Int32.toBitVec_inj.mp
  apply BitVec.eq_of_toNat_eq
  rw [pk_shl _ _ k (xsh_n k hk), iN_bv, iN_bv, BitVec.toNat_ofInt, BitVec.toNat_ofInt]
  have e : ((2 ^ k : Nat) : Int) = (2 : Int) ^ k := by simp
  have hz : (0 : Int) ≤ a % ((2 ^ 32 : Nat) : Int) := Int.emod_nonneg _ (by decide)
  apply Int.ofNat.inj
  show (((a % ((2 ^ 32 : Nat) : Int)).toNat * 2 ^ k % 2 ^ 32 : Nat) : Int) = ((a * 2 ^ k % ((2 ^ 32 : Nat) : Int)).toNat : Int)
  rw [Int.toNat_of_nonneg (Int.emod_nonneg _ (by decide)), Int.natCast_emod, Int.natCast_mul, Int.toNat_of_nonneg hz, e, Int.mul_emod, Int.emod_emod_of_dvd _ (Int.dvd_refl _), ← Int.mul_emod]
theorem iN_shr {a b : Int} (ha : xR a) (hb : 0 ≤ b ∧ b < 31) : iN a >>> (iN b &&& 31) = iN (a / 2 ^ b.toNat) := by
  obtain ⟨k, rfl⟩ := Int.eq_ofNat_of_zero_le hb.1
  have hk : k < 32 := by omega
  rw [iN_nI, Int.toNat_natCast]
  apply Int32.toInt_inj.mp
  rw [pk_shr _ _ k (xsh_n k hk), iN_t ha, iN_t (xR_shr ha), Int.shiftRight_eq_div_pow]
  simp
theorem xRJ_ushr52 (a : Int) : xRJ (a % 18446744073709551616 / 4503599627370496) := by
  have h1 := Int.emod_nonneg a (by decide : (18446744073709551616 : Int) ≠ 0)
  have h2 := Int.emod_lt_of_pos a (by decide : (0 : Int) < 18446744073709551616)
  constructor <;> omega
theorem jN_bv (a : Int) : (jN a).toBitVec = BitVec.ofInt 64 a := rfl
theorem jN_ushr52 (a : Int) : ((jN a).toUInt64 >>> ((iN 52).toInt64.toUInt64 &&& Int64.toUInt64 63)).toInt64 = jN (a % 18446744073709551616 / 4503599627370496) := by
  apply Int64.toBitVec_inj.mp
  apply BitVec.eq_of_toNat_eq
  have e1 : ((iN 52).toInt64.toUInt64 &&& Int64.toUInt64 63) = 52 := by decide +kernel
  rw [e1]
  show ((jN a).toUInt64 >>> (52 : UInt64)).toNat = _
  have e2 : (jN a).toUInt64.toNat = (a % ((2 ^ 64 : Nat) : Int)).toNat := by
    show (jN a).toBitVec.toNat = _
    rw [jN_bv, BitVec.toNat_ofInt]
  rw [UInt64.toNat_shiftRight, e2, jN_bv, BitVec.toNat_ofInt]
  have h1 := Int.emod_nonneg a (by decide : (18446744073709551616 : Int) ≠ 0)
  have h2 := Int.emod_lt_of_pos a (by decide : (0 : Int) < 18446744073709551616)
  have e3 : ((2 ^ 64 : Nat) : Int) = 18446744073709551616 := by decide
  rw [e3]
  have e4 : (52 : UInt64).toNat % 64 = 52 := by decide
  rw [e4, Nat.shiftRight_eq_div_pow]
  omega
theorem xR_c (a : Int) : xR (a % 65536) := ⟨by omega, by omega⟩
theorem iN_c (a : Int) : ((iN a).toUInt32 % 65536).toInt32 = iN (a % 65536) := by
  rw [pk_char, iN_bv, BitVec.toNat_ofInt, ← iN_nI]
  congr 1
  have h1 := Int.emod_nonneg a (by decide : (4294967296 : Int) ≠ 0)
  have e3 : ((2 ^ 32 : Nat) : Int) = 4294967296 := by decide
  rw [e3]
  omega
theorem xsw_none : ∀ (ps : List (Int × Int)) (d a : Int), (∀ q ∈ ps, ¬ a = q.1) → Op.lookupswitch.offset ps d a = d
  | [], d, a, _ => rfl
  | q :: ps, d, a, h => by
    obtain ⟨k, o⟩ := q
    rw [Op.lookupswitch.offset_cons, if_neg (fun z => h (k, o) List.mem_cons_self (by first | exact z | exact z.symm))]
    exact xsw_none ps d a (fun q hq => h q (List.mem_cons_of_mem _ hq))
theorem xval.copy {G : xG} {S : xS} {q0 q1 : Nat} {n : Int} (h : xval G S) (h0 : ∀ i, G.2.2.2.2.2 q0 i = false) (h1 : ∀ i, G.2.2.2.2.2 q1 i = false) : xval G (xcopy S q0 0 q1 0 n) := by
  intro q i hi
  unfold xcopy
  by_cases z : q = q1 ∧ 0 ≤ i ∧ i < 0 + n
  · rw [if_pos z, z.1]
    exact ⟨fun _ => (h q0 (i - 0 + 0) (by omega)).1 (h0 _), fun h2 => absurd ((h1 i).symm.trans h2) (by decide)⟩
  · rw [if_neg z]
    exact h q i hi
theorem xval.fill {G : xG} {S : xS} {q : Nat} {n v : Int} (h : xval G S) (h1 : ∀ i, G.2.2.2.2.2 q i = false) (hv : xR v) : xval G (xfill S q n v) := by
  intro q' i hi
  unfold xfill
  by_cases z : q' = q ∧ 0 ≤ i ∧ i < n
  · rw [if_pos z, z.1]
    exact ⟨fun _ => hv, fun h2 => absurd ((h1 i).symm.trans h2) (by decide)⟩
  · rw [if_neg z]
    exact h q' i hi
/-- a state that differs at one row alone, at places that are not negative -/
theorem xset_row {G : xG} {S S' : xS} {q t n : Nat} (hq : G.2.2.2.1[q]? = some (.inl (t, n))) (hn : 0 < n) (ho : ∀ q', q' ≠ q → S' q' = S q') (hm : ∀ i, i < 0 → S' q i = S q i) : (xwd G S).set q (G.2.2.1 q, .inl (G.2.1 t, n, xrow t (S' q))) = xwd G S' := by
  obtain ⟨k, rfl⟩ : ∃ k, n = k + 1 := ⟨n - 1, by omega⟩
  have hn2 : ∀ r, S' r (-2) = S r (-2) := fun r => by
    by_cases h : r = q
    · rw [h]; exact hm _ (by decide)
    · rw [ho r h]
  apply List.ext_getElem?
  intro j
  have hlt : q < G.2.2.2.1.length := (List.getElem?_eq_some_iff.mp hq).1
  by_cases hj : j = q
  · subst hj
    rw [List.getElem?_set_self (by unfold xwd xw; rw [List.length_mapIdx]; exact hlt), xw_arr hq (by omega)]
  · rw [List.getElem?_set_ne (Ne.symm hj)]
    unfold xwd xw
    rw [List.getElem?_mapIdx, List.getElem?_mapIdx]
    cases G.2.2.2.1[j]? with
    | none => rfl
    | some d' =>
      simp only [Option.map_some]
      congr 2
      · unfold xad; split
        · rw [hn2]
        · rfl
      · unfold xcell xlen; split
        · rw [ho j hj]
        · congr 3
          funext k e
          rw [ho j hj]
          unfold xfld; split <;> first | rfl | rw [hn2]
section XN
variable {G : xG} {p : Program} {l : Launch} {e : Env} {R : Room} {s : State} {m : MethodId} {args : Array Value} {below : List Frame} {meth : Method} {c : Code} {A : Nat → Prop} {nL : Nat} {Q : State → Prop} {cells slots : Nat}
variable {cc : ByteArray} {own : String} {pc : Nat} {L : List (Nat × Value)} {st st0 : List Value} {S : xS}
theorem xi_ishl (C : xC G p c cc nL s args own m A) {a b : Int} (hb : 0 ≤ b ∧ b < 31) (d : decode cc pc = .ok (.ishl, 1)) (k : xV G p l e R s m args below meth c A nL Q cells slots (pc + 1) L (.int (iN (a * 2 ^ b.toNat)) :: st) S) : xV G p l e R s m args below meth c A nL Q cells slots pc L (.int (iN b) :: .int (iN a) :: st) S := by
  intro H locs ls hP hD hS hl
  exact lv_ishl C.1.1 C.1.2.1 d (by rw [iN_shl hb]; exact k H locs ls hP hD hS hl)
theorem xi_ishr (C : xC G p c cc nL s args own m A) {a b : Int} (ha : xR a) (hb : 0 ≤ b ∧ b < 31) (d : decode cc pc = .ok (.ishr, 1)) (k : xV G p l e R s m args below meth c A nL Q cells slots (pc + 1) L (.int (iN (a / 2 ^ b.toNat)) :: st) S) : xV G p l e R s m args below meth c A nL Q cells slots pc L (.int (iN b) :: .int (iN a) :: st) S := by
  intro H locs ls hP hD hS hl
  exact lv_ishr C.1.1 C.1.2.1 d (by rw [iN_shr ha hb]; exact k H locs ls hP hD hS hl)
theorem xi_lushr52 (C : xC G p c cc nL s args own m A) {a : Int} (d : decode cc pc = .ok (.lushr, 1)) (k : xV G p l e R s m args below meth c A nL Q cells slots (pc + 1) L (.long (jN (a % 18446744073709551616 / 4503599627370496)) :: st) S) : xV G p l e R s m args below meth c A nL Q cells slots pc L (.int (iN 52) :: .long (jN a) :: st) S := by
  intro H locs ls hP hD hS hl
  exact lv_lushr C.1.1 C.1.2.1 d (jN_ushr52 a) (k H locs ls hP hD hS hl)
theorem xi_i2c (C : xC G p c cc nL s args own m A) {a : Int} (d : decode cc pc = .ok (.i2c, 1)) (k : xV G p l e R s m args below meth c A nL Q cells slots (pc + 1) L (.int (iN (a % 65536)) :: st) S) : xV G p l e R s m args below meth c A nL Q cells slots pc L (.int (iN a) :: st) S := by
  intro H locs ls hP hD hS hl
  exact lv_i2c C.1.1 C.1.2.1 d (iN_c a) (k H locs ls hP hD hS hl)
theorem xi_getFO (C : xC G p c cc nL s args own m A) {index : Nat} {host : String} (hl0 : Cond.fieldLinkNest own index "Statewarden" "FIRST_OWN" "[I" host ∈ xNest) (d : decode cc pc = .ok (.getstatic index, 3)) (k : xV G p l e R s m args below meth c A nL Q cells slots (pc + 3) L (.ref G.2.2.2.2.1 :: st) S) : xV G p l e R s m args below meth c A nL Q cells slots pc L st S := by
  intro H locs ls hP hD hS hl
  exact va_getsN C.1.1 C.1.2.1 C.2.2.2.2.1 hS C.1.2.2.2.1 (va_Nw.use rfl (C.2.2.2.1 _ hl0)) (fun x h => h) d (k H locs ls hP hD hS hl)
theorem xi_ialoadFO (C : xC G p c cc nL s args own m A) {i : Int} (hi : 0 ≤ i ∧ i < 3) (d : decode cc pc = .ok (.iaload, 1)) (k : xV G p l e R s m args below meth c A nL Q cells slots (pc + 1) L (.int (iN (3 + 2 * i)) :: st) S) : xV G p l e R s m args below meth c A nL Q cells slots pc L (.int (iN i) :: .ref G.2.2.2.2.1 :: st) S := by
  intro H locs ls hP hD hS hl
  obtain ⟨h1, h2⟩ := iN_ix (n := 3) (by decide) hi
  refine va_ti C.1.1 C.1.2.1 C.2.2.2.2.2.1 hS h1 (v := .int (iN (3 + 2 * i))) ?_ d (k H locs ls hP hD hS hl)
  rw [h2]
  unfold xFO
  rw [Int.toNat_of_nonneg hi.1]
theorem xi_acopy (C : xC G p c cc nL s args own m A) {index q0 q1 n0 n1 n : Nat} {ni : Int} (hni : (n : Int) = ni) (hl0 : Cond.methodLink own index arraycopyName ∈ xBIG) (hw : Cond.native arraycopyName ∈ xBIG ∧ Cond.static arraycopyName ∈ xBIG ∧ Cond.initialized "java/lang/System" ∈ xBIG) (hq0 : G.2.2.2.1[q0]? = some (.inl (0, n0))) (hq1 : G.2.2.2.1[q1]? = some (.inl (0, n1))) (hn : 0 < n0 ∧ 0 < n1 ∧ n ≤ n0 ∧ n ≤ n1 ∧ n < 2147483648) (hR : 1 ≤ R.frames ∧ (st.map fun v => v.category).sum + (nativeFrameWords "java/lang/System" "arraycopy" 5 + 11) ≤ R.locals) (d : decode cc pc = .ok (.invokestatic index, 3))
    (k : xV G p l e R s m args below meth c A nL Q cells slots (pc + 3) L st (xcopy S q0 0 q1 0 ni)) : xV G p l e R s m args below meth c A nL Q cells slots pc L (.int (iN ni) :: .int (iN 0) :: .ref (G.2.2.1 q1) :: .int (iN 0) :: .ref (G.2.2.1 q0) :: st) S := by
  intro H locs ls hP hD hS hl
  subst hni
  have e0 : (iN 0).toNatClampNeg = 0 := by decide +kernel
  have en : (iN (n : Int)).toNatClampNeg = n := by rw [iN_nI]; exact nI_clamp (by omega)
  have hz : ¬ iN 0 < 0 := by decide +kernel
  have hzn : ¬ iN (n : Int) < 0 := by rw [iN_nI]; exact nI_pos (by omega)
  refine va_copyi C.1.1 C.1.2.1 (C.1.2.2.1.trans hl.1.symm) C.1.2.2.2.1 (C.1.2.2.2.2 _ hl0) (C.1.2.2.2.2 _ hw.1) (C.1.2.2.2.2 _ hw.2.1) (C.1.2.2.2.2 _ hw.2.2) C.2.1 hP hD hS q0 q1 0 0 (f := fun j : Nat => iN (S q0 j)) (g := fun j : Nat => iN (S q1 j)) (xw_arr hq0 hn.1) (xw_arr hq1 hn.2.1) rfl rfl rfl hz hz hzn (by rw [e0, en]; omega) (by rw [e0, en]; omega) (fun _ _ => rfl) hR.1 hR.2 d (fun H1 locs1 hP1 hD1 hS1 => ?_)
  rw [e0, en] at hP1 hD1
  have er : va_cpy (fun j : Nat => iN (S q0 j)) (fun j : Nat => iN (S q1 j)) 0 0 n = fun j : Nat => iN (xcopy S q0 0 q1 0 (n : Int) q1 j) := by
    funext j
    unfold xcopy
    by_cases z : j < n
    · rw [pk_cpy_in (Nat.zero_le _) (by omega), if_pos ⟨rfl, by omega, by omega⟩]
      congr 2
      omega
    · rw [pk_cpy_out (by omega), if_neg (fun q => z (by have := q.2.2; omega))]
  rw [er] at hP1 hD1
  have e := xset_row (S := S) (S' := xcopy S q0 0 q1 0 (n : Int)) hq1 hn.2.1 (fun q' h => by funext i; exact if_neg (fun z => h z.1)) (fun i h => if_neg (fun z => by have := z.2.1; omega))
  exact k H1 locs1 ls (e ▸ hP1) (e ▸ hD1) hS1 hl
end XN

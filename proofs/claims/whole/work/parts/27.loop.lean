/-! the law's loop -/
def xlaw (f : Int → Int) (i : Int) (S : xS) (Q : xS → Prop) : Prop :=
  (xand (f i) 31 = 0 → w_K0 f i S Q) ∧ (xand (f i) 31 = 1 → w_K1 f i S Q) ∧ (xand (f i) 31 = 2 → w_K2 f i S Q) ∧ (xand (f i) 31 = 3 → w_K3 f i S Q) ∧ (xand (f i) 31 = 4 → w_K4 f i S Q) ∧ (xand (f i) 31 = 5 → w_K5 f i S Q) ∧ (xand (f i) 31 = 6 → w_K6 f i S Q) ∧ (xand (f i) 31 = 7 → w_K7 f i S Q) ∧ (xand (f i) 31 = 8 → w_K8 f i S Q) ∧ (xand (f i) 31 = 9 → w_K9 f i S Q) ∧ (xand (f i) 31 = 10 → w_K10 f i S Q) ∧ (xand (f i) 31 = 11 → w_K11 f i S Q) ∧ (xand (f i) 31 = 12 → w_K12 f i S Q) ∧ (xand (f i) 31 = 13 → w_K13 f i S Q) ∧ (xand (f i) 31 = 14 → w_K14 f i S Q) ∧ (xand (f i) 31 = 15 → w_K15 f i S Q) ∧ (xand (f i) 31 = 16 → w_K16 f i S Q) ∧ (xand (f i) 31 = 17 → w_K17 f i S Q) ∧ (xand (f i) 31 = 18 → w_K18 f i S Q) ∧ (xand (f i) 31 = 19 → w_K19 f i S Q) ∧ (xand (f i) 31 = 20 → w_K20 f i S Q) ∧ (xand (f i) 31 = 21 → w_K21 f i S Q) ∧ (xand (f i) 31 = 22 → w_K22 f i S Q) ∧ (xand (f i) 31 = 23 → w_K23 f i S Q) ∧ (xand (f i) 31 = 24 → w_K24 f i S Q) ∧ (xand (f i) 31 = 25 → w_K25 f i S Q) ∧ (xand (f i) 31 = 26 → w_K26 f i S Q) ∧ (xand (f i) 31 = 27 → w_K27 f i S Q) ∧ (xand (f i) 31 = 28 → w_K28 f i S Q) ∧ (xand (f i) 31 = 29 → w_K29 f i S Q) ∧ (xand (f i) 31 = 30 → w_K30 f i S Q) ∧ (xand (f i) 31 = 31 → Q S)
theorem xand_31 (a : Int) : 0 ≤ xand a 31 ∧ xand a 31 ≤ 31 := by
  have h : (iN a &&& iN 31).toBitVec.toNat ≤ 31 := by
    rw [Int32.toBitVec_and, BitVec.toNat_and]
    exact Nat.le_trans Nat.and_le_right (by decide +kernel)
  have e : (iN a &&& iN 31).toInt = ((iN a &&& iN 31).toBitVec.toNat : Int) := by
    show (iN a &&& iN 31).toBitVec.toInt = _
    rw [BitVec.toInt_eq_toNat_of_lt (by omega)]
  unfold xand
  rw [e]
  omega
section XTB
variable {G : xG} {p : Program} {l : Launch} {e : Env} {R : Room} {s : State} {m : MethodId} {args : Array Value} {below : List Frame} {meth : Method} {c : Code} {A : Nat → Prop} {nL : Nat} {Q : State → Prop} {cells slots : Nat}
variable {cc : ByteArray} {own : String} {pc : Nat} {L : List (Nat × Value)} {st : List Value} {S : xS}
theorem xi_table (C : xC G p c cc nL s args own m A) {dflt lo hi : Int} {offs : Array Int} {len : Nat} {a off : Int} (tgt : Nat) (ra : xR a) (d : decode cc pc = .ok (.tableswitch dflt lo hi offs, len)) (h1 : lo ≤ a) (h2 : a ≤ hi) (ho : offs[(a - lo).toNat]? = some off) (ht : (pc : Int) + off = (tgt : Int)) (k : xV G p l e R s m args below meth c A nL Q cells slots tgt L st S) : xV G p l e R s m args below meth c A nL Q cells slots pc L (.int (iN a) :: st) S := by
  intro H locs ls hP hD hS hl
  exact lv_tableIn C.1.1 C.1.2.1 d (by rw [iN_t ra]; omega) (by rw [iN_t ra]; omega) (by rw [iN_t ra]; exact ho) ht (k H locs ls hP hD hS hl)
theorem xi_tableOut (C : xC G p c cc nL s args own m A) {dflt lo hi : Int} {offs : Array Int} {len : Nat} {a : Int} (tgt : Nat) (ra : xR a) (d : decode cc pc = .ok (.tableswitch dflt lo hi offs, len)) (h : a < lo ∨ hi < a) (ht : (pc : Int) + dflt = (tgt : Int)) (k : xV G p l e R s m args below meth c A nL Q cells slots tgt L st S) : xV G p l e R s m args below meth c A nL Q cells slots pc L (.int (iN a) :: st) S := by
  intro H locs ls hP hD hS hl
  exact lv_tableOut C.1.1 C.1.2.1 d (by rw [iN_t ra]; exact h) ht (k H locs ls hP hD hS hl)
end XTB
set_option maxRecDepth 100000 in
set_option maxHeartbeats 4000000 in
/-- one turn of the loop, behind the test -/
theorem c_turn {l : Launch} (hl9 : l.stackTraces = false) {D : va_G} {ca : Nat → ClassId} {ad : Nat → Nat} {tF : Nat} {p : Program} {e : Env} {s : State} {m : MethodId} {below : List Frame} {meth : Method} {c : Code} {A : Nat → Prop} {Z : State → Prop} {b L k0 n0 : Nat} {xs : Nat → Int32} {i : Int} {S S0 : xS} {Q : xS → Prop}
    (C : xC (gC D ca ad tF) p c cL_law 9 s #[Value.ref b] RL m A) (hX : va_X b L xs s s.heap) (hbl : b < s.heap.size) (hbA : ¬ A b) (hL : L ≤ 3584) (h0 : 0 ≤ i ∧ i + 6 < (L : Int)) (hk9 : k0 + 5 + xgc S0 ≤ 603072 ∧ n0 + 30 + xgs S0 ≤ 7198826) (ha0 : xAl S0 S) (hw : xval (gC D ca ad tF) S) (h : xlaw (xsI xs) i S Q)
    (hk : ∀ S' : xS, Q S' → xval (gC D ca ad tF) S' → xAl S0 S' → xV (gC D ca ad tF) p l e room_1 s m #[Value.ref b] below meth c A 9 Z (k0 + 5 + (xgc S0 - xgc S')) (n0 + 30 + (xgs S0 - xgs S')) 2196 [(5, .int (iN i)), (0, .ref b), (1, .ref (ad 0)), (2, .ref (ad 54)), (3, .ref (ad 98)), (4, .ref (ad 99))] [] S') :
    xV (gC D ca ad tF) p l e room_1 s m #[Value.ref b] below meth c A 9 Z (k0 + 0 + (xgc S0 - xgc S)) (n0 + 0 + (xgs S0 - xgs S)) 45 [(5, .int (iN i)), (0, .ref b), (1, .ref (ad 0)), (2, .ref (ad 54)), (3, .ref (ad 98)), (4, .ref (ad 99))] [.int (iN (xand (xsI xs i) 31))] S := by
  have hr := xand_31 (xsI xs i)
  have hrR : xR (xand (xsI xs i) 31) := ⟨by omega, by omega⟩
  unfold xlaw at h
  obtain ⟨g0, h1, h2, h3, h4, h5, h6, h7, h8, h9, h10, h11, h12, h13, h14, h15, h16, h17, h18, h19, h20, h21, h22, h23, h24, h25, h26, h27, h28, h29, h30, h31⟩ := h
  generalize xand (xsI xs i) 31 = v at *
  by_cases z0 : v = 0
  · subst z0
    refine xi_table C 184 hrR dL_law_45 (by decide) (by decide) rfl (by decide) ?_
    exact c_K0 hl9 C hX hbl hbA hL rfl h0 hk9 ha0 hw (g0 rfl) hk
  by_cases z1 : v = 1
  · subst z1
    refine xi_table C 228 hrR dL_law_45 (by decide) (by decide) rfl (by decide) ?_
    exact c_K1 hl9 C hX hbl hbA hL rfl h0 hk9 ha0 hw (h1 rfl) hk
  by_cases z2 : v = 2
  · subst z2
    refine xi_table C 348 hrR dL_law_45 (by decide) (by decide) rfl (by decide) ?_
    exact c_K2 hl9 C hX hbl hbA hL rfl h0 hk9 ha0 hw (h2 rfl) hk
  by_cases z3 : v = 3
  · subst z3
    refine xi_table C 404 hrR dL_law_45 (by decide) (by decide) rfl (by decide) ?_
    exact c_K3 hl9 C hX hbl hbA hL rfl h0 hk9 ha0 hw (h3 rfl) hk
  by_cases z4 : v = 4
  · subst z4
    refine xi_table C 472 hrR dL_law_45 (by decide) (by decide) rfl (by decide) ?_
    exact c_K4 hl9 C hX hbl hbA hL rfl h0 hk9 ha0 hw (h4 rfl) hk
  by_cases z5 : v = 5
  · subst z5
    refine xi_table C 603 hrR dL_law_45 (by decide) (by decide) rfl (by decide) ?_
    exact c_K5 hl9 C hX hbl hbA hL rfl h0 hk9 ha0 hw (h5 rfl) hk
  by_cases z6 : v = 6
  · subst z6
    refine xi_table C 671 hrR dL_law_45 (by decide) (by decide) rfl (by decide) ?_
    exact c_K6 hl9 C hX hbl hbA hL rfl h0 hk9 ha0 hw (h6 rfl) hk
  by_cases z7 : v = 7
  · subst z7
    refine xi_table C 746 hrR dL_law_45 (by decide) (by decide) rfl (by decide) ?_
    exact c_K7 hl9 C hX hbl hbA hL rfl h0 hk9 ha0 hw (h7 rfl) hk
  by_cases z8 : v = 8
  · subst z8
    refine xi_table C 804 hrR dL_law_45 (by decide) (by decide) rfl (by decide) ?_
    exact c_K8 hl9 C hX hbl hbA hL rfl h0 hk9 ha0 hw (h8 rfl) hk
  by_cases z9 : v = 9
  · subst z9
    refine xi_table C 860 hrR dL_law_45 (by decide) (by decide) rfl (by decide) ?_
    exact c_K9 hl9 C hX hbl hbA hL rfl h0 hk9 ha0 hw (h9 rfl) hk
  by_cases z10 : v = 10
  · subst z10
    refine xi_table C 904 hrR dL_law_45 (by decide) (by decide) rfl (by decide) ?_
    exact c_K10 hl9 C hX hbl hbA hL rfl h0 hk9 ha0 hw (h10 rfl) hk
  by_cases z11 : v = 11
  · subst z11
    refine xi_table C 948 hrR dL_law_45 (by decide) (by decide) rfl (by decide) ?_
    exact c_K11 hl9 C hX hbl hbA hL rfl h0 hk9 ha0 hw (h11 rfl) hk
  by_cases z12 : v = 12
  · subst z12
    refine xi_table C 992 hrR dL_law_45 (by decide) (by decide) rfl (by decide) ?_
    exact c_K12 hl9 C hX hbl hbA hL rfl h0 hk9 ha0 hw (h12 rfl) hk
  by_cases z13 : v = 13
  · subst z13
    refine xi_table C 1047 hrR dL_law_45 (by decide) (by decide) rfl (by decide) ?_
    exact c_K13 hl9 C hX hbl hbA hL rfl h0 hk9 ha0 hw (h13 rfl) hk
  by_cases z14 : v = 14
  · subst z14
    refine xi_table C 1103 hrR dL_law_45 (by decide) (by decide) rfl (by decide) ?_
    exact c_K14 hl9 C hX hbl hbA hL rfl h0 hk9 ha0 hw (h14 rfl) hk
  by_cases z15 : v = 15
  · subst z15
    refine xi_table C 1170 hrR dL_law_45 (by decide) (by decide) rfl (by decide) ?_
    exact c_K15 hl9 C hX hbl hbA hL rfl h0 hk9 ha0 hw (h15 rfl) hk
  by_cases z16 : v = 16
  · subst z16
    refine xi_table C 1238 hrR dL_law_45 (by decide) (by decide) rfl (by decide) ?_
    exact c_K16 hl9 C hX hbl hbA hL rfl h0 hk9 ha0 hw (h16 rfl) hk
  by_cases z17 : v = 17
  · subst z17
    refine xi_table C 1281 hrR dL_law_45 (by decide) (by decide) rfl (by decide) ?_
    exact c_K17 hl9 C hX hbl hbA hL rfl h0 hk9 ha0 hw (h17 rfl) hk
  by_cases z18 : v = 18
  · subst z18
    refine xi_table C 1325 hrR dL_law_45 (by decide) (by decide) rfl (by decide) ?_
    exact c_K18 hl9 C hX hbl hbA hL rfl h0 hk9 ha0 hw (h18 rfl) hk
  by_cases z19 : v = 19
  · subst z19
    refine xi_table C 1369 hrR dL_law_45 (by decide) (by decide) rfl (by decide) ?_
    exact c_K19 hl9 C hX hbl hbA hL rfl h0 hk9 ha0 hw (h19 rfl) hk
  by_cases z20 : v = 20
  · subst z20
    refine xi_table C 1425 hrR dL_law_45 (by decide) (by decide) rfl (by decide) ?_
    exact c_K20 hl9 C hX hbl hbA hL rfl h0 hk9 ha0 hw (h20 rfl) hk
  by_cases z21 : v = 21
  · subst z21
    refine xi_table C 1481 hrR dL_law_45 (by decide) (by decide) rfl (by decide) ?_
    exact c_K21 hl9 C hX hbl hbA hL rfl h0 hk9 ha0 hw (h21 rfl) hk
  by_cases z22 : v = 22
  · subst z22
    refine xi_table C 1532 hrR dL_law_45 (by decide) (by decide) rfl (by decide) ?_
    exact c_K22 hl9 C hX hbl hbA hL rfl h0 hk9 ha0 hw (h22 rfl) hk
  by_cases z23 : v = 23
  · subst z23
    refine xi_table C 1635 hrR dL_law_45 (by decide) (by decide) rfl (by decide) ?_
    exact c_K23 hl9 C hX hbl hbA hL rfl h0 hk9 ha0 hw (h23 rfl) hk
  by_cases z24 : v = 24
  · subst z24
    refine xi_table C 1710 hrR dL_law_45 (by decide) (by decide) rfl (by decide) ?_
    exact c_K24 hl9 C hX hbl hbA hL rfl h0 hk9 ha0 hw (h24 rfl) hk
  by_cases z25 : v = 25
  · subst z25
    refine xi_table C 1813 hrR dL_law_45 (by decide) (by decide) rfl (by decide) ?_
    exact c_K25 hl9 C hX hbl hbA hL rfl h0 hk9 ha0 hw (h25 rfl) hk
  by_cases z26 : v = 26
  · subst z26
    refine xi_table C 1940 hrR dL_law_45 (by decide) (by decide) rfl (by decide) ?_
    exact c_K26 hl9 C hX hbl hbA hL rfl h0 hk9 ha0 hw (h26 rfl) hk
  by_cases z27 : v = 27
  · subst z27
    refine xi_table C 2008 hrR dL_law_45 (by decide) (by decide) rfl (by decide) ?_
    exact c_K27 hl9 C hX hbl hbA hL rfl h0 hk9 ha0 hw (h27 rfl) hk
  by_cases z28 : v = 28
  · subst z28
    refine xi_table C 2052 hrR dL_law_45 (by decide) (by decide) rfl (by decide) ?_
    exact c_K28 hl9 C hX hbl hbA hL rfl h0 hk9 ha0 hw (h28 rfl) hk
  by_cases z29 : v = 29
  · subst z29
    refine xi_table C 2117 hrR dL_law_45 (by decide) (by decide) rfl (by decide) ?_
    exact c_K29 hl9 C hX hbl hbA hL rfl h0 hk9 ha0 hw (h29 rfl) hk
  by_cases z30 : v = 30
  · subst z30
    refine xi_table C 2183 hrR dL_law_45 (by decide) (by decide) rfl (by decide) ?_
    exact c_K30 hl9 C hX hbl hbA hL rfl h0 hk9 ha0 hw (h30 rfl) hk
  have z31 : v = 31 := by omega
  refine xi_tableOut C 2196 hrR dL_law_45 (Or.inr (by omega)) (by decide) ?_
  exact xV_wid (xrK (Nat.le_of_ble_eq_true rfl)) (xrK (Nat.le_of_ble_eq_true rfl)) (hk S (h31 z31) hw ha0)
set_option maxRecDepth 100000 in
set_option maxHeartbeats 4000000 in
/-- the loop: an invariant that every case keeps -/
theorem c_loop {l : Launch} (hl9 : l.stackTraces = false) {D : va_G} {ca : Nat → ClassId} {ad : Nat → Nat} {tF : Nat} {p : Program} {e : Env} {s : State} {m : MethodId} {below : List Frame} {meth : Method} {c : Code} {A : Nat → Prop} {Z : State → Prop} {b L kb nb : Nat} {xs : Nat → Int32} {S0 : xS} {Inv : xS → Prop}
    (C : xC (gC D ca ad tF) p c cL_law 9 s #[Value.ref b] RL m A) (hX : va_X b L xs s s.heap) (hbl : b < s.heap.size) (hbA : ¬ A b) (hL : L ≤ 3584) (hk9 : kb + 2570 + xgc S0 ≤ 603072 ∧ nb + 15420 + xgs S0 ≤ 7198826)
    (hstep : ∀ (i : Int) (S : xS), xval (gC D ca ad tF) S → Inv S → xlaw (xsI xs) i S Inv)
    (hend : ∀ (cells slots : Nat) (Lv : List (Nat × Value)) (S : xS), cells ≤ 603072 → slots ≤ 7198826 → xV (gC D ca ad tF) p l e room_1 s m #[Value.ref b] below meth c A 9 Z cells slots 2203 Lv [.int (iN 1)] S) :
    ∀ (n j : Nat) (S : xS), n + j = 513 → Inv S → xval (gC D ca ad tF) S → xAl S0 S → xV (gC D ca ad tF) p l e room_1 s m #[Value.ref b] below meth c A 9 Z (kb + 5 * j + (xgc S0 - xgc S)) (nb + 30 * j + (xgs S0 - xgs S)) 28 [(5, .int (iN (7 * (j : Int)))), (0, .ref b), (1, .ref (ad 0)), (2, .ref (ad 54)), (3, .ref (ad 98)), (4, .ref (ad 99))] [] S := by
  intro n
  induction n with
  | zero =>
    intro j S hj hI hw ha
    refine xi_iload C 0 dL_law_28 rfl ?_
    refine xi_aload_n C 1 dL_law_30 rfl rfl ?_
    refine xi_slen C hX hbl hbA dL_law_31 ?_
    refine xi_bipush C (v := 7) dL_law_32 (by decide +kernel) ?_
    refine xi_isub C dL_law_34 ?_
    refine xi_icmp_gt C 2202 (⟨by omega, by omega⟩ : xR _) (⟨by omega, by omega⟩ : xR _) dL_law_35 (by decide) (fun z => ?_) (fun z => absurd (show ((L : Int) - 7 < 7 * (j : Int)) by omega) z)
    refine xi_iconst C (v := 1) dL_law_2202 rfl ?_
    exact hend _ _ _ _ (by omega) (by omega)
  | succ n ih =>
    intro j S hj hI hw ha
    refine xi_iload C 0 dL_law_28 rfl ?_
    refine xi_aload_n C 1 dL_law_30 rfl rfl ?_
    refine xi_slen C hX hbl hbA dL_law_31 ?_
    refine xi_bipush C (v := 7) dL_law_32 (by decide +kernel) ?_
    refine xi_isub C dL_law_34 ?_
    refine xi_icmp_gt C 2202 (⟨by omega, by omega⟩ : xR _) (⟨by omega, by omega⟩ : xR _) dL_law_35 (by decide) (fun z => ?_) (fun z => ?_)
    · refine xi_iconst C (v := 1) dL_law_2202 rfl ?_
      exact hend _ _ _ _ (by omega) (by omega)
    · have z' : 7 * (j : Int) ≤ (L : Int) - 7 := by omega
      refine xi_aload_n C 1 dL_law_38 rfl rfl ?_
      refine xi_iload C 0 dL_law_39 rfl ?_
      refine xi_sld C hX hbl hbA (i := 7 * (j : Int)) (by omega) hL dL_law_41 ?_
      refine xi_bipush C (v := 31) dL_law_42 (by decide +kernel) ?_
      refine xi_iand C dL_law_44 ?_
      refine c_turn hl9 C hX hbl hbA hL (k0 := kb + 5 * j) (n0 := nb + 30 * j) ⟨by omega, by omega⟩ ⟨by omega, by omega⟩ ha hw (hstep _ S hw hI) (fun S' hq hw' ha' => ?_)
      refine xi_iinc C (L' := [(5, .int (iN (7 * (j : Int) + 7))), (0, .ref b), (1, .ref (ad 0)), (2, .ref (ad 54)), (3, .ref (ad 98)), (4, .ref (ad 99))]) 0 dL_law_2196 rfl (by decide) rfl ?_
      refine xi_goto C 28 dL_law_2199 (by decide) ?_
      have h := ih (j + 1) S' (by omega) hq hw' ha'
      rw [show (7 * ((j + 1 : Nat) : Int)) = 7 * (j : Int) + 7 by omega] at h
      exact h

def w_X2_addEdge_J35 (a1 : Int) (a2 : Int) (Q : xS → Prop) (S35 : xS) : Prop :=
  (0 ≤ S35 33 (-1) ∧ S35 33 (-1) < 2147483648) ∧ (((S35 33 (-1)) ≤ (S35 5 3) → Q S35) ∧ (¬ (S35 33 (-1)) ≤ (S35 5 3) → (0 ≤ (S35 5 3) ∧ (S35 5 3) < S35 33 (-1) ∧ S35 33 (-1) < 2147483648) ∧ (xR ((S35 5 3) + 1)) ∧ (0 ≤ (S35 5 0) ∧ (S35 5 0) < 2001) ∧ ((xup S35 33 (S35 5 3) (xor32 (a1 * 8) a2)) 33 (-1) = S35 33 (-1)) ∧ Q (xup (xup (xup S35 33 (S35 5 3) (xor32 (a1 * 8) a2)) 5 3 ((S35 5 3) + 1)) 34 (S35 5 0) (xor32 (S35 34 (S35 5 0)) a2))))
def w_X2_addEdge (a1 : Int) (a2 : Int) (S : xS) (Q : xS → Prop) : Prop :=
  (0 ≤ S 33 (-1) ∧ S 33 (-1) < 2147483648) ∧ xJ0 (w_X2_addEdge_J35 a1 a2 Q) (fun j35 => (((S 5 3) < (S 33 (-1)) → j35 S) ∧ (¬ (S 5 3) < (S 33 (-1)) → (0 < S 33 (-1) ∧ S 33 (-1) < (xmin (2 * S 33 (-1)) 784000)) ∧ (1 + (xgN (xmin (2 * S 33 (-1)) 784000)).1 ≤ (xgN (S 33 (-1))).1 ∧ (xmin (2 * S 33 (-1)) 784000).toNat + (xgN (xmin (2 * S 33 (-1)) 784000)).2 ≤ (xgN (S 33 (-1))).2) ∧ (∀ b12 : Nat, j35 (xgrow S (xmin (2 * S 33 (-1)) 784000) b12)))))
def w_X6_make_J87 (a1 : Int) (Q : xS → Prop) (v5_87 : Int) (S87 : xS) : Prop :=
  ((¬ (S87 2 10) = 97 → Q S87) ∧ ((S87 2 10) = 97 → w_X3_doersOf a1 S87 (fun r103 S103 => (S103 33 (-1) = S87 33 (-1)) ∧ w_X2_addEdge v5_87 r103 S103 (fun S106 => Q S106))))
def w_X6_make (a1 : Int) (a2 : Int) (S : xS) (Q : xS → Prop) : Prop :=
  w_X7_isRefuted_h a1 S (fun r5 S5 => ((r5 = 0 → (xRJ ((S5 2 12) + 1)) ∧ w_X6_goBehind a1 (xup S5 2 12 ((S5 2 12) + 1)) (fun S51 => w_X7_pack_n S51 (fun r58 S58 => w_X1_numberFor r58 S58 (fun r67 S67 => xJ1 (w_X6_make_J87 a1 Q) (fun j87 => ((¬ r67 = (-1) → (S67 33 (-1) = S 33 (-1)) ∧ j87 r67 S67) ∧ (r67 = (-1) → w_X6_find r58 a2 a1 S67 (fun r82 S82 => (S82 33 (-1) = S 33 (-1)) ∧ j87 r82 S82)))))))) ∧ (¬ r5 = 0 → w_X6_endWith 97 a2 S5 (fun S15 => (0 ≤ (S15 2 8) ∧ (S15 2 8) < 2000) ∧ (xR ((S15 2 8) + 1)) ∧ (S15 33 (-1) = S 33 (-1)) ∧ Q (xup (xup S15 22 (S15 2 8) a1) 2 8 ((S15 2 8) + 1))))))
def w_X6_goOnFromOne_J128 (Q : xS → Prop) (S128 : xS) : Prop :=
  w_X2_closeState S128 (fun S132 => (S132 33 (-1) = S128 33 (-1)) ∧ Q S132)
def w_X6_goOnFromOne_J115 (S : xS) (k72 : Int → xS → Prop) (v3_72 : Int) (S84 : xS) (S115 : xS) : Prop :=
  w_X6_make (S84 35 v3_72) (S 2 11) S115 (fun S119 => (xR (v3_72 + 1)) ∧ k72 (v3_72 + 1) S119)
def w_X6_goOnFromOne_L72 (S : xS) (t0_69 : Int) (j128 : xS → Prop) (k72 : Int → xS → Prop) (v3_72 : Int) (S72 : xS) : Prop :=
  (((S72 6 2) ≤ v3_72 → j128 S72) ∧ (¬ (S72 6 2) ≤ v3_72 → w_X6_isCutShort S72 (fun r84 S84 => ((¬ r84 = 0 → (S84 33 (-1) = S72 33 (-1)) ∧ j128 S84) ∧ (r84 = 0 → (0 ≤ v3_72 ∧ v3_72 < 392) ∧ xJ0 (w_X6_goOnFromOne_J115 S k72 v3_72 S84) (fun j115 => ((t0_69 = (-1) → (S84 33 (-1) = S72 33 (-1)) ∧ j115 S84) ∧ (¬ t0_69 = (-1) → w_X3_leaderOf (S84 35 v3_72) S84 (fun r108 S108 => ((¬ r108 = t0_69 → (xR (v3_72 + 1)) ∧ (S108 33 (-1) = S72 33 (-1)) ∧ k72 (v3_72 + 1) S108) ∧ (r108 = t0_69 → (S108 33 (-1) = S72 33 (-1)) ∧ j115 S108)))))))))))
def w_X6_goOnFromOne_J69 (S : xS) (Q : xS → Prop) (t0_69 : Int) (S69 : xS) : Prop :=
  xJ0 (w_X6_goOnFromOne_J128 Q) (fun j128 => xL1 (w_X6_goOnFromOne_L72 S t0_69 j128) 0 S69)
def w_X6_goOnFromOne_J52 (S : xS) (Q : xS → Prop) (S52 : xS) : Prop :=
  xJ1 (w_X6_goOnFromOne_J69 S Q) (fun j69 => ((¬ (S52 2 10) = 112 → j69 (-1) S52) ∧ ((S52 2 10) = 112 → w_X6_processThatGoesAlone S52 (fun r62 S62 => (S62 33 (-1) = S52 33 (-1)) ∧ j69 r62 S62))))
def w_X6_goOnFromOne  (S : xS) (Q : xS → Prop) : Prop :=
  (xR ((S 2 11) + 1)) ∧ w_X6_listMoves (S 2 11) (xup S 2 11 ((S 2 11) + 1)) (fun S17 => xJ0 (w_X6_goOnFromOne_J52 S Q) (fun j52 => ((¬ (S17 6 2) = 0 → (S17 33 (-1) = S 33 (-1)) ∧ j52 S17) ∧ ((S17 6 2) = 0 → w_X4_hasProcessAtNoEnd_h S17 (fun r38 S38 => ((r38 = 0 → (S38 33 (-1) = S 33 (-1)) ∧ j52 S38) ∧ (¬ r38 = 0 → w_X6_endWith 100 (S 2 11) S38 (fun S48 => (S48 33 (-1) = S 33 (-1)) ∧ Q S48))))))))
def w_X6_goOn_L10 (a1 : Int) (S : xS) (Q : Int → xS → Prop) (k10 : Int → xS → Prop) (v3_10 : Int) (S10 : xS) : Prop :=
  ((a1 ≤ v3_10 → (xR ((S10 4 0) - (S 4 0))) ∧ Q ((S10 4 0) - (S 4 0)) S10) ∧ (¬ a1 ≤ v3_10 → w_X6_hasEnded S10 (fun r16 S16 => ((¬ r16 = 0 → (S16 33 (-1) = S10 33 (-1)) ∧ (xR ((S16 4 0) - (S 4 0))) ∧ Q ((S16 4 0) - (S 4 0)) S16) ∧ (r16 = 0 → (S16 33 (-1) = S10 33 (-1)) ∧ w_X6_goOnFromOne S16 (fun S23 => (xR (v3_10 + 1)) ∧ k10 (v3_10 + 1) S23))))))
def w_X6_goOn (a1 : Int) (S : xS) (Q : Int → xS → Prop) : Prop :=
  xL1 (w_X6_goOn_L10 a1 S Q) 0 S
set_option maxRecDepth 2000000 in
set_option maxHeartbeats 4000000 in
theorem c_X2_addEdge (l : Launch) (D : va_G) (ca : Nat → ClassId) (ad : Nat → Nat) (tF : Nat) (a1 : Int) (a2 : Int) (S : xS) (Q : xS → Prop) (h_a1 : xR a1) (h_a2 : xR a2) (h : w_X2_addEdge a1 a2 S Q) : xMA l yX2_addEdge (xws yX2_addEdge cX2_addEdge 3 (none)) ({ frames := 3, cells := xgc S, slots := xgs S, locals := 120 }) (gC D ca ad tF) [.ref (ad 5), .int (iN a1), .int (iN a2)] S (xQv Q) := by
  refine xmA_of RX2 rfl (by decide +kernel) (Nat.le_of_ble_eq_true rfl) ?_
  intro p e s m args below meth c A Z R hR9 C hA hZ hr hlocks hw
  subst hR9
  unfold w_X2_addEdge at h
  show xV (gC D ca ad tF) p l e ({ frames := 3, cells := xgc S, slots := xgs S, locals := 120 }) s m args below meth c A 3 Z (xgc S - xgc S) (xgs S - xgs S) 0 [(0, .ref (ad 5)), (1, .int (iN a1)), (2, .int (iN a2))] [] S
  refine xi_aload_n C 0 dX2_addEdge_0 rfl rfl ?_
  refine xi_getI C xK_X2 (q := 5) (r := 0) rfl 3 (by decide) (ki := 3) rfl xl_X2_25 rfl dX2_addEdge_1 ?_
  refine xi_aload_n C 0 dX2_addEdge_4 rfl rfl ?_
  refine xi_getE C xK_X2 (q := 5) (r := 33) rfl 2 (by decide) (ki := 2) rfl xl_X2_15 rfl dX2_addEdge_5 ?_
  obtain ⟨hc1, h⟩ := h
  refine xi_alenE C (q := 33) rfl hc1.1 dX2_addEdge_8 ?_
  refine xJ0_w (fun  S35 => xval (gC D ca ad tF) S35 → xAl S S35 → xV (gC D ca ad tF) p l e ({ frames := 3, cells := xgc S, slots := xgs S, locals := 120 }) s m args below meth c A 3 Z (xgc S - xgc S35) (xgs S - xgs S35) 35 [(0, .ref (ad 5)), (1, .int (iN a1)), (2, .int (iN a2))] [] S35) h (fun  S35 h  hw35 ha35 => ?_) (fun j35 hj35 h => ?_)
  · unfold w_X2_addEdge_J35 at h
    refine xi_aload_n C 0 dX2_addEdge_35 rfl rfl ?_
    refine xi_getI C xK_X2 (q := 5) (r := 0) rfl 3 (by decide) (ki := 3) rfl xl_X2_25 rfl dX2_addEdge_36 ?_
    refine xi_aload_n C 0 dX2_addEdge_39 rfl rfl ?_
    refine xi_getE C xK_X2 (q := 5) (r := 33) rfl 2 (by decide) (ki := 2) rfl xl_X2_15 rfl dX2_addEdge_40 ?_
    obtain ⟨hc3, h⟩ := h
    refine xi_alenE C (q := 33) rfl hc3.1 dX2_addEdge_43 ?_
    refine xi_icmp_ge C 84 (xval.i (q := 5) (i := 3) hw35 (by decide) rfl) (⟨Int.le_trans (by decide) hc3.1, hc3.2⟩ : xR _) dX2_addEdge_44 (by decide) (fun z4 => ?_) (fun z4 => ?_)
    · replace h := h.1 z4
      exact xr_vA C hA hZ ha35 rfl hr hlocks dX2_addEdge_84 hw35 ⟨rfl, h⟩
    · replace h := h.2 z4
      refine xi_aload_n C 0 dX2_addEdge_47 rfl rfl ?_
      refine xi_getE C xK_X2 (q := 5) (r := 33) rfl 2 (by decide) (ki := 2) rfl xl_X2_15 rfl dX2_addEdge_48 ?_
      refine xi_aload_n C 0 dX2_addEdge_51 rfl rfl ?_
      refine xi_getI C xK_X2 (q := 5) (r := 0) rfl 3 (by decide) (ki := 3) rfl xl_X2_25 rfl dX2_addEdge_52 ?_
      refine xi_iload_n C 1 dX2_addEdge_55 rfl rfl ?_
      refine xi_iconst C (v := 3) dX2_addEdge_56 rfl ?_
      refine xi_ishl C (by decide) dX2_addEdge_57 ?_
      refine xi_iload_n C 2 dX2_addEdge_58 rfl rfl ?_
      refine xi_ior C dX2_addEdge_59 ?_
      obtain ⟨hc5, h⟩ := h
      refine xi_iastoreE C (q := 33) rfl hc5 dX2_addEdge_60 ?_
      have hw6 := xval.up (q := 33) (i := S35 5 3) (v := xor32 (a1 * 8) a2) hw35 rfl (xor32_R _ _)
      refine xi_aload_n C 0 dX2_addEdge_61 rfl rfl ?_
      refine xi_dup C dX2_addEdge_62 rfl ?_
      refine xi_getI C xK_X2 (q := 5) (r := 0) rfl 3 (by decide) (ki := 3) rfl xl_X2_25 rfl dX2_addEdge_63 ?_
      refine xi_iconst C (v := 1) dX2_addEdge_66 rfl ?_
      refine xi_iadd C dX2_addEdge_67 ?_
      obtain ⟨hc7, h⟩ := h
      refine xi_putI C xK_X2 (q := 5) (r := 0) rfl 3 (by decide) (ki := 3) rfl xl_X2_25 rfl rfl rfl dX2_addEdge_68 ?_
      have hw8 := xval.up (q := 5) (i := 3) (v := (S35 5 3) + 1) hw6 rfl hc7
      refine xi_aload_n C 0 dX2_addEdge_71 rfl rfl ?_
      refine xi_getR C xK_X2 (q := 5) (r := 34) rfl 4 (by decide) (ki := 4) rfl xl_X2_18 rfl dX2_addEdge_72 ?_
      refine xi_aload_n C 0 dX2_addEdge_75 rfl rfl ?_
      refine xi_getI C xK_X2 (q := 5) (r := 0) rfl 0 (by decide) (ki := 0) rfl xl_X2_21 rfl dX2_addEdge_76 ?_
      refine xi_dup2 C dX2_addEdge_79 rfl rfl ?_
      obtain ⟨hc9, h⟩ := h
      refine xi_iaload C (q := 34) rfl (by decide) hc9 dX2_addEdge_80 ?_
      refine xi_iload_n C 2 dX2_addEdge_81 rfl rfl ?_
      refine xi_ior C dX2_addEdge_82 ?_
      refine xi_iastore C (q := 34) rfl (by decide) hc9 dX2_addEdge_83 ?_
      have hw10 := xval.up (q := 34) (i := S35 5 0) (v := xor32 (S35 34 (S35 5 0)) a2) hw8 rfl (xor32_R _ _)
      obtain ⟨hc11, h⟩ := h
      exact xr_vA C hA hZ ha35 ((congrFun (xup_cell (q' := 33) (by decide)) (-1)).trans ((congrFun (xup_cell (q' := 33) (by decide)) (-1)).trans hc11)) hr hlocks dX2_addEdge_84 hw10 ⟨rfl, h⟩
  · refine xi_icmp_lt C 35 (xval.i (q := 5) (i := 3) hw (by decide) rfl) (⟨Int.le_trans (by decide) hc1.1, hc1.2⟩ : xR _) dX2_addEdge_9 (by decide) (fun z2 => ?_) (fun z2 => ?_)
    · replace h := h.1 z2
      exact xV_al (S1 := S) rfl (xi_sub [0, 1, 2] rfl (hj35 S h hw ((xAl.refl S).eq rfl)))
    · replace h := h.2 z2
      obtain ⟨hc12, h⟩ := h
      obtain ⟨hc13, h⟩ := h
      refine xi_grow C hw (xAl.refl S) rfl rfl ⟨Nat.le_of_ble_eq_true rfl, Nat.le_of_ble_eq_true rfl⟩ hc12 hc13 (fun b12 hw12 ha12 => ?_)
      replace h := h b12
      exact xV_al (S1 := (xgrow S (xmin (2 * S 33 (-1)) 784000) b12)) rfl (xi_sub [0, 1, 2] rfl (hj35 (xgrow S (xmin (2 * S 33 (-1)) 784000) b12) h hw12 (ha12.eq rfl)))
set_option maxRecDepth 100000 in
set_option maxHeartbeats 4000000 in
theorem c_X6_make (l : Launch) (D : va_G) (ca : Nat → ClassId) (ad : Nat → Nat) (tF : Nat) (a1 : Int) (a2 : Int) (S : xS) (Q : xS → Prop) (h_a1 : xR a1) (h_a2 : xR a2) (h : w_X6_make a1 a2 S Q) : xMA l yX6_make (xws yX6_make cX6_make 6 (none)) ({ frames := 4, cells := xgc S, slots := xgs S, locals := 142 }) (gC D ca ad tF) [.ref (ad 2), .int (iN a1), .int (iN a2)] S (xQv Q) := by
  refine xmA_of RX6 rfl (by decide +kernel) (Nat.le_of_ble_eq_true rfl) ?_
  intro p e s m args below meth c A Z R hR9 C hA hZ hr hlocks hw
  subst hR9
  unfold w_X6_make at h
  show xV (gC D ca ad tF) p l e ({ frames := 4, cells := xgc S, slots := xgs S, locals := 142 }) s m args below meth c A 6 Z (xgc S - xgc S) (xgs S - xgs S) 0 [(0, .ref (ad 2)), (1, .int (iN a1)), (2, .int (iN a2))] [] S
  refine xi_aload_n C 0 dX6_make_0 rfl rfl ?_
  refine xi_getR C xK_X6 (q := 2) (r := 7) rfl 4 (by decide) (ki := 4) rfl xl_X6_42 rfl dX6_make_1 ?_
  refine xi_iload_n C 1 dX6_make_4 rfl rfl ?_
  refine xc_Vi C hw (c_X7_isRefuted_h l D ca ad tF a1 S _ h_a1 h) xk_X7_isRefuted xv_X7_isRefuted xl_X6_189 ⟨Nat.le_of_ble_eq_true rfl, Nat.le_of_ble_eq_true rfl⟩ xK_X7 (q := 7) rfl rfl rfl (Nat.le_of_ble_eq_true rfl) ⟨Nat.sub_le _ _, Nat.sub_le _ _⟩ dX6_make_5 (fun r5 S5 h_r5 h hw1 => ?_)
  refine xi_if_eq C 39 h_r5 dX6_make_8 (by decide) (fun z2 => ?_) (fun z2 => ?_)
  · replace h := h.1 z2
    refine xi_aload_n C 0 dX6_make_39 rfl rfl ?_
    refine xi_dup C dX6_make_40 rfl ?_
    refine xi_getJ C xK_X6 (q := 2) (r := 0) rfl 12 (by decide) (ki := 12) rfl xl_X6_61 rfl dX6_make_41 ?_
    refine xi_lconst C (v := 1) dX6_make_44 (by decide +kernel) ?_
    refine xi_ladd C dX6_make_45 ?_
    obtain ⟨hc3, h⟩ := h
    refine xi_putJ C xK_X6 (q := 2) (r := 0) rfl 12 (by decide) (ki := 12) rfl xl_X6_61 rfl rfl rfl dX6_make_46 ?_
    have hw4 := xval.upJ (q := 2) (i := 12) (v := (S5 2 12) + 1) hw1 rfl hc3
    refine xi_aload_n C 0 dX6_make_49 rfl rfl ?_
    refine xi_iload_n C 1 dX6_make_50 rfl rfl ?_
    refine xc_Vv C hw4 (c_X6_goBehind l D ca ad tF a1 (xup S5 2 12 ((S5 2 12) + 1)) _ h_a1 h) xk_X6_goBehind xv_X6_goBehind xl_X6_182 ⟨Nat.le_of_ble_eq_true rfl, Nat.le_of_ble_eq_true rfl⟩ xK_X6 (q := 2) rfl rfl rfl (Nat.le_of_ble_eq_true rfl) ⟨Nat.sub_le _ _, Nat.sub_le _ _⟩ dX6_make_51 (fun S51 h hw5 => ?_)
    refine xi_aload_n C 0 dX6_make_54 rfl rfl ?_
    refine xi_getR C xK_X6 (q := 2) (r := 8) rfl 5 (by decide) (ki := 5) rfl xl_X6_46 rfl dX6_make_55 ?_
    refine xc_Vj C hw5 (c_X7_pack_n l D ca ad tF S51 _ h) xk_X7_pack xv_X7_pack xl_X6_87 ⟨Nat.le_of_ble_eq_true rfl, Nat.le_of_ble_eq_true rfl⟩ xK_X7 (q := 8) rfl rfl rfl (Nat.le_of_ble_eq_true rfl) ⟨Nat.sub_le _ _, Nat.sub_le _ _⟩ dX6_make_58 (fun r58 S58 h_r58 h hw6 => ?_)
    refine xi_lstore_n C (L' := [(3, .long (jN r58)), (0, .ref (ad 2)), (1, .int (iN a1)), (2, .int (iN a2))]) dX6_make_61 rfl (by decide) rfl ?_
    refine xi_aload_n C 1 dX6_make_62 rfl rfl ?_
    refine xi_getR C xK_X6 (q := 2) (r := 4) rfl 1 (by decide) (ki := 1) rfl xl_X6_22 rfl dX6_make_63 ?_
    refine xi_lload_n C 0 dX6_make_66 rfl rfl ?_
    refine xc_Vi C hw6 (c_X1_numberFor l D ca ad tF r58 S58 _ h_r58 h) xk_X1_numberFor xv_X1_numberFor xl_X6_185 ⟨Nat.le_of_ble_eq_true rfl, Nat.le_of_ble_eq_true rfl⟩ xK_X1 (q := 4) rfl rfl rfl (Nat.le_of_ble_eq_true rfl) ⟨Nat.sub_le _ _, Nat.sub_le _ _⟩ dX6_make_67 (fun r67 S67 h_r67 h hw7 => ?_)
    refine xi_istore C (L' := [(5, .int (iN r67)), (3, .long (jN r58)), (0, .ref (ad 2)), (1, .int (iN a1)), (2, .int (iN a2))]) dX6_make_70 (by decide) rfl ?_
    refine xi_iload C 0 dX6_make_72 rfl ?_
    refine xi_iconst C (v := (-1)) dX6_make_74 rfl ?_
    refine xJ1_w (fun v5_87 S87 => xR v5_87 → xval (gC D ca ad tF) S87 → xAl S S87 → xV (gC D ca ad tF) p l e ({ frames := 4, cells := xgc S, slots := xgs S, locals := 142 }) s m args below meth c A 6 Z (xgc S - xgc S87) (xgs S - xgs S87) 87 [(0, .ref (ad 2)), (1, .int (iN a1)), (5, .int (iN v5_87))] [] S87) h (fun v5_87 S87 h h_v5_87 hw87 ha87 => ?_) (fun j87 hj87 h => ?_)
    · unfold w_X6_make_J87 at h
      refine xi_aload_n C 0 dX6_make_87 rfl rfl ?_
      refine xi_getI C xK_X6 (q := 2) (r := 0) rfl 10 (by decide) (ki := 10) rfl xl_X6_53 rfl dX6_make_88 ?_
      refine xi_bipush C (v := 97) dX6_make_91 (by decide +kernel) ?_
      refine xi_icmp_ne C 109 (xval.i (q := 2) (i := 10) hw87 (by decide) rfl) (by decide) dX6_make_93 (by decide) (fun z9 => ?_) (fun z9 => ?_)
      · replace h := h.1 z9
        exact xr_vA C hA hZ ha87 rfl hr hlocks dX6_make_109 hw87 ⟨rfl, h⟩
      · replace h := h.2 z9
        refine xi_aload_n C 0 dX6_make_96 rfl rfl ?_
        refine xi_getR C xK_X6 (q := 2) (r := 5) rfl 2 (by decide) (ki := 2) rfl xl_X6_26 rfl dX6_make_97 ?_
        refine xi_iload C 2 dX6_make_100 rfl ?_
        refine xi_iload_n C 1 dX6_make_102 rfl rfl ?_
        refine xc_Si C hw87 (c_X3_doersOf l D ca ad tF a1 S87 _ h_a1 h) xk_X3_doersOf xs_X3_doersOf xl_X6_192 ⟨Nat.le_of_ble_eq_true rfl, Nat.le_of_ble_eq_true rfl⟩ rfl rfl (Nat.le_of_ble_eq_true rfl) ⟨Nat.sub_le _ _, Nat.sub_le _ _⟩ dX6_make_103 (fun r103 S103 h_r103 h hw10 => ?_)
        obtain ⟨hc11, h⟩ := h
        refine xc_VA C hw10 ha87 hc11 rfl (c_X2_addEdge l D ca ad tF v5_87 r103 S103 _ h_v5_87 h_r103 h) xk_X2_addEdge xv_X2_addEdge xl_X6_195 ⟨Nat.le_of_ble_eq_true rfl, Nat.le_of_ble_eq_true rfl⟩ xK_X2 (q := 5) rfl rfl rfl (Nat.le_of_ble_eq_true rfl) dX6_make_106 (fun r9 S106 h9 hw12 ha13 => ?_)
        obtain ⟨rfl, h⟩ := h9
        exact xr_vA C hA hZ ha13 rfl hr hlocks dX6_make_109 hw12 ⟨rfl, h⟩
    · refine xi_icmp_ne C 87 h_r67 (by decide) dX6_make_75 (by decide) (fun z8 => ?_) (fun z8 => ?_)
      · replace h := h.1 z8
        obtain ⟨hc14, h⟩ := h
        exact xV_al (S1 := S67) hc14 (xi_sub [2, 3, 0] rfl (hj87 r67 S67 h h_r67 hw7 ((xAl.refl S).eq hc14)))
      · replace h := h.2 z8
        refine xi_aload_n C 2 dX6_make_78 rfl rfl ?_
        refine xi_lload_n C 1 dX6_make_79 rfl rfl ?_
        refine xi_iload_n C 4 dX6_make_80 rfl rfl ?_
        refine xi_iload_n C 3 dX6_make_81 rfl rfl ?_
        refine xc_Vi C hw7 (c_X6_find l D ca ad tF r58 a2 a1 S67 _ h_r58 h_a2 h_a1 h) xk_X6_find xv_X6_find xl_X6_91 ⟨Nat.le_of_ble_eq_true rfl, Nat.le_of_ble_eq_true rfl⟩ xK_X6 (q := 2) rfl rfl rfl (Nat.le_of_ble_eq_true rfl) ⟨Nat.sub_le _ _, Nat.sub_le _ _⟩ dX6_make_82 (fun r82 S82 h_r82 h hw15 => ?_)
        refine xi_istore C (L' := [(5, .int (iN r82)), (3, .long (jN r58)), (0, .ref (ad 2)), (1, .int (iN a1)), (2, .int (iN a2))]) dX6_make_85 (by decide) rfl ?_
        obtain ⟨hc16, h⟩ := h
        exact xV_al (S1 := S82) hc16 (xi_sub [2, 3, 0] rfl (hj87 r82 S82 h h_r82 hw15 ((xAl.refl S).eq hc16)))
  · replace h := h.2 z2
    refine xi_aload_n C 0 dX6_make_11 rfl rfl ?_
    refine xi_bipush C (v := 97) dX6_make_12 (by decide +kernel) ?_
    refine xi_iload_n C 2 dX6_make_14 rfl rfl ?_
    refine xc_Vv C hw1 (c_X6_endWith l D ca ad tF 97 a2 S5 _ (by decide) h_a2 h) xk_X6_endWith xv_X6_endWith xl_X6_132 ⟨Nat.le_of_ble_eq_true rfl, Nat.le_of_ble_eq_true rfl⟩ xK_X6 (q := 2) rfl rfl rfl (Nat.le_of_ble_eq_true rfl) ⟨Nat.sub_le _ _, Nat.sub_le _ _⟩ dX6_make_15 (fun S15 h hw17 => ?_)
    refine xi_aload_n C 0 dX6_make_18 rfl rfl ?_
    refine xi_getR C xK_X6 (q := 2) (r := 22) rfl 7 (by decide) (ki := 7) rfl xl_X6_15 rfl dX6_make_19 ?_
    refine xi_aload_n C 0 dX6_make_22 rfl rfl ?_
    refine xi_getI C xK_X6 (q := 2) (r := 0) rfl 8 (by decide) (ki := 8) rfl xl_X6_68 rfl dX6_make_23 ?_
    refine xi_iload_n C 1 dX6_make_26 rfl rfl ?_
    obtain ⟨hc18, h⟩ := h
    refine xi_iastore C (q := 22) rfl (by decide) hc18 dX6_make_27 ?_
    have hw19 := xval.up (q := 22) (i := S15 2 8) (v := a1) hw17 rfl h_a1
    refine xi_aload_n C 0 dX6_make_28 rfl rfl ?_
    refine xi_dup C dX6_make_29 rfl ?_
    refine xi_getI C xK_X6 (q := 2) (r := 0) rfl 8 (by decide) (ki := 8) rfl xl_X6_68 rfl dX6_make_30 ?_
    refine xi_iconst C (v := 1) dX6_make_33 rfl ?_
    refine xi_iadd C dX6_make_34 ?_
    obtain ⟨hc20, h⟩ := h
    refine xi_putI C xK_X6 (q := 2) (r := 0) rfl 8 (by decide) (ki := 8) rfl xl_X6_68 rfl rfl rfl dX6_make_35 ?_
    have hw21 := xval.up (q := 2) (i := 8) (v := (S15 2 8) + 1) hw19 rfl hc20
    obtain ⟨hc22, h⟩ := h
    exact xr_vA C hA hZ (xAl.refl S) ((congrFun (xup_cell (q' := 33) (by decide)) (-1)).trans ((congrFun (xup_cell (q' := 33) (by decide)) (-1)).trans hc22)) hr hlocks dX6_make_38 hw21 ⟨rfl, h⟩
set_option maxRecDepth 100000 in
set_option maxHeartbeats 4000000 in
theorem c_X6_goOnFromOne (l : Launch) (D : va_G) (ca : Nat → ClassId) (ad : Nat → Nat) (tF : Nat)  (S : xS) (Q : xS → Prop)  (h : w_X6_goOnFromOne  S Q) : xMA l yX6_goOnFromOne (xws yX6_goOnFromOne cX6_goOnFromOne 5 (none)) ({ frames := 5, cells := xgc S, slots := xgs S, locals := 167 }) (gC D ca ad tF) [.ref (ad 2)] S (xQv Q) := by
  refine xmA_of RX6 rfl (by decide +kernel) (Nat.le_of_ble_eq_true rfl) ?_
  intro p e s m args below meth c A Z R hR9 C hA hZ hr hlocks hw
  subst hR9
  unfold w_X6_goOnFromOne at h
  show xV (gC D ca ad tF) p l e ({ frames := 5, cells := xgc S, slots := xgs S, locals := 167 }) s m args below meth c A 5 Z (xgc S - xgc S) (xgs S - xgs S) 0 [(0, .ref (ad 2))] [] S
  refine xi_aload_n C 0 dX6_goOnFromOne_0 rfl rfl ?_
  refine xi_getI C xK_X6 (q := 2) (r := 0) rfl 11 (by decide) (ki := 11) rfl xl_X6_57 rfl dX6_goOnFromOne_1 ?_
  refine xi_istore_n C (L' := [(1, .int (iN (S 2 11))), (0, .ref (ad 2))]) dX6_goOnFromOne_4 rfl (by decide) rfl ?_
  refine xi_aload_n C 1 dX6_goOnFromOne_5 rfl rfl ?_
  refine xi_dup C dX6_goOnFromOne_6 rfl ?_
  refine xi_getI C xK_X6 (q := 2) (r := 0) rfl 11 (by decide) (ki := 11) rfl xl_X6_57 rfl dX6_goOnFromOne_7 ?_
  refine xi_iconst C (v := 1) dX6_goOnFromOne_10 rfl ?_
  refine xi_iadd C dX6_goOnFromOne_11 ?_
  obtain ⟨hc1, h⟩ := h
  refine xi_putI C xK_X6 (q := 2) (r := 0) rfl 11 (by decide) (ki := 11) rfl xl_X6_57 rfl rfl rfl dX6_goOnFromOne_12 ?_
  have hw2 := xval.up (q := 2) (i := 11) (v := (S 2 11) + 1) hw rfl hc1
  refine xi_aload_n C 1 dX6_goOnFromOne_15 rfl rfl ?_
  refine xi_iload_n C 0 dX6_goOnFromOne_16 rfl rfl ?_
  refine xc_Vv C hw2 (c_X6_listMoves l D ca ad tF (S 2 11) (xup S 2 11 ((S 2 11) + 1)) _ (xval.i (q := 2) (i := 11) hw (by decide) rfl) h) xk_X6_listMoves xv_X6_listMoves xl_X6_123 ⟨Nat.le_of_ble_eq_true rfl, Nat.le_of_ble_eq_true rfl⟩ xK_X6 (q := 2) rfl rfl rfl (Nat.le_of_ble_eq_true rfl) ⟨Nat.sub_le _ _, Nat.sub_le _ _⟩ dX6_goOnFromOne_17 (fun S17 h hw3 => ?_)
  refine xi_aload_n C 1 dX6_goOnFromOne_20 rfl rfl ?_
  refine xi_getR C xK_X6 (q := 2) (r := 6) rfl 3 (by decide) (ki := 3) rfl xl_X6_35 rfl dX6_goOnFromOne_21 ?_
  refine xi_getIN C xK_X3 (q := 6) (r := 0) rfl 2 (by decide) (ki := 2) rfl xn_X6_127 rfl dX6_goOnFromOne_24 ?_
  refine xJ0_w (fun  S52 => xval (gC D ca ad tF) S52 → xAl S S52 → xV (gC D ca ad tF) p l e ({ frames := 5, cells := xgc S, slots := xgs S, locals := 167 }) s m args below meth c A 5 Z (xgc S - xgc S52) (xgs S - xgs S52) 52 [(0, .ref (ad 2)), (1, .int (iN (S 2 11)))] [] S52) h (fun  S52 h  hw52 ha52 => ?_) (fun j52 hj52 h => ?_)
  · unfold w_X6_goOnFromOne_J52 at h
    refine xi_aload_n C 0 dX6_goOnFromOne_52 rfl rfl ?_
    refine xi_getI C xK_X6 (q := 2) (r := 0) rfl 10 (by decide) (ki := 10) rfl xl_X6_53 rfl dX6_goOnFromOne_53 ?_
    refine xi_bipush C (v := 112) dX6_goOnFromOne_56 (by decide +kernel) ?_
    refine xJ1_w (fun t0_69 S69 => xR t0_69 → xval (gC D ca ad tF) S69 → xAl S S69 → xV (gC D ca ad tF) p l e ({ frames := 5, cells := xgc S, slots := xgs S, locals := 167 }) s m args below meth c A 5 Z (xgc S - xgc S69) (xgs S - xgs S69) 69 [(0, .ref (ad 2)), (1, .int (iN (S 2 11)))] [.int (iN t0_69)] S69) h (fun t0_69 S69 h h_t0_69 hw69 ha69 => ?_) (fun j69 hj69 h => ?_)
    · unfold w_X6_goOnFromOne_J69 at h
      refine xi_istore_n C (L' := [(2, .int (iN t0_69)), (0, .ref (ad 2)), (1, .int (iN (S 2 11)))]) dX6_goOnFromOne_69 rfl (by decide) rfl ?_
      refine xi_iconst C (v := 0) dX6_goOnFromOne_70 rfl ?_
      refine xi_istore_n C (L' := [(3, .int (iN 0)), (2, .int (iN t0_69)), (0, .ref (ad 2)), (1, .int (iN (S 2 11)))]) dX6_goOnFromOne_71 rfl (by decide) rfl ?_
      refine xJ0_w (fun  S128 => xval (gC D ca ad tF) S128 → xAl S S128 → xV (gC D ca ad tF) p l e ({ frames := 5, cells := xgc S, slots := xgs S, locals := 167 }) s m args below meth c A 5 Z (xgc S - xgc S128) (xgs S - xgs S128) 128 [(0, .ref (ad 2))] [] S128) h (fun  S128 h  hw128 ha128 => ?_) (fun j128 hj128 h => ?_)
      · unfold w_X6_goOnFromOne_J128 at h
        refine xi_aload_n C 0 dX6_goOnFromOne_128 rfl rfl ?_
        refine xi_getR C xK_X6 (q := 2) (r := 5) rfl 2 (by decide) (ki := 2) rfl xl_X6_26 rfl dX6_goOnFromOne_129 ?_
        refine xc_Vv C hw128 (c_X2_closeState l D ca ad tF S128 _ h) xk_X2_closeState xv_X2_closeState xl_X6_151 ⟨Nat.le_of_ble_eq_true rfl, Nat.le_of_ble_eq_true rfl⟩ xK_X2 (q := 5) rfl rfl rfl (Nat.le_of_ble_eq_true rfl) ⟨Nat.sub_le _ _, Nat.sub_le _ _⟩ dX6_goOnFromOne_132 (fun S132 h hw6 => ?_)
        obtain ⟨hc7, h⟩ := h
        exact xr_vA C hA hZ ha128 hc7 hr hlocks dX6_goOnFromOne_135 hw6 ⟨rfl, h⟩
      · refine xV_al (S1 := S69) rfl (xi_sub [2, 3, 1, 0] rfl (xW1 (fun v3_72 S72 => xR v3_72 → xval (gC D ca ad tF) S72 → xAl S S72 → xV (gC D ca ad tF) p l e ({ frames := 5, cells := xgc S, slots := xgs S, locals := 167 }) s m args below meth c A 5 Z (xgc S - xgc S72) (xgs S - xgs S72) 72 [(0, .ref (ad 2)), (1, .int (iN (S 2 11))), (2, .int (iN t0_69)), (3, .int (iN v3_72))] [] S72) h (fun k72 hk72 v3_72 S72 h h_v3_72 hw72 ha72 => ?_) (by decide) hw69 (ha69.eq rfl)))
        unfold w_X6_goOnFromOne_L72 at h
        refine xi_iload_n C 3 dX6_goOnFromOne_72 rfl rfl ?_
        refine xi_aload_n C 0 dX6_goOnFromOne_73 rfl rfl ?_
        refine xi_getR C xK_X6 (q := 2) (r := 6) rfl 3 (by decide) (ki := 3) rfl xl_X6_35 rfl dX6_goOnFromOne_74 ?_
        refine xi_getIN C xK_X3 (q := 6) (r := 0) rfl 2 (by decide) (ki := 2) rfl xn_X6_127 rfl dX6_goOnFromOne_77 ?_
        refine xi_icmp_ge C 128 h_v3_72 (xval.i (q := 6) (i := 2) hw72 (by decide) rfl) dX6_goOnFromOne_80 (by decide) (fun z8 => ?_) (fun z8 => ?_)
        · replace h := h.1 z8
          exact xV_al (S1 := S72) rfl (xi_sub [0] rfl (hj128 S72 h hw72 (ha72.eq rfl)))
        · replace h := h.2 z8
          refine xi_aload_n C 0 dX6_goOnFromOne_83 rfl rfl ?_
          refine xc_Vi C hw72 (c_X6_isCutShort l D ca ad tF S72 _ h) xk_X6_isCutShort xv_X6_isCutShort xl_X6_117 ⟨Nat.le_of_ble_eq_true rfl, Nat.le_of_ble_eq_true rfl⟩ xK_X6 (q := 2) rfl rfl rfl (Nat.le_of_ble_eq_true rfl) ⟨Nat.sub_le _ _, Nat.sub_le _ _⟩ dX6_goOnFromOne_84 (fun r84 S84 h_r84 h hw9 => ?_)
          refine xi_if_ne C 128 h_r84 dX6_goOnFromOne_87 (by decide) (fun z10 => ?_) (fun z10 => ?_)
          · replace h := h.1 z10
            obtain ⟨hc11, h⟩ := h
            exact xV_al (S1 := S84) hc11 (xi_sub [0] rfl (hj128 S84 h hw9 (ha72.eq hc11)))
          · replace h := h.2 z10
            refine xi_aload_n C 0 dX6_goOnFromOne_90 rfl rfl ?_
            refine xi_getR C xK_X6 (q := 2) (r := 6) rfl 3 (by decide) (ki := 3) rfl xl_X6_35 rfl dX6_goOnFromOne_91 ?_
            refine xi_getRN C xK_X3 (q := 6) (r := 35) rfl 1 (by decide) (ki := 1) rfl xn_X6_140 rfl dX6_goOnFromOne_94 ?_
            refine xi_iload_n C 3 dX6_goOnFromOne_97 rfl rfl ?_
            obtain ⟨hc12, h⟩ := h
            refine xi_iaload C (q := 35) rfl (by decide) hc12 dX6_goOnFromOne_98 ?_
            refine xi_istore C (L' := [(4, .int (iN (S84 35 v3_72))), (0, .ref (ad 2)), (1, .int (iN (S 2 11))), (2, .int (iN t0_69)), (3, .int (iN v3_72))]) dX6_goOnFromOne_99 (by decide) rfl ?_
            refine xi_iload_n C 3 dX6_goOnFromOne_101 rfl rfl ?_
            refine xi_iconst C (v := (-1)) dX6_goOnFromOne_102 rfl ?_
            refine xJ0_w (fun  S115 => xval (gC D ca ad tF) S115 → xAl S S115 → xV (gC D ca ad tF) p l e ({ frames := 5, cells := xgc S, slots := xgs S, locals := 167 }) s m args below meth c A 5 Z (xgc S - xgc S115) (xgs S - xgs S115) 115 [(0, .ref (ad 2)), (1, .int (iN (S 2 11))), (2, .int (iN t0_69)), (3, .int (iN v3_72)), (4, .int (iN (S84 35 v3_72)))] [] S115) h (fun  S115 h  hw115 ha115 => ?_) (fun j115 hj115 h => ?_)
            · unfold w_X6_goOnFromOne_J115 at h
              refine xi_aload_n C 0 dX6_goOnFromOne_115 rfl rfl ?_
              refine xi_iload C 4 dX6_goOnFromOne_116 rfl ?_
              refine xi_iload_n C 1 dX6_goOnFromOne_118 rfl rfl ?_
              refine xc_VA C hw115 ha115 rfl rfl (c_X6_make l D ca ad tF (S84 35 v3_72) (S 2 11) S115 _ (xval.i (q := 35) (i := v3_72) hw9 hc12.1 rfl) (xval.i (q := 2) (i := 11) hw (by decide) rfl) h) xk_X6_make xv_X6_make xl_X6_147 ⟨Nat.le_of_ble_eq_true rfl, Nat.le_of_ble_eq_true rfl⟩ xK_X6 (q := 2) rfl rfl rfl (Nat.le_of_ble_eq_true rfl) dX6_goOnFromOne_119 (fun r9 S119 h9 hw14 ha15 => ?_)
              obtain ⟨rfl, h⟩ := h9
              refine xi_iinc C (L' := [(3, .int (iN (v3_72 + 1))), (0, .ref (ad 2)), (1, .int (iN (S 2 11))), (2, .int (iN t0_69)), (4, .int (iN (S84 35 v3_72)))]) 3 dX6_goOnFromOne_122 rfl (by decide) rfl ?_
              refine xi_goto C 72 dX6_goOnFromOne_125 (by decide) ?_
              obtain ⟨hc16, h⟩ := h
              exact xV_al (S1 := S119) rfl (xi_sub [1, 2, 3, 0] rfl (hk72 (v3_72 + 1) S119 h hc16 hw14 (ha15.eq rfl)))
            · refine xi_icmp_eq C 115 h_t0_69 (by decide) dX6_goOnFromOne_103 (by decide) (fun z13 => ?_) (fun z13 => ?_)
              · replace h := h.1 z13
                obtain ⟨hc17, h⟩ := h
                exact xV_al (S1 := S84) hc17 (xi_sub [1, 2, 3, 4, 0] rfl (hj115 S84 h hw9 (ha72.eq hc17)))
              · replace h := h.2 z13
                refine xi_iload C 0 dX6_goOnFromOne_106 rfl ?_
                refine xc_Si C hw9 (c_X3_leaderOf l D ca ad tF (S84 35 v3_72) S84 _ (xval.i (q := 35) (i := v3_72) hw9 hc12.1 rfl) h) xk_X3_leaderOf xs_X3_leaderOf xl_X6_143 ⟨Nat.le_of_ble_eq_true rfl, Nat.le_of_ble_eq_true rfl⟩ rfl rfl (Nat.le_of_ble_eq_true rfl) ⟨Nat.sub_le _ _, Nat.sub_le _ _⟩ dX6_goOnFromOne_108 (fun r108 S108 h_r108 h hw18 => ?_)
                refine xi_iload_n C 3 dX6_goOnFromOne_111 rfl rfl ?_
                refine xi_icmp_ne C 122 h_r108 h_t0_69 dX6_goOnFromOne_112 (by decide) (fun z19 => ?_) (fun z19 => ?_)
                · replace h := h.1 z19
                  refine xi_iinc C (L' := [(3, .int (iN (v3_72 + 1))), (4, .int (iN (S84 35 v3_72))), (0, .ref (ad 2)), (1, .int (iN (S 2 11))), (2, .int (iN t0_69))]) 4 dX6_goOnFromOne_122 rfl (by decide) rfl ?_
                  refine xi_goto C 72 dX6_goOnFromOne_125 (by decide) ?_
                  obtain ⟨hc20, h⟩ := h
                  obtain ⟨hc21, h⟩ := h
                  exact xV_al (S1 := S108) hc21 (xi_sub [2, 3, 4, 0] rfl (hk72 (v3_72 + 1) S108 h hc20 hw18 (ha72.eq hc21)))
                · replace h := h.2 z19
                  obtain ⟨hc22, h⟩ := h
                  exact xV_al (S1 := S108) hc22 (xi_sub [1, 2, 3, 4, 0] rfl (hj115 S108 h hw18 (ha72.eq hc22)))
    · refine xi_icmp_ne C 68 (xval.i (q := 2) (i := 10) hw52 (by decide) rfl) (by decide) dX6_goOnFromOne_58 (by decide) (fun z5 => ?_) (fun z5 => ?_)
      · replace h := h.1 z5
        refine xi_iconst C (v := (-1)) dX6_goOnFromOne_68 rfl ?_
        exact xV_al (S1 := S52) rfl (xi_sub [0, 1] rfl (hj69 (-1) S52 h (by decide) hw52 (ha52.eq rfl)))
      · replace h := h.2 z5
        refine xi_aload_n C 0 dX6_goOnFromOne_61 rfl rfl ?_
        refine xc_Vi C hw52 (c_X6_processThatGoesAlone l D ca ad tF S52 _ h) xk_X6_processThatGoesAlone xv_X6_processThatGoesAlone xl_X6_136 ⟨Nat.le_of_ble_eq_true rfl, Nat.le_of_ble_eq_true rfl⟩ xK_X6 (q := 2) rfl rfl rfl (Nat.le_of_ble_eq_true rfl) ⟨Nat.sub_le _ _, Nat.sub_le _ _⟩ dX6_goOnFromOne_62 (fun r62 S62 h_r62 h hw23 => ?_)
        refine xi_goto C 69 dX6_goOnFromOne_65 (by decide) ?_
        obtain ⟨hc24, h⟩ := h
        exact xV_al (S1 := S62) hc24 (xi_sub [0, 1] rfl (hj69 r62 S62 h h_r62 hw23 (ha52.eq hc24)))
  · refine xi_if_ne C 52 (xval.i (q := 6) (i := 2) hw3 (by decide) rfl) dX6_goOnFromOne_27 (by decide) (fun z4 => ?_) (fun z4 => ?_)
    · replace h := h.1 z4
      obtain ⟨hc25, h⟩ := h
      exact xV_al (S1 := S17) hc25 (xi_sub [1, 0] rfl (hj52 S17 h hw3 ((xAl.refl S).eq hc25)))
    · replace h := h.2 z4
      refine xi_aload_n C 1 dX6_goOnFromOne_30 rfl rfl ?_
      refine xi_getR C xK_X6 (q := 2) (r := 1) rfl 0 (by decide) (ki := 0) rfl xl_X6_18 rfl dX6_goOnFromOne_31 ?_
      refine xi_aload_n C 1 dX6_goOnFromOne_34 rfl rfl ?_
      refine xi_getR C xK_X6 (q := 2) (r := 7) rfl 4 (by decide) (ki := 4) rfl xl_X6_42 rfl dX6_goOnFromOne_35 ?_
      refine xc_Vi C hw3 (c_X4_hasProcessAtNoEnd_h l D ca ad tF S17 _ h) xk_X4_hasProcessAtNoEnd xv_X4_hasProcessAtNoEnd xl_X6_128 ⟨Nat.le_of_ble_eq_true rfl, Nat.le_of_ble_eq_true rfl⟩ xK_X4 (q := 1) rfl rfl rfl (Nat.le_of_ble_eq_true rfl) ⟨Nat.sub_le _ _, Nat.sub_le _ _⟩ dX6_goOnFromOne_38 (fun r38 S38 h_r38 h hw26 => ?_)
      refine xi_if_eq C 52 h_r38 dX6_goOnFromOne_41 (by decide) (fun z27 => ?_) (fun z27 => ?_)
      · replace h := h.1 z27
        obtain ⟨hc28, h⟩ := h
        exact xV_al (S1 := S38) hc28 (xi_sub [1, 0] rfl (hj52 S38 h hw26 ((xAl.refl S).eq hc28)))
      · replace h := h.2 z27
        refine xi_aload_n C 1 dX6_goOnFromOne_44 rfl rfl ?_
        refine xi_bipush C (v := 100) dX6_goOnFromOne_45 (by decide +kernel) ?_
        refine xi_iload_n C 0 dX6_goOnFromOne_47 rfl rfl ?_
        refine xc_Vv C hw26 (c_X6_endWith l D ca ad tF 100 (S 2 11) S38 _ (by decide) (xval.i (q := 2) (i := 11) hw (by decide) rfl) h) xk_X6_endWith xv_X6_endWith xl_X6_132 ⟨Nat.le_of_ble_eq_true rfl, Nat.le_of_ble_eq_true rfl⟩ xK_X6 (q := 2) rfl rfl rfl (Nat.le_of_ble_eq_true rfl) ⟨Nat.sub_le _ _, Nat.sub_le _ _⟩ dX6_goOnFromOne_48 (fun S48 h hw29 => ?_)
        obtain ⟨hc30, h⟩ := h
        exact xr_vA C hA hZ (xAl.refl S) hc30 hr hlocks dX6_goOnFromOne_51 hw29 ⟨rfl, h⟩
set_option maxRecDepth 100000 in
set_option maxHeartbeats 4000000 in
theorem c_X6_goOn (l : Launch) (D : va_G) (ca : Nat → ClassId) (ad : Nat → Nat) (tF : Nat) (a1 : Int) (S : xS) (Q : Int → xS → Prop) (h_a1 : xR a1) (h : w_X6_goOn a1 S Q) : xMA l yX6_goOn (xws yX6_goOn cX6_goOn 4 (some .int)) ({ frames := 6, cells := xgc S, slots := xgs S, locals := 191 }) (gC D ca ad tF) [.ref (ad 2), .int (iN a1)] S (xQi Q) := by
  refine xmA_of RX6 rfl (by decide +kernel) (Nat.le_of_ble_eq_true rfl) ?_
  intro p e s m args below meth c A Z R hR9 C hA hZ hr hlocks hw
  subst hR9
  unfold w_X6_goOn at h
  show xV (gC D ca ad tF) p l e ({ frames := 6, cells := xgc S, slots := xgs S, locals := 191 }) s m args below meth c A 4 Z (xgc S - xgc S) (xgs S - xgs S) 0 [(0, .ref (ad 2)), (1, .int (iN a1))] [] S
  refine xi_aload_n C 0 dX6_goOn_0 rfl rfl ?_
  refine xi_getR C xK_X6 (q := 2) (r := 4) rfl 1 (by decide) (ki := 1) rfl xl_X6_22 rfl dX6_goOn_1 ?_
  refine xi_getIN C xK_X1 (q := 4) (r := 0) rfl 0 (by decide) (ki := 0) rfl xn_X6_114 rfl dX6_goOn_4 ?_
  refine xi_istore_n C (L' := [(2, .int (iN (S 4 0))), (0, .ref (ad 2)), (1, .int (iN a1))]) dX6_goOn_7 rfl (by decide) rfl ?_
  refine xi_iconst C (v := 0) dX6_goOn_8 rfl ?_
  refine xi_istore_n C (L' := [(3, .int (iN 0)), (2, .int (iN (S 4 0))), (0, .ref (ad 2)), (1, .int (iN a1))]) dX6_goOn_9 rfl (by decide) rfl ?_
  refine xV_al (S1 := S) rfl (xi_sub [2, 3, 1, 0] rfl (xW1 (fun v3_10 S10 => xR v3_10 → xval (gC D ca ad tF) S10 → xAl S S10 → xV (gC D ca ad tF) p l e ({ frames := 6, cells := xgc S, slots := xgs S, locals := 191 }) s m args below meth c A 4 Z (xgc S - xgc S10) (xgs S - xgs S10) 10 [(0, .ref (ad 2)), (1, .int (iN a1)), (2, .int (iN (S 4 0))), (3, .int (iN v3_10))] [] S10) h (fun k10 hk10 v3_10 S10 h h_v3_10 hw10 ha10 => ?_) (by decide) hw ((xAl.refl S).eq rfl)))
  unfold w_X6_goOn_L10 at h
  refine xi_iload_n C 3 dX6_goOn_10 rfl rfl ?_
  refine xi_iload_n C 1 dX6_goOn_11 rfl rfl ?_
  refine xi_icmp_ge C 32 h_v3_10 h_a1 dX6_goOn_12 (by decide) (fun z1 => ?_) (fun z1 => ?_)
  · replace h := h.1 z1
    refine xi_aload_n C 0 dX6_goOn_32 rfl rfl ?_
    refine xi_getR C xK_X6 (q := 2) (r := 4) rfl 1 (by decide) (ki := 1) rfl xl_X6_22 rfl dX6_goOn_33 ?_
    refine xi_getIN C xK_X1 (q := 4) (r := 0) rfl 0 (by decide) (ki := 0) rfl xn_X6_114 rfl dX6_goOn_36 ?_
    refine xi_iload_n C 2 dX6_goOn_39 rfl rfl ?_
    refine xi_isub C dX6_goOn_40 ?_
    obtain ⟨hc2, h⟩ := h
    exact xr_iA C hA hZ ha10 rfl hr hlocks rfl dX6_goOn_41 hw10 ⟨_, rfl, hc2, h⟩
  · replace h := h.2 z1
    refine xi_aload_n C 0 dX6_goOn_15 rfl rfl ?_
    refine xc_Vi C hw10 (c_X6_hasEnded l D ca ad tF S10 _ h) xk_X6_hasEnded xv_X6_hasEnded xl_X6_110 ⟨Nat.le_of_ble_eq_true rfl, Nat.le_of_ble_eq_true rfl⟩ xK_X6 (q := 2) rfl rfl rfl (Nat.le_of_ble_eq_true rfl) ⟨Nat.sub_le _ _, Nat.sub_le _ _⟩ dX6_goOn_16 (fun r16 S16 h_r16 h hw3 => ?_)
    refine xi_if_ne C 32 h_r16 dX6_goOn_19 (by decide) (fun z4 => ?_) (fun z4 => ?_)
    · replace h := h.1 z4
      refine xi_aload_n C 0 dX6_goOn_32 rfl rfl ?_
      refine xi_getR C xK_X6 (q := 2) (r := 4) rfl 1 (by decide) (ki := 1) rfl xl_X6_22 rfl dX6_goOn_33 ?_
      refine xi_getIN C xK_X1 (q := 4) (r := 0) rfl 0 (by decide) (ki := 0) rfl xn_X6_114 rfl dX6_goOn_36 ?_
      refine xi_iload_n C 2 dX6_goOn_39 rfl rfl ?_
      refine xi_isub C dX6_goOn_40 ?_
      obtain ⟨hc5, h⟩ := h
      obtain ⟨hc6, h⟩ := h
      exact xr_iA C hA hZ ha10 hc5 hr hlocks rfl dX6_goOn_41 hw3 ⟨_, rfl, hc6, h⟩
    · replace h := h.2 z4
      refine xi_aload_n C 0 dX6_goOn_22 rfl rfl ?_
      obtain ⟨hc7, h⟩ := h
      refine xc_VA C hw3 ha10 hc7 rfl (c_X6_goOnFromOne l D ca ad tF S16 _ h) xk_X6_goOnFromOne xv_X6_goOnFromOne xl_X6_120 ⟨Nat.le_of_ble_eq_true rfl, Nat.le_of_ble_eq_true rfl⟩ xK_X6 (q := 2) rfl rfl rfl (Nat.le_of_ble_eq_true rfl) dX6_goOn_23 (fun r9 S23 h9 hw8 ha9 => ?_)
      obtain ⟨rfl, h⟩ := h9
      refine xi_iinc C (L' := [(3, .int (iN (v3_10 + 1))), (0, .ref (ad 2)), (1, .int (iN a1)), (2, .int (iN (S 4 0)))]) 3 dX6_goOn_26 rfl (by decide) rfl ?_
      refine xi_goto C 10 dX6_goOn_29 (by decide) ?_
      obtain ⟨hc10, h⟩ := h
      exact xV_al (S1 := S23) rfl (xi_sub [1, 2, 3, 0] rfl (hk10 (v3_10 + 1) S23 h hc10 hw8 (ha9.eq rfl)))

set_option maxRecDepth 100000 in
set_option maxHeartbeats 4000000 in
theorem c_X7_goToStart_h (l : Launch) (D : va_G) (ca : Nat → ClassId) (ad : Nat → Nat) (tF : Nat)  (S : xS) (Q : xS → Prop)  (h : w_X7_goToStart_h  S Q) : xM l yX7_goToStart (xws yX7_goToStart cX7_goToStart 1 (none)) ({ frames := 1, cells := 0, slots := 0, locals := 60 }) (gC D ca ad tF) [.ref (ad 7)] S (xQv Q) 0 0 := by
  refine xm_of RX7 rfl (by decide +kernel) (Nat.le_of_ble_eq_true rfl) ?_
  intro p e s m args below meth c A Z C hA hZ hr hlocks hw
  unfold w_X7_goToStart_h at h
  show xV (gC D ca ad tF) p l e ({ frames := 1, cells := 0, slots := 0, locals := 60 }) s m args below meth c A 1 Z 0 0 0 [(0, .ref (ad 7))] [] S
  refine xi_aload_n C 0 dX7_goToStart_0 rfl rfl ?_
  refine xi_getR C xK_X7 (q := 7) (r := 36) rfl 1 (by decide) (ki := 1) rfl xl_X7_9 rfl dX7_goToStart_1 ?_
  refine xi_iconst C (v := 0) dX7_goToStart_4 rfl ?_
  refine xc_Sv (Qm := fun S' => S' = xfill S 36 3 0) C hw (c_fill l _ (q := 36) (n := 3) (v := 0) (S := S) rfl (by decide) (by decide) (fun _ => rfl) rfl) xk_J7_fill_53178 xs_J7_fill_53178 xl_X7_31 ⟨Nat.le_of_ble_eq_true rfl, Nat.le_of_ble_eq_true rfl⟩ rfl rfl (by decide) ⟨Nat.le_of_ble_eq_true rfl, Nat.le_of_ble_eq_true rfl⟩ dX7_goToStart_5 (fun S5 h9_2 hw1 => ?_)
  subst h9_2
  refine xi_aload_n C 0 dX7_goToStart_8 rfl rfl ?_
  refine xi_getR C xK_X7 (q := 7) (r := 1) rfl 0 (by decide) (ki := 0) rfl xl_X7_27 rfl dX7_goToStart_9 ?_
  refine xi_getRN C xK_X4 (q := 1) (r := 17) rfl 9 (by decide) (ki := 9) rfl xn_X7_37 rfl dX7_goToStart_12 ?_
  refine xi_iconst C (v := 0) dX7_goToStart_15 rfl ?_
  refine xi_aload_n C 0 dX7_goToStart_16 rfl rfl ?_
  refine xi_getR C xK_X7 (q := 7) (r := 37) rfl 2 (by decide) (ki := 2) rfl xl_X7_15 rfl dX7_goToStart_17 ?_
  refine xi_iconst C (v := 0) dX7_goToStart_20 rfl ?_
  refine xi_bipush C (v := 9) dX7_goToStart_21 (by decide +kernel) ?_
  refine xi_acopy C (ni := 9) rfl xl_X7_42 xacw (q0 := 17) (q1 := 37) (n0 := 9) (n1 := 9) (n := 9) rfl rfl (by decide) ⟨Nat.le_of_ble_eq_true rfl, Nat.le_of_ble_eq_true rfl⟩ dX7_goToStart_23 ?_
  have hw3 := xval.copy (q0 := 17) (q1 := 37) (n := 9) hw1 (fun _ => rfl) (fun _ => rfl)
  refine xi_aload_n C 0 dX7_goToStart_26 rfl rfl ?_
  refine xi_getR C xK_X7 (q := 7) (r := 38) rfl 3 (by decide) (ki := 3) rfl xl_X7_18 rfl dX7_goToStart_27 ?_
  refine xi_iconst C (v := 0) dX7_goToStart_30 rfl ?_
  refine xc_Sv (Qm := fun S' => S' = xfill (xcopy (xfill S 36 3 0) 17 0 37 0 9) 38 2 0) C hw3 (c_fill l _ (q := 38) (n := 2) (v := 0) (S := (xcopy (xfill S 36 3 0) 17 0 37 0 9)) rfl (by decide) (by decide) (fun _ => rfl) rfl) xk_J7_fill_53178 xs_J7_fill_53178 xl_X7_31 ⟨Nat.le_of_ble_eq_true rfl, Nat.le_of_ble_eq_true rfl⟩ rfl rfl (by decide) ⟨Nat.le_of_ble_eq_true rfl, Nat.le_of_ble_eq_true rfl⟩ dX7_goToStart_31 (fun S31 h9_5 hw4 => ?_)
  subst h9_5
  refine xi_aload_n C 0 dX7_goToStart_34 rfl rfl ?_
  refine xi_getR C xK_X7 (q := 7) (r := 39) rfl 4 (by decide) (ki := 4) rfl xl_X7_21 rfl dX7_goToStart_35 ?_
  refine xi_iconst C (v := 0) dX7_goToStart_38 rfl ?_
  refine xc_Sv (Qm := fun S' => S' = xfill (xfill (xcopy (xfill S 36 3 0) 17 0 37 0 9) 38 2 0) 39 2 0) C hw4 (c_fill l _ (q := 39) (n := 2) (v := 0) (S := (xfill (xcopy (xfill S 36 3 0) 17 0 37 0 9) 38 2 0)) rfl (by decide) (by decide) (fun _ => rfl) rfl) xk_J7_fill_53178 xs_J7_fill_53178 xl_X7_31 ⟨Nat.le_of_ble_eq_true rfl, Nat.le_of_ble_eq_true rfl⟩ rfl rfl (by decide) ⟨Nat.le_of_ble_eq_true rfl, Nat.le_of_ble_eq_true rfl⟩ dX7_goToStart_39 (fun S39 h9_7 hw6 => ?_)
  subst h9_7
  refine xi_aload_n C 0 dX7_goToStart_42 rfl rfl ?_
  refine xi_getR C xK_X7 (q := 7) (r := 40) rfl 5 (by decide) (ki := 5) rfl xl_X7_24 rfl dX7_goToStart_43 ?_
  refine xi_iconst C (v := 0) dX7_goToStart_46 rfl ?_
  refine xc_Sv (Qm := fun S' => S' = xfill (xfill (xfill (xcopy (xfill S 36 3 0) 17 0 37 0 9) 38 2 0) 39 2 0) 40 2 0) C hw6 (c_fill l _ (q := 40) (n := 2) (v := 0) (S := (xfill (xfill (xcopy (xfill S 36 3 0) 17 0 37 0 9) 38 2 0) 39 2 0)) rfl (by decide) (by decide) (fun _ => rfl) rfl) xk_J7_fill_53178 xs_J7_fill_53178 xl_X7_31 ⟨Nat.le_of_ble_eq_true rfl, Nat.le_of_ble_eq_true rfl⟩ rfl rfl (by decide) ⟨Nat.le_of_ble_eq_true rfl, Nat.le_of_ble_eq_true rfl⟩ dX7_goToStart_47 (fun S47 h9_9 hw8 => ?_)
  subst h9_9
  exact xr_v C hA hZ hr hlocks dX7_goToStart_50 (Nat.le_of_ble_eq_true rfl) (Nat.le_of_ble_eq_true rfl) hw8 ⟨rfl, h⟩
set_option maxRecDepth 100000 in
set_option maxHeartbeats 4000000 in
theorem c_X4_stepAt (l : Launch) (D : va_G) (ca : Nat → ClassId) (ad : Nat → Nat) (tF : Nat) (a0 : Int) (a1 : Int) (S : xS) (Q : Int → xS → Prop) (h_a0 : xR a0) (h_a1 : xR a1) (h : w_X4_stepAt a0 a1 S Q) : xM l yX4_stepAt (xws yX4_stepAt cX4_stepAt 2 (some .int)) ({ frames := 0, cells := 0, slots := 0, locals := 0 }) (gC D ca ad tF) [.int (iN a0), .int (iN a1)] S (xQi Q) 0 0 := by
  refine xm_of RX4 rfl (by decide +kernel) (Nat.le_of_ble_eq_true rfl) ?_
  intro p e s m args below meth c A Z C hA hZ hr hlocks hw
  unfold w_X4_stepAt at h
  show xV (gC D ca ad tF) p l e ({ frames := 0, cells := 0, slots := 0, locals := 0 }) s m args below meth c A 2 Z 0 0 0 [(0, .int (iN a0)), (1, .int (iN a1))] [] S
  refine xi_iload_n C 0 dX4_stepAt_0 rfl rfl ?_
  refine xi_bipush C (v := 14) dX4_stepAt_1 (by decide +kernel) ?_
  refine xi_imul C dX4_stepAt_3 ?_
  refine xi_iload_n C 1 dX4_stepAt_4 rfl rfl ?_
  refine xi_iadd C dX4_stepAt_5 ?_
  obtain ⟨hc1, h⟩ := h
  exact xr_i C hA hZ hr hlocks rfl dX4_stepAt_6 (Nat.le_of_ble_eq_true rfl) (Nat.le_of_ble_eq_true rfl) hw ⟨_, rfl, hc1, h⟩
set_option maxRecDepth 100000 in
set_option maxHeartbeats 4000000 in
theorem c_X4_isHandover (l : Launch) (D : va_G) (ca : Nat → ClassId) (ad : Nat → Nat) (tF : Nat) (a1 : Int) (S : xS) (Q : Int → xS → Prop) (h_a1 : xR a1) (h : w_X4_isHandover a1 S Q) : xM l yX4_isHandover (xws yX4_isHandover cX4_isHandover 2 (some .boolean)) ({ frames := 0, cells := 0, slots := 0, locals := 0 }) (gC D ca ad tF) [.ref (ad 1), .int (iN a1)] S (xQi Q) 0 0 := by
  refine xm_of RX4 rfl (by decide +kernel) (Nat.le_of_ble_eq_true rfl) ?_
  intro p e s m args below meth c A Z C hA hZ hr hlocks hw
  unfold w_X4_isHandover at h
  show xV (gC D ca ad tF) p l e ({ frames := 0, cells := 0, slots := 0, locals := 0 }) s m args below meth c A 2 Z 0 0 0 [(0, .ref (ad 1)), (1, .int (iN a1))] [] S
  refine xi_aload_n C 0 dX4_isHandover_0 rfl rfl ?_
  refine xi_getR C xK_X4 (q := 1) (r := 13) rfl 4 (by decide) (ki := 4) rfl xl_X4_21 rfl dX4_isHandover_1 ?_
  refine xi_iload_n C 1 dX4_isHandover_4 rfl rfl ?_
  obtain ⟨hc1, h⟩ := h
  refine xi_caload C (q := 13) rfl (by decide) hc1 dX4_isHandover_5 ?_
  refine xi_bipush C (v := 119) dX4_isHandover_6 (by decide +kernel) ?_
  refine xi_icmp_ne C 29 (xval.i (q := 13) (i := a1) hw hc1.1 rfl) (by decide) dX4_isHandover_8 (by decide) (fun z2 => ?_) (fun z2 => ?_)
  · replace h := h.1 z2
    refine xi_iconst C (v := 0) dX4_isHandover_29 rfl ?_
    exact xr_i C hA hZ hr hlocks (xnarZ (Or.inl rfl)).1 dX4_isHandover_30 (Nat.le_of_ble_eq_true rfl) (Nat.le_of_ble_eq_true rfl) hw ⟨_, rfl, (by decide), h⟩
  · replace h := h.2 z2
    refine xi_aload_n C 0 dX4_isHandover_11 rfl rfl ?_
    refine xi_getR C xK_X4 (q := 1) (r := 16) rfl 8 (by decide) (ki := 8) rfl xl_X4_31 rfl dX4_isHandover_12 ?_
    refine xi_aload_n C 0 dX4_isHandover_15 rfl rfl ?_
    refine xi_getR C xK_X4 (q := 1) (r := 14) rfl 5 (by decide) (ki := 5) rfl xl_X4_25 rfl dX4_isHandover_16 ?_
    refine xi_iload_n C 1 dX4_isHandover_19 rfl rfl ?_
    refine xi_iaload C (q := 14) rfl (by decide) hc1 dX4_isHandover_20 ?_
    obtain ⟨hc3, h⟩ := h
    refine xi_iaload C (q := 16) rfl (by decide) hc3 dX4_isHandover_21 ?_
    refine xi_if_ne C 29 (xval.i (q := 16) (i := S 14 a1) hw hc3.1 rfl) dX4_isHandover_22 (by decide) (fun z4 => ?_) (fun z4 => ?_)
    · replace h := h.1 z4
      refine xi_iconst C (v := 0) dX4_isHandover_29 rfl ?_
      exact xr_i C hA hZ hr hlocks (xnarZ (Or.inl rfl)).1 dX4_isHandover_30 (Nat.le_of_ble_eq_true rfl) (Nat.le_of_ble_eq_true rfl) hw ⟨_, rfl, (by decide), h⟩
    · replace h := h.2 z4
      refine xi_iconst C (v := 1) dX4_isHandover_25 rfl ?_
      refine xi_goto C 30 dX4_isHandover_26 (by decide) ?_
      exact xr_i C hA hZ hr hlocks (xnarZ (Or.inr rfl)).1 dX4_isHandover_30 (Nat.le_of_ble_eq_true rfl) (Nat.le_of_ble_eq_true rfl) hw ⟨_, rfl, (by decide), h⟩
set_option maxRecDepth 100000 in
set_option maxHeartbeats 4000000 in
theorem c_X7_canDo_h (l : Launch) (D : va_G) (ca : Nat → ClassId) (ad : Nat → Nat) (tF : Nat) (a1 : Int) (S : xS) (Q : Int → xS → Prop) (h_a1 : xR a1) (h : w_X7_canDo_h a1 S Q) : xM l yX7_canDo (xws yX7_canDo cX7_canDo 3 (some .boolean)) ({ frames := 0, cells := 0, slots := 0, locals := 0 }) (gC D ca ad tF) [.ref (ad 7), .int (iN a1)] S (xQi Q) 0 0 := by
  refine xm_of RX7 rfl (by decide +kernel) (Nat.le_of_ble_eq_true rfl) ?_
  intro p e s m args below meth c A Z C hA hZ hr hlocks hw
  unfold w_X7_canDo_h at h
  show xV (gC D ca ad tF) p l e ({ frames := 0, cells := 0, slots := 0, locals := 0 }) s m args below meth c A 3 Z 0 0 0 [(0, .ref (ad 7)), (1, .int (iN a1))] [] S
  refine xi_aload_n C 0 dX7_canDo_0 rfl rfl ?_
  refine xi_getR C xK_X7 (q := 7) (r := 1) rfl 0 (by decide) (ki := 0) rfl xl_X7_27 rfl dX7_canDo_1 ?_
  refine xi_getRN C xK_X4 (q := 1) (r := 14) rfl 5 (by decide) (ki := 5) rfl xn_X7_63 rfl dX7_canDo_4 ?_
  refine xi_iload_n C 1 dX7_canDo_7 rfl rfl ?_
  obtain ⟨hc1, h⟩ := h
  refine xi_iaload C (q := 14) rfl (by decide) hc1 dX7_canDo_8 ?_
  refine xi_istore_n C (L' := [(2, .int (iN (S 14 a1))), (0, .ref (ad 7)), (1, .int (iN a1))]) dX7_canDo_9 rfl (by decide) rfl ?_
  refine xi_aload_n C 1 dX7_canDo_10 rfl rfl ?_
  refine xi_getR C xK_X7 (q := 7) (r := 1) rfl 0 (by decide) (ki := 0) rfl xl_X7_27 rfl dX7_canDo_11 ?_
  refine xi_getRN C xK_X4 (q := 1) (r := 13) rfl 4 (by decide) (ki := 4) rfl xn_X7_66 rfl dX7_canDo_14 ?_
  refine xi_iload_n C 2 dX7_canDo_17 rfl rfl ?_
  refine xi_caload C (q := 13) rfl (by decide) hc1 dX7_canDo_18 ?_
  by_cases z2 : ((S 13 a1) = 33)
  · replace h := h.1 z2
    refine xi_lookup C (off := 65) 84 (xval.i (q := 13) (i := a1) hw hc1.1 rfl) dX7_canDo_19 (by decide +kernel) (by rw [z2]; decide +kernel) (by decide) ?_
    refine xi_aload_n C 1 dX7_canDo_84 rfl rfl ?_
    refine xi_getR C xK_X7 (q := 7) (r := 37) rfl 2 (by decide) (ki := 2) rfl xl_X7_15 rfl dX7_canDo_85 ?_
    refine xi_iload_n C 0 dX7_canDo_88 rfl rfl ?_
    obtain ⟨hc6, h⟩ := h
    refine xi_iaload C (q := 37) rfl (by decide) hc6 dX7_canDo_89 ?_
    refine xi_aload_n C 1 dX7_canDo_90 rfl rfl ?_
    refine xi_getR C xK_X7 (q := 7) (r := 1) rfl 0 (by decide) (ki := 0) rfl xl_X7_27 rfl dX7_canDo_91 ?_
    refine xi_getRN C xK_X4 (q := 1) (r := 15) rfl 6 (by decide) (ki := 6) rfl xn_X7_70 rfl dX7_canDo_94 ?_
    refine xi_iload_n C 2 dX7_canDo_97 rfl rfl ?_
    refine xi_iaload C (q := 15) rfl (by decide) hc1 dX7_canDo_98 ?_
    refine xi_icmp_eq C 106 (xval.i (q := 37) (i := S 14 a1) hw hc6.1 rfl) (xval.i (q := 15) (i := a1) hw hc1.1 rfl) dX7_canDo_99 (by decide) (fun z7 => ?_) (fun z7 => ?_)
    · replace h := h.1 z7
      refine xi_iconst C (v := 0) dX7_canDo_106 rfl ?_
      exact xr_i C hA hZ hr hlocks (xnarZ (Or.inl rfl)).1 dX7_canDo_107 (Nat.le_of_ble_eq_true rfl) (Nat.le_of_ble_eq_true rfl) hw ⟨_, rfl, (by decide), h⟩
    · replace h := h.2 z7
      refine xi_iconst C (v := 1) dX7_canDo_102 rfl ?_
      refine xi_goto C 107 dX7_canDo_103 (by decide) ?_
      exact xr_i C hA hZ hr hlocks (xnarZ (Or.inr rfl)).1 dX7_canDo_107 (Nat.le_of_ble_eq_true rfl) (Nat.le_of_ble_eq_true rfl) hw ⟨_, rfl, (by decide), h⟩
  · by_cases z3 : ((S 13 a1) = 61)
    · replace h := h.2.1 z3
      refine xi_lookup C (off := 41) 60 (xval.i (q := 13) (i := a1) hw hc1.1 rfl) dX7_canDo_19 (by decide +kernel) (by rw [z3]; decide +kernel) (by decide) ?_
      refine xi_aload_n C 1 dX7_canDo_60 rfl rfl ?_
      refine xi_getR C xK_X7 (q := 7) (r := 37) rfl 2 (by decide) (ki := 2) rfl xl_X7_15 rfl dX7_canDo_61 ?_
      refine xi_iload_n C 0 dX7_canDo_64 rfl rfl ?_
      obtain ⟨hc8, h⟩ := h
      refine xi_iaload C (q := 37) rfl (by decide) hc8 dX7_canDo_65 ?_
      refine xi_aload_n C 1 dX7_canDo_66 rfl rfl ?_
      refine xi_getR C xK_X7 (q := 7) (r := 1) rfl 0 (by decide) (ki := 0) rfl xl_X7_27 rfl dX7_canDo_67 ?_
      refine xi_getRN C xK_X4 (q := 1) (r := 15) rfl 6 (by decide) (ki := 6) rfl xn_X7_70 rfl dX7_canDo_70 ?_
      refine xi_iload_n C 2 dX7_canDo_73 rfl rfl ?_
      refine xi_iaload C (q := 15) rfl (by decide) hc1 dX7_canDo_74 ?_
      refine xi_icmp_ne C 82 (xval.i (q := 37) (i := S 14 a1) hw hc8.1 rfl) (xval.i (q := 15) (i := a1) hw hc1.1 rfl) dX7_canDo_75 (by decide) (fun z9 => ?_) (fun z9 => ?_)
      · replace h := h.1 z9
        refine xi_iconst C (v := 0) dX7_canDo_82 rfl ?_
        exact xr_i C hA hZ hr hlocks (xnarZ (Or.inl rfl)).1 dX7_canDo_83 (Nat.le_of_ble_eq_true rfl) (Nat.le_of_ble_eq_true rfl) hw ⟨_, rfl, (by decide), h⟩
      · replace h := h.2 z9
        refine xi_iconst C (v := 1) dX7_canDo_78 rfl ?_
        refine xi_goto C 83 dX7_canDo_79 (by decide) ?_
        exact xr_i C hA hZ hr hlocks (xnarZ (Or.inr rfl)).1 dX7_canDo_83 (Nat.le_of_ble_eq_true rfl) (Nat.le_of_ble_eq_true rfl) hw ⟨_, rfl, (by decide), h⟩
    · by_cases z4 : ((S 13 a1) = 114)
      · replace h := h.2.2.1 z4
        refine xi_lookup C (off := 113) 132 (xval.i (q := 13) (i := a1) hw hc1.1 rfl) dX7_canDo_19 (by decide +kernel) (by rw [z4]; decide +kernel) (by decide) ?_
        refine xi_aload_n C 1 dX7_canDo_132 rfl rfl ?_
        refine xi_getR C xK_X7 (q := 7) (r := 38) rfl 3 (by decide) (ki := 3) rfl xl_X7_18 rfl dX7_canDo_133 ?_
        refine xi_iload_n C 0 dX7_canDo_136 rfl rfl ?_
        obtain ⟨hc10, h⟩ := h
        refine xi_iaload C (q := 38) rfl (by decide) hc10 dX7_canDo_137 ?_
        refine xi_if_le C 145 (xval.i (q := 38) (i := S 14 a1) hw hc10.1 rfl) dX7_canDo_138 (by decide) (fun z11 => ?_) (fun z11 => ?_)
        · replace h := h.1 z11
          refine xi_iconst C (v := 0) dX7_canDo_145 rfl ?_
          exact xr_i C hA hZ hr hlocks (xnarZ (Or.inl rfl)).1 dX7_canDo_146 (Nat.le_of_ble_eq_true rfl) (Nat.le_of_ble_eq_true rfl) hw ⟨_, rfl, (by decide), h⟩
        · replace h := h.2 z11
          refine xi_iconst C (v := 1) dX7_canDo_141 rfl ?_
          refine xi_goto C 146 dX7_canDo_142 (by decide) ?_
          exact xr_i C hA hZ hr hlocks (xnarZ (Or.inr rfl)).1 dX7_canDo_146 (Nat.le_of_ble_eq_true rfl) (Nat.le_of_ble_eq_true rfl) hw ⟨_, rfl, (by decide), h⟩
      · by_cases z5 : ((S 13 a1) = 119)
        · replace h := h.2.2.2.1 z5
          refine xi_lookup C (off := 89) 108 (xval.i (q := 13) (i := a1) hw hc1.1 rfl) dX7_canDo_19 (by decide +kernel) (by rw [z5]; decide +kernel) (by decide) ?_
          refine xi_aload_n C 1 dX7_canDo_108 rfl rfl ?_
          refine xi_getR C xK_X7 (q := 7) (r := 38) rfl 3 (by decide) (ki := 3) rfl xl_X7_18 rfl dX7_canDo_109 ?_
          refine xi_iload_n C 0 dX7_canDo_112 rfl rfl ?_
          obtain ⟨hc12, h⟩ := h
          refine xi_iaload C (q := 38) rfl (by decide) hc12 dX7_canDo_113 ?_
          refine xi_aload_n C 1 dX7_canDo_114 rfl rfl ?_
          refine xi_getR C xK_X7 (q := 7) (r := 1) rfl 0 (by decide) (ki := 0) rfl xl_X7_27 rfl dX7_canDo_115 ?_
          refine xi_getRN C xK_X4 (q := 1) (r := 16) rfl 8 (by decide) (ki := 8) rfl xn_X7_73 rfl dX7_canDo_118 ?_
          refine xi_iload_n C 0 dX7_canDo_121 rfl rfl ?_
          refine xi_iaload C (q := 16) rfl (by decide) hc12 dX7_canDo_122 ?_
          refine xi_icmp_ge C 130 (xval.i (q := 38) (i := S 14 a1) hw hc12.1 rfl) (xval.i (q := 16) (i := S 14 a1) hw hc12.1 rfl) dX7_canDo_123 (by decide) (fun z13 => ?_) (fun z13 => ?_)
          · replace h := h.1 z13
            refine xi_iconst C (v := 0) dX7_canDo_130 rfl ?_
            exact xr_i C hA hZ hr hlocks (xnarZ (Or.inl rfl)).1 dX7_canDo_131 (Nat.le_of_ble_eq_true rfl) (Nat.le_of_ble_eq_true rfl) hw ⟨_, rfl, (by decide), h⟩
          · replace h := h.2 z13
            refine xi_iconst C (v := 1) dX7_canDo_126 rfl ?_
            refine xi_goto C 131 dX7_canDo_127 (by decide) ?_
            exact xr_i C hA hZ hr hlocks (xnarZ (Or.inr rfl)).1 dX7_canDo_131 (Nat.le_of_ble_eq_true rfl) (Nat.le_of_ble_eq_true rfl) hw ⟨_, rfl, (by decide), h⟩
        · replace h := h.2.2.2.2 z2 z3 z4 z5
          refine xi_lookup C (off := 128) 147 (xval.i (q := 13) (i := a1) hw hc1.1 rfl) dX7_canDo_19 (by decide +kernel) (by rw [xsw_none _ _ _ (by simp; omega)]) (by decide) ?_
          refine xi_iconst C (v := 1) dX7_canDo_147 rfl ?_
          exact xr_i C hA hZ hr hlocks (xnarZ (Or.inr rfl)).1 dX7_canDo_148 (Nat.le_of_ble_eq_true rfl) (Nat.le_of_ble_eq_true rfl) hw ⟨_, rfl, (by decide), h⟩
set_option maxRecDepth 100000 in
set_option maxHeartbeats 4000000 in
theorem c_X3_add (l : Launch) (D : va_G) (ca : Nat → ClassId) (ad : Nat → Nat) (tF : Nat) (a1 : Int) (a2 : Int) (S : xS) (Q : xS → Prop) (h_a1 : xR a1) (h_a2 : xR a2) (h : w_X3_add a1 a2 S Q) : xM l yX3_add (xws yX3_add cX3_add 3 (none)) ({ frames := 0, cells := 0, slots := 0, locals := 0 }) (gC D ca ad tF) [.ref (ad 6), .int (iN a1), .int (iN a2)] S (xQv Q) 0 0 := by
  refine xm_of RX3 rfl (by decide +kernel) (Nat.le_of_ble_eq_true rfl) ?_
  intro p e s m args below meth c A Z C hA hZ hr hlocks hw
  unfold w_X3_add at h
  show xV (gC D ca ad tF) p l e ({ frames := 0, cells := 0, slots := 0, locals := 0 }) s m args below meth c A 3 Z 0 0 0 [(0, .ref (ad 6)), (1, .int (iN a1)), (2, .int (iN a2))] [] S
  refine xi_aload_n C 0 dX3_add_0 rfl rfl ?_
  refine xi_getI C xK_X3 (q := 6) (r := 0) rfl 2 (by decide) (ki := 2) rfl xl_X3_34 rfl dX3_add_1 ?_
  refine xi_sipush C (v := 392) dX3_add_4 (by decide +kernel) ?_
  refine xi_icmp_ge C 37 (xval.i (q := 6) (i := 2) hw (by decide) rfl) (by decide) dX3_add_7 (by decide) (fun z1 => ?_) (fun z1 => ?_)
  · replace h := h.1 z1
    exact xr_v C hA hZ hr hlocks dX3_add_37 (Nat.le_of_ble_eq_true rfl) (Nat.le_of_ble_eq_true rfl) hw ⟨rfl, h⟩
  · replace h := h.2 z1
    refine xi_aload_n C 0 dX3_add_10 rfl rfl ?_
    refine xi_getR C xK_X3 (q := 6) (r := 35) rfl 1 (by decide) (ki := 1) rfl xl_X3_9 rfl dX3_add_11 ?_
    refine xi_aload_n C 0 dX3_add_14 rfl rfl ?_
    refine xi_getI C xK_X3 (q := 6) (r := 0) rfl 2 (by decide) (ki := 2) rfl xl_X3_34 rfl dX3_add_15 ?_
    refine xi_iload_n C 1 dX3_add_18 rfl rfl ?_
    refine xi_bipush C (v := 6) dX3_add_19 (by decide +kernel) ?_
    refine xi_ishl C (by decide) dX3_add_21 ?_
    refine xi_iload_n C 2 dX3_add_22 rfl rfl ?_
    refine xi_iconst C (v := 1) dX3_add_23 rfl ?_
    refine xi_iadd C dX3_add_24 ?_
    refine xi_ior C dX3_add_25 ?_
    obtain ⟨hc2, h⟩ := h
    refine xi_iastore C (q := 35) rfl (by decide) hc2 dX3_add_26 ?_
    have hw3 := xval.up (q := 35) (i := S 6 2) (v := xor32 (a1 * 64) (a2 + 1)) hw rfl (xor32_R _ _)
    refine xi_aload_n C 0 dX3_add_27 rfl rfl ?_
    refine xi_dup C dX3_add_28 rfl ?_
    refine xi_getI C xK_X3 (q := 6) (r := 0) rfl 2 (by decide) (ki := 2) rfl xl_X3_34 rfl dX3_add_29 ?_
    refine xi_iconst C (v := 1) dX3_add_32 rfl ?_
    refine xi_iadd C dX3_add_33 ?_
    obtain ⟨hc4, h⟩ := h
    refine xi_putI C xK_X3 (q := 6) (r := 0) rfl 2 (by decide) (ki := 2) rfl xl_X3_34 rfl rfl rfl dX3_add_34 ?_
    have hw5 := xval.up (q := 6) (i := 2) (v := (S 6 2) + 1) hw3 rfl hc4
    exact xr_v C hA hZ hr hlocks dX3_add_37 (Nat.le_of_ble_eq_true rfl) (Nat.le_of_ble_eq_true rfl) hw5 ⟨rfl, h⟩
set_option maxRecDepth 100000 in
set_option maxHeartbeats 4000000 in
theorem c_X4_processOf (l : Launch) (D : va_G) (ca : Nat → ClassId) (ad : Nat → Nat) (tF : Nat) (a0 : Int) (S : xS) (Q : Int → xS → Prop) (h_a0 : xR a0) (h : w_X4_processOf a0 S Q) : xM l yX4_processOf (xws yX4_processOf cX4_processOf 1 (some .int)) ({ frames := 0, cells := 0, slots := 0, locals := 0 }) (gC D ca ad tF) [.int (iN a0)] S (xQi Q) 0 0 := by
  refine xm_of RX4 rfl (by decide +kernel) (Nat.le_of_ble_eq_true rfl) ?_
  intro p e s m args below meth c A Z C hA hZ hr hlocks hw
  unfold w_X4_processOf at h
  show xV (gC D ca ad tF) p l e ({ frames := 0, cells := 0, slots := 0, locals := 0 }) s m args below meth c A 1 Z 0 0 0 [(0, .int (iN a0))] [] S
  refine xi_iload_n C 0 dX4_processOf_0 rfl rfl ?_
  refine xi_bipush C (v := 14) dX4_processOf_1 (by decide +kernel) ?_
  obtain ⟨hc1, h⟩ := h
  refine xi_idiv C h_a0 hc1 (by decide) (by decide) dX4_processOf_3 ?_
  exact xr_i C hA hZ hr hlocks rfl dX4_processOf_4 (Nat.le_of_ble_eq_true rfl) (Nat.le_of_ble_eq_true rfl) hw ⟨_, rfl, (xR_div h_a0 hc1 (by decide) (by decide)), h⟩
set_option maxRecDepth 100000 in
set_option maxHeartbeats 4000000 in
theorem c_X4_takes (l : Launch) (D : va_G) (ca : Nat → ClassId) (ad : Nat → Nat) (tF : Nat) (a1 : Int) (a2 : Int) (S : xS) (Q : Int → xS → Prop) (h_a1 : xR a1) (h_a2 : xR a2) (h : w_X4_takes a1 a2 S Q) : xM l yX4_takes (xws yX4_takes cX4_takes 3 (some .boolean)) ({ frames := 0, cells := 0, slots := 0, locals := 0 }) (gC D ca ad tF) [.ref (ad 1), .int (iN a1), .int (iN a2)] S (xQi Q) 0 0 := by
  refine xm_of RX4 rfl (by decide +kernel) (Nat.le_of_ble_eq_true rfl) ?_
  intro p e s m args below meth c A Z C hA hZ hr hlocks hw
  unfold w_X4_takes at h
  show xV (gC D ca ad tF) p l e ({ frames := 0, cells := 0, slots := 0, locals := 0 }) s m args below meth c A 3 Z 0 0 0 [(0, .ref (ad 1)), (1, .int (iN a1)), (2, .int (iN a2))] [] S
  refine xi_aload_n C 0 dX4_takes_0 rfl rfl ?_
  refine xi_getR C xK_X4 (q := 1) (r := 13) rfl 4 (by decide) (ki := 4) rfl xl_X4_21 rfl dX4_takes_1 ?_
  refine xi_iload_n C 2 dX4_takes_4 rfl rfl ?_
  obtain ⟨hc1, h⟩ := h
  refine xi_caload C (q := 13) rfl (by decide) hc1 dX4_takes_5 ?_
  refine xi_bipush C (v := 114) dX4_takes_6 (by decide +kernel) ?_
  refine xi_icmp_ne C 30 (xval.i (q := 13) (i := a2) hw hc1.1 rfl) (by decide) dX4_takes_8 (by decide) (fun z2 => ?_) (fun z2 => ?_)
  · replace h := h.1 z2
    refine xi_iconst C (v := 0) dX4_takes_30 rfl ?_
    exact xr_i C hA hZ hr hlocks (xnarZ (Or.inl rfl)).1 dX4_takes_31 (Nat.le_of_ble_eq_true rfl) (Nat.le_of_ble_eq_true rfl) hw ⟨_, rfl, (by decide), h⟩
  · replace h := h.2 z2
    refine xi_aload_n C 0 dX4_takes_11 rfl rfl ?_
    refine xi_getR C xK_X4 (q := 1) (r := 14) rfl 5 (by decide) (ki := 5) rfl xl_X4_25 rfl dX4_takes_12 ?_
    refine xi_iload_n C 2 dX4_takes_15 rfl rfl ?_
    refine xi_iaload C (q := 14) rfl (by decide) hc1 dX4_takes_16 ?_
    refine xi_aload_n C 0 dX4_takes_17 rfl rfl ?_
    refine xi_getR C xK_X4 (q := 1) (r := 14) rfl 5 (by decide) (ki := 5) rfl xl_X4_25 rfl dX4_takes_18 ?_
    refine xi_iload_n C 1 dX4_takes_21 rfl rfl ?_
    obtain ⟨hc3, h⟩ := h
    refine xi_iaload C (q := 14) rfl (by decide) hc3 dX4_takes_22 ?_
    refine xi_icmp_ne C 30 (xval.i (q := 14) (i := a2) hw hc1.1 rfl) (xval.i (q := 14) (i := a1) hw hc3.1 rfl) dX4_takes_23 (by decide) (fun z4 => ?_) (fun z4 => ?_)
    · replace h := h.1 z4
      refine xi_iconst C (v := 0) dX4_takes_30 rfl ?_
      exact xr_i C hA hZ hr hlocks (xnarZ (Or.inl rfl)).1 dX4_takes_31 (Nat.le_of_ble_eq_true rfl) (Nat.le_of_ble_eq_true rfl) hw ⟨_, rfl, (by decide), h⟩
    · replace h := h.2 z4
      refine xi_iconst C (v := 1) dX4_takes_26 rfl ?_
      refine xi_goto C 31 dX4_takes_27 (by decide) ?_
      exact xr_i C hA hZ hr hlocks (xnarZ (Or.inr rfl)).1 dX4_takes_31 (Nat.le_of_ble_eq_true rfl) (Nat.le_of_ble_eq_true rfl) hw ⟨_, rfl, (by decide), h⟩
set_option maxRecDepth 100000 in
set_option maxHeartbeats 4000000 in
theorem c_X3_addHandovers_h (l : Launch) (D : va_G) (ca : Nat → ClassId) (ad : Nat → Nat) (tF : Nat) (a1 : Int) (S : xS) (Q : xS → Prop) (h_a1 : xR a1) (h : w_X3_addHandovers_h a1 S Q) : xM l yX3_addHandovers (xws yX3_addHandovers cX3_addHandovers 7 (none)) ({ frames := 1, cells := 0, slots := 0, locals := 22 }) (gC D ca ad tF) [.ref (ad 6), .int (iN a1), .ref (ad 7)] S (xQv Q) 0 0 := by
  refine xm_of RX3 rfl (by decide +kernel) (Nat.le_of_ble_eq_true rfl) ?_
  intro p e s m args below meth c A Z C hA hZ hr hlocks hw
  unfold w_X3_addHandovers_h at h
  show xV (gC D ca ad tF) p l e ({ frames := 1, cells := 0, slots := 0, locals := 22 }) s m args below meth c A 7 Z 0 0 0 [(0, .ref (ad 6)), (1, .int (iN a1)), (2, .ref (ad 7))] [] S
  refine xi_iconst C (v := 0) dX3_addHandovers_0 rfl ?_
  refine xi_istore_n C (L' := [(3, .int (iN 0)), (0, .ref (ad 6)), (1, .int (iN a1)), (2, .ref (ad 7))]) dX3_addHandovers_1 rfl (by decide) rfl ?_
  refine xi_sub [1, 2, 3, 0] rfl (xW1 (fun v3_2 S2 => xR v3_2 → xval (gC D ca ad tF) S2 → xV (gC D ca ad tF) p l e ({ frames := 1, cells := 0, slots := 0, locals := 22 }) s m args below meth c A 7 Z 0 0 2 [(0, .ref (ad 6)), (1, .int (iN a1)), (2, .ref (ad 7)), (3, .int (iN v3_2))] [] S2) h (fun k2 hk2 v3_2 S2 h h_v3_2 hw2 => ?_) (by decide) hw)
  unfold w_X3_addHandovers_h_L2 at h
  refine xi_iload_n C 3 dX3_addHandovers_2 rfl rfl ?_
  refine xi_aload_n C 0 dX3_addHandovers_3 rfl rfl ?_
  refine xi_getR C xK_X3 (q := 6) (r := 1) rfl 0 (by decide) (ki := 0) rfl xl_X3_15 rfl dX3_addHandovers_4 ?_
  refine xi_getIN C xK_X4 (q := 1) (r := 0) rfl 0 (by decide) (ki := 0) rfl xn_X3_38 rfl dX3_addHandovers_7 ?_
  refine xi_icmp_ge C 109 h_v3_2 (xval.i (q := 1) (i := 0) hw2 (by decide) rfl) dX3_addHandovers_10 (by decide) (fun z1 => ?_) (fun z1 => ?_)
  · replace h := h.1 z1
    exact xr_v C hA hZ hr hlocks dX3_addHandovers_109 (Nat.le_of_ble_eq_true rfl) (Nat.le_of_ble_eq_true rfl) hw2 ⟨rfl, h⟩
  · replace h := h.2 z1
    refine xi_iconst C (v := 0) dX3_addHandovers_13 rfl ?_
    refine xi_istore C (L' := [(4, .int (iN 0)), (0, .ref (ad 6)), (1, .int (iN a1)), (2, .ref (ad 7)), (3, .int (iN v3_2))]) dX3_addHandovers_14 (by decide) rfl ?_
    refine xi_sub [1, 2, 3, 4, 0] rfl (xW1 (fun v4_16 S16 => xR v4_16 → xval (gC D ca ad tF) S16 → xV (gC D ca ad tF) p l e ({ frames := 1, cells := 0, slots := 0, locals := 22 }) s m args below meth c A 7 Z 0 0 16 [(0, .ref (ad 6)), (1, .int (iN a1)), (2, .ref (ad 7)), (3, .int (iN v3_2)), (4, .int (iN v4_16))] [] S16) h (fun k16 hk16 v4_16 S16 h h_v4_16 hw16 => ?_) (by decide) hw2)
    unfold w_X3_addHandovers_h_L16 at h
    refine xi_iload C 4 dX3_addHandovers_16 rfl ?_
    refine xi_aload_n C 0 dX3_addHandovers_18 rfl rfl ?_
    refine xi_getR C xK_X3 (q := 6) (r := 1) rfl 0 (by decide) (ki := 0) rfl xl_X3_15 rfl dX3_addHandovers_19 ?_
    refine xi_getRN C xK_X4 (q := 1) (r := 10) rfl 1 (by decide) (ki := 1) rfl xn_X3_54 rfl dX3_addHandovers_22 ?_
    refine xi_iload_n C 3 dX3_addHandovers_25 rfl rfl ?_
    obtain ⟨hc2, h⟩ := h
    refine xi_iaload C (q := 10) rfl (by decide) hc2 dX3_addHandovers_26 ?_
    refine xi_icmp_ge C 103 h_v4_16 (xval.i (q := 10) (i := v3_2) hw16 hc2.1 rfl) dX3_addHandovers_27 (by decide) (fun z3 => ?_) (fun z3 => ?_)
    · replace h := h.1 z3
      refine xi_iinc C (L' := [(3, .int (iN (v3_2 + 1))), (0, .ref (ad 6)), (1, .int (iN a1)), (2, .ref (ad 7)), (4, .int (iN v4_16))]) 3 dX3_addHandovers_103 rfl (by decide) rfl ?_
      refine xi_goto C 2 dX3_addHandovers_106 (by decide) ?_
      obtain ⟨hc4, h⟩ := h
      exact xi_sub [1, 2, 3, 0] rfl (hk2 (v3_2 + 1) S16 h hc4 hw16)
    · replace h := h.2 z3
      refine xi_iload_n C 3 dX3_addHandovers_30 rfl rfl ?_
      refine xi_iload C 4 dX3_addHandovers_31 rfl ?_
      refine xc_Si C hw16 (c_X4_stepAt l D ca ad tF v3_2 v4_16 S16 _ h_v3_2 h_v4_16 h) xk_X4_stepAt xs_X4_stepAt xl_X3_57 ⟨Nat.le_of_ble_eq_true rfl, Nat.le_of_ble_eq_true rfl⟩ rfl rfl (Nat.le_of_ble_eq_true rfl) ⟨Nat.le_of_ble_eq_true rfl, Nat.le_of_ble_eq_true rfl⟩ dX3_addHandovers_33 (fun r33 S33 h_r33 h hw5 => ?_)
      refine xi_istore C (L' := [(5, .int (iN r33)), (0, .ref (ad 6)), (1, .int (iN a1)), (2, .ref (ad 7)), (3, .int (iN v3_2)), (4, .int (iN v4_16))]) dX3_addHandovers_36 (by decide) rfl ?_
      refine xi_iload_n C 4 dX3_addHandovers_38 rfl rfl ?_
      refine xi_iload_n C 2 dX3_addHandovers_39 rfl rfl ?_
      refine xc_Si C hw5 (c_X4_processOf l D ca ad tF a1 S33 _ h_a1 h) xk_X4_processOf xs_X4_processOf xl_X3_23 ⟨Nat.le_of_ble_eq_true rfl, Nat.le_of_ble_eq_true rfl⟩ rfl rfl (Nat.le_of_ble_eq_true rfl) ⟨Nat.le_of_ble_eq_true rfl, Nat.le_of_ble_eq_true rfl⟩ dX3_addHandovers_40 (fun r40 S40 h_r40 h hw6 => ?_)
      refine xJ1_w (fun t0_70 S70 => xR t0_70 → xval (gC D ca ad tF) S70 → xV (gC D ca ad tF) p l e ({ frames := 1, cells := 0, slots := 0, locals := 22 }) s m args below meth c A 7 Z 0 0 70 [(0, .ref (ad 6)), (1, .int (iN a1)), (2, .ref (ad 7)), (3, .int (iN v3_2)), (4, .int (iN v4_16)), (5, .int (iN r33))] [.int (iN t0_70)] S70) h (fun t0_70 S70 h h_t0_70 hw70 => ?_) (fun j70 hj70 h => ?_)
      · unfold w_X3_addHandovers_h_J70 at h
        refine xi_istore C (L' := [(6, .int (iN t0_70)), (0, .ref (ad 6)), (1, .int (iN a1)), (2, .ref (ad 7)), (3, .int (iN v3_2)), (4, .int (iN v4_16)), (5, .int (iN r33))]) dX3_addHandovers_70 (by decide) rfl ?_
        refine xi_iload C 0 dX3_addHandovers_72 rfl ?_
        refine xi_if_eq C 97 h_t0_70 dX3_addHandovers_74 (by decide) (fun z8 => ?_) (fun z8 => ?_)
        · replace h := h.1 z8
          refine xi_iinc C (L' := [(4, .int (iN (v4_16 + 1))), (6, .int (iN t0_70)), (0, .ref (ad 6)), (1, .int (iN a1)), (2, .ref (ad 7)), (3, .int (iN v3_2)), (5, .int (iN r33))]) 5 dX3_addHandovers_97 rfl (by decide) rfl ?_
          refine xi_goto C 16 dX3_addHandovers_100 (by decide) ?_
          obtain ⟨hc9, h⟩ := h
          exact xi_sub [2, 3, 4, 5, 0] rfl (hk16 (v4_16 + 1) S70 h hc9 hw70)
        · replace h := h.2 z8
          refine xi_aload_n C 1 dX3_addHandovers_77 rfl rfl ?_
          refine xi_getR C xK_X3 (q := 6) (r := 1) rfl 0 (by decide) (ki := 0) rfl xl_X3_15 rfl dX3_addHandovers_78 ?_
          refine xi_iload_n C 2 dX3_addHandovers_81 rfl rfl ?_
          refine xi_iload C 6 dX3_addHandovers_82 rfl ?_
          refine xc_Vi C hw70 (c_X4_takes l D ca ad tF a1 r33 S70 _ h_a1 h_r33 h) xk_X4_takes xv_X4_takes xl_X3_78 ⟨Nat.le_of_ble_eq_true rfl, Nat.le_of_ble_eq_true rfl⟩ xK_X4 (q := 1) rfl rfl rfl (Nat.le_of_ble_eq_true rfl) ⟨Nat.le_of_ble_eq_true rfl, Nat.le_of_ble_eq_true rfl⟩ dX3_addHandovers_84 (fun r84 S84 h_r84 h hw10 => ?_)
          refine xi_if_eq C 97 h_r84 dX3_addHandovers_87 (by decide) (fun z11 => ?_) (fun z11 => ?_)
          · replace h := h.1 z11
            refine xi_iinc C (L' := [(4, .int (iN (v4_16 + 1))), (6, .int (iN t0_70)), (0, .ref (ad 6)), (1, .int (iN a1)), (2, .ref (ad 7)), (3, .int (iN v3_2)), (5, .int (iN r33))]) 5 dX3_addHandovers_97 rfl (by decide) rfl ?_
            refine xi_goto C 16 dX3_addHandovers_100 (by decide) ?_
            obtain ⟨hc12, h⟩ := h
            exact xi_sub [2, 3, 4, 5, 0] rfl (hk16 (v4_16 + 1) S84 h hc12 hw10)
          · replace h := h.2 z11
            refine xi_aload_n C 1 dX3_addHandovers_90 rfl rfl ?_
            refine xi_iload_n C 2 dX3_addHandovers_91 rfl rfl ?_
            refine xi_iload C 6 dX3_addHandovers_92 rfl ?_
            refine xc_Vv C hw10 (c_X3_add l D ca ad tF a1 r33 S84 _ h_a1 h_r33 h) xk_X3_add xv_X3_add xl_X3_74 ⟨Nat.le_of_ble_eq_true rfl, Nat.le_of_ble_eq_true rfl⟩ xK_X3 (q := 6) rfl rfl rfl (Nat.le_of_ble_eq_true rfl) ⟨Nat.le_of_ble_eq_true rfl, Nat.le_of_ble_eq_true rfl⟩ dX3_addHandovers_94 (fun S94 h hw13 => ?_)
            refine xi_iinc C (L' := [(4, .int (iN (v4_16 + 1))), (6, .int (iN t0_70)), (0, .ref (ad 6)), (1, .int (iN a1)), (2, .ref (ad 7)), (3, .int (iN v3_2)), (5, .int (iN r33))]) 5 dX3_addHandovers_97 rfl (by decide) rfl ?_
            refine xi_goto C 16 dX3_addHandovers_100 (by decide) ?_
            obtain ⟨hc14, h⟩ := h
            exact xi_sub [2, 3, 4, 5, 0] rfl (hk16 (v4_16 + 1) S94 h hc14 hw13)
      · refine xJ0_w (fun  S69 => xval (gC D ca ad tF) S69 → xV (gC D ca ad tF) p l e ({ frames := 1, cells := 0, slots := 0, locals := 22 }) s m args below meth c A 7 Z 0 0 69 [(0, .ref (ad 6)), (1, .int (iN a1)), (2, .ref (ad 7)), (3, .int (iN v3_2)), (4, .int (iN v4_16)), (5, .int (iN r33))] [] S69) h (fun  S69 h  hw69 => ?_) (fun j69 hj69 h => ?_)
        · unfold w_X3_addHandovers_h_J69 at h
          refine xi_iconst C (v := 0) dX3_addHandovers_69 rfl ?_
          exact xi_sub [0, 1, 2, 3, 4, 5] rfl (hj70 0 S69 h (by decide) hw69)
        · refine xi_icmp_eq C 69 h_v3_2 h_r40 dX3_addHandovers_43 (by decide) (fun z7 => ?_) (fun z7 => ?_)
          · replace h := h.1 z7
            exact xi_sub [1, 2, 3, 4, 5, 0] rfl (hj69 S40 h hw6)
          · replace h := h.2 z7
            refine xi_aload_n C 1 dX3_addHandovers_46 rfl rfl ?_
            refine xi_getR C xK_X3 (q := 6) (r := 1) rfl 0 (by decide) (ki := 0) rfl xl_X3_15 rfl dX3_addHandovers_47 ?_
            refine xi_getRN C xK_X4 (q := 1) (r := 11) rfl 2 (by decide) (ki := 2) rfl xn_X3_61 rfl dX3_addHandovers_50 ?_
            refine xi_iload C 0 dX3_addHandovers_53 rfl ?_
            obtain ⟨hc15, h⟩ := h
            refine xi_iaload C (q := 11) rfl (by decide) hc15 dX3_addHandovers_55 ?_
            refine xi_aload_n C 3 dX3_addHandovers_56 rfl rfl ?_
            refine xi_getRN C xK_X7 (q := 7) (r := 36) rfl 1 (by decide) (ki := 1) rfl xn_X3_41 rfl dX3_addHandovers_57 ?_
            refine xi_iload_n C 4 dX3_addHandovers_60 rfl rfl ?_
            refine xi_iaload C (q := 36) rfl (by decide) hc2 dX3_addHandovers_61 ?_
            refine xi_icmp_ne C 69 (xval.i (q := 11) (i := r33) hw6 hc15.1 rfl) (xval.i (q := 36) (i := v3_2) hw6 hc2.1 rfl) dX3_addHandovers_62 (by decide) (fun z16 => ?_) (fun z16 => ?_)
            · replace h := h.1 z16
              exact xi_sub [1, 2, 3, 4, 5, 0] rfl (hj69 S40 h hw6)
            · replace h := h.2 z16
              refine xi_iconst C (v := 1) dX3_addHandovers_65 rfl ?_
              refine xi_goto C 70 dX3_addHandovers_66 (by decide) ?_
              exact xi_sub [1, 2, 3, 4, 5, 0] rfl (hj70 1 S40 h (by decide) hw6)
set_option maxRecDepth 100000 in
set_option maxHeartbeats 4000000 in
theorem c_X3_addLedBy_h (l : Launch) (D : va_G) (ca : Nat → ClassId) (ad : Nat → Nat) (tF : Nat) (a1 : Int) (S : xS) (Q : xS → Prop) (h_a1 : xR a1) (h : w_X3_addLedBy_h a1 S Q) : xM l yX3_addLedBy (xws yX3_addLedBy cX3_addLedBy 5 (none)) ({ frames := 2, cells := 0, slots := 0, locals := 48 }) (gC D ca ad tF) [.ref (ad 6), .int (iN a1), .ref (ad 7)] S (xQv Q) 0 0 := by
  refine xm_of RX3 rfl (by decide +kernel) (Nat.le_of_ble_eq_true rfl) ?_
  intro p e s m args below meth c A Z C hA hZ hr hlocks hw
  unfold w_X3_addLedBy_h at h
  show xV (gC D ca ad tF) p l e ({ frames := 2, cells := 0, slots := 0, locals := 48 }) s m args below meth c A 5 Z 0 0 0 [(0, .ref (ad 6)), (1, .int (iN a1)), (2, .ref (ad 7))] [] S
  refine xi_iconst C (v := 0) dX3_addLedBy_0 rfl ?_
  refine xi_istore_n C (L' := [(3, .int (iN 0)), (0, .ref (ad 6)), (1, .int (iN a1)), (2, .ref (ad 7))]) dX3_addLedBy_1 rfl (by decide) rfl ?_
  refine xi_sub [1, 2, 3, 0] rfl (xW1 (fun v3_2 S2 => xR v3_2 → xval (gC D ca ad tF) S2 → xV (gC D ca ad tF) p l e ({ frames := 2, cells := 0, slots := 0, locals := 48 }) s m args below meth c A 5 Z 0 0 2 [(0, .ref (ad 6)), (1, .int (iN a1)), (2, .ref (ad 7)), (3, .int (iN v3_2))] [] S2) h (fun k2 hk2 v3_2 S2 h h_v3_2 hw2 => ?_) (by decide) hw)
  unfold w_X3_addLedBy_h_L2 at h
  refine xi_iload_n C 3 dX3_addLedBy_2 rfl rfl ?_
  refine xi_aload_n C 0 dX3_addLedBy_3 rfl rfl ?_
  refine xi_getR C xK_X3 (q := 6) (r := 1) rfl 0 (by decide) (ki := 0) rfl xl_X3_15 rfl dX3_addLedBy_4 ?_
  refine xi_getRN C xK_X4 (q := 1) (r := 10) rfl 1 (by decide) (ki := 1) rfl xn_X3_54 rfl dX3_addLedBy_7 ?_
  refine xi_iload_n C 1 dX3_addLedBy_10 rfl rfl ?_
  obtain ⟨hc1, h⟩ := h
  refine xi_iaload C (q := 10) rfl (by decide) hc1 dX3_addLedBy_11 ?_
  refine xi_icmp_ge C 85 h_v3_2 (xval.i (q := 10) (i := a1) hw2 hc1.1 rfl) dX3_addLedBy_12 (by decide) (fun z2 => ?_) (fun z2 => ?_)
  · replace h := h.1 z2
    exact xr_v C hA hZ hr hlocks dX3_addLedBy_85 (Nat.le_of_ble_eq_true rfl) (Nat.le_of_ble_eq_true rfl) hw2 ⟨rfl, h⟩
  · replace h := h.2 z2
    refine xi_iload_n C 1 dX3_addLedBy_15 rfl rfl ?_
    refine xi_iload_n C 3 dX3_addLedBy_16 rfl rfl ?_
    refine xc_Si C hw2 (c_X4_stepAt l D ca ad tF a1 v3_2 S2 _ h_a1 h_v3_2 h) xk_X4_stepAt xs_X4_stepAt xl_X3_57 ⟨Nat.le_of_ble_eq_true rfl, Nat.le_of_ble_eq_true rfl⟩ rfl rfl (Nat.le_of_ble_eq_true rfl) ⟨Nat.le_of_ble_eq_true rfl, Nat.le_of_ble_eq_true rfl⟩ dX3_addLedBy_17 (fun r17 S17 h_r17 h hw3 => ?_)
    refine xi_istore C (L' := [(4, .int (iN r17)), (0, .ref (ad 6)), (1, .int (iN a1)), (2, .ref (ad 7)), (3, .int (iN v3_2))]) dX3_addLedBy_20 (by decide) rfl ?_
    refine xi_aload_n C 1 dX3_addLedBy_22 rfl rfl ?_
    refine xi_getR C xK_X3 (q := 6) (r := 1) rfl 0 (by decide) (ki := 0) rfl xl_X3_15 rfl dX3_addLedBy_23 ?_
    refine xi_getRN C xK_X4 (q := 1) (r := 11) rfl 2 (by decide) (ki := 2) rfl xn_X3_61 rfl dX3_addLedBy_26 ?_
    refine xi_iload C 0 dX3_addLedBy_29 rfl ?_
    obtain ⟨hc4, h⟩ := h
    refine xi_iaload C (q := 11) rfl (by decide) hc4 dX3_addLedBy_31 ?_
    refine xi_aload_n C 3 dX3_addLedBy_32 rfl rfl ?_
    refine xi_getRN C xK_X7 (q := 7) (r := 36) rfl 1 (by decide) (ki := 1) rfl xn_X3_41 rfl dX3_addLedBy_33 ?_
    refine xi_iload_n C 2 dX3_addLedBy_36 rfl rfl ?_
    refine xi_iaload C (q := 36) rfl (by decide) hc1 dX3_addLedBy_37 ?_
    refine xi_icmp_ne C 79 (xval.i (q := 11) (i := r17) hw3 hc4.1 rfl) (xval.i (q := 36) (i := a1) hw3 hc1.1 rfl) dX3_addLedBy_38 (by decide) (fun z5 => ?_) (fun z5 => ?_)
    · replace h := h.1 z5
      refine xi_iinc C (L' := [(3, .int (iN (v3_2 + 1))), (4, .int (iN r17)), (0, .ref (ad 6)), (1, .int (iN a1)), (2, .ref (ad 7))]) 4 dX3_addLedBy_79 rfl (by decide) rfl ?_
      refine xi_goto C 2 dX3_addLedBy_82 (by decide) ?_
      obtain ⟨hc6, h⟩ := h
      exact xi_sub [2, 3, 4, 0] rfl (hk2 (v3_2 + 1) S17 h hc6 hw3)
    · replace h := h.2 z5
      refine xi_aload_n C 1 dX3_addLedBy_41 rfl rfl ?_
      refine xi_getR C xK_X3 (q := 6) (r := 1) rfl 0 (by decide) (ki := 0) rfl xl_X3_15 rfl dX3_addLedBy_42 ?_
      refine xi_iload C 0 dX3_addLedBy_45 rfl ?_
      refine xc_Vi C hw3 (c_X4_isHandover l D ca ad tF r17 S17 _ h_r17 h) xk_X4_isHandover xv_X4_isHandover xl_X3_64 ⟨Nat.le_of_ble_eq_true rfl, Nat.le_of_ble_eq_true rfl⟩ xK_X4 (q := 1) rfl rfl rfl (Nat.le_of_ble_eq_true rfl) ⟨Nat.le_of_ble_eq_true rfl, Nat.le_of_ble_eq_true rfl⟩ dX3_addLedBy_47 (fun r47 S47 h_r47 h hw7 => ?_)
      refine xi_if_eq C 63 h_r47 dX3_addLedBy_50 (by decide) (fun z8 => ?_) (fun z8 => ?_)
      · replace h := h.1 z8
        refine xi_aload_n C 3 dX3_addLedBy_63 rfl rfl ?_
        refine xi_iload C 0 dX3_addLedBy_64 rfl ?_
        refine xc_Vi C hw7 (c_X7_canDo_h l D ca ad tF r17 S47 _ h_r17 h) xk_X7_canDo xv_X7_canDo xl_X3_71 ⟨Nat.le_of_ble_eq_true rfl, Nat.le_of_ble_eq_true rfl⟩ xK_X7 (q := 7) rfl rfl rfl (Nat.le_of_ble_eq_true rfl) ⟨Nat.le_of_ble_eq_true rfl, Nat.le_of_ble_eq_true rfl⟩ dX3_addLedBy_66 (fun r66 S66 h_r66 h hw9 => ?_)
        refine xi_if_eq C 79 h_r66 dX3_addLedBy_69 (by decide) (fun z10 => ?_) (fun z10 => ?_)
        · replace h := h.1 z10
          refine xi_iinc C (L' := [(3, .int (iN (v3_2 + 1))), (4, .int (iN r17)), (0, .ref (ad 6)), (1, .int (iN a1)), (2, .ref (ad 7))]) 4 dX3_addLedBy_79 rfl (by decide) rfl ?_
          refine xi_goto C 2 dX3_addLedBy_82 (by decide) ?_
          obtain ⟨hc11, h⟩ := h
          exact xi_sub [2, 3, 4, 0] rfl (hk2 (v3_2 + 1) S66 h hc11 hw9)
        · replace h := h.2 z10
          refine xi_aload_n C 1 dX3_addLedBy_72 rfl rfl ?_
          refine xi_iload C 0 dX3_addLedBy_73 rfl ?_
          refine xi_iconst C (v := (-1)) dX3_addLedBy_75 rfl ?_
          refine xc_Vv C hw9 (c_X3_add l D ca ad tF r17 (-1) S66 _ h_r17 (by decide) h) xk_X3_add xv_X3_add xl_X3_74 ⟨Nat.le_of_ble_eq_true rfl, Nat.le_of_ble_eq_true rfl⟩ xK_X3 (q := 6) rfl rfl rfl (Nat.le_of_ble_eq_true rfl) ⟨Nat.le_of_ble_eq_true rfl, Nat.le_of_ble_eq_true rfl⟩ dX3_addLedBy_76 (fun S76 h hw12 => ?_)
          refine xi_iinc C (L' := [(3, .int (iN (v3_2 + 1))), (4, .int (iN r17)), (0, .ref (ad 6)), (1, .int (iN a1)), (2, .ref (ad 7))]) 4 dX3_addLedBy_79 rfl (by decide) rfl ?_
          refine xi_goto C 2 dX3_addLedBy_82 (by decide) ?_
          obtain ⟨hc13, h⟩ := h
          exact xi_sub [2, 3, 4, 0] rfl (hk2 (v3_2 + 1) S76 h hc13 hw12)
      · replace h := h.2 z8
        refine xi_aload_n C 1 dX3_addLedBy_53 rfl rfl ?_
        refine xi_iload C 0 dX3_addLedBy_54 rfl ?_
        refine xi_aload_n C 3 dX3_addLedBy_56 rfl rfl ?_
        refine xc_Vv C hw7 (c_X3_addHandovers_h l D ca ad tF r17 S47 _ h_r17 h) xk_X3_addHandovers xv_X3_addHandovers xl_X3_68 ⟨Nat.le_of_ble_eq_true rfl, Nat.le_of_ble_eq_true rfl⟩ xK_X3 (q := 6) rfl rfl rfl (Nat.le_of_ble_eq_true rfl) ⟨Nat.le_of_ble_eq_true rfl, Nat.le_of_ble_eq_true rfl⟩ dX3_addLedBy_57 (fun S57 h hw14 => ?_)
        refine xi_goto C 79 dX3_addLedBy_60 (by decide) ?_
        refine xi_iinc C (L' := [(3, .int (iN (v3_2 + 1))), (4, .int (iN r17)), (0, .ref (ad 6)), (1, .int (iN a1)), (2, .ref (ad 7))]) 4 dX3_addLedBy_79 rfl (by decide) rfl ?_
        refine xi_goto C 2 dX3_addLedBy_82 (by decide) ?_
        obtain ⟨hc15, h⟩ := h
        exact xi_sub [2, 3, 4, 0] rfl (hk2 (v3_2 + 1) S57 h hc15 hw14)
set_option maxRecDepth 100000 in
set_option maxHeartbeats 4000000 in
theorem c_X4_isMarked (l : Launch) (D : va_G) (ca : Nat → ClassId) (ad : Nat → Nat) (tF : Nat) (a1 : Int) (a2 : Int) (a3 : Int) (S : xS) (Q : Int → xS → Prop) (h_a1 : xR a1) (h_a2 : xR a2) (h_a3 : xR a3) (h : w_X4_isMarked a1 a2 a3 S Q) : xM l yX4_isMarked (xws yX4_isMarked cX4_isMarked 4 (some .boolean)) ({ frames := 0, cells := 0, slots := 0, locals := 0 }) (gC D ca ad tF) [.ref (ad 1), .int (iN a1), .int (iN a2), .int (iN a3)] S (xQi Q) 0 0 := by
  refine xm_of RX4 rfl (by decide +kernel) (Nat.le_of_ble_eq_true rfl) ?_
  intro p e s m args below meth c A Z C hA hZ hr hlocks hw
  unfold w_X4_isMarked at h
  show xV (gC D ca ad tF) p l e ({ frames := 0, cells := 0, slots := 0, locals := 0 }) s m args below meth c A 4 Z 0 0 0 [(0, .ref (ad 1)), (1, .int (iN a1)), (2, .int (iN a2)), (3, .int (iN a3))] [] S
  refine xi_aload_n C 0 dX4_isMarked_0 rfl rfl ?_
  refine xi_getR C xK_X4 (q := 1) (r := 18) rfl 10 (by decide) (ki := 10) rfl xl_X4_37 rfl dX4_isMarked_1 ?_
  refine xi_iload_n C 1 dX4_isMarked_4 rfl rfl ?_
  refine xi_bipush C (v := 12) dX4_isMarked_5 (by decide +kernel) ?_
  refine xi_imul C dX4_isMarked_7 ?_
  refine xi_iload_n C 2 dX4_isMarked_8 rfl rfl ?_
  refine xi_iadd C dX4_isMarked_9 ?_
  obtain ⟨hc1, h⟩ := h
  refine xi_iaload C (q := 18) rfl (by decide) hc1 dX4_isMarked_10 ?_
  refine xi_iload_n C 3 dX4_isMarked_11 rfl rfl ?_
  refine xi_iand C dX4_isMarked_12 ?_
  refine xi_if_eq C 20 (xand_R _ _) dX4_isMarked_13 (by decide) (fun z2 => ?_) (fun z2 => ?_)
  · replace h := h.1 z2
    refine xi_iconst C (v := 0) dX4_isMarked_20 rfl ?_
    exact xr_i C hA hZ hr hlocks (xnarZ (Or.inl rfl)).1 dX4_isMarked_21 (Nat.le_of_ble_eq_true rfl) (Nat.le_of_ble_eq_true rfl) hw ⟨_, rfl, (by decide), h⟩
  · replace h := h.2 z2
    refine xi_iconst C (v := 1) dX4_isMarked_16 rfl ?_
    refine xi_goto C 21 dX4_isMarked_17 (by decide) ?_
    exact xr_i C hA hZ hr hlocks (xnarZ (Or.inr rfl)).1 dX4_isMarked_21 (Nat.le_of_ble_eq_true rfl) (Nat.le_of_ble_eq_true rfl) hw ⟨_, rfl, (by decide), h⟩
set_option maxRecDepth 100000 in
set_option maxHeartbeats 4000000 in
theorem c_X3_listFor_h (l : Launch) (D : va_G) (ca : Nat → ClassId) (ad : Nat → Nat) (tF : Nat)  (S : xS) (Q : xS → Prop)  (h : w_X3_listFor_h  S Q) : xM l yX3_listFor (xws yX3_listFor cX3_listFor 3 (none)) ({ frames := 3, cells := 0, slots := 0, locals := 72 }) (gC D ca ad tF) [.ref (ad 6), .ref (ad 7)] S (xQv Q) 0 0 := by
  refine xm_of RX3 rfl (by decide +kernel) (Nat.le_of_ble_eq_true rfl) ?_
  intro p e s m args below meth c A Z C hA hZ hr hlocks hw
  unfold w_X3_listFor_h at h
  show xV (gC D ca ad tF) p l e ({ frames := 3, cells := 0, slots := 0, locals := 72 }) s m args below meth c A 3 Z 0 0 0 [(0, .ref (ad 6)), (1, .ref (ad 7))] [] S
  refine xi_aload_n C 0 dX3_listFor_0 rfl rfl ?_
  refine xi_iconst C (v := 0) dX3_listFor_1 rfl ?_
  refine xi_putI C xK_X3 (q := 6) (r := 0) rfl 2 (by decide) (ki := 2) rfl xl_X3_34 rfl rfl rfl dX3_listFor_2 ?_
  have hw1 := xval.up (q := 6) (i := 2) (v := 0) hw rfl (by decide)
  refine xi_iconst C (v := 0) dX3_listFor_5 rfl ?_
  refine xi_istore_n C (L' := [(2, .int (iN 0)), (0, .ref (ad 6)), (1, .ref (ad 7))]) dX3_listFor_6 rfl (by decide) rfl ?_
  refine xJ0_w (fun  S56 => xval (gC D ca ad tF) S56 → xV (gC D ca ad tF) p l e ({ frames := 3, cells := 0, slots := 0, locals := 72 }) s m args below meth c A 3 Z 0 0 56 [(0, .ref (ad 6)), (1, .ref (ad 7))] [] S56) h (fun  S56 h  hw56 => ?_) (fun j56 hj56 h => ?_)
  · unfold w_X3_listFor_h_J56 at h
    refine xi_iconst C (v := 0) dX3_listFor_56 rfl ?_
    refine xi_istore_n C (L' := [(2, .int (iN 0)), (0, .ref (ad 6)), (1, .ref (ad 7))]) dX3_listFor_57 rfl (by decide) rfl ?_
    refine xi_sub [1, 2, 0] rfl (xW1 (fun v2_58 S58 => xR v2_58 → xval (gC D ca ad tF) S58 → xV (gC D ca ad tF) p l e ({ frames := 3, cells := 0, slots := 0, locals := 72 }) s m args below meth c A 3 Z 0 0 58 [(0, .ref (ad 6)), (1, .ref (ad 7)), (2, .int (iN v2_58))] [] S58) h (fun k58 hk58 v2_58 S58 h h_v2_58 hw58 => ?_) (by decide) hw56)
    unfold w_X3_listFor_h_L58 at h
    refine xi_iload_n C 2 dX3_listFor_58 rfl rfl ?_
    refine xi_aload_n C 0 dX3_listFor_59 rfl rfl ?_
    refine xi_getR C xK_X3 (q := 6) (r := 1) rfl 0 (by decide) (ki := 0) rfl xl_X3_15 rfl dX3_listFor_60 ?_
    refine xi_getIN C xK_X4 (q := 1) (r := 0) rfl 0 (by decide) (ki := 0) rfl xn_X3_38 rfl dX3_listFor_63 ?_
    refine xi_icmp_ge C 81 h_v2_58 (xval.i (q := 1) (i := 0) hw58 (by decide) rfl) dX3_listFor_66 (by decide) (fun z2 => ?_) (fun z2 => ?_)
    · replace h := h.1 z2
      exact xr_v C hA hZ hr hlocks dX3_listFor_81 (Nat.le_of_ble_eq_true rfl) (Nat.le_of_ble_eq_true rfl) hw58 ⟨rfl, h⟩
    · replace h := h.2 z2
      refine xi_aload_n C 0 dX3_listFor_69 rfl rfl ?_
      refine xi_iload_n C 2 dX3_listFor_70 rfl rfl ?_
      refine xi_aload_n C 1 dX3_listFor_71 rfl rfl ?_
      refine xc_Vv C hw58 (c_X3_addLedBy_h l D ca ad tF v2_58 S58 _ h_v2_58 h) xk_X3_addLedBy xv_X3_addLedBy xl_X3_50 ⟨Nat.le_of_ble_eq_true rfl, Nat.le_of_ble_eq_true rfl⟩ xK_X3 (q := 6) rfl rfl rfl (Nat.le_of_ble_eq_true rfl) ⟨Nat.le_of_ble_eq_true rfl, Nat.le_of_ble_eq_true rfl⟩ dX3_listFor_72 (fun S72 h hw3 => ?_)
      refine xi_iinc C (L' := [(2, .int (iN (v2_58 + 1))), (0, .ref (ad 6)), (1, .ref (ad 7))]) 2 dX3_listFor_75 rfl (by decide) rfl ?_
      refine xi_goto C 58 dX3_listFor_78 (by decide) ?_
      obtain ⟨hc4, h⟩ := h
      exact xi_sub [1, 2, 0] rfl (hk58 (v2_58 + 1) S72 h hc4 hw3)
  · refine xi_sub [1, 2, 0] rfl (xW1 (fun v2_7 S7 => xR v2_7 → xval (gC D ca ad tF) S7 → xV (gC D ca ad tF) p l e ({ frames := 3, cells := 0, slots := 0, locals := 72 }) s m args below meth c A 3 Z 0 0 7 [(0, .ref (ad 6)), (1, .ref (ad 7)), (2, .int (iN v2_7))] [] S7) h (fun k7 hk7 v2_7 S7 h h_v2_7 hw7 => ?_) (by decide) hw1)
    unfold w_X3_listFor_h_L7 at h
    refine xi_iload_n C 2 dX3_listFor_7 rfl rfl ?_
    refine xi_aload_n C 0 dX3_listFor_8 rfl rfl ?_
    refine xi_getR C xK_X3 (q := 6) (r := 1) rfl 0 (by decide) (ki := 0) rfl xl_X3_15 rfl dX3_listFor_9 ?_
    refine xi_getIN C xK_X4 (q := 1) (r := 0) rfl 0 (by decide) (ki := 0) rfl xn_X3_38 rfl dX3_listFor_12 ?_
    refine xi_icmp_ge C 56 h_v2_7 (xval.i (q := 1) (i := 0) hw7 (by decide) rfl) dX3_listFor_15 (by decide) (fun z5 => ?_) (fun z5 => ?_)
    · replace h := h.1 z5
      exact xi_sub [0, 1] rfl (hj56 S7 h hw7)
    · replace h := h.2 z5
      refine xi_aload_n C 0 dX3_listFor_18 rfl rfl ?_
      refine xi_getR C xK_X3 (q := 6) (r := 1) rfl 0 (by decide) (ki := 0) rfl xl_X3_15 rfl dX3_listFor_19 ?_
      refine xi_iload_n C 2 dX3_listFor_22 rfl rfl ?_
      refine xi_aload_n C 1 dX3_listFor_23 rfl rfl ?_
      refine xi_getRN C xK_X7 (q := 7) (r := 36) rfl 1 (by decide) (ki := 1) rfl xn_X3_41 rfl dX3_listFor_24 ?_
      refine xi_iload_n C 2 dX3_listFor_27 rfl rfl ?_
      obtain ⟨hc6, h⟩ := h
      refine xi_iaload C (q := 36) rfl (by decide) hc6 dX3_listFor_28 ?_
      refine xi_iconst C (v := 2) dX3_listFor_29 rfl ?_
      refine xc_Vi C hw7 (c_X4_isMarked l D ca ad tF v2_7 (S7 36 v2_7) 2 S7 _ h_v2_7 (xval.i (q := 36) (i := v2_7) hw7 hc6.1 rfl) (by decide) h) xk_X4_isMarked xv_X4_isMarked xl_X3_46 ⟨Nat.le_of_ble_eq_true rfl, Nat.le_of_ble_eq_true rfl⟩ xK_X4 (q := 1) rfl rfl rfl (Nat.le_of_ble_eq_true rfl) ⟨Nat.le_of_ble_eq_true rfl, Nat.le_of_ble_eq_true rfl⟩ dX3_listFor_30 (fun r30 S30 h_r30 h hw7 => ?_)
      refine xi_if_eq C 50 h_r30 dX3_listFor_33 (by decide) (fun z8 => ?_) (fun z8 => ?_)
      · replace h := h.1 z8
        refine xi_iinc C (L' := [(2, .int (iN (v2_7 + 1))), (0, .ref (ad 6)), (1, .ref (ad 7))]) 2 dX3_listFor_50 rfl (by decide) rfl ?_
        refine xi_goto C 7 dX3_listFor_53 (by decide) ?_
        obtain ⟨hc9, h⟩ := h
        exact xi_sub [1, 2, 0] rfl (hk7 (v2_7 + 1) S30 h hc9 hw7)
      · replace h := h.2 z8
        refine xi_aload_n C 0 dX3_listFor_36 rfl rfl ?_
        refine xi_iload_n C 2 dX3_listFor_37 rfl rfl ?_
        refine xi_aload_n C 1 dX3_listFor_38 rfl rfl ?_
        refine xc_Vv C hw7 (c_X3_addLedBy_h l D ca ad tF v2_7 S30 _ h_v2_7 h) xk_X3_addLedBy xv_X3_addLedBy xl_X3_50 ⟨Nat.le_of_ble_eq_true rfl, Nat.le_of_ble_eq_true rfl⟩ xK_X3 (q := 6) rfl rfl rfl (Nat.le_of_ble_eq_true rfl) ⟨Nat.le_of_ble_eq_true rfl, Nat.le_of_ble_eq_true rfl⟩ dX3_listFor_39 (fun S39 h hw10 => ?_)
        refine xi_aload_n C 0 dX3_listFor_42 rfl rfl ?_
        refine xi_getI C xK_X3 (q := 6) (r := 0) rfl 2 (by decide) (ki := 2) rfl xl_X3_34 rfl dX3_listFor_43 ?_
        refine xi_if_le C 50 (xval.i (q := 6) (i := 2) hw10 (by decide) rfl) dX3_listFor_46 (by decide) (fun z11 => ?_) (fun z11 => ?_)
        · replace h := h.1 z11
          refine xi_iinc C (L' := [(2, .int (iN (v2_7 + 1))), (0, .ref (ad 6)), (1, .ref (ad 7))]) 2 dX3_listFor_50 rfl (by decide) rfl ?_
          refine xi_goto C 7 dX3_listFor_53 (by decide) ?_
          obtain ⟨hc12, h⟩ := h
          exact xi_sub [1, 2, 0] rfl (hk7 (v2_7 + 1) S39 h hc12 hw10)
        · replace h := h.2 z11
          exact xr_v C hA hZ hr hlocks dX3_listFor_49 (Nat.le_of_ble_eq_true rfl) (Nat.le_of_ble_eq_true rfl) hw10 ⟨rfl, h⟩
set_option maxRecDepth 100000 in
set_option maxHeartbeats 4000000 in
theorem c_X4_hasProcessAtNoEnd_h (l : Launch) (D : va_G) (ca : Nat → ClassId) (ad : Nat → Nat) (tF : Nat)  (S : xS) (Q : Int → xS → Prop)  (h : w_X4_hasProcessAtNoEnd_h  S Q) : xM l yX4_hasProcessAtNoEnd (xws yX4_hasProcessAtNoEnd cX4_hasProcessAtNoEnd 3 (some .boolean)) ({ frames := 1, cells := 0, slots := 0, locals := 23 }) (gC D ca ad tF) [.ref (ad 1), .ref (ad 7)] S (xQi Q) 0 0 := by
  refine xm_of RX4 rfl (by decide +kernel) (Nat.le_of_ble_eq_true rfl) ?_
  intro p e s m args below meth c A Z C hA hZ hr hlocks hw
  unfold w_X4_hasProcessAtNoEnd_h at h
  show xV (gC D ca ad tF) p l e ({ frames := 1, cells := 0, slots := 0, locals := 23 }) s m args below meth c A 3 Z 0 0 0 [(0, .ref (ad 1)), (1, .ref (ad 7))] [] S
  refine xi_iconst C (v := 0) dX4_hasProcessAtNoEnd_0 rfl ?_
  refine xi_istore_n C (L' := [(2, .int (iN 0)), (0, .ref (ad 1)), (1, .ref (ad 7))]) dX4_hasProcessAtNoEnd_1 rfl (by decide) rfl ?_
  refine xi_sub [1, 2, 0] rfl (xW1 (fun v2_2 S2 => xR v2_2 → xval (gC D ca ad tF) S2 → xV (gC D ca ad tF) p l e ({ frames := 1, cells := 0, slots := 0, locals := 23 }) s m args below meth c A 3 Z 0 0 2 [(0, .ref (ad 1)), (1, .ref (ad 7)), (2, .int (iN v2_2))] [] S2) h (fun k2 hk2 v2_2 S2 h h_v2_2 hw2 => ?_) (by decide) hw)
  unfold w_X4_hasProcessAtNoEnd_h_L2 at h
  refine xi_iload_n C 2 dX4_hasProcessAtNoEnd_2 rfl rfl ?_
  refine xi_aload_n C 0 dX4_hasProcessAtNoEnd_3 rfl rfl ?_
  refine xi_getI C xK_X4 (q := 1) (r := 0) rfl 0 (by decide) (ki := 0) rfl xl_X4_53 rfl dX4_hasProcessAtNoEnd_4 ?_
  refine xi_icmp_ge C 33 h_v2_2 (xval.i (q := 1) (i := 0) hw2 (by decide) rfl) dX4_hasProcessAtNoEnd_7 (by decide) (fun z1 => ?_) (fun z1 => ?_)
  · replace h := h.1 z1
    refine xi_iconst C (v := 0) dX4_hasProcessAtNoEnd_33 rfl ?_
    exact xr_i C hA hZ hr hlocks (xnarZ (Or.inl rfl)).1 dX4_hasProcessAtNoEnd_34 (Nat.le_of_ble_eq_true rfl) (Nat.le_of_ble_eq_true rfl) hw2 ⟨_, rfl, (by decide), h⟩
  · replace h := h.2 z1
    refine xi_aload_n C 0 dX4_hasProcessAtNoEnd_10 rfl rfl ?_
    refine xi_iload_n C 2 dX4_hasProcessAtNoEnd_11 rfl rfl ?_
    refine xi_aload_n C 1 dX4_hasProcessAtNoEnd_12 rfl rfl ?_
    refine xi_getRN C xK_X7 (q := 7) (r := 36) rfl 1 (by decide) (ki := 1) rfl xn_X4_99 rfl dX4_hasProcessAtNoEnd_13 ?_
    refine xi_iload_n C 2 dX4_hasProcessAtNoEnd_16 rfl rfl ?_
    obtain ⟨hc2, h⟩ := h
    refine xi_iaload C (q := 36) rfl (by decide) hc2 dX4_hasProcessAtNoEnd_17 ?_
    refine xi_iconst C (v := 1) dX4_hasProcessAtNoEnd_18 rfl ?_
    refine xc_Vi C hw2 (c_X4_isMarked l D ca ad tF v2_2 (S2 36 v2_2) 1 S2 _ h_v2_2 (xval.i (q := 36) (i := v2_2) hw2 hc2.1 rfl) (by decide) h) xk_X4_isMarked xv_X4_isMarked xl_X4_102 ⟨Nat.le_of_ble_eq_true rfl, Nat.le_of_ble_eq_true rfl⟩ xK_X4 (q := 1) rfl rfl rfl (Nat.le_of_ble_eq_true rfl) ⟨Nat.le_of_ble_eq_true rfl, Nat.le_of_ble_eq_true rfl⟩ dX4_hasProcessAtNoEnd_19 (fun r19 S19 h_r19 h hw3 => ?_)
    refine xi_if_ne C 27 h_r19 dX4_hasProcessAtNoEnd_22 (by decide) (fun z4 => ?_) (fun z4 => ?_)
    · replace h := h.1 z4
      refine xi_iinc C (L' := [(2, .int (iN (v2_2 + 1))), (0, .ref (ad 1)), (1, .ref (ad 7))]) 2 dX4_hasProcessAtNoEnd_27 rfl (by decide) rfl ?_
      refine xi_goto C 2 dX4_hasProcessAtNoEnd_30 (by decide) ?_
      obtain ⟨hc5, h⟩ := h
      exact xi_sub [1, 2, 0] rfl (hk2 (v2_2 + 1) S19 h hc5 hw3)
    · replace h := h.2 z4
      refine xi_iconst C (v := 1) dX4_hasProcessAtNoEnd_25 rfl ?_
      exact xr_i C hA hZ hr hlocks (xnarZ (Or.inr rfl)).1 dX4_hasProcessAtNoEnd_26 (Nat.le_of_ble_eq_true rfl) (Nat.le_of_ble_eq_true rfl) hw3 ⟨_, rfl, (by decide), h⟩
set_option maxRecDepth 100000 in
set_option maxHeartbeats 4000000 in
theorem c_X4_breaksInvariant_h (l : Launch) (D : va_G) (ca : Nat → ClassId) (ad : Nat → Nat) (tF : Nat)  (S : xS) (Q : Int → xS → Prop)  (h : w_X4_breaksInvariant_h  S Q) : xM l yX4_breaksInvariant (xws yX4_breaksInvariant cX4_breaksInvariant 3 (some .boolean)) ({ frames := 0, cells := 0, slots := 0, locals := 0 }) (gC D ca ad tF) [.ref (ad 1), .ref (ad 7)] S (xQi Q) 0 0 := by
  refine xm_of RX4 rfl (by decide +kernel) (Nat.le_of_ble_eq_true rfl) ?_
  intro p e s m args below meth c A Z C hA hZ hr hlocks hw
  unfold w_X4_breaksInvariant_h at h
  show xV (gC D ca ad tF) p l e ({ frames := 0, cells := 0, slots := 0, locals := 0 }) s m args below meth c A 3 Z 0 0 0 [(0, .ref (ad 1)), (1, .ref (ad 7))] [] S
  refine xi_iconst C (v := 0) dX4_breaksInvariant_0 rfl ?_
  refine xi_istore_n C (L' := [(2, .int (iN 0)), (0, .ref (ad 1)), (1, .ref (ad 7))]) dX4_breaksInvariant_1 rfl (by decide) rfl ?_
  refine xi_sub [1, 2, 0] rfl (xW1 (fun v2_2 S2 => xR v2_2 → xval (gC D ca ad tF) S2 → xV (gC D ca ad tF) p l e ({ frames := 0, cells := 0, slots := 0, locals := 0 }) s m args below meth c A 3 Z 0 0 2 [(0, .ref (ad 1)), (1, .ref (ad 7)), (2, .int (iN v2_2))] [] S2) h (fun k2 hk2 v2_2 S2 h h_v2_2 hw2 => ?_) (by decide) hw)
  unfold w_X4_breaksInvariant_h_L2 at h
  refine xi_iload_n C 2 dX4_breaksInvariant_2 rfl rfl ?_
  refine xi_aload_n C 0 dX4_breaksInvariant_3 rfl rfl ?_
  refine xi_getI C xK_X4 (q := 1) (r := 0) rfl 11 (by decide) (ki := 11) rfl xl_X4_71 rfl dX4_breaksInvariant_4 ?_
  refine xi_icmp_ge C 38 h_v2_2 (xval.i (q := 1) (i := 11) hw2 (by decide) rfl) dX4_breaksInvariant_7 (by decide) (fun z1 => ?_) (fun z1 => ?_)
  · replace h := h.1 z1
    refine xi_iconst C (v := 0) dX4_breaksInvariant_38 rfl ?_
    exact xr_i C hA hZ hr hlocks (xnarZ (Or.inl rfl)).1 dX4_breaksInvariant_39 (Nat.le_of_ble_eq_true rfl) (Nat.le_of_ble_eq_true rfl) hw2 ⟨_, rfl, (by decide), h⟩
  · replace h := h.2 z1
    refine xi_aload_n C 1 dX4_breaksInvariant_10 rfl rfl ?_
    refine xi_getRN C xK_X7 (q := 7) (r := 37) rfl 2 (by decide) (ki := 2) rfl xn_X4_94 rfl dX4_breaksInvariant_11 ?_
    refine xi_aload_n C 0 dX4_breaksInvariant_14 rfl rfl ?_
    refine xi_getR C xK_X4 (q := 1) (r := 19) rfl 12 (by decide) (ki := 12) rfl xl_X4_40 rfl dX4_breaksInvariant_15 ?_
    refine xi_iload_n C 2 dX4_breaksInvariant_18 rfl rfl ?_
    obtain ⟨hc2, h⟩ := h
    refine xi_iaload C (q := 19) rfl (by decide) hc2 dX4_breaksInvariant_19 ?_
    obtain ⟨hc3, h⟩ := h
    refine xi_iaload C (q := 37) rfl (by decide) hc3 dX4_breaksInvariant_20 ?_
    refine xi_aload_n C 0 dX4_breaksInvariant_21 rfl rfl ?_
    refine xi_getR C xK_X4 (q := 1) (r := 20) rfl 13 (by decide) (ki := 13) rfl xl_X4_43 rfl dX4_breaksInvariant_22 ?_
    refine xi_iload_n C 2 dX4_breaksInvariant_25 rfl rfl ?_
    refine xi_iaload C (q := 20) rfl (by decide) hc2 dX4_breaksInvariant_26 ?_
    refine xi_icmp_ne C 32 (xval.i (q := 37) (i := S2 19 v2_2) hw2 hc3.1 rfl) (xval.i (q := 20) (i := v2_2) hw2 hc2.1 rfl) dX4_breaksInvariant_27 (by decide) (fun z4 => ?_) (fun z4 => ?_)
    · replace h := h.1 z4
      refine xi_iinc C (L' := [(2, .int (iN (v2_2 + 1))), (0, .ref (ad 1)), (1, .ref (ad 7))]) 2 dX4_breaksInvariant_32 rfl (by decide) rfl ?_
      refine xi_goto C 2 dX4_breaksInvariant_35 (by decide) ?_
      obtain ⟨hc5, h⟩ := h
      exact xi_sub [1, 2, 0] rfl (hk2 (v2_2 + 1) S2 h hc5 hw2)
    · replace h := h.2 z4
      refine xi_iconst C (v := 1) dX4_breaksInvariant_30 rfl ?_
      exact xr_i C hA hZ hr hlocks (xnarZ (Or.inr rfl)).1 dX4_breaksInvariant_31 (Nat.le_of_ble_eq_true rfl) (Nat.le_of_ble_eq_true rfl) hw2 ⟨_, rfl, (by decide), h⟩
set_option maxRecDepth 100000 in
set_option maxHeartbeats 4000000 in
theorem c_X3_leadOf (l : Launch) (D : va_G) (ca : Nat → ClassId) (ad : Nat → Nat) (tF : Nat) (a0 : Int) (S : xS) (Q : Int → xS → Prop) (h_a0 : xR a0) (h : w_X3_leadOf a0 S Q) : xM l yX3_leadOf (xws yX3_leadOf cX3_leadOf 1 (some .int)) ({ frames := 0, cells := 0, slots := 0, locals := 0 }) (gC D ca ad tF) [.int (iN a0)] S (xQi Q) 0 0 := by
  refine xm_of RX3 rfl (by decide +kernel) (Nat.le_of_ble_eq_true rfl) ?_
  intro p e s m args below meth c A Z C hA hZ hr hlocks hw
  unfold w_X3_leadOf at h
  show xV (gC D ca ad tF) p l e ({ frames := 0, cells := 0, slots := 0, locals := 0 }) s m args below meth c A 1 Z 0 0 0 [(0, .int (iN a0))] [] S
  refine xi_iload_n C 0 dX3_leadOf_0 rfl rfl ?_
  refine xi_bipush C (v := 6) dX3_leadOf_1 (by decide +kernel) ?_
  refine xi_ishr C h_a0 (by decide) dX3_leadOf_3 ?_
  exact xr_i C hA hZ hr hlocks rfl dX3_leadOf_4 (Nat.le_of_ble_eq_true rfl) (Nat.le_of_ble_eq_true rfl) hw ⟨_, rfl, (xR_shr h_a0), h⟩
set_option maxRecDepth 100000 in
set_option maxHeartbeats 4000000 in
theorem c_X7_isRefuted_h (l : Launch) (D : va_G) (ca : Nat → ClassId) (ad : Nat → Nat) (tF : Nat) (a1 : Int) (S : xS) (Q : Int → xS → Prop) (h_a1 : xR a1) (h : w_X7_isRefuted_h a1 S Q) : xM l yX7_isRefuted (xws yX7_isRefuted cX7_isRefuted 3 (some .boolean)) ({ frames := 1, cells := 0, slots := 0, locals := 20 }) (gC D ca ad tF) [.ref (ad 7), .int (iN a1)] S (xQi Q) 0 0 := by
  refine xm_of RX7 rfl (by decide +kernel) (Nat.le_of_ble_eq_true rfl) ?_
  intro p e s m args below meth c A Z C hA hZ hr hlocks hw
  unfold w_X7_isRefuted_h at h
  show xV (gC D ca ad tF) p l e ({ frames := 1, cells := 0, slots := 0, locals := 20 }) s m args below meth c A 3 Z 0 0 0 [(0, .ref (ad 7)), (1, .int (iN a1))] [] S
  refine xi_iload_n C 1 dX7_isRefuted_0 rfl rfl ?_
  refine xc_Si C hw (c_X3_leadOf l D ca ad tF a1 S _ h_a1 h) xk_X3_leadOf xs_X3_leadOf xl_X7_76 ⟨Nat.le_of_ble_eq_true rfl, Nat.le_of_ble_eq_true rfl⟩ rfl rfl (Nat.le_of_ble_eq_true rfl) ⟨Nat.le_of_ble_eq_true rfl, Nat.le_of_ble_eq_true rfl⟩ dX7_isRefuted_1 (fun r1 S1 h_r1 h hw1 => ?_)
  refine xi_istore_n C (L' := [(2, .int (iN r1)), (0, .ref (ad 7)), (1, .int (iN a1))]) dX7_isRefuted_4 rfl (by decide) rfl ?_
  refine xi_aload_n C 1 dX7_isRefuted_5 rfl rfl ?_
  refine xi_getR C xK_X7 (q := 7) (r := 1) rfl 0 (by decide) (ki := 0) rfl xl_X7_27 rfl dX7_isRefuted_6 ?_
  refine xi_getRN C xK_X4 (q := 1) (r := 13) rfl 4 (by decide) (ki := 4) rfl xn_X7_66 rfl dX7_isRefuted_9 ?_
  refine xi_iload_n C 0 dX7_isRefuted_12 rfl rfl ?_
  obtain ⟨hc2, h⟩ := h
  refine xi_caload C (q := 13) rfl (by decide) hc2 dX7_isRefuted_13 ?_
  refine xi_bipush C (v := 97) dX7_isRefuted_14 (by decide +kernel) ?_
  refine xi_icmp_ne C 49 (xval.i (q := 13) (i := r1) hw1 hc2.1 rfl) (by decide) dX7_isRefuted_16 (by decide) (fun z3 => ?_) (fun z3 => ?_)
  · replace h := h.1 z3
    refine xi_iconst C (v := 0) dX7_isRefuted_49 rfl ?_
    exact xr_i C hA hZ hr hlocks (xnarZ (Or.inl rfl)).1 dX7_isRefuted_50 (Nat.le_of_ble_eq_true rfl) (Nat.le_of_ble_eq_true rfl) hw1 ⟨_, rfl, (by decide), h⟩
  · replace h := h.2 z3
    refine xi_aload_n C 1 dX7_isRefuted_19 rfl rfl ?_
    refine xi_getR C xK_X7 (q := 7) (r := 37) rfl 2 (by decide) (ki := 2) rfl xl_X7_15 rfl dX7_isRefuted_20 ?_
    refine xi_aload_n C 1 dX7_isRefuted_23 rfl rfl ?_
    refine xi_getR C xK_X7 (q := 7) (r := 1) rfl 0 (by decide) (ki := 0) rfl xl_X7_27 rfl dX7_isRefuted_24 ?_
    refine xi_getRN C xK_X4 (q := 1) (r := 14) rfl 5 (by decide) (ki := 5) rfl xn_X7_63 rfl dX7_isRefuted_27 ?_
    refine xi_iload_n C 0 dX7_isRefuted_30 rfl rfl ?_
    refine xi_iaload C (q := 14) rfl (by decide) hc2 dX7_isRefuted_31 ?_
    obtain ⟨hc4, h⟩ := h
    refine xi_iaload C (q := 37) rfl (by decide) hc4 dX7_isRefuted_32 ?_
    refine xi_aload_n C 1 dX7_isRefuted_33 rfl rfl ?_
    refine xi_getR C xK_X7 (q := 7) (r := 1) rfl 0 (by decide) (ki := 0) rfl xl_X7_27 rfl dX7_isRefuted_34 ?_
    refine xi_getRN C xK_X4 (q := 1) (r := 15) rfl 6 (by decide) (ki := 6) rfl xn_X7_70 rfl dX7_isRefuted_37 ?_
    refine xi_iload_n C 0 dX7_isRefuted_40 rfl rfl ?_
    refine xi_iaload C (q := 15) rfl (by decide) hc2 dX7_isRefuted_41 ?_
    refine xi_icmp_ne C 49 (xval.i (q := 37) (i := S1 14 r1) hw1 hc4.1 rfl) (xval.i (q := 15) (i := r1) hw1 hc2.1 rfl) dX7_isRefuted_42 (by decide) (fun z5 => ?_) (fun z5 => ?_)
    · replace h := h.1 z5
      refine xi_iconst C (v := 0) dX7_isRefuted_49 rfl ?_
      exact xr_i C hA hZ hr hlocks (xnarZ (Or.inl rfl)).1 dX7_isRefuted_50 (Nat.le_of_ble_eq_true rfl) (Nat.le_of_ble_eq_true rfl) hw1 ⟨_, rfl, (by decide), h⟩
    · replace h := h.2 z5
      refine xi_iconst C (v := 1) dX7_isRefuted_45 rfl ?_
      refine xi_goto C 50 dX7_isRefuted_46 (by decide) ?_
      exact xr_i C hA hZ hr hlocks (xnarZ (Or.inr rfl)).1 dX7_isRefuted_50 (Nat.le_of_ble_eq_true rfl) (Nat.le_of_ble_eq_true rfl) hw1 ⟨_, rfl, (by decide), h⟩
set_option maxRecDepth 100000 in
set_option maxHeartbeats 4000000 in
theorem c_X3_has (l : Launch) (D : va_G) (ca : Nat → ClassId) (ad : Nat → Nat) (tF : Nat) (a1 : Int) (S : xS) (Q : Int → xS → Prop) (h_a1 : xR a1) (h : w_X3_has a1 S Q) : xM l yX3_has (xws yX3_has cX3_has 3 (some .boolean)) ({ frames := 0, cells := 0, slots := 0, locals := 0 }) (gC D ca ad tF) [.ref (ad 6), .int (iN a1)] S (xQi Q) 0 0 := by
  refine xm_of RX3 rfl (by decide +kernel) (Nat.le_of_ble_eq_true rfl) ?_
  intro p e s m args below meth c A Z C hA hZ hr hlocks hw
  unfold w_X3_has at h
  show xV (gC D ca ad tF) p l e ({ frames := 0, cells := 0, slots := 0, locals := 0 }) s m args below meth c A 3 Z 0 0 0 [(0, .ref (ad 6)), (1, .int (iN a1))] [] S
  refine xi_iconst C (v := 0) dX3_has_0 rfl ?_
  refine xi_istore_n C (L' := [(2, .int (iN 0)), (0, .ref (ad 6)), (1, .int (iN a1))]) dX3_has_1 rfl (by decide) rfl ?_
  refine xi_sub [1, 2, 0] rfl (xW1 (fun v2_2 S2 => xR v2_2 → xval (gC D ca ad tF) S2 → xV (gC D ca ad tF) p l e ({ frames := 0, cells := 0, slots := 0, locals := 0 }) s m args below meth c A 3 Z 0 0 2 [(0, .ref (ad 6)), (1, .int (iN a1)), (2, .int (iN v2_2))] [] S2) h (fun k2 hk2 v2_2 S2 h h_v2_2 hw2 => ?_) (by decide) hw)
  unfold w_X3_has_L2 at h
  refine xi_iload_n C 2 dX3_has_2 rfl rfl ?_
  refine xi_aload_n C 0 dX3_has_3 rfl rfl ?_
  refine xi_getI C xK_X3 (q := 6) (r := 0) rfl 2 (by decide) (ki := 2) rfl xl_X3_34 rfl dX3_has_4 ?_
  refine xi_icmp_ge C 28 h_v2_2 (xval.i (q := 6) (i := 2) hw2 (by decide) rfl) dX3_has_7 (by decide) (fun z1 => ?_) (fun z1 => ?_)
  · replace h := h.1 z1
    refine xi_iconst C (v := 0) dX3_has_28 rfl ?_
    exact xr_i C hA hZ hr hlocks (xnarZ (Or.inl rfl)).1 dX3_has_29 (Nat.le_of_ble_eq_true rfl) (Nat.le_of_ble_eq_true rfl) hw2 ⟨_, rfl, (by decide), h⟩
  · replace h := h.2 z1
    refine xi_aload_n C 0 dX3_has_10 rfl rfl ?_
    refine xi_getR C xK_X3 (q := 6) (r := 35) rfl 1 (by decide) (ki := 1) rfl xl_X3_9 rfl dX3_has_11 ?_
    refine xi_iload_n C 2 dX3_has_14 rfl rfl ?_
    obtain ⟨hc2, h⟩ := h
    refine xi_iaload C (q := 35) rfl (by decide) hc2 dX3_has_15 ?_
    refine xi_iload_n C 1 dX3_has_16 rfl rfl ?_
    refine xi_icmp_ne C 22 (xval.i (q := 35) (i := v2_2) hw2 hc2.1 rfl) h_a1 dX3_has_17 (by decide) (fun z3 => ?_) (fun z3 => ?_)
    · replace h := h.1 z3
      refine xi_iinc C (L' := [(2, .int (iN (v2_2 + 1))), (0, .ref (ad 6)), (1, .int (iN a1))]) 2 dX3_has_22 rfl (by decide) rfl ?_
      refine xi_goto C 2 dX3_has_25 (by decide) ?_
      obtain ⟨hc4, h⟩ := h
      exact xi_sub [1, 2, 0] rfl (hk2 (v2_2 + 1) S2 h hc4 hw2)
    · replace h := h.2 z3
      refine xi_iconst C (v := 1) dX3_has_20 rfl ?_
      exact xr_i C hA hZ hr hlocks (xnarZ (Or.inr rfl)).1 dX3_has_21 (Nat.le_of_ble_eq_true rfl) (Nat.le_of_ble_eq_true rfl) hw2 ⟨_, rfl, (by decide), h⟩
set_option maxRecDepth 100000 in
set_option maxHeartbeats 4000000 in
theorem c_X7_copyFrom_nh (l : Launch) (D : va_G) (ca : Nat → ClassId) (ad : Nat → Nat) (tF : Nat)  (S : xS) (Q : xS → Prop)  (h : w_X7_copyFrom_nh  S Q) : xM l yX7_copyFrom (xws yX7_copyFrom cX7_copyFrom 2 (none)) ({ frames := 1, cells := 0, slots := 0, locals := 60 }) (gC D ca ad tF) [.ref (ad 8), .ref (ad 7)] S (xQv Q) 0 0 := by
  refine xm_of RX7 rfl (by decide +kernel) (Nat.le_of_ble_eq_true rfl) ?_
  intro p e s m args below meth c A Z C hA hZ hr hlocks hw
  unfold w_X7_copyFrom_nh at h
  show xV (gC D ca ad tF) p l e ({ frames := 1, cells := 0, slots := 0, locals := 60 }) s m args below meth c A 2 Z 0 0 0 [(0, .ref (ad 8)), (1, .ref (ad 7))] [] S
  refine xi_aload_n C 1 dX7_copyFrom_0 rfl rfl ?_
  refine xi_getR C xK_X7 (q := 7) (r := 36) rfl 1 (by decide) (ki := 1) rfl xl_X7_9 rfl dX7_copyFrom_1 ?_
  refine xi_iconst C (v := 0) dX7_copyFrom_4 rfl ?_
  refine xi_aload_n C 0 dX7_copyFrom_5 rfl rfl ?_
  refine xi_getR C xK_X7 (q := 8) (r := 41) rfl 1 (by decide) (ki := 1) rfl xl_X7_9 rfl dX7_copyFrom_6 ?_
  refine xi_iconst C (v := 0) dX7_copyFrom_9 rfl ?_
  refine xi_iconst C (v := 3) dX7_copyFrom_10 rfl ?_
  refine xi_acopy C (ni := 3) rfl xl_X7_42 xacw (q0 := 36) (q1 := 41) (n0 := 3) (n1 := 3) (n := 3) rfl rfl (by decide) ⟨Nat.le_of_ble_eq_true rfl, Nat.le_of_ble_eq_true rfl⟩ dX7_copyFrom_11 ?_
  have hw1 := xval.copy (q0 := 36) (q1 := 41) (n := 3) hw (fun _ => rfl) (fun _ => rfl)
  refine xi_aload_n C 1 dX7_copyFrom_14 rfl rfl ?_
  refine xi_getR C xK_X7 (q := 7) (r := 37) rfl 2 (by decide) (ki := 2) rfl xl_X7_15 rfl dX7_copyFrom_15 ?_
  refine xi_iconst C (v := 0) dX7_copyFrom_18 rfl ?_
  refine xi_aload_n C 0 dX7_copyFrom_19 rfl rfl ?_
  refine xi_getR C xK_X7 (q := 8) (r := 42) rfl 2 (by decide) (ki := 2) rfl xl_X7_15 rfl dX7_copyFrom_20 ?_
  refine xi_iconst C (v := 0) dX7_copyFrom_23 rfl ?_
  refine xi_bipush C (v := 9) dX7_copyFrom_24 (by decide +kernel) ?_
  refine xi_acopy C (ni := 9) rfl xl_X7_42 xacw (q0 := 37) (q1 := 42) (n0 := 9) (n1 := 9) (n := 9) rfl rfl (by decide) ⟨Nat.le_of_ble_eq_true rfl, Nat.le_of_ble_eq_true rfl⟩ dX7_copyFrom_26 ?_
  have hw2 := xval.copy (q0 := 37) (q1 := 42) (n := 9) hw1 (fun _ => rfl) (fun _ => rfl)
  refine xi_aload_n C 1 dX7_copyFrom_29 rfl rfl ?_
  refine xi_getR C xK_X7 (q := 7) (r := 38) rfl 3 (by decide) (ki := 3) rfl xl_X7_18 rfl dX7_copyFrom_30 ?_
  refine xi_iconst C (v := 0) dX7_copyFrom_33 rfl ?_
  refine xi_aload_n C 0 dX7_copyFrom_34 rfl rfl ?_
  refine xi_getR C xK_X7 (q := 8) (r := 43) rfl 3 (by decide) (ki := 3) rfl xl_X7_18 rfl dX7_copyFrom_35 ?_
  refine xi_iconst C (v := 0) dX7_copyFrom_38 rfl ?_
  refine xi_iconst C (v := 2) dX7_copyFrom_39 rfl ?_
  refine xi_acopy C (ni := 2) rfl xl_X7_42 xacw (q0 := 38) (q1 := 43) (n0 := 2) (n1 := 2) (n := 2) rfl rfl (by decide) ⟨Nat.le_of_ble_eq_true rfl, Nat.le_of_ble_eq_true rfl⟩ dX7_copyFrom_40 ?_
  have hw3 := xval.copy (q0 := 38) (q1 := 43) (n := 2) hw2 (fun _ => rfl) (fun _ => rfl)
  refine xi_aload_n C 1 dX7_copyFrom_43 rfl rfl ?_
  refine xi_getR C xK_X7 (q := 7) (r := 39) rfl 4 (by decide) (ki := 4) rfl xl_X7_21 rfl dX7_copyFrom_44 ?_
  refine xi_iconst C (v := 0) dX7_copyFrom_47 rfl ?_
  refine xi_aload_n C 0 dX7_copyFrom_48 rfl rfl ?_
  refine xi_getR C xK_X7 (q := 8) (r := 44) rfl 4 (by decide) (ki := 4) rfl xl_X7_21 rfl dX7_copyFrom_49 ?_
  refine xi_iconst C (v := 0) dX7_copyFrom_52 rfl ?_
  refine xi_iconst C (v := 2) dX7_copyFrom_53 rfl ?_
  refine xi_acopy C (ni := 2) rfl xl_X7_42 xacw (q0 := 39) (q1 := 44) (n0 := 2) (n1 := 2) (n := 2) rfl rfl (by decide) ⟨Nat.le_of_ble_eq_true rfl, Nat.le_of_ble_eq_true rfl⟩ dX7_copyFrom_54 ?_
  have hw4 := xval.copy (q0 := 39) (q1 := 44) (n := 2) hw3 (fun _ => rfl) (fun _ => rfl)
  refine xi_aload_n C 1 dX7_copyFrom_57 rfl rfl ?_
  refine xi_getR C xK_X7 (q := 7) (r := 40) rfl 5 (by decide) (ki := 5) rfl xl_X7_24 rfl dX7_copyFrom_58 ?_
  refine xi_iconst C (v := 0) dX7_copyFrom_61 rfl ?_
  refine xi_aload_n C 0 dX7_copyFrom_62 rfl rfl ?_
  refine xi_getR C xK_X7 (q := 8) (r := 45) rfl 5 (by decide) (ki := 5) rfl xl_X7_24 rfl dX7_copyFrom_63 ?_
  refine xi_iconst C (v := 0) dX7_copyFrom_66 rfl ?_
  refine xi_iconst C (v := 2) dX7_copyFrom_67 rfl ?_
  refine xi_acopy C (ni := 2) rfl xl_X7_42 xacw (q0 := 40) (q1 := 45) (n0 := 2) (n1 := 2) (n := 2) rfl rfl (by decide) ⟨Nat.le_of_ble_eq_true rfl, Nat.le_of_ble_eq_true rfl⟩ dX7_copyFrom_68 ?_
  have hw5 := xval.copy (q0 := 40) (q1 := 45) (n := 2) hw4 (fun _ => rfl) (fun _ => rfl)
  exact xr_v C hA hZ hr hlocks dX7_copyFrom_71 (Nat.le_of_ble_eq_true rfl) (Nat.le_of_ble_eq_true rfl) hw5 ⟨rfl, h⟩
set_option maxRecDepth 100000 in
set_option maxHeartbeats 4000000 in
theorem c_X3_partnerOf (l : Launch) (D : va_G) (ca : Nat → ClassId) (ad : Nat → Nat) (tF : Nat) (a0 : Int) (S : xS) (Q : Int → xS → Prop) (h_a0 : xR a0) (h : w_X3_partnerOf a0 S Q) : xM l yX3_partnerOf (xws yX3_partnerOf cX3_partnerOf 1 (some .int)) ({ frames := 0, cells := 0, slots := 0, locals := 0 }) (gC D ca ad tF) [.int (iN a0)] S (xQi Q) 0 0 := by
  refine xm_of RX3 rfl (by decide +kernel) (Nat.le_of_ble_eq_true rfl) ?_
  intro p e s m args below meth c A Z C hA hZ hr hlocks hw
  unfold w_X3_partnerOf at h
  show xV (gC D ca ad tF) p l e ({ frames := 0, cells := 0, slots := 0, locals := 0 }) s m args below meth c A 1 Z 0 0 0 [(0, .int (iN a0))] [] S
  refine xi_iload_n C 0 dX3_partnerOf_0 rfl rfl ?_
  refine xi_bipush C (v := 63) dX3_partnerOf_1 (by decide +kernel) ?_
  refine xi_iand C dX3_partnerOf_3 ?_
  refine xi_iconst C (v := 1) dX3_partnerOf_4 rfl ?_
  refine xi_isub C dX3_partnerOf_5 ?_
  obtain ⟨hc1, h⟩ := h
  exact xr_i C hA hZ hr hlocks rfl dX3_partnerOf_6 (Nat.le_of_ble_eq_true rfl) (Nat.le_of_ble_eq_true rfl) hw ⟨_, rfl, hc1, h⟩
set_option maxRecDepth 100000 in
set_option maxHeartbeats 4000000 in
theorem c_X7_doAlone_n (l : Launch) (D : va_G) (ca : Nat → ClassId) (ad : Nat → Nat) (tF : Nat) (a1 : Int) (S : xS) (Q : xS → Prop) (h_a1 : xR a1) (h : w_X7_doAlone_n a1 S Q) : xM l yX7_doAlone (xws yX7_doAlone cX7_doAlone 4 (none)) ({ frames := 0, cells := 0, slots := 0, locals := 0 }) (gC D ca ad tF) [.ref (ad 8), .int (iN a1)] S (xQv Q) 0 0 := by
  refine xm_of RX7 rfl (by decide +kernel) (Nat.le_of_ble_eq_true rfl) ?_
  intro p e s m args below meth c A Z C hA hZ hr hlocks hw
  unfold w_X7_doAlone_n at h
  show xV (gC D ca ad tF) p l e ({ frames := 0, cells := 0, slots := 0, locals := 0 }) s m args below meth c A 4 Z 0 0 0 [(0, .ref (ad 8)), (1, .int (iN a1))] [] S
  refine xi_aload_n C 0 dX7_doAlone_0 rfl rfl ?_
  refine xi_getR C xK_X7 (q := 8) (r := 1) rfl 0 (by decide) (ki := 0) rfl xl_X7_27 rfl dX7_doAlone_1 ?_
  refine xi_getRN C xK_X4 (q := 1) (r := 14) rfl 5 (by decide) (ki := 5) rfl xn_X7_63 rfl dX7_doAlone_4 ?_
  refine xi_iload_n C 1 dX7_doAlone_7 rfl rfl ?_
  obtain ⟨hc1, h⟩ := h
  refine xi_iaload C (q := 14) rfl (by decide) hc1 dX7_doAlone_8 ?_
  refine xi_istore_n C (L' := [(2, .int (iN (S 14 a1))), (0, .ref (ad 8)), (1, .int (iN a1))]) dX7_doAlone_9 rfl (by decide) rfl ?_
  refine xi_aload_n C 1 dX7_doAlone_10 rfl rfl ?_
  refine xi_getR C xK_X7 (q := 8) (r := 1) rfl 0 (by decide) (ki := 0) rfl xl_X7_27 rfl dX7_doAlone_11 ?_
  refine xi_getRN C xK_X4 (q := 1) (r := 15) rfl 6 (by decide) (ki := 6) rfl xn_X7_70 rfl dX7_doAlone_14 ?_
  refine xi_iload_n C 2 dX7_doAlone_17 rfl rfl ?_
  refine xi_iaload C (q := 15) rfl (by decide) hc1 dX7_doAlone_18 ?_
  refine xi_istore_n C (L' := [(3, .int (iN (S 15 a1))), (2, .int (iN (S 14 a1))), (0, .ref (ad 8)), (1, .int (iN a1))]) dX7_doAlone_19 rfl (by decide) rfl ?_
  refine xi_aload_n C 2 dX7_doAlone_20 rfl rfl ?_
  refine xi_getR C xK_X7 (q := 8) (r := 1) rfl 0 (by decide) (ki := 0) rfl xl_X7_27 rfl dX7_doAlone_21 ?_
  refine xi_getRN C xK_X4 (q := 1) (r := 13) rfl 4 (by decide) (ki := 4) rfl xn_X7_66 rfl dX7_doAlone_24 ?_
  refine xi_iload_n C 3 dX7_doAlone_27 rfl rfl ?_
  refine xi_caload C (q := 13) rfl (by decide) hc1 dX7_doAlone_28 ?_
  by_cases z2 : ((S 13 a1) = 105)
  · replace h := h.1 z2
    refine xi_lookup C (off := 53) 82 (xval.i (q := 13) (i := a1) hw hc1.1 rfl) dX7_doAlone_29 (by decide +kernel) (by rw [z2]; decide +kernel) (by decide) ?_
    refine xi_aload_n C 2 dX7_doAlone_82 rfl rfl ?_
    refine xi_getR C xK_X7 (q := 8) (r := 42) rfl 2 (by decide) (ki := 2) rfl xl_X7_15 rfl dX7_doAlone_83 ?_
    refine xi_iload_n C 1 dX7_doAlone_86 rfl rfl ?_
    refine xi_aload_n C 2 dX7_doAlone_87 rfl rfl ?_
    refine xi_getR C xK_X7 (q := 8) (r := 42) rfl 2 (by decide) (ki := 2) rfl xl_X7_15 rfl dX7_doAlone_88 ?_
    refine xi_iload_n C 1 dX7_doAlone_91 rfl rfl ?_
    obtain ⟨hc6, h⟩ := h
    refine xi_iaload C (q := 42) rfl (by decide) hc6 dX7_doAlone_92 ?_
    refine xi_iload_n C 0 dX7_doAlone_93 rfl rfl ?_
    refine xi_iadd C dX7_doAlone_94 ?_
    refine xi_iconst C (v := 4) dX7_doAlone_95 rfl ?_
    obtain ⟨hc7, h⟩ := h
    obtain ⟨hc8, h⟩ := h
    refine xi_irem C hc7 hc8 (by decide) (by decide) dX7_doAlone_96 ?_
    refine xi_iastore C (q := 42) rfl (by decide) hc6 dX7_doAlone_97 ?_
    have hw9 := xval.up (q := 42) (i := S 14 a1) (v := ((S 42 (S 14 a1)) + (S 15 a1)) % 4) hw rfl (xR_mod hc7 hc8 (by decide) (by decide))
    refine xi_goto C 194 dX7_doAlone_98 (by decide) ?_
    exact xr_v C hA hZ hr hlocks dX7_doAlone_194 (Nat.le_of_ble_eq_true rfl) (Nat.le_of_ble_eq_true rfl) hw9 ⟨rfl, h⟩
  · by_cases z3 : ((S 13 a1) = 114)
    · replace h := h.2.1 z3
      refine xi_lookup C (off := 121) 150 (xval.i (q := 13) (i := a1) hw hc1.1 rfl) dX7_doAlone_29 (by decide +kernel) (by rw [z3]; decide +kernel) (by decide) ?_
      refine xi_aload_n C 2 dX7_doAlone_150 rfl rfl ?_
      refine xi_getR C xK_X7 (q := 8) (r := 42) rfl 2 (by decide) (ki := 2) rfl xl_X7_15 rfl dX7_doAlone_151 ?_
      refine xi_iload_n C 0 dX7_doAlone_154 rfl rfl ?_
      refine xi_aload_n C 2 dX7_doAlone_155 rfl rfl ?_
      refine xi_getR C xK_X7 (q := 8) (r := 44) rfl 4 (by decide) (ki := 4) rfl xl_X7_21 rfl dX7_doAlone_156 ?_
      refine xi_iload_n C 1 dX7_doAlone_159 rfl rfl ?_
      obtain ⟨hc10, h⟩ := h
      refine xi_iaload C (q := 44) rfl (by decide) hc10 dX7_doAlone_160 ?_
      obtain ⟨hc11, h⟩ := h
      refine xi_iastore C (q := 42) rfl (by decide) hc11 dX7_doAlone_161 ?_
      have hw12 := xval.up (q := 42) (i := S 15 a1) (v := S 44 (S 14 a1)) hw rfl (xval.i (q := 44) (i := S 14 a1) hw hc10.1 rfl)
      refine xi_aload_n C 2 dX7_doAlone_162 rfl rfl ?_
      refine xi_getR C xK_X7 (q := 8) (r := 44) rfl 4 (by decide) (ki := 4) rfl xl_X7_21 rfl dX7_doAlone_163 ?_
      refine xi_iload_n C 1 dX7_doAlone_166 rfl rfl ?_
      refine xi_aload_n C 2 dX7_doAlone_167 rfl rfl ?_
      refine xi_getR C xK_X7 (q := 8) (r := 45) rfl 5 (by decide) (ki := 5) rfl xl_X7_24 rfl dX7_doAlone_168 ?_
      refine xi_iload_n C 1 dX7_doAlone_171 rfl rfl ?_
      refine xi_iaload C (q := 45) rfl (by decide) hc10 dX7_doAlone_172 ?_
      refine xi_iastore C (q := 44) rfl (by decide) hc10 dX7_doAlone_173 ?_
      have hw13 := xval.up (q := 44) (i := S 14 a1) (v := S 45 (S 14 a1)) hw12 rfl (xval.i (q := 45) (i := S 14 a1) hw12 hc10.1 rfl)
      refine xi_aload_n C 2 dX7_doAlone_174 rfl rfl ?_
      refine xi_getR C xK_X7 (q := 8) (r := 45) rfl 5 (by decide) (ki := 5) rfl xl_X7_24 rfl dX7_doAlone_175 ?_
      refine xi_iload_n C 1 dX7_doAlone_178 rfl rfl ?_
      refine xi_iconst C (v := 0) dX7_doAlone_179 rfl ?_
      refine xi_iastore C (q := 45) rfl (by decide) hc10 dX7_doAlone_180 ?_
      have hw14 := xval.up (q := 45) (i := S 14 a1) (v := 0) hw13 rfl (by decide)
      refine xi_aload_n C 2 dX7_doAlone_181 rfl rfl ?_
      refine xi_getR C xK_X7 (q := 8) (r := 43) rfl 3 (by decide) (ki := 3) rfl xl_X7_18 rfl dX7_doAlone_182 ?_
      refine xi_iload_n C 1 dX7_doAlone_185 rfl rfl ?_
      refine xi_dup2 C dX7_doAlone_186 rfl rfl ?_
      refine xi_iaload C (q := 43) rfl (by decide) hc10 dX7_doAlone_187 ?_
      refine xi_iconst C (v := 1) dX7_doAlone_188 rfl ?_
      refine xi_isub C dX7_doAlone_189 ?_
      obtain ⟨hc15, h⟩ := h
      refine xi_iastore C (q := 43) rfl (by decide) hc10 dX7_doAlone_190 ?_
      have hw16 := xval.up (q := 43) (i := S 14 a1) (v := (S 43 (S 14 a1)) - 1) hw14 rfl hc15
      refine xi_goto C 194 dX7_doAlone_191 (by decide) ?_
      exact xr_v C hA hZ hr hlocks dX7_doAlone_194 (Nat.le_of_ble_eq_true rfl) (Nat.le_of_ble_eq_true rfl) hw16 ⟨rfl, h⟩
    · by_cases z4 : ((S 13 a1) = 115)
      · replace h := h.2.2.1 z4
        refine xi_lookup C (off := 43) 72 (xval.i (q := 13) (i := a1) hw hc1.1 rfl) dX7_doAlone_29 (by decide +kernel) (by rw [z4]; decide +kernel) (by decide) ?_
        refine xi_aload_n C 2 dX7_doAlone_72 rfl rfl ?_
        refine xi_getR C xK_X7 (q := 8) (r := 42) rfl 2 (by decide) (ki := 2) rfl xl_X7_15 rfl dX7_doAlone_73 ?_
        refine xi_iload_n C 1 dX7_doAlone_76 rfl rfl ?_
        refine xi_iload_n C 0 dX7_doAlone_77 rfl rfl ?_
        obtain ⟨hc17, h⟩ := h
        refine xi_iastore C (q := 42) rfl (by decide) hc17 dX7_doAlone_78 ?_
        have hw18 := xval.up (q := 42) (i := S 14 a1) (v := S 15 a1) hw rfl (xval.i (q := 15) (i := a1) hw hc1.1 rfl)
        refine xi_goto C 194 dX7_doAlone_79 (by decide) ?_
        exact xr_v C hA hZ hr hlocks dX7_doAlone_194 (Nat.le_of_ble_eq_true rfl) (Nat.le_of_ble_eq_true rfl) hw18 ⟨rfl, h⟩
      · by_cases z5 : ((S 13 a1) = 119)
        · replace h := h.2.2.2.1 z5
          refine xi_lookup C (off := 72) 101 (xval.i (q := 13) (i := a1) hw hc1.1 rfl) dX7_doAlone_29 (by decide +kernel) (by rw [z5]; decide +kernel) (by decide) ?_
          refine xi_aload_n C 2 dX7_doAlone_101 rfl rfl ?_
          refine xi_getR C xK_X7 (q := 8) (r := 43) rfl 3 (by decide) (ki := 3) rfl xl_X7_18 rfl dX7_doAlone_102 ?_
          refine xi_iload_n C 1 dX7_doAlone_105 rfl rfl ?_
          obtain ⟨hc19, h⟩ := h
          refine xi_iaload C (q := 43) rfl (by decide) hc19 dX7_doAlone_106 ?_
          refine xJ0_w (fun  S137 => xval (gC D ca ad tF) S137 → xV (gC D ca ad tF) p l e ({ frames := 0, cells := 0, slots := 0, locals := 0 }) s m args below meth c A 4 Z 0 0 137 [(0, .ref (ad 8)), (2, .int (iN (S 14 a1)))] [] S137) h (fun  S137 h  hw137 => ?_) (fun j137 hj137 h => ?_)
          · unfold w_X7_doAlone_n_J137 at h
            refine xi_aload_n C 0 dX7_doAlone_137 rfl rfl ?_
            refine xi_getR C xK_X7 (q := 8) (r := 43) rfl 3 (by decide) (ki := 3) rfl xl_X7_18 rfl dX7_doAlone_138 ?_
            refine xi_iload_n C 1 dX7_doAlone_141 rfl rfl ?_
            refine xi_dup2 C dX7_doAlone_142 rfl rfl ?_
            refine xi_iaload C (q := 43) rfl (by decide) hc19 dX7_doAlone_143 ?_
            refine xi_iconst C (v := 1) dX7_doAlone_144 rfl ?_
            refine xi_iadd C dX7_doAlone_145 ?_
            obtain ⟨hc21, h⟩ := h
            refine xi_iastore C (q := 43) rfl (by decide) hc19 dX7_doAlone_146 ?_
            have hw22 := xval.up (q := 43) (i := S 14 a1) (v := (S137 43 (S 14 a1)) + 1) hw137 rfl hc21
            refine xi_goto C 194 dX7_doAlone_147 (by decide) ?_
            exact xr_v C hA hZ hr hlocks dX7_doAlone_194 (Nat.le_of_ble_eq_true rfl) (Nat.le_of_ble_eq_true rfl) hw22 ⟨rfl, h⟩
          · refine xi_if_ne C 125 (xval.i (q := 43) (i := S 14 a1) hw hc19.1 rfl) dX7_doAlone_107 (by decide) (fun z20 => ?_) (fun z20 => ?_)
            · replace h := h.1 z20
              refine xi_aload_n C 2 dX7_doAlone_125 rfl rfl ?_
              refine xi_getR C xK_X7 (q := 8) (r := 45) rfl 5 (by decide) (ki := 5) rfl xl_X7_24 rfl dX7_doAlone_126 ?_
              refine xi_iload_n C 1 dX7_doAlone_129 rfl rfl ?_
              refine xi_aload_n C 2 dX7_doAlone_130 rfl rfl ?_
              refine xi_getR C xK_X7 (q := 8) (r := 42) rfl 2 (by decide) (ki := 2) rfl xl_X7_15 rfl dX7_doAlone_131 ?_
              refine xi_iload_n C 0 dX7_doAlone_134 rfl rfl ?_
              obtain ⟨hc23, h⟩ := h
              refine xi_iaload C (q := 42) rfl (by decide) hc23 dX7_doAlone_135 ?_
              refine xi_iastore C (q := 45) rfl (by decide) hc19 dX7_doAlone_136 ?_
              have hw24 := xval.up (q := 45) (i := S 14 a1) (v := S 42 (S 15 a1)) hw rfl (xval.i (q := 42) (i := S 15 a1) hw hc23.1 rfl)
              exact xi_sub [2, 1] rfl (hj137 (xup S 45 (S 14 a1) (S 42 (S 15 a1))) h hw24)
            · replace h := h.2 z20
              refine xi_aload_n C 2 dX7_doAlone_110 rfl rfl ?_
              refine xi_getR C xK_X7 (q := 8) (r := 44) rfl 4 (by decide) (ki := 4) rfl xl_X7_21 rfl dX7_doAlone_111 ?_
              refine xi_iload_n C 1 dX7_doAlone_114 rfl rfl ?_
              refine xi_aload_n C 2 dX7_doAlone_115 rfl rfl ?_
              refine xi_getR C xK_X7 (q := 8) (r := 42) rfl 2 (by decide) (ki := 2) rfl xl_X7_15 rfl dX7_doAlone_116 ?_
              refine xi_iload_n C 0 dX7_doAlone_119 rfl rfl ?_
              obtain ⟨hc25, h⟩ := h
              refine xi_iaload C (q := 42) rfl (by decide) hc25 dX7_doAlone_120 ?_
              refine xi_iastore C (q := 44) rfl (by decide) hc19 dX7_doAlone_121 ?_
              have hw26 := xval.up (q := 44) (i := S 14 a1) (v := S 42 (S 15 a1)) hw rfl (xval.i (q := 42) (i := S 15 a1) hw hc25.1 rfl)
              refine xi_goto C 137 dX7_doAlone_122 (by decide) ?_
              exact xi_sub [2, 1] rfl (hj137 (xup S 44 (S 14 a1) (S 42 (S 15 a1))) h hw26)
        · replace h := h.2.2.2.2 z2 z3 z4 z5
          refine xi_lookup C (off := 165) 194 (xval.i (q := 13) (i := a1) hw hc1.1 rfl) dX7_doAlone_29 (by decide +kernel) (by rw [xsw_none _ _ _ (by simp; omega)]) (by decide) ?_
          exact xr_v C hA hZ hr hlocks dX7_doAlone_194 (Nat.le_of_ble_eq_true rfl) (Nat.le_of_ble_eq_true rfl) hw ⟨rfl, h⟩
set_option maxRecDepth 100000 in
set_option maxHeartbeats 4000000 in
theorem c_X7_doMove_n (l : Launch) (D : va_G) (ca : Nat → ClassId) (ad : Nat → Nat) (tF : Nat) (a1 : Int) (S : xS) (Q : xS → Prop) (h_a1 : xR a1) (h : w_X7_doMove_n a1 S Q) : xM l yX7_doMove (xws yX7_doMove cX7_doMove 4 (none)) ({ frames := 1, cells := 0, slots := 0, locals := 23 }) (gC D ca ad tF) [.ref (ad 8), .int (iN a1)] S (xQv Q) 0 0 := by
  refine xm_of RX7 rfl (by decide +kernel) (Nat.le_of_ble_eq_true rfl) ?_
  intro p e s m args below meth c A Z C hA hZ hr hlocks hw
  unfold w_X7_doMove_n at h
  show xV (gC D ca ad tF) p l e ({ frames := 1, cells := 0, slots := 0, locals := 23 }) s m args below meth c A 4 Z 0 0 0 [(0, .ref (ad 8)), (1, .int (iN a1))] [] S
  refine xi_iload_n C 1 dX7_doMove_0 rfl rfl ?_
  refine xc_Si C hw (c_X3_leadOf l D ca ad tF a1 S _ h_a1 h) xk_X3_leadOf xs_X3_leadOf xl_X7_76 ⟨Nat.le_of_ble_eq_true rfl, Nat.le_of_ble_eq_true rfl⟩ rfl rfl (Nat.le_of_ble_eq_true rfl) ⟨Nat.le_of_ble_eq_true rfl, Nat.le_of_ble_eq_true rfl⟩ dX7_doMove_1 (fun r1 S1 h_r1 h hw1 => ?_)
  refine xi_istore_n C (L' := [(2, .int (iN r1)), (0, .ref (ad 8)), (1, .int (iN a1))]) dX7_doMove_4 rfl (by decide) rfl ?_
  refine xi_iload_n C 2 dX7_doMove_5 rfl rfl ?_
  refine xc_Si C hw1 (c_X3_partnerOf l D ca ad tF a1 S1 _ h_a1 h) xk_X3_partnerOf xs_X3_partnerOf xl_X7_81 ⟨Nat.le_of_ble_eq_true rfl, Nat.le_of_ble_eq_true rfl⟩ rfl rfl (Nat.le_of_ble_eq_true rfl) ⟨Nat.le_of_ble_eq_true rfl, Nat.le_of_ble_eq_true rfl⟩ dX7_doMove_6 (fun r6 S6 h_r6 h hw2 => ?_)
  refine xi_istore_n C (L' := [(3, .int (iN r6)), (2, .int (iN r1)), (0, .ref (ad 8)), (1, .int (iN a1))]) dX7_doMove_9 rfl (by decide) rfl ?_
  refine xi_iload_n C 0 dX7_doMove_10 rfl rfl ?_
  refine xi_iconst C (v := (-1)) dX7_doMove_11 rfl ?_
  refine xJ0_w (fun  S69 => xval (gC D ca ad tF) S69 → xV (gC D ca ad tF) p l e ({ frames := 1, cells := 0, slots := 0, locals := 23 }) s m args below meth c A 4 Z 0 0 69 [(0, .ref (ad 8)), (2, .int (iN r1))] [] S69) h (fun  S69 h  hw69 => ?_) (fun j69 hj69 h => ?_)
  · unfold w_X7_doMove_n_J69 at h
    refine xi_aload_n C 0 dX7_doMove_69 rfl rfl ?_
    refine xi_getR C xK_X7 (q := 8) (r := 41) rfl 1 (by decide) (ki := 1) rfl xl_X7_9 rfl dX7_doMove_70 ?_
    refine xi_iload_n C 1 dX7_doMove_73 rfl rfl ?_
    refine xc_Si C hw69 (c_X4_processOf l D ca ad tF r1 S69 _ h_r1 h) xk_X4_processOf xs_X4_processOf xl_X7_88 ⟨Nat.le_of_ble_eq_true rfl, Nat.le_of_ble_eq_true rfl⟩ rfl rfl (Nat.le_of_ble_eq_true rfl) ⟨Nat.le_of_ble_eq_true rfl, Nat.le_of_ble_eq_true rfl⟩ dX7_doMove_74 (fun r74 S74 h_r74 h hw4 => ?_)
    refine xi_aload_n C 0 dX7_doMove_77 rfl rfl ?_
    refine xi_getR C xK_X7 (q := 8) (r := 1) rfl 0 (by decide) (ki := 0) rfl xl_X7_27 rfl dX7_doMove_78 ?_
    refine xi_getRN C xK_X4 (q := 1) (r := 12) rfl 3 (by decide) (ki := 3) rfl xn_X7_91 rfl dX7_doMove_81 ?_
    refine xi_iload_n C 1 dX7_doMove_84 rfl rfl ?_
    obtain ⟨hc5, h⟩ := h
    refine xi_iaload C (q := 12) rfl (by decide) hc5 dX7_doMove_85 ?_
    obtain ⟨hc6, h⟩ := h
    refine xi_iastore C (q := 41) rfl (by decide) hc6 dX7_doMove_86 ?_
    have hw7 := xval.up (q := 41) (i := r74) (v := S74 12 r1) hw4 rfl (xval.i (q := 12) (i := r1) hw4 hc5.1 rfl)
    exact xr_v C hA hZ hr hlocks dX7_doMove_87 (Nat.le_of_ble_eq_true rfl) (Nat.le_of_ble_eq_true rfl) hw7 ⟨rfl, h⟩
  · refine xi_icmp_ne C 23 h_r6 (by decide) dX7_doMove_12 (by decide) (fun z3 => ?_) (fun z3 => ?_)
    · replace h := h.1 z3
      refine xi_aload_n C 2 dX7_doMove_23 rfl rfl ?_
      refine xi_getR C xK_X7 (q := 8) (r := 42) rfl 2 (by decide) (ki := 2) rfl xl_X7_15 rfl dX7_doMove_24 ?_
      refine xi_aload_n C 2 dX7_doMove_27 rfl rfl ?_
      refine xi_getR C xK_X7 (q := 8) (r := 1) rfl 0 (by decide) (ki := 0) rfl xl_X7_27 rfl dX7_doMove_28 ?_
      refine xi_getRN C xK_X4 (q := 1) (r := 15) rfl 6 (by decide) (ki := 6) rfl xn_X7_70 rfl dX7_doMove_31 ?_
      refine xi_iload_n C 0 dX7_doMove_34 rfl rfl ?_
      obtain ⟨hc8, h⟩ := h
      refine xi_iaload C (q := 15) rfl (by decide) hc8 dX7_doMove_35 ?_
      refine xi_aload_n C 2 dX7_doMove_36 rfl rfl ?_
      refine xi_getR C xK_X7 (q := 8) (r := 42) rfl 2 (by decide) (ki := 2) rfl xl_X7_15 rfl dX7_doMove_37 ?_
      refine xi_aload_n C 2 dX7_doMove_40 rfl rfl ?_
      refine xi_getR C xK_X7 (q := 8) (r := 1) rfl 0 (by decide) (ki := 0) rfl xl_X7_27 rfl dX7_doMove_41 ?_
      refine xi_getRN C xK_X4 (q := 1) (r := 15) rfl 6 (by decide) (ki := 6) rfl xn_X7_70 rfl dX7_doMove_44 ?_
      refine xi_iload_n C 1 dX7_doMove_47 rfl rfl ?_
      obtain ⟨hc9, h⟩ := h
      refine xi_iaload C (q := 15) rfl (by decide) hc9 dX7_doMove_48 ?_
      obtain ⟨hc10, h⟩ := h
      refine xi_iaload C (q := 42) rfl (by decide) hc10 dX7_doMove_49 ?_
      obtain ⟨hc11, h⟩ := h
      refine xi_iastore C (q := 42) rfl (by decide) hc11 dX7_doMove_50 ?_
      have hw12 := xval.up (q := 42) (i := S6 15 r6) (v := S6 42 (S6 15 r1)) hw2 rfl (xval.i (q := 42) (i := S6 15 r1) hw2 hc10.1 rfl)
      refine xi_aload_n C 2 dX7_doMove_51 rfl rfl ?_
      refine xi_getR C xK_X7 (q := 8) (r := 41) rfl 1 (by decide) (ki := 1) rfl xl_X7_9 rfl dX7_doMove_52 ?_
      refine xi_iload_n C 0 dX7_doMove_55 rfl rfl ?_
      refine xc_Si C hw12 (c_X4_processOf l D ca ad tF r6 (xup S6 42 (S6 15 r6) (S6 42 (S6 15 r1))) _ h_r6 h) xk_X4_processOf xs_X4_processOf xl_X7_88 ⟨Nat.le_of_ble_eq_true rfl, Nat.le_of_ble_eq_true rfl⟩ rfl rfl (Nat.le_of_ble_eq_true rfl) ⟨Nat.le_of_ble_eq_true rfl, Nat.le_of_ble_eq_true rfl⟩ dX7_doMove_56 (fun r56 S56 h_r56 h hw13 => ?_)
      refine xi_aload_n C 2 dX7_doMove_59 rfl rfl ?_
      refine xi_getR C xK_X7 (q := 8) (r := 1) rfl 0 (by decide) (ki := 0) rfl xl_X7_27 rfl dX7_doMove_60 ?_
      refine xi_getRN C xK_X4 (q := 1) (r := 12) rfl 3 (by decide) (ki := 3) rfl xn_X7_91 rfl dX7_doMove_63 ?_
      refine xi_iload_n C 0 dX7_doMove_66 rfl rfl ?_
      refine xi_iaload C (q := 12) rfl (by decide) hc8 dX7_doMove_67 ?_
      obtain ⟨hc14, h⟩ := h
      refine xi_iastore C (q := 41) rfl (by decide) hc14 dX7_doMove_68 ?_
      have hw15 := xval.up (q := 41) (i := r56) (v := S56 12 r6) hw13 rfl (xval.i (q := 12) (i := r6) hw13 hc8.1 rfl)
      exact xi_sub [2, 1] rfl (hj69 (xup S56 41 r56 (S56 12 r6)) h hw15)
    · replace h := h.2 z3
      refine xi_aload_n C 2 dX7_doMove_15 rfl rfl ?_
      refine xi_iload_n C 1 dX7_doMove_16 rfl rfl ?_
      refine xc_Vv C hw2 (c_X7_doAlone_n l D ca ad tF r1 S6 _ h_r1 h) xk_X7_doAlone xv_X7_doAlone xl_X7_84 ⟨Nat.le_of_ble_eq_true rfl, Nat.le_of_ble_eq_true rfl⟩ xK_X7 (q := 8) rfl rfl rfl (Nat.le_of_ble_eq_true rfl) ⟨Nat.le_of_ble_eq_true rfl, Nat.le_of_ble_eq_true rfl⟩ dX7_doMove_17 (fun S17 h hw16 => ?_)
      refine xi_goto C 69 dX7_doMove_20 (by decide) ?_
      exact xi_sub [2, 1] rfl (hj69 S17 h hw16)
set_option maxRecDepth 100000 in
set_option maxHeartbeats 4000000 in
theorem c_X7_shareOf_n (l : Launch) (D : va_G) (ca : Nat → ClassId) (ad : Nat → Nat) (tF : Nat) (a1 : Int) (S : xS) (Q : Int → xS → Prop) (h_a1 : xR a1) (h : w_X7_shareOf_n a1 S Q) : xM l yX7_shareOf (xws yX7_shareOf cX7_shareOf 3 (some .int)) ({ frames := 0, cells := 0, slots := 0, locals := 0 }) (gC D ca ad tF) [.ref (ad 8), .int (iN a1)] S (xQi Q) 0 0 := by
  refine xm_of RX7 rfl (by decide +kernel) (Nat.le_of_ble_eq_true rfl) ?_
  intro p e s m args below meth c A Z C hA hZ hr hlocks hw
  unfold w_X7_shareOf_n at h
  show xV (gC D ca ad tF) p l e ({ frames := 0, cells := 0, slots := 0, locals := 0 }) s m args below meth c A 3 Z 0 0 0 [(0, .ref (ad 8)), (1, .int (iN a1))] [] S
  refine xi_getFO C xn_X7_58 dX7_shareOf_0 ?_
  refine xi_iload_n C 1 dX7_shareOf_3 rfl rfl ?_
  obtain ⟨hc1, h⟩ := h
  refine xi_ialoadFO C hc1 dX7_shareOf_4 ?_
  refine xi_istore_n C (L' := [(2, .int (iN (3 + 2 * a1))), (0, .ref (ad 8)), (1, .int (iN a1))]) dX7_shareOf_5 rfl (by decide) rfl ?_
  refine xi_aload_n C 1 dX7_shareOf_6 rfl rfl ?_
  refine xi_getR C xK_X7 (q := 8) (r := 41) rfl 1 (by decide) (ki := 1) rfl xl_X7_9 rfl dX7_shareOf_7 ?_
  refine xi_iload_n C 2 dX7_shareOf_10 rfl rfl ?_
  refine xi_iaload C (q := 41) rfl (by decide) hc1 dX7_shareOf_11 ?_
  refine xi_iconst C (v := 4) dX7_shareOf_12 rfl ?_
  refine xi_imul C dX7_shareOf_13 ?_
  refine xi_aload_n C 1 dX7_shareOf_14 rfl rfl ?_
  refine xi_getR C xK_X7 (q := 8) (r := 42) rfl 2 (by decide) (ki := 2) rfl xl_X7_15 rfl dX7_shareOf_15 ?_
  refine xi_iload_n C 0 dX7_shareOf_18 rfl rfl ?_
  obtain ⟨hc2, h⟩ := h
  refine xi_iaload C (q := 42) rfl (by decide) hc2 dX7_shareOf_19 ?_
  refine xi_iadd C dX7_shareOf_20 ?_
  refine xi_iconst C (v := 4) dX7_shareOf_21 rfl ?_
  refine xi_imul C dX7_shareOf_22 ?_
  refine xi_aload_n C 1 dX7_shareOf_23 rfl rfl ?_
  refine xi_getR C xK_X7 (q := 8) (r := 42) rfl 2 (by decide) (ki := 2) rfl xl_X7_15 rfl dX7_shareOf_24 ?_
  refine xi_iload_n C 0 dX7_shareOf_27 rfl rfl ?_
  refine xi_iconst C (v := 1) dX7_shareOf_28 rfl ?_
  refine xi_iadd C dX7_shareOf_29 ?_
  obtain ⟨hc3, h⟩ := h
  refine xi_iaload C (q := 42) rfl (by decide) hc3 dX7_shareOf_30 ?_
  refine xi_iadd C dX7_shareOf_31 ?_
  obtain ⟨hc4, h⟩ := h
  exact xr_i C hA hZ hr hlocks rfl dX7_shareOf_32 (Nat.le_of_ble_eq_true rfl) (Nat.le_of_ble_eq_true rfl) hw ⟨_, rfl, hc4, h⟩
set_option maxRecDepth 100000 in
set_option maxHeartbeats 4000000 in
theorem c_X7_exchange_n (l : Launch) (D : va_G) (ca : Nat → ClassId) (ad : Nat → Nat) (tF : Nat) (a1 : Int) (a2 : Int) (S : xS) (Q : xS → Prop) (h_a1 : xR a1) (h_a2 : xR a2) (h : w_X7_exchange_n a1 a2 S Q) : xM l yX7_exchange (xws yX7_exchange cX7_exchange 8 (none)) ({ frames := 0, cells := 0, slots := 0, locals := 0 }) (gC D ca ad tF) [.ref (ad 8), .int (iN a1), .int (iN a2)] S (xQv Q) 0 0 := by
  refine xm_of RX7 rfl (by decide +kernel) (Nat.le_of_ble_eq_true rfl) ?_
  intro p e s m args below meth c A Z C hA hZ hr hlocks hw
  unfold w_X7_exchange_n at h
  show xV (gC D ca ad tF) p l e ({ frames := 0, cells := 0, slots := 0, locals := 0 }) s m args below meth c A 8 Z 0 0 0 [(0, .ref (ad 8)), (1, .int (iN a1)), (2, .int (iN a2))] [] S
  refine xi_aload_n C 0 dX7_exchange_0 rfl rfl ?_
  refine xi_getR C xK_X7 (q := 8) (r := 41) rfl 1 (by decide) (ki := 1) rfl xl_X7_9 rfl dX7_exchange_1 ?_
  refine xi_iload_n C 1 dX7_exchange_4 rfl rfl ?_
  obtain ⟨hc1, h⟩ := h
  refine xi_iaload C (q := 41) rfl (by decide) hc1 dX7_exchange_5 ?_
  refine xi_istore_n C (L' := [(3, .int (iN (S 41 a1))), (0, .ref (ad 8)), (1, .int (iN a1)), (2, .int (iN a2))]) dX7_exchange_6 rfl (by decide) rfl ?_
  refine xi_aload_n C 1 dX7_exchange_7 rfl rfl ?_
  refine xi_getR C xK_X7 (q := 8) (r := 41) rfl 1 (by decide) (ki := 1) rfl xl_X7_9 rfl dX7_exchange_8 ?_
  refine xi_iload_n C 2 dX7_exchange_11 rfl rfl ?_
  refine xi_aload_n C 1 dX7_exchange_12 rfl rfl ?_
  refine xi_getR C xK_X7 (q := 8) (r := 41) rfl 1 (by decide) (ki := 1) rfl xl_X7_9 rfl dX7_exchange_13 ?_
  refine xi_iload_n C 3 dX7_exchange_16 rfl rfl ?_
  obtain ⟨hc2, h⟩ := h
  refine xi_iaload C (q := 41) rfl (by decide) hc2 dX7_exchange_17 ?_
  refine xi_iastore C (q := 41) rfl (by decide) hc1 dX7_exchange_18 ?_
  have hw3 := xval.up (q := 41) (i := a1) (v := S 41 a2) hw rfl (xval.i (q := 41) (i := a2) hw hc2.1 rfl)
  refine xi_aload_n C 1 dX7_exchange_19 rfl rfl ?_
  refine xi_getR C xK_X7 (q := 8) (r := 41) rfl 1 (by decide) (ki := 1) rfl xl_X7_9 rfl dX7_exchange_20 ?_
  refine xi_iload_n C 3 dX7_exchange_23 rfl rfl ?_
  refine xi_iload_n C 0 dX7_exchange_24 rfl rfl ?_
  refine xi_iastore C (q := 41) rfl (by decide) hc2 dX7_exchange_25 ?_
  have hw4 := xval.up (q := 41) (i := a2) (v := S 41 a1) hw3 rfl (xval.i (q := 41) (i := a1) hw hc1.1 rfl)
  refine xi_iconst C (v := 0) dX7_exchange_26 rfl ?_
  refine xi_istore C (L' := [(4, .int (iN 0)), (3, .int (iN (S 41 a1))), (0, .ref (ad 8)), (1, .int (iN a1)), (2, .int (iN a2))]) dX7_exchange_27 (by decide) rfl ?_
  refine xi_sub [2, 3, 4, 0] rfl (xW1 (fun v4_29 S29 => xR v4_29 → xval (gC D ca ad tF) S29 → xV (gC D ca ad tF) p l e ({ frames := 0, cells := 0, slots := 0, locals := 0 }) s m args below meth c A 8 Z 0 0 29 [(0, .ref (ad 8)), (1, .int (iN a1)), (2, .int (iN a2)), (4, .int (iN v4_29))] [] S29) h (fun k29 hk29 v4_29 S29 h h_v4_29 hw29 => ?_) (by decide) hw4)
  unfold w_X7_exchange_n_L29 at h
  refine xi_iload C 3 dX7_exchange_29 rfl ?_
  refine xi_iconst C (v := 2) dX7_exchange_31 rfl ?_
  refine xi_icmp_ge C 93 h_v4_29 (by decide) dX7_exchange_32 (by decide) (fun z5 => ?_) (fun z5 => ?_)
  · replace h := h.1 z5
    exact xr_v C hA hZ hr hlocks dX7_exchange_93 (Nat.le_of_ble_eq_true rfl) (Nat.le_of_ble_eq_true rfl) hw29 ⟨rfl, h⟩
  · replace h := h.2 z5
    refine xi_getFO C xn_X7_58 dX7_exchange_35 ?_
    refine xi_iload_n C 1 dX7_exchange_38 rfl rfl ?_
    refine xi_ialoadFO C hc1 dX7_exchange_39 ?_
    refine xi_iload C 3 dX7_exchange_40 rfl ?_
    refine xi_iadd C dX7_exchange_42 ?_
    refine xi_istore C (L' := [(5, .int (iN ((3 + 2 * a1) + v4_29))), (0, .ref (ad 8)), (1, .int (iN a1)), (2, .int (iN a2)), (4, .int (iN v4_29))]) dX7_exchange_43 (by decide) rfl ?_
    refine xi_getFO C xn_X7_58 dX7_exchange_45 ?_
    refine xi_iload_n C 3 dX7_exchange_48 rfl rfl ?_
    refine xi_ialoadFO C hc2 dX7_exchange_49 ?_
    refine xi_iload C 4 dX7_exchange_50 rfl ?_
    refine xi_iadd C dX7_exchange_52 ?_
    refine xi_istore C (L' := [(6, .int (iN ((3 + 2 * a2) + v4_29))), (5, .int (iN ((3 + 2 * a1) + v4_29))), (0, .ref (ad 8)), (1, .int (iN a1)), (2, .int (iN a2)), (4, .int (iN v4_29))]) dX7_exchange_53 (by decide) rfl ?_
    refine xi_aload_n C 2 dX7_exchange_55 rfl rfl ?_
    refine xi_getR C xK_X7 (q := 8) (r := 42) rfl 2 (by decide) (ki := 2) rfl xl_X7_15 rfl dX7_exchange_56 ?_
    refine xi_iload C 1 dX7_exchange_59 rfl ?_
    obtain ⟨hc6, h⟩ := h
    refine xi_iaload C (q := 42) rfl (by decide) hc6 dX7_exchange_61 ?_
    refine xi_istore C (L' := [(7, .int (iN (S29 42 ((3 + 2 * a1) + v4_29)))), (6, .int (iN ((3 + 2 * a2) + v4_29))), (5, .int (iN ((3 + 2 * a1) + v4_29))), (0, .ref (ad 8)), (1, .int (iN a1)), (2, .int (iN a2)), (4, .int (iN v4_29))]) dX7_exchange_62 (by decide) rfl ?_
    refine xi_aload_n C 3 dX7_exchange_64 rfl rfl ?_
    refine xi_getR C xK_X7 (q := 8) (r := 42) rfl 2 (by decide) (ki := 2) rfl xl_X7_15 rfl dX7_exchange_65 ?_
    refine xi_iload C 2 dX7_exchange_68 rfl ?_
    refine xi_aload_n C 3 dX7_exchange_70 rfl rfl ?_
    refine xi_getR C xK_X7 (q := 8) (r := 42) rfl 2 (by decide) (ki := 2) rfl xl_X7_15 rfl dX7_exchange_71 ?_
    refine xi_iload C 1 dX7_exchange_74 rfl ?_
    obtain ⟨hc7, h⟩ := h
    refine xi_iaload C (q := 42) rfl (by decide) hc7 dX7_exchange_76 ?_
    refine xi_iastore C (q := 42) rfl (by decide) hc6 dX7_exchange_77 ?_
    have hw8 := xval.up (q := 42) (i := (3 + 2 * a1) + v4_29) (v := S29 42 ((3 + 2 * a2) + v4_29)) hw29 rfl (xval.i (q := 42) (i := (3 + 2 * a2) + v4_29) hw29 hc7.1 rfl)
    refine xi_aload_n C 3 dX7_exchange_78 rfl rfl ?_
    refine xi_getR C xK_X7 (q := 8) (r := 42) rfl 2 (by decide) (ki := 2) rfl xl_X7_15 rfl dX7_exchange_79 ?_
    refine xi_iload C 1 dX7_exchange_82 rfl ?_
    refine xi_iload C 0 dX7_exchange_84 rfl ?_
    refine xi_iastore C (q := 42) rfl (by decide) hc7 dX7_exchange_86 ?_
    have hw9 := xval.up (q := 42) (i := (3 + 2 * a2) + v4_29) (v := S29 42 ((3 + 2 * a1) + v4_29)) hw8 rfl (xval.i (q := 42) (i := (3 + 2 * a1) + v4_29) hw29 hc6.1 rfl)
    refine xi_iinc C (L' := [(4, .int (iN (v4_29 + 1))), (7, .int (iN (S29 42 ((3 + 2 * a1) + v4_29)))), (6, .int (iN ((3 + 2 * a2) + v4_29))), (5, .int (iN ((3 + 2 * a1) + v4_29))), (0, .ref (ad 8)), (1, .int (iN a1)), (2, .int (iN a2))]) 6 dX7_exchange_87 rfl (by decide) rfl ?_
    refine xi_goto C 29 dX7_exchange_90 (by decide) ?_
    obtain ⟨hc10, h⟩ := h
    exact xi_sub [4, 5, 6, 0] rfl (hk29 (v4_29 + 1) (xup (xup S29 42 ((3 + 2 * a1) + v4_29) (S29 42 ((3 + 2 * a2) + v4_29))) 42 ((3 + 2 * a2) + v4_29) (S29 42 ((3 + 2 * a1) + v4_29))) h hc10 hw9)
set_option maxRecDepth 100000 in
set_option maxHeartbeats 4000000 in
theorem c_X7_exchangeToLeast_n (l : Launch) (D : va_G) (ca : Nat → ClassId) (ad : Nat → Nat) (tF : Nat)  (S : xS) (Q : xS → Prop)  (h : w_X7_exchangeToLeast_n  S Q) : xM l yX7_exchangeToLeast (xws yX7_exchangeToLeast cX7_exchangeToLeast 5 (none)) ({ frames := 1, cells := 0, slots := 0, locals := 27 }) (gC D ca ad tF) [.ref (ad 8), .ref (ad 21)] S (xQv Q) 0 0 := by
  refine xm_of RX7 rfl (by decide +kernel) (Nat.le_of_ble_eq_true rfl) ?_
  intro p e s m args below meth c A Z C hA hZ hr hlocks hw
  unfold w_X7_exchangeToLeast_n at h
  show xV (gC D ca ad tF) p l e ({ frames := 1, cells := 0, slots := 0, locals := 27 }) s m args below meth c A 5 Z 0 0 0 [(0, .ref (ad 8)), (1, .ref (ad 21))] [] S
  refine xi_iconst C (v := 0) dX7_exchangeToLeast_0 rfl ?_
  refine xi_istore_n C (L' := [(2, .int (iN 0)), (0, .ref (ad 8)), (1, .ref (ad 21))]) dX7_exchangeToLeast_1 rfl (by decide) rfl ?_
  refine xi_sub [1, 2, 0] rfl (xW1 (fun v2_2 S2 => xR v2_2 → xval (gC D ca ad tF) S2 → xV (gC D ca ad tF) p l e ({ frames := 1, cells := 0, slots := 0, locals := 27 }) s m args below meth c A 5 Z 0 0 2 [(0, .ref (ad 8)), (1, .ref (ad 21)), (2, .int (iN v2_2))] [] S2) h (fun k2 hk2 v2_2 S2 h h_v2_2 hw2 => ?_) (by decide) hw)
  unfold w_X7_exchangeToLeast_n_L2 at h
  refine xi_iload_n C 2 dX7_exchangeToLeast_2 rfl rfl ?_
  refine xi_iconst C (v := 3) dX7_exchangeToLeast_3 rfl ?_
  refine xi_icmp_ge C 70 h_v2_2 (by decide) dX7_exchangeToLeast_4 (by decide) (fun z1 => ?_) (fun z1 => ?_)
  · replace h := h.1 z1
    exact xr_v C hA hZ hr hlocks dX7_exchangeToLeast_70 (Nat.le_of_ble_eq_true rfl) (Nat.le_of_ble_eq_true rfl) hw2 ⟨rfl, h⟩
  · replace h := h.2 z1
    refine xi_iload_n C 2 dX7_exchangeToLeast_7 rfl rfl ?_
    refine xi_iconst C (v := 1) dX7_exchangeToLeast_8 rfl ?_
    refine xi_iadd C dX7_exchangeToLeast_9 ?_
    refine xi_istore_n C (L' := [(3, .int (iN (v2_2 + 1))), (0, .ref (ad 8)), (1, .ref (ad 21)), (2, .int (iN v2_2))]) dX7_exchangeToLeast_10 rfl (by decide) rfl ?_
    obtain ⟨hc2, h⟩ := h
    refine xi_sub [1, 2, 3, 0] rfl (xW1 (fun v3_11 S11 => xR v3_11 → xval (gC D ca ad tF) S11 → xV (gC D ca ad tF) p l e ({ frames := 1, cells := 0, slots := 0, locals := 27 }) s m args below meth c A 5 Z 0 0 11 [(0, .ref (ad 8)), (1, .ref (ad 21)), (2, .int (iN v2_2)), (3, .int (iN v3_11))] [] S11) h (fun k11 hk11 v3_11 S11 h h_v3_11 hw11 => ?_) hc2 hw2)
    unfold w_X7_exchangeToLeast_n_L11 at h
    refine xi_iload_n C 3 dX7_exchangeToLeast_11 rfl rfl ?_
    refine xi_iconst C (v := 3) dX7_exchangeToLeast_12 rfl ?_
    refine xi_icmp_ge C 64 h_v3_11 (by decide) dX7_exchangeToLeast_13 (by decide) (fun z3 => ?_) (fun z3 => ?_)
    · replace h := h.1 z3
      refine xi_iinc C (L' := [(2, .int (iN (v2_2 + 1))), (0, .ref (ad 8)), (1, .ref (ad 21)), (3, .int (iN v3_11))]) 2 dX7_exchangeToLeast_64 rfl (by decide) rfl ?_
      refine xi_goto C 2 dX7_exchangeToLeast_67 (by decide) ?_
      exact xi_sub [1, 2, 0] rfl (hk2 (v2_2 + 1) S11 h hc2 hw11)
    · replace h := h.2 z3
      refine xi_aload_n C 1 dX7_exchangeToLeast_16 rfl rfl ?_
      refine xi_iload_n C 2 dX7_exchangeToLeast_17 rfl rfl ?_
      refine xi_iconst C (v := 3) dX7_exchangeToLeast_18 rfl ?_
      refine xi_imul C dX7_exchangeToLeast_19 ?_
      refine xi_iload_n C 3 dX7_exchangeToLeast_20 rfl rfl ?_
      refine xi_iadd C dX7_exchangeToLeast_21 ?_
      obtain ⟨hc4, h⟩ := h
      refine xi_iaload C (q := 21) rfl (by decide) hc4 dX7_exchangeToLeast_22 ?_
      refine xi_iconst C (v := 1) dX7_exchangeToLeast_23 rfl ?_
      refine xJ1_w (fun t0_32 S32 => xR t0_32 → xval (gC D ca ad tF) S32 → xV (gC D ca ad tF) p l e ({ frames := 1, cells := 0, slots := 0, locals := 27 }) s m args below meth c A 5 Z 0 0 32 [(0, .ref (ad 8)), (1, .ref (ad 21)), (2, .int (iN v2_2)), (3, .int (iN v3_11))] [.int (iN t0_32)] S32) h (fun t0_32 S32 h h_t0_32 hw32 => ?_) (fun j32 hj32 h => ?_)
      · unfold w_X7_exchangeToLeast_n_J32 at h
        refine xi_istore C (L' := [(4, .int (iN t0_32)), (0, .ref (ad 8)), (1, .ref (ad 21)), (2, .int (iN v2_2)), (3, .int (iN v3_11))]) dX7_exchangeToLeast_32 (by decide) rfl ?_
        refine xi_iload C 0 dX7_exchangeToLeast_34 rfl ?_
        refine xi_if_eq C 58 h_t0_32 dX7_exchangeToLeast_36 (by decide) (fun z6 => ?_) (fun z6 => ?_)
        · replace h := h.1 z6
          refine xi_iinc C (L' := [(3, .int (iN (v3_11 + 1))), (4, .int (iN t0_32)), (0, .ref (ad 8)), (1, .ref (ad 21)), (2, .int (iN v2_2))]) 4 dX7_exchangeToLeast_58 rfl (by decide) rfl ?_
          refine xi_goto C 11 dX7_exchangeToLeast_61 (by decide) ?_
          obtain ⟨hc7, h⟩ := h
          exact xi_sub [2, 3, 4, 0] rfl (hk11 (v3_11 + 1) S32 h hc7 hw32)
        · replace h := h.2 z6
          refine xi_aload_n C 1 dX7_exchangeToLeast_39 rfl rfl ?_
          refine xi_iload_n C 3 dX7_exchangeToLeast_40 rfl rfl ?_
          refine xc_Vi C hw32 (c_X7_shareOf_n l D ca ad tF v2_2 S32 _ h_v2_2 h) xk_X7_shareOf xv_X7_shareOf xl_X7_50 ⟨Nat.le_of_ble_eq_true rfl, Nat.le_of_ble_eq_true rfl⟩ xK_X7 (q := 8) rfl rfl rfl (Nat.le_of_ble_eq_true rfl) ⟨Nat.le_of_ble_eq_true rfl, Nat.le_of_ble_eq_true rfl⟩ dX7_exchangeToLeast_41 (fun r41 S41 h_r41 h hw8 => ?_)
          refine xi_aload_n C 1 dX7_exchangeToLeast_44 rfl rfl ?_
          refine xi_iload_n C 4 dX7_exchangeToLeast_45 rfl rfl ?_
          refine xc_Vi C hw8 (c_X7_shareOf_n l D ca ad tF v3_11 S41 _ h_v3_11 h) xk_X7_shareOf xv_X7_shareOf xl_X7_50 ⟨Nat.le_of_ble_eq_true rfl, Nat.le_of_ble_eq_true rfl⟩ xK_X7 (q := 8) rfl rfl rfl (Nat.le_of_ble_eq_true rfl) ⟨Nat.le_of_ble_eq_true rfl, Nat.le_of_ble_eq_true rfl⟩ dX7_exchangeToLeast_46 (fun r46 S46 h_r46 h hw9 => ?_)
          refine xi_icmp_le C 58 h_r41 h_r46 dX7_exchangeToLeast_49 (by decide) (fun z10 => ?_) (fun z10 => ?_)
          · replace h := h.1 z10
            refine xi_iinc C (L' := [(3, .int (iN (v3_11 + 1))), (4, .int (iN t0_32)), (0, .ref (ad 8)), (1, .ref (ad 21)), (2, .int (iN v2_2))]) 4 dX7_exchangeToLeast_58 rfl (by decide) rfl ?_
            refine xi_goto C 11 dX7_exchangeToLeast_61 (by decide) ?_
            obtain ⟨hc11, h⟩ := h
            exact xi_sub [2, 3, 4, 0] rfl (hk11 (v3_11 + 1) S46 h hc11 hw9)
          · replace h := h.2 z10
            refine xi_aload_n C 1 dX7_exchangeToLeast_52 rfl rfl ?_
            refine xi_iload_n C 3 dX7_exchangeToLeast_53 rfl rfl ?_
            refine xi_iload_n C 4 dX7_exchangeToLeast_54 rfl rfl ?_
            refine xc_Vv C hw9 (c_X7_exchange_n l D ca ad tF v2_2 v3_11 S46 _ h_v2_2 h_v3_11 h) xk_X7_exchange xv_X7_exchange xl_X7_94 ⟨Nat.le_of_ble_eq_true rfl, Nat.le_of_ble_eq_true rfl⟩ xK_X7 (q := 8) rfl rfl rfl (Nat.le_of_ble_eq_true rfl) ⟨Nat.le_of_ble_eq_true rfl, Nat.le_of_ble_eq_true rfl⟩ dX7_exchangeToLeast_55 (fun S55 h hw12 => ?_)
            refine xi_iinc C (L' := [(3, .int (iN (v3_11 + 1))), (4, .int (iN t0_32)), (0, .ref (ad 8)), (1, .ref (ad 21)), (2, .int (iN v2_2))]) 4 dX7_exchangeToLeast_58 rfl (by decide) rfl ?_
            refine xi_goto C 11 dX7_exchangeToLeast_61 (by decide) ?_
            obtain ⟨hc13, h⟩ := h
            exact xi_sub [2, 3, 4, 0] rfl (hk11 (v3_11 + 1) S55 h hc13 hw12)
      · refine xi_icmp_ne C 31 (xval.i (q := 21) (i := (v2_2 * 3) + v3_11) hw11 hc4.1 rfl) (by decide) dX7_exchangeToLeast_24 (by decide) (fun z5 => ?_) (fun z5 => ?_)
        · replace h := h.1 z5
          refine xi_iconst C (v := 0) dX7_exchangeToLeast_31 rfl ?_
          exact xi_sub [0, 1, 2, 3] rfl (hj32 0 S11 h (by decide) hw11)
        · replace h := h.2 z5
          refine xi_iconst C (v := 1) dX7_exchangeToLeast_27 rfl ?_
          refine xi_goto C 32 dX7_exchangeToLeast_28 (by decide) ?_
          exact xi_sub [0, 1, 2, 3] rfl (hj32 1 S11 h (by decide) hw11)
set_option maxRecDepth 100000 in
set_option maxHeartbeats 4000000 in
theorem c_X6_goBehind (l : Launch) (D : va_G) (ca : Nat → ClassId) (ad : Nat → Nat) (tF : Nat) (a1 : Int) (S : xS) (Q : xS → Prop) (h_a1 : xR a1) (h : w_X6_goBehind a1 S Q) : xM l yX6_goBehind (xws yX6_goBehind cX6_goBehind 2 (none)) ({ frames := 2, cells := 0, slots := 0, locals := 81 }) (gC D ca ad tF) [.ref (ad 2), .int (iN a1)] S (xQv Q) 0 0 := by
  refine xm_of RX6 rfl (by decide +kernel) (Nat.le_of_ble_eq_true rfl) ?_
  intro p e s m args below meth c A Z C hA hZ hr hlocks hw
  unfold w_X6_goBehind at h
  show xV (gC D ca ad tF) p l e ({ frames := 2, cells := 0, slots := 0, locals := 81 }) s m args below meth c A 2 Z 0 0 0 [(0, .ref (ad 2)), (1, .int (iN a1))] [] S
  refine xi_aload_n C 0 dX6_goBehind_0 rfl rfl ?_
  refine xi_getR C xK_X6 (q := 2) (r := 8) rfl 5 (by decide) (ki := 5) rfl xl_X6_46 rfl dX6_goBehind_1 ?_
  refine xi_aload_n C 0 dX6_goBehind_4 rfl rfl ?_
  refine xi_getR C xK_X6 (q := 2) (r := 7) rfl 4 (by decide) (ki := 4) rfl xl_X6_42 rfl dX6_goBehind_5 ?_
  refine xc_Vv C hw (c_X7_copyFrom_nh l D ca ad tF S _ h) xk_X7_copyFrom xv_X7_copyFrom xl_X6_198 ⟨Nat.le_of_ble_eq_true rfl, Nat.le_of_ble_eq_true rfl⟩ xK_X7 (q := 8) rfl rfl rfl (Nat.le_of_ble_eq_true rfl) ⟨Nat.le_of_ble_eq_true rfl, Nat.le_of_ble_eq_true rfl⟩ dX6_goBehind_8 (fun S8 h hw1 => ?_)
  refine xi_aload_n C 0 dX6_goBehind_11 rfl rfl ?_
  refine xi_getR C xK_X6 (q := 2) (r := 8) rfl 5 (by decide) (ki := 5) rfl xl_X6_46 rfl dX6_goBehind_12 ?_
  refine xi_iload_n C 1 dX6_goBehind_15 rfl rfl ?_
  refine xc_Vv C hw1 (c_X7_doMove_n l D ca ad tF a1 S8 _ h_a1 h) xk_X7_doMove xv_X7_doMove xl_X6_201 ⟨Nat.le_of_ble_eq_true rfl, Nat.le_of_ble_eq_true rfl⟩ xK_X7 (q := 8) rfl rfl rfl (Nat.le_of_ble_eq_true rfl) ⟨Nat.le_of_ble_eq_true rfl, Nat.le_of_ble_eq_true rfl⟩ dX6_goBehind_16 (fun S16 h hw2 => ?_)
  refine xi_aload_n C 0 dX6_goBehind_19 rfl rfl ?_
  refine xi_getR C xK_X6 (q := 2) (r := 8) rfl 5 (by decide) (ki := 5) rfl xl_X6_46 rfl dX6_goBehind_20 ?_
  refine xi_aload_n C 0 dX6_goBehind_23 rfl rfl ?_
  refine xi_getR C xK_X6 (q := 2) (r := 21) rfl 6 (by decide) (ki := 6) rfl xl_X6_9 rfl dX6_goBehind_24 ?_
  refine xc_Vv C hw2 (c_X7_exchangeToLeast_n l D ca ad tF S16 _ h) xk_X7_exchangeToLeast xv_X7_exchangeToLeast xl_X6_204 ⟨Nat.le_of_ble_eq_true rfl, Nat.le_of_ble_eq_true rfl⟩ xK_X7 (q := 8) rfl rfl rfl (Nat.le_of_ble_eq_true rfl) ⟨Nat.le_of_ble_eq_true rfl, Nat.le_of_ble_eq_true rfl⟩ dX6_goBehind_27 (fun S27 h hw3 => ?_)
  exact xr_v C hA hZ hr hlocks dX6_goBehind_30 (Nat.le_of_ble_eq_true rfl) (Nat.le_of_ble_eq_true rfl) hw3 ⟨rfl, h⟩
set_option maxRecDepth 100000 in
set_option maxHeartbeats 4000000 in
theorem c_X7_copyFrom_hn (l : Launch) (D : va_G) (ca : Nat → ClassId) (ad : Nat → Nat) (tF : Nat)  (S : xS) (Q : xS → Prop)  (h : w_X7_copyFrom_hn  S Q) : xM l yX7_copyFrom (xws yX7_copyFrom cX7_copyFrom 2 (none)) ({ frames := 1, cells := 0, slots := 0, locals := 60 }) (gC D ca ad tF) [.ref (ad 7), .ref (ad 8)] S (xQv Q) 0 0 := by
  refine xm_of RX7 rfl (by decide +kernel) (Nat.le_of_ble_eq_true rfl) ?_
  intro p e s m args below meth c A Z C hA hZ hr hlocks hw
  unfold w_X7_copyFrom_hn at h
  show xV (gC D ca ad tF) p l e ({ frames := 1, cells := 0, slots := 0, locals := 60 }) s m args below meth c A 2 Z 0 0 0 [(0, .ref (ad 7)), (1, .ref (ad 8))] [] S
  refine xi_aload_n C 1 dX7_copyFrom_0 rfl rfl ?_
  refine xi_getR C xK_X7 (q := 8) (r := 41) rfl 1 (by decide) (ki := 1) rfl xl_X7_9 rfl dX7_copyFrom_1 ?_
  refine xi_iconst C (v := 0) dX7_copyFrom_4 rfl ?_
  refine xi_aload_n C 0 dX7_copyFrom_5 rfl rfl ?_
  refine xi_getR C xK_X7 (q := 7) (r := 36) rfl 1 (by decide) (ki := 1) rfl xl_X7_9 rfl dX7_copyFrom_6 ?_
  refine xi_iconst C (v := 0) dX7_copyFrom_9 rfl ?_
  refine xi_iconst C (v := 3) dX7_copyFrom_10 rfl ?_
  refine xi_acopy C (ni := 3) rfl xl_X7_42 xacw (q0 := 41) (q1 := 36) (n0 := 3) (n1 := 3) (n := 3) rfl rfl (by decide) ⟨Nat.le_of_ble_eq_true rfl, Nat.le_of_ble_eq_true rfl⟩ dX7_copyFrom_11 ?_
  have hw1 := xval.copy (q0 := 41) (q1 := 36) (n := 3) hw (fun _ => rfl) (fun _ => rfl)
  refine xi_aload_n C 1 dX7_copyFrom_14 rfl rfl ?_
  refine xi_getR C xK_X7 (q := 8) (r := 42) rfl 2 (by decide) (ki := 2) rfl xl_X7_15 rfl dX7_copyFrom_15 ?_
  refine xi_iconst C (v := 0) dX7_copyFrom_18 rfl ?_
  refine xi_aload_n C 0 dX7_copyFrom_19 rfl rfl ?_
  refine xi_getR C xK_X7 (q := 7) (r := 37) rfl 2 (by decide) (ki := 2) rfl xl_X7_15 rfl dX7_copyFrom_20 ?_
  refine xi_iconst C (v := 0) dX7_copyFrom_23 rfl ?_
  refine xi_bipush C (v := 9) dX7_copyFrom_24 (by decide +kernel) ?_
  refine xi_acopy C (ni := 9) rfl xl_X7_42 xacw (q0 := 42) (q1 := 37) (n0 := 9) (n1 := 9) (n := 9) rfl rfl (by decide) ⟨Nat.le_of_ble_eq_true rfl, Nat.le_of_ble_eq_true rfl⟩ dX7_copyFrom_26 ?_
  have hw2 := xval.copy (q0 := 42) (q1 := 37) (n := 9) hw1 (fun _ => rfl) (fun _ => rfl)
  refine xi_aload_n C 1 dX7_copyFrom_29 rfl rfl ?_
  refine xi_getR C xK_X7 (q := 8) (r := 43) rfl 3 (by decide) (ki := 3) rfl xl_X7_18 rfl dX7_copyFrom_30 ?_
  refine xi_iconst C (v := 0) dX7_copyFrom_33 rfl ?_
  refine xi_aload_n C 0 dX7_copyFrom_34 rfl rfl ?_
  refine xi_getR C xK_X7 (q := 7) (r := 38) rfl 3 (by decide) (ki := 3) rfl xl_X7_18 rfl dX7_copyFrom_35 ?_
  refine xi_iconst C (v := 0) dX7_copyFrom_38 rfl ?_
  refine xi_iconst C (v := 2) dX7_copyFrom_39 rfl ?_
  refine xi_acopy C (ni := 2) rfl xl_X7_42 xacw (q0 := 43) (q1 := 38) (n0 := 2) (n1 := 2) (n := 2) rfl rfl (by decide) ⟨Nat.le_of_ble_eq_true rfl, Nat.le_of_ble_eq_true rfl⟩ dX7_copyFrom_40 ?_
  have hw3 := xval.copy (q0 := 43) (q1 := 38) (n := 2) hw2 (fun _ => rfl) (fun _ => rfl)
  refine xi_aload_n C 1 dX7_copyFrom_43 rfl rfl ?_
  refine xi_getR C xK_X7 (q := 8) (r := 44) rfl 4 (by decide) (ki := 4) rfl xl_X7_21 rfl dX7_copyFrom_44 ?_
  refine xi_iconst C (v := 0) dX7_copyFrom_47 rfl ?_
  refine xi_aload_n C 0 dX7_copyFrom_48 rfl rfl ?_
  refine xi_getR C xK_X7 (q := 7) (r := 39) rfl 4 (by decide) (ki := 4) rfl xl_X7_21 rfl dX7_copyFrom_49 ?_
  refine xi_iconst C (v := 0) dX7_copyFrom_52 rfl ?_
  refine xi_iconst C (v := 2) dX7_copyFrom_53 rfl ?_
  refine xi_acopy C (ni := 2) rfl xl_X7_42 xacw (q0 := 44) (q1 := 39) (n0 := 2) (n1 := 2) (n := 2) rfl rfl (by decide) ⟨Nat.le_of_ble_eq_true rfl, Nat.le_of_ble_eq_true rfl⟩ dX7_copyFrom_54 ?_
  have hw4 := xval.copy (q0 := 44) (q1 := 39) (n := 2) hw3 (fun _ => rfl) (fun _ => rfl)
  refine xi_aload_n C 1 dX7_copyFrom_57 rfl rfl ?_
  refine xi_getR C xK_X7 (q := 8) (r := 45) rfl 5 (by decide) (ki := 5) rfl xl_X7_24 rfl dX7_copyFrom_58 ?_
  refine xi_iconst C (v := 0) dX7_copyFrom_61 rfl ?_
  refine xi_aload_n C 0 dX7_copyFrom_62 rfl rfl ?_
  refine xi_getR C xK_X7 (q := 7) (r := 40) rfl 5 (by decide) (ki := 5) rfl xl_X7_24 rfl dX7_copyFrom_63 ?_
  refine xi_iconst C (v := 0) dX7_copyFrom_66 rfl ?_
  refine xi_iconst C (v := 2) dX7_copyFrom_67 rfl ?_
  refine xi_acopy C (ni := 2) rfl xl_X7_42 xacw (q0 := 45) (q1 := 40) (n0 := 2) (n1 := 2) (n := 2) rfl rfl (by decide) ⟨Nat.le_of_ble_eq_true rfl, Nat.le_of_ble_eq_true rfl⟩ dX7_copyFrom_68 ?_
  have hw5 := xval.copy (q0 := 45) (q1 := 40) (n := 2) hw4 (fun _ => rfl) (fun _ => rfl)
  exact xr_v C hA hZ hr hlocks dX7_copyFrom_71 (Nat.le_of_ble_eq_true rfl) (Nat.le_of_ble_eq_true rfl) hw5 ⟨rfl, h⟩
set_option maxRecDepth 100000 in
set_option maxHeartbeats 4000000 in
theorem c_X6_doesReplay (l : Launch) (D : va_G) (ca : Nat → ClassId) (ad : Nat → Nat) (tF : Nat)  (S : xS) (Q : Int → xS → Prop)  (h : w_X6_doesReplay  S Q) : xM l yX6_doesReplay (xws yX6_doesReplay cX6_doesReplay 3 (some .boolean)) ({ frames := 4, cells := 0, slots := 0, locals := 102 }) (gC D ca ad tF) [.ref (ad 2)] S (xQi Q) 0 0 := by
  refine xm_of RX6 rfl (by decide +kernel) (Nat.le_of_ble_eq_true rfl) ?_
  intro p e s m args below meth c A Z C hA hZ hr hlocks hw
  unfold w_X6_doesReplay at h
  show xV (gC D ca ad tF) p l e ({ frames := 4, cells := 0, slots := 0, locals := 102 }) s m args below meth c A 3 Z 0 0 0 [(0, .ref (ad 2))] [] S
  refine xi_aload_n C 0 dX6_doesReplay_0 rfl rfl ?_
  refine xi_getR C xK_X6 (q := 2) (r := 7) rfl 4 (by decide) (ki := 4) rfl xl_X6_42 rfl dX6_doesReplay_1 ?_
  refine xc_Vv C hw (c_X7_goToStart_h l D ca ad tF S _ h) xk_X7_goToStart xv_X7_goToStart xl_X6_84 ⟨Nat.le_of_ble_eq_true rfl, Nat.le_of_ble_eq_true rfl⟩ xK_X7 (q := 7) rfl rfl rfl (Nat.le_of_ble_eq_true rfl) ⟨Nat.le_of_ble_eq_true rfl, Nat.le_of_ble_eq_true rfl⟩ dX6_doesReplay_4 (fun S4 h hw1 => ?_)
  refine xi_iconst C (v := 0) dX6_doesReplay_7 rfl ?_
  refine xi_istore_n C (L' := [(1, .int (iN 0)), (0, .ref (ad 2))]) dX6_doesReplay_8 rfl (by decide) rfl ?_
  refine xJ0_w (fun  S98 => xval (gC D ca ad tF) S98 → xV (gC D ca ad tF) p l e ({ frames := 4, cells := 0, slots := 0, locals := 102 }) s m args below meth c A 3 Z 0 0 98 [(0, .ref (ad 2))] [] S98) h (fun  S98 h  hw98 => ?_) (fun j98 hj98 h => ?_)
  · unfold w_X6_doesReplay_J98 at h
    refine xi_aload_n C 0 dX6_doesReplay_98 rfl rfl ?_
    refine xi_getI C xK_X6 (q := 2) (r := 0) rfl 13 (by decide) (ki := 13) rfl xl_X6_65 rfl dX6_doesReplay_99 ?_
    refine xi_bipush C (v := 105) dX6_doesReplay_102 (by decide +kernel) ?_
    refine xi_icmp_ne C 119 (xval.i (q := 2) (i := 13) hw98 (by decide) rfl) (by decide) dX6_doesReplay_104 (by decide) (fun z2 => ?_) (fun z2 => ?_)
    · replace h := h.1 z2
      refine xi_aload_n C 0 dX6_doesReplay_119 rfl rfl ?_
      refine xi_getR C xK_X6 (q := 2) (r := 6) rfl 3 (by decide) (ki := 3) rfl xl_X6_35 rfl dX6_doesReplay_120 ?_
      refine xi_aload_n C 0 dX6_doesReplay_123 rfl rfl ?_
      refine xi_getR C xK_X6 (q := 2) (r := 7) rfl 4 (by decide) (ki := 4) rfl xl_X6_42 rfl dX6_doesReplay_124 ?_
      refine xc_Vv C hw98 (c_X3_listFor_h l D ca ad tF S98 _ h) xk_X3_listFor xv_X3_listFor xl_X6_162 ⟨Nat.le_of_ble_eq_true rfl, Nat.le_of_ble_eq_true rfl⟩ xK_X3 (q := 6) rfl rfl rfl (Nat.le_of_ble_eq_true rfl) ⟨Nat.le_of_ble_eq_true rfl, Nat.le_of_ble_eq_true rfl⟩ dX6_doesReplay_127 (fun S127 h hw3 => ?_)
      refine xi_aload_n C 0 dX6_doesReplay_130 rfl rfl ?_
      refine xi_getI C xK_X6 (q := 2) (r := 0) rfl 13 (by decide) (ki := 13) rfl xl_X6_65 rfl dX6_doesReplay_131 ?_
      refine xi_bipush C (v := 100) dX6_doesReplay_134 (by decide +kernel) ?_
      refine xi_icmp_ne C 167 (xval.i (q := 2) (i := 13) hw3 (by decide) rfl) (by decide) dX6_doesReplay_136 (by decide) (fun z4 => ?_) (fun z4 => ?_)
      · replace h := h.1 z4
        refine xi_iconst C (v := 0) dX6_doesReplay_167 rfl ?_
        exact xr_i C hA hZ hr hlocks (xnarZ (Or.inl rfl)).1 dX6_doesReplay_168 (Nat.le_of_ble_eq_true rfl) (Nat.le_of_ble_eq_true rfl) hw3 ⟨_, rfl, (by decide), h⟩
      · replace h := h.2 z4
        refine xi_aload_n C 0 dX6_doesReplay_139 rfl rfl ?_
        refine xi_getR C xK_X6 (q := 2) (r := 6) rfl 3 (by decide) (ki := 3) rfl xl_X6_35 rfl dX6_doesReplay_140 ?_
        refine xi_getIN C xK_X3 (q := 6) (r := 0) rfl 2 (by decide) (ki := 2) rfl xn_X6_127 rfl dX6_doesReplay_143 ?_
        refine xi_if_ne C 167 (xval.i (q := 6) (i := 2) hw3 (by decide) rfl) dX6_doesReplay_146 (by decide) (fun z5 => ?_) (fun z5 => ?_)
        · replace h := h.1 z5
          refine xi_iconst C (v := 0) dX6_doesReplay_167 rfl ?_
          exact xr_i C hA hZ hr hlocks (xnarZ (Or.inl rfl)).1 dX6_doesReplay_168 (Nat.le_of_ble_eq_true rfl) (Nat.le_of_ble_eq_true rfl) hw3 ⟨_, rfl, (by decide), h⟩
        · replace h := h.2 z5
          refine xi_aload_n C 0 dX6_doesReplay_149 rfl rfl ?_
          refine xi_getR C xK_X6 (q := 2) (r := 1) rfl 0 (by decide) (ki := 0) rfl xl_X6_18 rfl dX6_doesReplay_150 ?_
          refine xi_aload_n C 0 dX6_doesReplay_153 rfl rfl ?_
          refine xi_getR C xK_X6 (q := 2) (r := 7) rfl 4 (by decide) (ki := 4) rfl xl_X6_42 rfl dX6_doesReplay_154 ?_
          refine xc_Vi C hw3 (c_X4_hasProcessAtNoEnd_h l D ca ad tF S127 _ h) xk_X4_hasProcessAtNoEnd xv_X4_hasProcessAtNoEnd xl_X6_128 ⟨Nat.le_of_ble_eq_true rfl, Nat.le_of_ble_eq_true rfl⟩ xK_X4 (q := 1) rfl rfl rfl (Nat.le_of_ble_eq_true rfl) ⟨Nat.le_of_ble_eq_true rfl, Nat.le_of_ble_eq_true rfl⟩ dX6_doesReplay_157 (fun r157 S157 h_r157 h hw6 => ?_)
          refine xi_if_eq C 167 h_r157 dX6_doesReplay_160 (by decide) (fun z7 => ?_) (fun z7 => ?_)
          · replace h := h.1 z7
            refine xi_iconst C (v := 0) dX6_doesReplay_167 rfl ?_
            exact xr_i C hA hZ hr hlocks (xnarZ (Or.inl rfl)).1 dX6_doesReplay_168 (Nat.le_of_ble_eq_true rfl) (Nat.le_of_ble_eq_true rfl) hw6 ⟨_, rfl, (by decide), h⟩
          · replace h := h.2 z7
            refine xi_iconst C (v := 1) dX6_doesReplay_163 rfl ?_
            refine xi_goto C 168 dX6_doesReplay_164 (by decide) ?_
            exact xr_i C hA hZ hr hlocks (xnarZ (Or.inr rfl)).1 dX6_doesReplay_168 (Nat.le_of_ble_eq_true rfl) (Nat.le_of_ble_eq_true rfl) hw6 ⟨_, rfl, (by decide), h⟩
    · replace h := h.2 z2
      refine xi_aload_n C 0 dX6_doesReplay_107 rfl rfl ?_
      refine xi_getR C xK_X6 (q := 2) (r := 1) rfl 0 (by decide) (ki := 0) rfl xl_X6_18 rfl dX6_doesReplay_108 ?_
      refine xi_aload_n C 0 dX6_doesReplay_111 rfl rfl ?_
      refine xi_getR C xK_X6 (q := 2) (r := 7) rfl 4 (by decide) (ki := 4) rfl xl_X6_42 rfl dX6_doesReplay_112 ?_
      refine xc_Vi C hw98 (c_X4_breaksInvariant_h l D ca ad tF S98 _ h) xk_X4_breaksInvariant xv_X4_breaksInvariant xl_X6_215 ⟨Nat.le_of_ble_eq_true rfl, Nat.le_of_ble_eq_true rfl⟩ xK_X4 (q := 1) rfl rfl rfl (Nat.le_of_ble_eq_true rfl) ⟨Nat.le_of_ble_eq_true rfl, Nat.le_of_ble_eq_true rfl⟩ dX6_doesReplay_115 (fun r115 S115 h_r115 h hw8 => ?_)
      obtain ⟨hc9, h⟩ := h
      exact xr_i C hA hZ hr hlocks (xnarZ hc9).1 dX6_doesReplay_118 (Nat.le_of_ble_eq_true rfl) (Nat.le_of_ble_eq_true rfl) hw8 ⟨_, rfl, h_r115, h⟩
  · refine xJ1_w (fun v2_67 S67 => xR v2_67 → xval (gC D ca ad tF) S67 → xV (gC D ca ad tF) p l e ({ frames := 4, cells := 0, slots := 0, locals := 102 }) s m args below meth c A 3 Z 0 0 67 [(0, .ref (ad 2)), (2, .int (iN v2_67))] [] S67) h (fun v2_67 S67 h h_v2_67 hw67 => ?_) (fun j67 hj67 h => ?_)
    · unfold w_X6_doesReplay_J67 at h
      refine xi_aload_n C 0 dX6_doesReplay_67 rfl rfl ?_
      refine xi_getR C xK_X6 (q := 2) (r := 7) rfl 4 (by decide) (ki := 4) rfl xl_X6_42 rfl dX6_doesReplay_68 ?_
      refine xi_iload_n C 1 dX6_doesReplay_71 rfl rfl ?_
      refine xc_Vi C hw67 (c_X7_isRefuted_h l D ca ad tF v2_67 S67 _ h_v2_67 h) xk_X7_isRefuted xv_X7_isRefuted xl_X6_189 ⟨Nat.le_of_ble_eq_true rfl, Nat.le_of_ble_eq_true rfl⟩ xK_X7 (q := 7) rfl rfl rfl (Nat.le_of_ble_eq_true rfl) ⟨Nat.le_of_ble_eq_true rfl, Nat.le_of_ble_eq_true rfl⟩ dX6_doesReplay_72 (fun r72 S72 h_r72 h hw10 => ?_)
      obtain ⟨hc11, h⟩ := h
      exact xr_i C hA hZ hr hlocks (xnarZ hc11).1 dX6_doesReplay_75 (Nat.le_of_ble_eq_true rfl) (Nat.le_of_ble_eq_true rfl) hw10 ⟨_, rfl, h_r72, h⟩
    · refine xi_sub [1, 0] rfl (xW1 (fun v1_9 S9 => xR v1_9 → xval (gC D ca ad tF) S9 → xV (gC D ca ad tF) p l e ({ frames := 4, cells := 0, slots := 0, locals := 102 }) s m args below meth c A 3 Z 0 0 9 [(0, .ref (ad 2)), (1, .int (iN v1_9))] [] S9) h (fun k9 hk9 v1_9 S9 h h_v1_9 hw9 => ?_) (by decide) hw1)
      unfold w_X6_doesReplay_L9 at h
      refine xi_iload_n C 1 dX6_doesReplay_9 rfl rfl ?_
      refine xi_aload_n C 0 dX6_doesReplay_10 rfl rfl ?_
      refine xi_getI C xK_X6 (q := 2) (r := 0) rfl 8 (by decide) (ki := 8) rfl xl_X6_68 rfl dX6_doesReplay_11 ?_
      refine xi_icmp_ge C 98 h_v1_9 (xval.i (q := 2) (i := 8) hw9 (by decide) rfl) dX6_doesReplay_14 (by decide) (fun z12 => ?_) (fun z12 => ?_)
      · replace h := h.1 z12
        exact xi_sub [0] rfl (hj98 S9 h hw9)
      · replace h := h.2 z12
        refine xi_aload_n C 0 dX6_doesReplay_17 rfl rfl ?_
        refine xi_getR C xK_X6 (q := 2) (r := 22) rfl 7 (by decide) (ki := 7) rfl xl_X6_15 rfl dX6_doesReplay_18 ?_
        refine xi_iload_n C 1 dX6_doesReplay_21 rfl rfl ?_
        obtain ⟨hc13, h⟩ := h
        refine xi_iaload C (q := 22) rfl (by decide) hc13 dX6_doesReplay_22 ?_
        refine xi_istore_n C (L' := [(2, .int (iN (S9 22 v1_9))), (0, .ref (ad 2)), (1, .int (iN v1_9))]) dX6_doesReplay_23 rfl (by decide) rfl ?_
        refine xi_aload_n C 1 dX6_doesReplay_24 rfl rfl ?_
        refine xi_getR C xK_X6 (q := 2) (r := 6) rfl 3 (by decide) (ki := 3) rfl xl_X6_35 rfl dX6_doesReplay_25 ?_
        refine xi_aload_n C 1 dX6_doesReplay_28 rfl rfl ?_
        refine xi_getR C xK_X6 (q := 2) (r := 7) rfl 4 (by decide) (ki := 4) rfl xl_X6_42 rfl dX6_doesReplay_29 ?_
        refine xc_Vv C hw9 (c_X3_listFor_h l D ca ad tF S9 _ h) xk_X3_listFor xv_X3_listFor xl_X6_162 ⟨Nat.le_of_ble_eq_true rfl, Nat.le_of_ble_eq_true rfl⟩ xK_X3 (q := 6) rfl rfl rfl (Nat.le_of_ble_eq_true rfl) ⟨Nat.le_of_ble_eq_true rfl, Nat.le_of_ble_eq_true rfl⟩ dX6_doesReplay_32 (fun S32 h hw14 => ?_)
        refine xi_aload_n C 1 dX6_doesReplay_35 rfl rfl ?_
        refine xi_getR C xK_X6 (q := 2) (r := 6) rfl 3 (by decide) (ki := 3) rfl xl_X6_35 rfl dX6_doesReplay_36 ?_
        refine xi_iload_n C 0 dX6_doesReplay_39 rfl rfl ?_
        refine xc_Vi C hw14 (c_X3_has l D ca ad tF (S9 22 v1_9) S32 _ (xval.i (q := 22) (i := v1_9) hw9 hc13.1 rfl) h) xk_X3_has xv_X3_has xl_X6_227 ⟨Nat.le_of_ble_eq_true rfl, Nat.le_of_ble_eq_true rfl⟩ xK_X3 (q := 6) rfl rfl rfl (Nat.le_of_ble_eq_true rfl) ⟨Nat.le_of_ble_eq_true rfl, Nat.le_of_ble_eq_true rfl⟩ dX6_doesReplay_40 (fun r40 S40 h_r40 h hw15 => ?_)
        refine xi_if_ne C 48 h_r40 dX6_doesReplay_43 (by decide) (fun z16 => ?_) (fun z16 => ?_)
        · replace h := h.1 z16
          refine xi_aload_n C 1 dX6_doesReplay_48 rfl rfl ?_
          refine xi_getI C xK_X6 (q := 2) (r := 0) rfl 13 (by decide) (ki := 13) rfl xl_X6_65 rfl dX6_doesReplay_49 ?_
          refine xi_bipush C (v := 97) dX6_doesReplay_52 (by decide +kernel) ?_
          refine xJ0_w (fun  S76 => xval (gC D ca ad tF) S76 → xV (gC D ca ad tF) p l e ({ frames := 4, cells := 0, slots := 0, locals := 102 }) s m args below meth c A 3 Z 0 0 76 [(0, .ref (ad 2)), (1, .int (iN v1_9)), (2, .int (iN (S9 22 v1_9)))] [] S76) h (fun  S76 h  hw76 => ?_) (fun j76 hj76 h => ?_)
          · unfold w_X6_doesReplay_J76 at h
            refine xi_aload_n C 0 dX6_doesReplay_76 rfl rfl ?_
            refine xi_iload_n C 2 dX6_doesReplay_77 rfl rfl ?_
            refine xc_Vv C hw76 (c_X6_goBehind l D ca ad tF (S9 22 v1_9) S76 _ (xval.i (q := 22) (i := v1_9) hw9 hc13.1 rfl) h) xk_X6_goBehind xv_X6_goBehind xl_X6_182 ⟨Nat.le_of_ble_eq_true rfl, Nat.le_of_ble_eq_true rfl⟩ xK_X6 (q := 2) rfl rfl rfl (Nat.le_of_ble_eq_true rfl) ⟨Nat.le_of_ble_eq_true rfl, Nat.le_of_ble_eq_true rfl⟩ dX6_doesReplay_78 (fun S78 h hw18 => ?_)
            refine xi_aload_n C 0 dX6_doesReplay_81 rfl rfl ?_
            refine xi_getR C xK_X6 (q := 2) (r := 7) rfl 4 (by decide) (ki := 4) rfl xl_X6_42 rfl dX6_doesReplay_82 ?_
            refine xi_aload_n C 0 dX6_doesReplay_85 rfl rfl ?_
            refine xi_getR C xK_X6 (q := 2) (r := 8) rfl 5 (by decide) (ki := 5) rfl xl_X6_46 rfl dX6_doesReplay_86 ?_
            refine xc_Vv C hw18 (c_X7_copyFrom_hn l D ca ad tF S78 _ h) xk_X7_copyFrom xv_X7_copyFrom xl_X6_198 ⟨Nat.le_of_ble_eq_true rfl, Nat.le_of_ble_eq_true rfl⟩ xK_X7 (q := 7) rfl rfl rfl (Nat.le_of_ble_eq_true rfl) ⟨Nat.le_of_ble_eq_true rfl, Nat.le_of_ble_eq_true rfl⟩ dX6_doesReplay_89 (fun S89 h hw19 => ?_)
            refine xi_iinc C (L' := [(1, .int (iN (v1_9 + 1))), (0, .ref (ad 2)), (2, .int (iN (S9 22 v1_9)))]) 1 dX6_doesReplay_92 rfl (by decide) rfl ?_
            refine xi_goto C 9 dX6_doesReplay_95 (by decide) ?_
            obtain ⟨hc20, h⟩ := h
            exact xi_sub [1, 0] rfl (hk9 (v1_9 + 1) S89 h hc20 hw19)
          · refine xi_icmp_ne C 76 (xval.i (q := 2) (i := 13) hw15 (by decide) rfl) (by decide) dX6_doesReplay_54 (by decide) (fun z17 => ?_) (fun z17 => ?_)
            · replace h := h.1 z17
              exact xi_sub [1, 2, 0] rfl (hj76 S40 h hw15)
            · replace h := h.2 z17
              refine xi_iload_n C 2 dX6_doesReplay_57 rfl rfl ?_
              refine xi_aload_n C 1 dX6_doesReplay_58 rfl rfl ?_
              refine xi_getI C xK_X6 (q := 2) (r := 0) rfl 8 (by decide) (ki := 8) rfl xl_X6_68 rfl dX6_doesReplay_59 ?_
              refine xi_iconst C (v := 1) dX6_doesReplay_62 rfl ?_
              refine xi_isub C dX6_doesReplay_63 ?_
              obtain ⟨hc21, h⟩ := h
              refine xi_icmp_ne C 76 h_v1_9 hc21 dX6_doesReplay_64 (by decide) (fun z22 => ?_) (fun z22 => ?_)
              · replace h := h.1 z22
                exact xi_sub [1, 2, 0] rfl (hj76 S40 h hw15)
              · replace h := h.2 z22
                exact xi_sub [1, 0] rfl (hj67 (S9 22 v1_9) S40 h (xval.i (q := 22) (i := v1_9) hw9 hc13.1 rfl) hw15)
        · replace h := h.2 z16
          refine xi_iconst C (v := 0) dX6_doesReplay_46 rfl ?_
          exact xr_i C hA hZ hr hlocks (xnarZ (Or.inl rfl)).1 dX6_doesReplay_47 (Nat.le_of_ble_eq_true rfl) (Nat.le_of_ble_eq_true rfl) hw15 ⟨_, rfl, (by decide), h⟩
set_option maxRecDepth 100000 in
set_option maxHeartbeats 4000000 in
theorem c_X1_slotFor (l : Launch) (D : va_G) (ca : Nat → ClassId) (ad : Nat → Nat) (tF : Nat) (a1 : Int) (S : xS) (Q : Int → xS → Prop) (h_a1 : xRJ a1) (h : w_X1_slotFor a1 S Q) : xM l yX1_slotFor (xws yX1_slotFor cX1_slotFor 6 (some .int)) ({ frames := 0, cells := 0, slots := 0, locals := 0 }) (gC D ca ad tF) [.ref (ad 4), .long (jN a1)] S (xQi Q) 0 0 := by
  refine xm_of RX1 rfl (by decide +kernel) (Nat.le_of_ble_eq_true rfl) ?_
  intro p e s m args below meth c A Z C hA hZ hr hlocks hw
  unfold w_X1_slotFor at h
  show xV (gC D ca ad tF) p l e ({ frames := 0, cells := 0, slots := 0, locals := 0 }) s m args below meth c A 6 Z 0 0 0 [(0, .ref (ad 4)), (1, .long (jN a1))] [] S
  refine xi_aload_n C 0 dX1_slotFor_0 rfl rfl ?_
  refine xi_getI C xK_X1 (q := 4) (r := 0) rfl 1 (by decide) (ki := 1) rfl xl_X1_34 rfl dX1_slotFor_1 ?_
  refine xi_if_eq C 14 (xval.i (q := 4) (i := 1) hw (by decide) rfl) dX1_slotFor_4 (by decide) (fun z1 => ?_) (fun z1 => ?_)
  · replace h := h.1 z1
    refine xi_lload_n C 1 dX1_slotFor_14 rfl rfl ?_
    refine xi_ldc2 C xl_X1_54 (v := (-7046029254386353131)) (by decide +kernel) dX1_slotFor_15 ?_
    refine xi_lmul C dX1_slotFor_18 ?_
    refine xi_bipush C (v := 52) dX1_slotFor_19 (by decide +kernel) ?_
    refine xi_lushr52 C dX1_slotFor_21 ?_
    refine xi_l2i C dX1_slotFor_22 ?_
    refine xi_istore_n C (L' := [(3, .int (iN ((a1 * (-7046029254386353131)) % 18446744073709551616 / 4503599627370496))), (0, .ref (ad 4)), (1, .long (jN a1))]) dX1_slotFor_23 rfl (by decide) rfl ?_
    refine xi_iconst C (v := 0) dX1_slotFor_24 rfl ?_
    refine xi_istore C (L' := [(4, .int (iN 0)), (3, .int (iN ((a1 * (-7046029254386353131)) % 18446744073709551616 / 4503599627370496))), (0, .ref (ad 4)), (1, .long (jN a1))]) dX1_slotFor_25 (by decide) rfl ?_
    obtain ⟨hc2, h⟩ := h
    refine xi_sub [2, 3, 1, 0] rfl (xW2 (fun v3_27 v4_27 S27 => xR v3_27 → xR v4_27 → xval (gC D ca ad tF) S27 → xV (gC D ca ad tF) p l e ({ frames := 0, cells := 0, slots := 0, locals := 0 }) s m args below meth c A 6 Z 0 0 27 [(0, .ref (ad 4)), (1, .long (jN a1)), (3, .int (iN v3_27)), (4, .int (iN v4_27))] [] S27) h (fun k27 hk27 v3_27 v4_27 S27 h h_v3_27 h_v4_27 hw27 => ?_) hc2 (by decide) hw)
    unfold w_X1_slotFor_L27 at h
    refine xi_iload C 3 dX1_slotFor_27 rfl ?_
    refine xi_sipush C (v := 4096) dX1_slotFor_29 (by decide +kernel) ?_
    refine xi_icmp_ge C 79 h_v4_27 (by decide) dX1_slotFor_32 (by decide) (fun z3 => ?_) (fun z3 => ?_)
    · replace h := h.1 z3
      refine xi_iload_n C 2 dX1_slotFor_79 rfl rfl ?_
      exact xr_i C hA hZ hr hlocks rfl dX1_slotFor_80 (Nat.le_of_ble_eq_true rfl) (Nat.le_of_ble_eq_true rfl) hw27 ⟨_, rfl, h_v3_27, h⟩
    · replace h := h.2 z3
      refine xi_aload_n C 0 dX1_slotFor_35 rfl rfl ?_
      refine xi_getR C xK_X1 (q := 4) (r := 31) rfl 8 (by decide) (ki := 8) rfl xl_X1_31 rfl dX1_slotFor_36 ?_
      refine xi_iload_n C 2 dX1_slotFor_39 rfl rfl ?_
      obtain ⟨hc4, h⟩ := h
      refine xi_iaload C (q := 31) rfl (by decide) hc4 dX1_slotFor_40 ?_
      refine xi_iconst C (v := 1) dX1_slotFor_41 rfl ?_
      refine xi_isub C dX1_slotFor_42 ?_
      refine xi_istore C (L' := [(5, .int (iN ((S27 31 v3_27) - 1))), (0, .ref (ad 4)), (1, .long (jN a1)), (3, .int (iN v3_27)), (4, .int (iN v4_27))]) dX1_slotFor_43 (by decide) rfl ?_
      refine xi_iload C 0 dX1_slotFor_45 rfl ?_
      refine xi_iconst C (v := (-1)) dX1_slotFor_47 rfl ?_
      obtain ⟨hc5, h⟩ := h
      refine xi_icmp_eq C 63 hc5 (by decide) dX1_slotFor_48 (by decide) (fun z6 => ?_) (fun z6 => ?_)
      · replace h := h.1 z6
        refine xi_iload_n C 3 dX1_slotFor_63 rfl rfl ?_
        exact xr_i C hA hZ hr hlocks rfl dX1_slotFor_64 (Nat.le_of_ble_eq_true rfl) (Nat.le_of_ble_eq_true rfl) hw27 ⟨_, rfl, h_v3_27, h⟩
      · replace h := h.2 z6
        refine xi_aload_n C 1 dX1_slotFor_51 rfl rfl ?_
        refine xi_getR C xK_X1 (q := 4) (r := 25) rfl 2 (by decide) (ki := 2) rfl xl_X1_9 rfl dX1_slotFor_52 ?_
        refine xi_iload C 0 dX1_slotFor_55 rfl ?_
        obtain ⟨hc7, h⟩ := h
        refine xi_laload C (q := 25) rfl (by decide) hc7 dX1_slotFor_57 ?_
        refine xi_lload_n C 2 dX1_slotFor_58 rfl rfl ?_
        refine xi_lcmp_ne C 65 (xval.j (q := 25) (i := (S27 31 v3_27) - 1) hw27 hc7.1 rfl) h_a1 dX1_slotFor_59 dX1_slotFor_60 (by decide) (fun z8 => ?_) (fun z8 => ?_)
        · replace h := h.1 z8
          refine xi_iload_n C 3 dX1_slotFor_65 rfl rfl ?_
          refine xi_iconst C (v := 1) dX1_slotFor_66 rfl ?_
          refine xi_iadd C dX1_slotFor_67 ?_
          refine xi_sipush C (v := 4096) dX1_slotFor_68 (by decide +kernel) ?_
          obtain ⟨hc9, h⟩ := h
          obtain ⟨hc10, h⟩ := h
          refine xi_irem C hc9 hc10 (by decide) (by decide) dX1_slotFor_71 ?_
          refine xi_istore_n C (L' := [(3, .int (iN ((v3_27 + 1) % 4096))), (5, .int (iN ((S27 31 v3_27) - 1))), (0, .ref (ad 4)), (1, .long (jN a1)), (4, .int (iN v4_27))]) dX1_slotFor_72 rfl (by decide) rfl ?_
          refine xi_iinc C (L' := [(4, .int (iN (v4_27 + 1))), (3, .int (iN ((v3_27 + 1) % 4096))), (5, .int (iN ((S27 31 v3_27) - 1))), (0, .ref (ad 4)), (1, .long (jN a1))]) 4 dX1_slotFor_73 rfl (by decide) rfl ?_
          refine xi_goto C 27 dX1_slotFor_76 (by decide) ?_
          obtain ⟨hc11, h⟩ := h
          exact xi_sub [3, 4, 1, 0] rfl (hk27 ((v3_27 + 1) % 4096) (v4_27 + 1) S27 h (xR_mod hc9 hc10 (by decide) (by decide)) hc11 hw27)
        · replace h := h.2 z8
          refine xi_iload_n C 3 dX1_slotFor_63 rfl rfl ?_
          exact xr_i C hA hZ hr hlocks rfl dX1_slotFor_64 (Nat.le_of_ble_eq_true rfl) (Nat.le_of_ble_eq_true rfl) hw27 ⟨_, rfl, h_v3_27, h⟩
  · replace h := h.2 z1
    refine xi_lload_n C 1 dX1_slotFor_7 rfl rfl ?_
    refine xi_ldc2 C xl_X1_52 (v := 509) (by decide +kernel) dX1_slotFor_8 ?_
    obtain ⟨hc12, h⟩ := h
    refine xi_lrem C h_a1 hc12 (by decide) (by decide) dX1_slotFor_11 ?_
    refine xi_l2i C dX1_slotFor_12 ?_
    obtain ⟨hc13, h⟩ := h
    exact xr_i C hA hZ hr hlocks rfl dX1_slotFor_13 (Nat.le_of_ble_eq_true rfl) (Nat.le_of_ble_eq_true rfl) hw ⟨_, rfl, hc13, h⟩
set_option maxRecDepth 100000 in
set_option maxHeartbeats 4000000 in
theorem c_X1_numberFor (l : Launch) (D : va_G) (ca : Nat → ClassId) (ad : Nat → Nat) (tF : Nat) (a1 : Int) (S : xS) (Q : Int → xS → Prop) (h_a1 : xRJ a1) (h : w_X1_numberFor a1 S Q) : xM l yX1_numberFor (xws yX1_numberFor cX1_numberFor 3 (some .int)) ({ frames := 1, cells := 0, slots := 0, locals := 25 }) (gC D ca ad tF) [.ref (ad 4), .long (jN a1)] S (xQi Q) 0 0 := by
  refine xm_of RX1 rfl (by decide +kernel) (Nat.le_of_ble_eq_true rfl) ?_
  intro p e s m args below meth c A Z C hA hZ hr hlocks hw
  unfold w_X1_numberFor at h
  show xV (gC D ca ad tF) p l e ({ frames := 1, cells := 0, slots := 0, locals := 25 }) s m args below meth c A 3 Z 0 0 0 [(0, .ref (ad 4)), (1, .long (jN a1))] [] S
  refine xi_aload_n C 0 dX1_numberFor_0 rfl rfl ?_
  refine xi_getR C xK_X1 (q := 4) (r := 31) rfl 8 (by decide) (ki := 8) rfl xl_X1_31 rfl dX1_numberFor_1 ?_
  refine xi_aload_n C 0 dX1_numberFor_4 rfl rfl ?_
  refine xi_lload_n C 1 dX1_numberFor_5 rfl rfl ?_
  refine xc_Vi C hw (c_X1_slotFor l D ca ad tF a1 S _ h_a1 h) xk_X1_slotFor xv_X1_slotFor xl_X1_48 ⟨Nat.le_of_ble_eq_true rfl, Nat.le_of_ble_eq_true rfl⟩ xK_X1 (q := 4) rfl rfl rfl (Nat.le_of_ble_eq_true rfl) ⟨Nat.le_of_ble_eq_true rfl, Nat.le_of_ble_eq_true rfl⟩ dX1_numberFor_6 (fun r6 S6 h_r6 h hw1 => ?_)
  obtain ⟨hc2, h⟩ := h
  refine xi_iaload C (q := 31) rfl (by decide) hc2 dX1_numberFor_9 ?_
  refine xi_iconst C (v := 1) dX1_numberFor_10 rfl ?_
  refine xi_isub C dX1_numberFor_11 ?_
  obtain ⟨hc3, h⟩ := h
  exact xr_i C hA hZ hr hlocks rfl dX1_numberFor_12 (Nat.le_of_ble_eq_true rfl) (Nat.le_of_ble_eq_true rfl) hw1 ⟨_, rfl, hc3, h⟩
set_option maxRecDepth 100000 in
set_option maxHeartbeats 4000000 in
theorem c_X7_unpack_h (l : Launch) (D : va_G) (ca : Nat → ClassId) (ad : Nat → Nat) (tF : Nat) (a1 : Int) (S : xS) (Q : xS → Prop) (h_a1 : xRJ a1) (h : w_X7_unpack_h a1 S Q) : xM l yX7_unpack (xws yX7_unpack cX7_unpack 7 (none)) ({ frames := 0, cells := 0, slots := 0, locals := 0 }) (gC D ca ad tF) [.ref (ad 7), .long (jN a1)] S (xQv Q) 0 0 := by
  refine xm_of RX7 rfl (by decide +kernel) (Nat.le_of_ble_eq_true rfl) ?_
  intro p e s m args below meth c A Z C hA hZ hr hlocks hw
  unfold w_X7_unpack_h at h
  show xV (gC D ca ad tF) p l e ({ frames := 0, cells := 0, slots := 0, locals := 0 }) s m args below meth c A 7 Z 0 0 0 [(0, .ref (ad 7)), (1, .long (jN a1))] [] S
  refine xi_lload_n C 1 dX7_unpack_0 rfl rfl ?_
  refine xi_lstore_n C (L' := [(3, .long (jN a1)), (0, .ref (ad 7)), (1, .long (jN a1))]) dX7_unpack_1 rfl (by decide) rfl ?_
  refine xi_iconst C (v := 1) dX7_unpack_2 rfl ?_
  refine xi_istore C (L' := [(5, .int (iN 1)), (3, .long (jN a1)), (0, .ref (ad 7)), (1, .long (jN a1))]) dX7_unpack_3 (by decide) rfl ?_
  refine xJ1_w (fun v3_73 S73 => xRJ v3_73 → xval (gC D ca ad tF) S73 → xV (gC D ca ad tF) p l e ({ frames := 0, cells := 0, slots := 0, locals := 0 }) s m args below meth c A 7 Z 0 0 73 [(0, .ref (ad 7)), (3, .long (jN v3_73))] [] S73) h (fun v3_73 S73 h h_v3_73 hw73 => ?_) (fun j73 hj73 h => ?_)
  · unfold w_X7_unpack_h_J73 at h
    refine xi_iconst C (v := 2) dX7_unpack_73 rfl ?_
    refine xi_istore C (L' := [(5, .int (iN 2)), (0, .ref (ad 7)), (3, .long (jN v3_73))]) dX7_unpack_74 (by decide) rfl ?_
    refine xJ1_w (fun v3_106 S106 => xRJ v3_106 → xval (gC D ca ad tF) S106 → xV (gC D ca ad tF) p l e ({ frames := 0, cells := 0, slots := 0, locals := 0 }) s m args below meth c A 7 Z 0 0 106 [(0, .ref (ad 7)), (3, .long (jN v3_106))] [] S106) h (fun v3_106 S106 h h_v3_106 hw106 => ?_) (fun j106 hj106 h => ?_)
    · unfold w_X7_unpack_h_J106 at h
      refine xi_iconst C (v := 2) dX7_unpack_106 rfl ?_
      refine xi_istore C (L' := [(5, .int (iN 2)), (0, .ref (ad 7)), (3, .long (jN v3_106))]) dX7_unpack_107 (by decide) rfl ?_
      refine xi_sub [1, 2, 0] rfl (xW2 (fun v3_109 v5_109 S109 => xRJ v3_109 → xR v5_109 → xval (gC D ca ad tF) S109 → xV (gC D ca ad tF) p l e ({ frames := 0, cells := 0, slots := 0, locals := 0 }) s m args below meth c A 7 Z 0 0 109 [(0, .ref (ad 7)), (3, .long (jN v3_109)), (5, .int (iN v5_109))] [] S109) h (fun k109 hk109 v3_109 v5_109 S109 h h_v3_109 h_v5_109 hw109 => ?_) h_v3_106 (by decide) hw106)
      unfold w_X7_unpack_h_L109 at h
      refine xi_iload C 2 dX7_unpack_109 rfl ?_
      refine xi_if_lt C 187 h_v5_109 dX7_unpack_111 (by decide) (fun z1 => ?_) (fun z1 => ?_)
      · replace h := h.1 z1
        exact xr_v C hA hZ hr hlocks dX7_unpack_187 (Nat.le_of_ble_eq_true rfl) (Nat.le_of_ble_eq_true rfl) hw109 ⟨rfl, h⟩
      · replace h := h.2 z1
        refine xi_getFO C xn_X7_58 dX7_unpack_114 ?_
        refine xi_iload C 2 dX7_unpack_117 rfl ?_
        obtain ⟨hc2, h⟩ := h
        refine xi_ialoadFO C hc2 dX7_unpack_119 ?_
        refine xi_istore C (L' := [(6, .int (iN (3 + 2 * v5_109))), (0, .ref (ad 7)), (3, .long (jN v3_109)), (5, .int (iN v5_109))]) dX7_unpack_120 (by decide) rfl ?_
        refine xi_aload_n C 1 dX7_unpack_122 rfl rfl ?_
        refine xi_getR C xK_X7 (q := 7) (r := 37) rfl 2 (by decide) (ki := 2) rfl xl_X7_15 rfl dX7_unpack_123 ?_
        refine xi_iload C 0 dX7_unpack_126 rfl ?_
        refine xi_iconst C (v := 1) dX7_unpack_128 rfl ?_
        refine xi_iadd C dX7_unpack_129 ?_
        refine xi_lload_n C 2 dX7_unpack_130 rfl rfl ?_
        refine xi_ldc2 C xl_X7_54 (v := 4) (by decide +kernel) dX7_unpack_131 ?_
        obtain ⟨hc3, h⟩ := h
        refine xi_lrem C h_v3_109 hc3 (by decide) (by decide) dX7_unpack_134 ?_
        refine xi_l2i C dX7_unpack_135 ?_
        obtain ⟨hc4, h⟩ := h
        obtain ⟨hc5, h⟩ := h
        refine xi_iastore C (q := 37) rfl (by decide) hc5 dX7_unpack_136 ?_
        have hw6 := xval.up (q := 37) (i := (3 + 2 * v5_109) + 1) (v := v3_109 % 4) hw109 rfl hc4
        refine xi_lload_n C 2 dX7_unpack_137 rfl rfl ?_
        refine xi_ldc2 C xl_X7_54 (v := 4) (by decide +kernel) dX7_unpack_138 ?_
        refine xi_ldiv C h_v3_109 hc3 (by decide) (by decide) dX7_unpack_141 ?_
        refine xi_lstore_n C (L' := [(3, .long (jN (v3_109 / 4))), (6, .int (iN (3 + 2 * v5_109))), (0, .ref (ad 7)), (5, .int (iN v5_109))]) dX7_unpack_142 rfl (by decide) rfl ?_
        refine xi_aload_n C 2 dX7_unpack_143 rfl rfl ?_
        refine xi_getR C xK_X7 (q := 7) (r := 37) rfl 2 (by decide) (ki := 2) rfl xl_X7_15 rfl dX7_unpack_144 ?_
        refine xi_iload C 1 dX7_unpack_147 rfl ?_
        refine xi_lload_n C 0 dX7_unpack_149 rfl rfl ?_
        refine xi_ldc2 C xl_X7_54 (v := 4) (by decide +kernel) dX7_unpack_150 ?_
        refine xi_lrem C (xRJ_div h_v3_109 hc3 (by decide) (by decide)) (xnn_div hc3 (by decide)) (by decide) (by decide) dX7_unpack_153 ?_
        refine xi_l2i C dX7_unpack_154 ?_
        obtain ⟨hc7, h⟩ := h
        obtain ⟨hc8, h⟩ := h
        refine xi_iastore C (q := 37) rfl (by decide) hc8 dX7_unpack_155 ?_
        have hw9 := xval.up (q := 37) (i := 3 + 2 * v5_109) (v := (v3_109 / 4) % 4) hw6 rfl hc7
        refine xi_lload_n C 0 dX7_unpack_156 rfl rfl ?_
        refine xi_ldc2 C xl_X7_54 (v := 4) (by decide +kernel) dX7_unpack_157 ?_
        refine xi_ldiv C (xRJ_div h_v3_109 hc3 (by decide) (by decide)) (xnn_div hc3 (by decide)) (by decide) (by decide) dX7_unpack_160 ?_
        refine xi_lstore_n C (L' := [(3, .long (jN ((v3_109 / 4) / 4))), (6, .int (iN (3 + 2 * v5_109))), (0, .ref (ad 7)), (5, .int (iN v5_109))]) dX7_unpack_161 rfl (by decide) rfl ?_
        refine xi_aload_n C 2 dX7_unpack_162 rfl rfl ?_
        refine xi_getR C xK_X7 (q := 7) (r := 36) rfl 1 (by decide) (ki := 1) rfl xl_X7_9 rfl dX7_unpack_163 ?_
        refine xi_iload C 3 dX7_unpack_166 rfl ?_
        refine xi_lload_n C 0 dX7_unpack_168 rfl rfl ?_
        refine xi_ldc2 C xl_X7_61 (v := 12) (by decide +kernel) dX7_unpack_169 ?_
        refine xi_lrem C (xRJ_div (xRJ_div h_v3_109 hc3 (by decide) (by decide)) (xnn_div hc3 (by decide)) (by decide) (by decide)) (xnn_div (xnn_div hc3 (by decide)) (by decide)) (by decide) (by decide) dX7_unpack_172 ?_
        refine xi_l2i C dX7_unpack_173 ?_
        obtain ⟨hc10, h⟩ := h
        refine xi_iastore C (q := 36) rfl (by decide) hc2 dX7_unpack_174 ?_
        have hw11 := xval.up (q := 36) (i := v5_109) (v := ((v3_109 / 4) / 4) % 12) hw9 rfl hc10
        refine xi_lload_n C 0 dX7_unpack_175 rfl rfl ?_
        refine xi_ldc2 C xl_X7_61 (v := 12) (by decide +kernel) dX7_unpack_176 ?_
        refine xi_ldiv C (xRJ_div (xRJ_div h_v3_109 hc3 (by decide) (by decide)) (xnn_div hc3 (by decide)) (by decide) (by decide)) (xnn_div (xnn_div hc3 (by decide)) (by decide)) (by decide) (by decide) dX7_unpack_179 ?_
        refine xi_lstore_n C (L' := [(3, .long (jN (((v3_109 / 4) / 4) / 12))), (6, .int (iN (3 + 2 * v5_109))), (0, .ref (ad 7)), (5, .int (iN v5_109))]) dX7_unpack_180 rfl (by decide) rfl ?_
        refine xi_iinc C (L' := [(5, .int (iN (v5_109 + (-1)))), (3, .long (jN (((v3_109 / 4) / 4) / 12))), (6, .int (iN (3 + 2 * v5_109))), (0, .ref (ad 7))]) 3 dX7_unpack_181 rfl (by decide) rfl ?_
        refine xi_goto C 109 dX7_unpack_184 (by decide) ?_
        obtain ⟨hc12, h⟩ := h
        exact xi_sub [3, 1, 0] rfl (hk109 (((v3_109 / 4) / 4) / 12) (v5_109 + (-1)) (xup (xup (xup S109 37 ((3 + 2 * v5_109) + 1) (v3_109 % 4)) 37 (3 + 2 * v5_109) ((v3_109 / 4) % 4)) 36 v5_109 (((v3_109 / 4) / 4) % 12)) h (xRJ_div (xRJ_div (xRJ_div h_v3_109 hc3 (by decide) (by decide)) (xnn_div hc3 (by decide)) (by decide) (by decide)) (xnn_div (xnn_div hc3 (by decide)) (by decide)) (by decide) (by decide)) hc12 hw11)
    · refine xi_sub [1, 2, 0] rfl (xW2 (fun v3_76 v5_76 S76 => xRJ v3_76 → xR v5_76 → xval (gC D ca ad tF) S76 → xV (gC D ca ad tF) p l e ({ frames := 0, cells := 0, slots := 0, locals := 0 }) s m args below meth c A 7 Z 0 0 76 [(0, .ref (ad 7)), (3, .long (jN v3_76)), (5, .int (iN v5_76))] [] S76) h (fun k76 hk76 v3_76 v5_76 S76 h h_v3_76 h_v5_76 hw76 => ?_) h_v3_73 (by decide) hw73)
      unfold w_X7_unpack_h_L76 at h
      refine xi_iload C 2 dX7_unpack_76 rfl ?_
      refine xi_if_lt C 106 h_v5_76 dX7_unpack_78 (by decide) (fun z13 => ?_) (fun z13 => ?_)
      · replace h := h.1 z13
        exact xi_sub [0, 1] rfl (hj106 v3_76 S76 h h_v3_76 hw76)
      · replace h := h.2 z13
        refine xi_aload_n C 0 dX7_unpack_81 rfl rfl ?_
        refine xi_getR C xK_X7 (q := 7) (r := 37) rfl 2 (by decide) (ki := 2) rfl xl_X7_15 rfl dX7_unpack_82 ?_
        refine xi_iload C 2 dX7_unpack_85 rfl ?_
        refine xi_lload_n C 1 dX7_unpack_87 rfl rfl ?_
        refine xi_ldc2 C xl_X7_54 (v := 4) (by decide +kernel) dX7_unpack_88 ?_
        obtain ⟨hc14, h⟩ := h
        refine xi_lrem C h_v3_76 hc14 (by decide) (by decide) dX7_unpack_91 ?_
        refine xi_l2i C dX7_unpack_92 ?_
        obtain ⟨hc15, h⟩ := h
        obtain ⟨hc16, h⟩ := h
        refine xi_iastore C (q := 37) rfl (by decide) hc16 dX7_unpack_93 ?_
        have hw17 := xval.up (q := 37) (i := v5_76) (v := v3_76 % 4) hw76 rfl hc15
        refine xi_lload_n C 1 dX7_unpack_94 rfl rfl ?_
        refine xi_ldc2 C xl_X7_54 (v := 4) (by decide +kernel) dX7_unpack_95 ?_
        refine xi_ldiv C h_v3_76 hc14 (by decide) (by decide) dX7_unpack_98 ?_
        refine xi_lstore_n C (L' := [(3, .long (jN (v3_76 / 4))), (0, .ref (ad 7)), (5, .int (iN v5_76))]) dX7_unpack_99 rfl (by decide) rfl ?_
        refine xi_iinc C (L' := [(5, .int (iN (v5_76 + (-1)))), (3, .long (jN (v3_76 / 4))), (0, .ref (ad 7))]) 2 dX7_unpack_100 rfl (by decide) rfl ?_
        refine xi_goto C 76 dX7_unpack_103 (by decide) ?_
        obtain ⟨hc18, h⟩ := h
        exact xi_sub [2, 1, 0] rfl (hk76 (v3_76 / 4) (v5_76 + (-1)) (xup S76 37 v5_76 (v3_76 % 4)) h (xRJ_div h_v3_76 hc14 (by decide) (by decide)) hc18 hw17)
  · refine xi_sub [2, 1, 0] rfl (xW2 (fun v3_5 v5_5 S5 => xRJ v3_5 → xR v5_5 → xval (gC D ca ad tF) S5 → xV (gC D ca ad tF) p l e ({ frames := 0, cells := 0, slots := 0, locals := 0 }) s m args below meth c A 7 Z 0 0 5 [(0, .ref (ad 7)), (3, .long (jN v3_5)), (5, .int (iN v5_5))] [] S5) h (fun k5 hk5 v3_5 v5_5 S5 h h_v3_5 h_v5_5 hw5 => ?_) h_a1 (by decide) hw)
    unfold w_X7_unpack_h_L5 at h
    refine xi_iload C 2 dX7_unpack_5 rfl ?_
    refine xi_if_lt C 73 h_v5_5 dX7_unpack_7 (by decide) (fun z19 => ?_) (fun z19 => ?_)
    · replace h := h.1 z19
      exact xi_sub [0, 1] rfl (hj73 v3_5 S5 h h_v3_5 hw5)
    · replace h := h.2 z19
      refine xi_aload_n C 0 dX7_unpack_10 rfl rfl ?_
      refine xi_getR C xK_X7 (q := 7) (r := 40) rfl 5 (by decide) (ki := 5) rfl xl_X7_24 rfl dX7_unpack_11 ?_
      refine xi_iload C 2 dX7_unpack_14 rfl ?_
      refine xi_lload_n C 1 dX7_unpack_16 rfl rfl ?_
      refine xi_ldc2 C xl_X7_54 (v := 4) (by decide +kernel) dX7_unpack_17 ?_
      obtain ⟨hc20, h⟩ := h
      refine xi_lrem C h_v3_5 hc20 (by decide) (by decide) dX7_unpack_20 ?_
      refine xi_l2i C dX7_unpack_21 ?_
      obtain ⟨hc21, h⟩ := h
      obtain ⟨hc22, h⟩ := h
      refine xi_iastore C (q := 40) rfl (by decide) hc22 dX7_unpack_22 ?_
      have hw23 := xval.up (q := 40) (i := v5_5) (v := v3_5 % 4) hw5 rfl hc21
      refine xi_lload_n C 1 dX7_unpack_23 rfl rfl ?_
      refine xi_ldc2 C xl_X7_54 (v := 4) (by decide +kernel) dX7_unpack_24 ?_
      refine xi_ldiv C h_v3_5 hc20 (by decide) (by decide) dX7_unpack_27 ?_
      refine xi_lstore_n C (L' := [(3, .long (jN (v3_5 / 4))), (0, .ref (ad 7)), (5, .int (iN v5_5))]) dX7_unpack_28 rfl (by decide) rfl ?_
      refine xi_aload_n C 1 dX7_unpack_29 rfl rfl ?_
      refine xi_getR C xK_X7 (q := 7) (r := 39) rfl 4 (by decide) (ki := 4) rfl xl_X7_21 rfl dX7_unpack_30 ?_
      refine xi_iload C 2 dX7_unpack_33 rfl ?_
      refine xi_lload_n C 0 dX7_unpack_35 rfl rfl ?_
      refine xi_ldc2 C xl_X7_54 (v := 4) (by decide +kernel) dX7_unpack_36 ?_
      refine xi_lrem C (xRJ_div h_v3_5 hc20 (by decide) (by decide)) (xnn_div hc20 (by decide)) (by decide) (by decide) dX7_unpack_39 ?_
      refine xi_l2i C dX7_unpack_40 ?_
      obtain ⟨hc24, h⟩ := h
      refine xi_iastore C (q := 39) rfl (by decide) hc22 dX7_unpack_41 ?_
      have hw25 := xval.up (q := 39) (i := v5_5) (v := (v3_5 / 4) % 4) hw23 rfl hc24
      refine xi_lload_n C 0 dX7_unpack_42 rfl rfl ?_
      refine xi_ldc2 C xl_X7_54 (v := 4) (by decide +kernel) dX7_unpack_43 ?_
      refine xi_ldiv C (xRJ_div h_v3_5 hc20 (by decide) (by decide)) (xnn_div hc20 (by decide)) (by decide) (by decide) dX7_unpack_46 ?_
      refine xi_lstore_n C (L' := [(3, .long (jN ((v3_5 / 4) / 4))), (0, .ref (ad 7)), (5, .int (iN v5_5))]) dX7_unpack_47 rfl (by decide) rfl ?_
      refine xi_aload_n C 1 dX7_unpack_48 rfl rfl ?_
      refine xi_getR C xK_X7 (q := 7) (r := 38) rfl 3 (by decide) (ki := 3) rfl xl_X7_18 rfl dX7_unpack_49 ?_
      refine xi_iload C 2 dX7_unpack_52 rfl ?_
      refine xi_lload_n C 0 dX7_unpack_54 rfl rfl ?_
      refine xi_ldc2 C xl_X7_56 (v := 3) (by decide +kernel) dX7_unpack_55 ?_
      refine xi_lrem C (xRJ_div (xRJ_div h_v3_5 hc20 (by decide) (by decide)) (xnn_div hc20 (by decide)) (by decide) (by decide)) (xnn_div (xnn_div hc20 (by decide)) (by decide)) (by decide) (by decide) dX7_unpack_58 ?_
      refine xi_l2i C dX7_unpack_59 ?_
      obtain ⟨hc26, h⟩ := h
      refine xi_iastore C (q := 38) rfl (by decide) hc22 dX7_unpack_60 ?_
      have hw27 := xval.up (q := 38) (i := v5_5) (v := ((v3_5 / 4) / 4) % 3) hw25 rfl hc26
      refine xi_lload_n C 0 dX7_unpack_61 rfl rfl ?_
      refine xi_ldc2 C xl_X7_56 (v := 3) (by decide +kernel) dX7_unpack_62 ?_
      refine xi_ldiv C (xRJ_div (xRJ_div h_v3_5 hc20 (by decide) (by decide)) (xnn_div hc20 (by decide)) (by decide) (by decide)) (xnn_div (xnn_div hc20 (by decide)) (by decide)) (by decide) (by decide) dX7_unpack_65 ?_
      refine xi_lstore_n C (L' := [(3, .long (jN (((v3_5 / 4) / 4) / 3))), (0, .ref (ad 7)), (5, .int (iN v5_5))]) dX7_unpack_66 rfl (by decide) rfl ?_
      refine xi_iinc C (L' := [(5, .int (iN (v5_5 + (-1)))), (3, .long (jN (((v3_5 / 4) / 4) / 3))), (0, .ref (ad 7))]) 2 dX7_unpack_67 rfl (by decide) rfl ?_
      refine xi_goto C 5 dX7_unpack_70 (by decide) ?_
      obtain ⟨hc28, h⟩ := h
      exact xi_sub [2, 1, 0] rfl (hk5 (((v3_5 / 4) / 4) / 3) (v5_5 + (-1)) (xup (xup (xup S5 40 v5_5 (v3_5 % 4)) 39 v5_5 ((v3_5 / 4) % 4)) 38 v5_5 (((v3_5 / 4) / 4) % 3)) h (xRJ_div (xRJ_div (xRJ_div h_v3_5 hc20 (by decide) (by decide)) (xnn_div hc20 (by decide)) (by decide) (by decide)) (xnn_div (xnn_div hc20 (by decide)) (by decide)) (by decide) (by decide)) hc28 hw27)
set_option maxRecDepth 100000 in
set_option maxHeartbeats 4000000 in
theorem c_X6_listMoves (l : Launch) (D : va_G) (ca : Nat → ClassId) (ad : Nat → Nat) (tF : Nat) (a1 : Int) (S : xS) (Q : xS → Prop) (h_a1 : xR a1) (h : w_X6_listMoves a1 S Q) : xM l yX6_listMoves (xws yX6_listMoves cX6_listMoves 2 (none)) ({ frames := 4, cells := 0, slots := 0, locals := 94 }) (gC D ca ad tF) [.ref (ad 2), .int (iN a1)] S (xQv Q) 0 0 := by
  refine xm_of RX6 rfl (by decide +kernel) (Nat.le_of_ble_eq_true rfl) ?_
  intro p e s m args below meth c A Z C hA hZ hr hlocks hw
  unfold w_X6_listMoves at h
  show xV (gC D ca ad tF) p l e ({ frames := 4, cells := 0, slots := 0, locals := 94 }) s m args below meth c A 2 Z 0 0 0 [(0, .ref (ad 2)), (1, .int (iN a1))] [] S
  refine xi_aload_n C 0 dX6_listMoves_0 rfl rfl ?_
  refine xi_getR C xK_X6 (q := 2) (r := 7) rfl 4 (by decide) (ki := 4) rfl xl_X6_42 rfl dX6_listMoves_1 ?_
  refine xi_aload_n C 0 dX6_listMoves_4 rfl rfl ?_
  refine xi_getR C xK_X6 (q := 2) (r := 4) rfl 1 (by decide) (ki := 1) rfl xl_X6_22 rfl dX6_listMoves_5 ?_
  refine xi_getRN C xK_X1 (q := 4) (r := 25) rfl 2 (by decide) (ki := 2) rfl xn_X6_154 rfl dX6_listMoves_8 ?_
  refine xi_iload_n C 1 dX6_listMoves_11 rfl rfl ?_
  obtain ⟨hc1, h⟩ := h
  refine xi_laload C (q := 25) rfl (by decide) hc1 dX6_listMoves_12 ?_
  refine xc_Vv C hw (c_X7_unpack_h l D ca ad tF (S 25 a1) S _ (xval.j (q := 25) (i := a1) hw hc1.1 rfl) h) xk_X7_unpack xv_X7_unpack xl_X6_158 ⟨Nat.le_of_ble_eq_true rfl, Nat.le_of_ble_eq_true rfl⟩ xK_X7 (q := 7) rfl rfl rfl (Nat.le_of_ble_eq_true rfl) ⟨Nat.le_of_ble_eq_true rfl, Nat.le_of_ble_eq_true rfl⟩ dX6_listMoves_13 (fun S13 h hw2 => ?_)
  refine xi_aload_n C 0 dX6_listMoves_16 rfl rfl ?_
  refine xi_getR C xK_X6 (q := 2) (r := 6) rfl 3 (by decide) (ki := 3) rfl xl_X6_35 rfl dX6_listMoves_17 ?_
  refine xi_aload_n C 0 dX6_listMoves_20 rfl rfl ?_
  refine xi_getR C xK_X6 (q := 2) (r := 7) rfl 4 (by decide) (ki := 4) rfl xl_X6_42 rfl dX6_listMoves_21 ?_
  refine xc_Vv C hw2 (c_X3_listFor_h l D ca ad tF S13 _ h) xk_X3_listFor xv_X3_listFor xl_X6_162 ⟨Nat.le_of_ble_eq_true rfl, Nat.le_of_ble_eq_true rfl⟩ xK_X3 (q := 6) rfl rfl rfl (Nat.le_of_ble_eq_true rfl) ⟨Nat.le_of_ble_eq_true rfl, Nat.le_of_ble_eq_true rfl⟩ dX6_listMoves_24 (fun S24 h hw3 => ?_)
  refine xi_aload_n C 0 dX6_listMoves_27 rfl rfl ?_
  refine xi_getR C xK_X6 (q := 2) (r := 4) rfl 1 (by decide) (ki := 1) rfl xl_X6_22 rfl dX6_listMoves_28 ?_
  refine xi_getRN C xK_X1 (q := 4) (r := 30) rfl 7 (by decide) (ki := 7) rfl xn_X6_166 rfl dX6_listMoves_31 ?_
  refine xi_iload_n C 1 dX6_listMoves_34 rfl rfl ?_
  refine xi_aload_n C 0 dX6_listMoves_35 rfl rfl ?_
  refine xi_getR C xK_X6 (q := 2) (r := 6) rfl 3 (by decide) (ki := 3) rfl xl_X6_35 rfl dX6_listMoves_36 ?_
  refine xi_getIN C xK_X3 (q := 6) (r := 0) rfl 2 (by decide) (ki := 2) rfl xn_X6_127 rfl dX6_listMoves_39 ?_
  refine xi_iastore C (q := 30) rfl (by decide) hc1 dX6_listMoves_42 ?_
  have hw4 := xval.up (q := 30) (i := a1) (v := S24 6 2) hw3 rfl (xval.i (q := 6) (i := 2) hw3 (by decide) rfl)
  exact xr_v C hA hZ hr hlocks dX6_listMoves_43 (Nat.le_of_ble_eq_true rfl) (Nat.le_of_ble_eq_true rfl) hw4 ⟨rfl, h⟩
set_option maxRecDepth 100000 in
set_option maxHeartbeats 4000000 in
theorem c_X7_pack_n (l : Launch) (D : va_G) (ca : Nat → ClassId) (ad : Nat → Nat) (tF : Nat)  (S : xS) (Q : Int → xS → Prop)  (h : w_X7_pack_n  S Q) : xM l yX7_pack (xws yX7_pack cX7_pack 4 (some .long)) ({ frames := 1, cells := 0, slots := 0, locals := 22 }) (gC D ca ad tF) [.ref (ad 8)] S (xQj Q) 0 0 := by
  refine xm_of RX7 rfl (by decide +kernel) (Nat.le_of_ble_eq_true rfl) ?_
  intro p e s m args below meth c A Z C hA hZ hr hlocks hw
  unfold w_X7_pack_n at h
  show xV (gC D ca ad tF) p l e ({ frames := 1, cells := 0, slots := 0, locals := 22 }) s m args below meth c A 4 Z 0 0 0 [(0, .ref (ad 8))] [] S
  refine xi_lconst C (v := 0) dX7_pack_0 (by decide +kernel) ?_
  refine xi_lstore_n C (L' := [(1, .long (jN 0)), (0, .ref (ad 8))]) dX7_pack_1 rfl (by decide) rfl ?_
  refine xi_iconst C (v := 0) dX7_pack_2 rfl ?_
  refine xi_istore_n C (L' := [(3, .int (iN 0)), (1, .long (jN 0)), (0, .ref (ad 8))]) dX7_pack_3 rfl (by decide) rfl ?_
  refine xJ1_w (fun v1_28 S28 => xRJ v1_28 → xval (gC D ca ad tF) S28 → xV (gC D ca ad tF) p l e ({ frames := 1, cells := 0, slots := 0, locals := 22 }) s m args below meth c A 4 Z 0 0 28 [(0, .ref (ad 8)), (1, .long (jN v1_28))] [] S28) h (fun v1_28 S28 h h_v1_28 hw28 => ?_) (fun j28 hj28 h => ?_)
  · unfold w_X7_pack_n_J28 at h
    refine xi_iconst C (v := 0) dX7_pack_28 rfl ?_
    refine xi_istore_n C (L' := [(3, .int (iN 0)), (0, .ref (ad 8)), (1, .long (jN v1_28))]) dX7_pack_29 rfl (by decide) rfl ?_
    refine xJ1_w (fun v1_55 S55 => xRJ v1_55 → xval (gC D ca ad tF) S55 → xV (gC D ca ad tF) p l e ({ frames := 1, cells := 0, slots := 0, locals := 22 }) s m args below meth c A 4 Z 0 0 55 [(0, .ref (ad 8)), (1, .long (jN v1_55))] [] S55) h (fun v1_55 S55 h h_v1_55 hw55 => ?_) (fun j55 hj55 h => ?_)
    · unfold w_X7_pack_n_J55 at h
      refine xi_iconst C (v := 0) dX7_pack_55 rfl ?_
      refine xi_istore_n C (L' := [(3, .int (iN 0)), (0, .ref (ad 8)), (1, .long (jN v1_55))]) dX7_pack_56 rfl (by decide) rfl ?_
      refine xi_sub [1, 2, 0] rfl (xW2 (fun v1_57 v3_57 S57 => xRJ v1_57 → xR v3_57 → xval (gC D ca ad tF) S57 → xV (gC D ca ad tF) p l e ({ frames := 1, cells := 0, slots := 0, locals := 22 }) s m args below meth c A 4 Z 0 0 57 [(0, .ref (ad 8)), (1, .long (jN v1_57)), (3, .int (iN v3_57))] [] S57) h (fun k57 hk57 v1_57 v3_57 S57 h h_v1_57 h_v3_57 hw57 => ?_) h_v1_55 (by decide) hw55)
      unfold w_X7_pack_n_L57 at h
      refine xi_iload_n C 2 dX7_pack_57 rfl rfl ?_
      refine xi_iconst C (v := 2) dX7_pack_58 rfl ?_
      refine xi_icmp_ge C 110 h_v3_57 (by decide) dX7_pack_59 (by decide) (fun z1 => ?_) (fun z1 => ?_)
      · replace h := h.1 z1
        refine xi_lload_n C 1 dX7_pack_110 rfl rfl ?_
        exact xr_j C hA hZ hr hlocks dX7_pack_111 (Nat.le_of_ble_eq_true rfl) (Nat.le_of_ble_eq_true rfl) hw57 ⟨_, rfl, h_v1_57, h⟩
      · replace h := h.2 z1
        refine xi_lload_n C 1 dX7_pack_62 rfl rfl ?_
        refine xi_ldc2 C xl_X7_56 (v := 3) (by decide +kernel) dX7_pack_63 ?_
        refine xi_lmul C dX7_pack_66 ?_
        refine xi_aload_n C 0 dX7_pack_67 rfl rfl ?_
        refine xi_getR C xK_X7 (q := 8) (r := 43) rfl 3 (by decide) (ki := 3) rfl xl_X7_18 rfl dX7_pack_68 ?_
        refine xi_iload_n C 2 dX7_pack_71 rfl rfl ?_
        obtain ⟨hc2, h⟩ := h
        refine xi_iaload C (q := 43) rfl (by decide) hc2 dX7_pack_72 ?_
        refine xi_i2l C (xval.i (q := 43) (i := v3_57) hw57 hc2.1 rfl) dX7_pack_73 ?_
        refine xi_ladd C dX7_pack_74 ?_
        refine xi_lstore_n C (L' := [(1, .long (jN ((v1_57 * 3) + (S57 43 v3_57)))), (0, .ref (ad 8)), (3, .int (iN v3_57))]) dX7_pack_75 rfl (by decide) rfl ?_
        refine xi_lload_n C 0 dX7_pack_76 rfl rfl ?_
        refine xi_ldc2 C xl_X7_54 (v := 4) (by decide +kernel) dX7_pack_77 ?_
        refine xi_lmul C dX7_pack_80 ?_
        refine xi_aload_n C 1 dX7_pack_81 rfl rfl ?_
        refine xi_getR C xK_X7 (q := 8) (r := 44) rfl 4 (by decide) (ki := 4) rfl xl_X7_21 rfl dX7_pack_82 ?_
        refine xi_iload_n C 2 dX7_pack_85 rfl rfl ?_
        refine xi_iaload C (q := 44) rfl (by decide) hc2 dX7_pack_86 ?_
        refine xi_i2l C (xval.i (q := 44) (i := v3_57) hw57 hc2.1 rfl) dX7_pack_87 ?_
        refine xi_ladd C dX7_pack_88 ?_
        refine xi_lstore_n C (L' := [(1, .long (jN ((((v1_57 * 3) + (S57 43 v3_57)) * 4) + (S57 44 v3_57)))), (0, .ref (ad 8)), (3, .int (iN v3_57))]) dX7_pack_89 rfl (by decide) rfl ?_
        refine xi_lload_n C 0 dX7_pack_90 rfl rfl ?_
        refine xi_ldc2 C xl_X7_54 (v := 4) (by decide +kernel) dX7_pack_91 ?_
        refine xi_lmul C dX7_pack_94 ?_
        refine xi_aload_n C 1 dX7_pack_95 rfl rfl ?_
        refine xi_getR C xK_X7 (q := 8) (r := 45) rfl 5 (by decide) (ki := 5) rfl xl_X7_24 rfl dX7_pack_96 ?_
        refine xi_iload_n C 2 dX7_pack_99 rfl rfl ?_
        refine xi_iaload C (q := 45) rfl (by decide) hc2 dX7_pack_100 ?_
        refine xi_i2l C (xval.i (q := 45) (i := v3_57) hw57 hc2.1 rfl) dX7_pack_101 ?_
        refine xi_ladd C dX7_pack_102 ?_
        refine xi_lstore_n C (L' := [(1, .long (jN ((((((v1_57 * 3) + (S57 43 v3_57)) * 4) + (S57 44 v3_57)) * 4) + (S57 45 v3_57)))), (0, .ref (ad 8)), (3, .int (iN v3_57))]) dX7_pack_103 rfl (by decide) rfl ?_
        refine xi_iinc C (L' := [(3, .int (iN (v3_57 + 1))), (1, .long (jN ((((((v1_57 * 3) + (S57 43 v3_57)) * 4) + (S57 44 v3_57)) * 4) + (S57 45 v3_57)))), (0, .ref (ad 8))]) 2 dX7_pack_104 rfl (by decide) rfl ?_
        refine xi_goto C 57 dX7_pack_107 (by decide) ?_
        obtain ⟨hc3, h⟩ := h
        obtain ⟨hc4, h⟩ := h
        exact xi_sub [2, 1, 0] rfl (hk57 ((((((v1_57 * 3) + (S57 43 v3_57)) * 4) + (S57 44 v3_57)) * 4) + (S57 45 v3_57)) (v3_57 + 1) S57 h hc3 hc4 hw57)
    · refine xi_sub [1, 2, 0] rfl (xW2 (fun v1_30 v3_30 S30 => xRJ v1_30 → xR v3_30 → xval (gC D ca ad tF) S30 → xV (gC D ca ad tF) p l e ({ frames := 1, cells := 0, slots := 0, locals := 22 }) s m args below meth c A 4 Z 0 0 30 [(0, .ref (ad 8)), (1, .long (jN v1_30)), (3, .int (iN v3_30))] [] S30) h (fun k30 hk30 v1_30 v3_30 S30 h h_v1_30 h_v3_30 hw30 => ?_) h_v1_28 (by decide) hw28)
      unfold w_X7_pack_n_L30 at h
      refine xi_iload_n C 2 dX7_pack_30 rfl rfl ?_
      refine xi_iconst C (v := 3) dX7_pack_31 rfl ?_
      refine xi_icmp_ge C 55 h_v3_30 (by decide) dX7_pack_32 (by decide) (fun z5 => ?_) (fun z5 => ?_)
      · replace h := h.1 z5
        exact xi_sub [0, 1] rfl (hj55 v1_30 S30 h h_v1_30 hw30)
      · replace h := h.2 z5
        refine xi_lload_n C 1 dX7_pack_35 rfl rfl ?_
        refine xi_ldc2 C xl_X7_54 (v := 4) (by decide +kernel) dX7_pack_36 ?_
        refine xi_lmul C dX7_pack_39 ?_
        refine xi_aload_n C 0 dX7_pack_40 rfl rfl ?_
        refine xi_getR C xK_X7 (q := 8) (r := 42) rfl 2 (by decide) (ki := 2) rfl xl_X7_15 rfl dX7_pack_41 ?_
        refine xi_iload_n C 2 dX7_pack_44 rfl rfl ?_
        obtain ⟨hc6, h⟩ := h
        refine xi_iaload C (q := 42) rfl (by decide) hc6 dX7_pack_45 ?_
        refine xi_i2l C (xval.i (q := 42) (i := v3_30) hw30 hc6.1 rfl) dX7_pack_46 ?_
        refine xi_ladd C dX7_pack_47 ?_
        refine xi_lstore_n C (L' := [(1, .long (jN ((v1_30 * 4) + (S30 42 v3_30)))), (0, .ref (ad 8)), (3, .int (iN v3_30))]) dX7_pack_48 rfl (by decide) rfl ?_
        refine xi_iinc C (L' := [(3, .int (iN (v3_30 + 1))), (1, .long (jN ((v1_30 * 4) + (S30 42 v3_30)))), (0, .ref (ad 8))]) 2 dX7_pack_49 rfl (by decide) rfl ?_
        refine xi_goto C 30 dX7_pack_52 (by decide) ?_
        obtain ⟨hc7, h⟩ := h
        obtain ⟨hc8, h⟩ := h
        exact xi_sub [2, 1, 0] rfl (hk30 ((v1_30 * 4) + (S30 42 v3_30)) (v3_30 + 1) S30 h hc7 hc8 hw30)
  · refine xi_sub [2, 1, 0] rfl (xW2 (fun v1_4 v3_4 S4 => xRJ v1_4 → xR v3_4 → xval (gC D ca ad tF) S4 → xV (gC D ca ad tF) p l e ({ frames := 1, cells := 0, slots := 0, locals := 22 }) s m args below meth c A 4 Z 0 0 4 [(0, .ref (ad 8)), (1, .long (jN v1_4)), (3, .int (iN v3_4))] [] S4) h (fun k4 hk4 v1_4 v3_4 S4 h h_v1_4 h_v3_4 hw4 => ?_) (by decide) (by decide) hw)
    unfold w_X7_pack_n_L4 at h
    refine xi_iload_n C 2 dX7_pack_4 rfl rfl ?_
    refine xi_iconst C (v := 3) dX7_pack_5 rfl ?_
    refine xi_icmp_ge C 28 h_v3_4 (by decide) dX7_pack_6 (by decide) (fun z9 => ?_) (fun z9 => ?_)
    · replace h := h.1 z9
      exact xi_sub [0, 1] rfl (hj28 v1_4 S4 h h_v1_4 hw4)
    · replace h := h.2 z9
      refine xi_lload_n C 1 dX7_pack_9 rfl rfl ?_
      refine xi_ldc2 C xl_X7_48 (v := 192) (by decide +kernel) dX7_pack_10 ?_
      refine xi_lmul C dX7_pack_13 ?_
      refine xi_aload_n C 0 dX7_pack_14 rfl rfl ?_
      refine xi_iload_n C 2 dX7_pack_15 rfl rfl ?_
      refine xc_Vi C hw4 (c_X7_shareOf_n l D ca ad tF v3_4 S4 _ h_v3_4 h) xk_X7_shareOf xv_X7_shareOf xl_X7_50 ⟨Nat.le_of_ble_eq_true rfl, Nat.le_of_ble_eq_true rfl⟩ xK_X7 (q := 8) rfl rfl rfl (Nat.le_of_ble_eq_true rfl) ⟨Nat.le_of_ble_eq_true rfl, Nat.le_of_ble_eq_true rfl⟩ dX7_pack_16 (fun r16 S16 h_r16 h hw10 => ?_)
      refine xi_i2l C h_r16 dX7_pack_19 ?_
      refine xi_ladd C dX7_pack_20 ?_
      refine xi_lstore_n C (L' := [(1, .long (jN ((v1_4 * 192) + r16))), (0, .ref (ad 8)), (3, .int (iN v3_4))]) dX7_pack_21 rfl (by decide) rfl ?_
      refine xi_iinc C (L' := [(3, .int (iN (v3_4 + 1))), (1, .long (jN ((v1_4 * 192) + r16))), (0, .ref (ad 8))]) 2 dX7_pack_22 rfl (by decide) rfl ?_
      refine xi_goto C 4 dX7_pack_25 (by decide) ?_
      obtain ⟨hc11, h⟩ := h
      obtain ⟨hc12, h⟩ := h
      exact xi_sub [2, 1, 0] rfl (hk4 ((v1_4 * 192) + r16) (v3_4 + 1) S16 h hc11 hc12 hw10)
set_option maxRecDepth 100000 in
set_option maxHeartbeats 4000000 in
theorem c_X6_wasReached (l : Launch) (D : va_G) (ca : Nat → ClassId) (ad : Nat → Nat) (tF : Nat) (a1 : Int) (S : xS) (Q : Int → xS → Prop) (h_a1 : xR a1) (h : w_X6_wasReached a1 S Q) : xM l yX6_wasReached (xws yX6_wasReached cX6_wasReached 3 (some .boolean)) ({ frames := 5, cells := 0, slots := 0, locals := 115 }) (gC D ca ad tF) [.ref (ad 2), .int (iN a1)] S (xQi Q) 0 0 := by
  refine xm_of RX6 rfl (by decide +kernel) (Nat.le_of_ble_eq_true rfl) ?_
  intro p e s m args below meth c A Z C hA hZ hr hlocks hw
  unfold w_X6_wasReached at h
  show xV (gC D ca ad tF) p l e ({ frames := 5, cells := 0, slots := 0, locals := 115 }) s m args below meth c A 3 Z 0 0 0 [(0, .ref (ad 2)), (1, .int (iN a1))] [] S
  refine xi_aload_n C 0 dX6_wasReached_0 rfl rfl ?_
  refine xi_getR C xK_X6 (q := 2) (r := 4) rfl 1 (by decide) (ki := 1) rfl xl_X6_22 rfl dX6_wasReached_1 ?_
  refine xi_getRN C xK_X1 (q := 4) (r := 27) rfl 4 (by decide) (ki := 4) rfl xn_X6_224 rfl dX6_wasReached_4 ?_
  refine xi_iload_n C 1 dX6_wasReached_7 rfl rfl ?_
  obtain ⟨hc1, h⟩ := h
  refine xi_iaload C (q := 27) rfl (by decide) hc1 dX6_wasReached_8 ?_
  refine xi_istore_n C (L' := [(2, .int (iN (S 27 a1))), (0, .ref (ad 2)), (1, .int (iN a1))]) dX6_wasReached_9 rfl (by decide) rfl ?_
  refine xi_iload_n C 0 dX6_wasReached_10 rfl rfl ?_
  refine xi_if_lt C 19 (xval.i (q := 27) (i := a1) hw hc1.1 rfl) dX6_wasReached_11 (by decide) (fun z2 => ?_) (fun z2 => ?_)
  · replace h := h.1 z2
    refine xi_iconst C (v := 0) dX6_wasReached_19 rfl ?_
    exact xr_i C hA hZ hr hlocks (xnarZ (Or.inl rfl)).1 dX6_wasReached_20 (Nat.le_of_ble_eq_true rfl) (Nat.le_of_ble_eq_true rfl) hw ⟨_, rfl, (by decide), h⟩
  · replace h := h.2 z2
    refine xi_iload_n C 0 dX6_wasReached_14 rfl rfl ?_
    refine xi_iload_n C 2 dX6_wasReached_15 rfl rfl ?_
    refine xi_icmp_lt C 21 (xval.i (q := 27) (i := a1) hw hc1.1 rfl) h_a1 dX6_wasReached_16 (by decide) (fun z3 => ?_) (fun z3 => ?_)
    · replace h := h.1 z3
      refine xi_aload_n C 1 dX6_wasReached_21 rfl rfl ?_
      refine xi_iload_n C 0 dX6_wasReached_22 rfl rfl ?_
      refine xc_Vv C hw (c_X6_listMoves l D ca ad tF (S 27 a1) S _ (xval.i (q := 27) (i := a1) hw hc1.1 rfl) h) xk_X6_listMoves xv_X6_listMoves xl_X6_123 ⟨Nat.le_of_ble_eq_true rfl, Nat.le_of_ble_eq_true rfl⟩ xK_X6 (q := 2) rfl rfl rfl (Nat.le_of_ble_eq_true rfl) ⟨Nat.le_of_ble_eq_true rfl, Nat.le_of_ble_eq_true rfl⟩ dX6_wasReached_23 (fun S23 h hw4 => ?_)
      refine xi_aload_n C 1 dX6_wasReached_26 rfl rfl ?_
      refine xi_getR C xK_X6 (q := 2) (r := 6) rfl 3 (by decide) (ki := 3) rfl xl_X6_35 rfl dX6_wasReached_27 ?_
      refine xi_aload_n C 1 dX6_wasReached_30 rfl rfl ?_
      refine xi_getR C xK_X6 (q := 2) (r := 4) rfl 1 (by decide) (ki := 1) rfl xl_X6_22 rfl dX6_wasReached_31 ?_
      refine xi_getRN C xK_X1 (q := 4) (r := 28) rfl 5 (by decide) (ki := 5) rfl xn_X6_221 rfl dX6_wasReached_34 ?_
      refine xi_iload_n C 2 dX6_wasReached_37 rfl rfl ?_
      refine xi_iaload C (q := 28) rfl (by decide) hc1 dX6_wasReached_38 ?_
      refine xc_Vi C hw4 (c_X3_has l D ca ad tF (S23 28 a1) S23 _ (xval.i (q := 28) (i := a1) hw4 hc1.1 rfl) h) xk_X3_has xv_X3_has xl_X6_227 ⟨Nat.le_of_ble_eq_true rfl, Nat.le_of_ble_eq_true rfl⟩ xK_X3 (q := 6) rfl rfl rfl (Nat.le_of_ble_eq_true rfl) ⟨Nat.le_of_ble_eq_true rfl, Nat.le_of_ble_eq_true rfl⟩ dX6_wasReached_39 (fun r39 S39 h_r39 h hw5 => ?_)
      refine xi_if_ne C 47 h_r39 dX6_wasReached_42 (by decide) (fun z6 => ?_) (fun z6 => ?_)
      · replace h := h.1 z6
        refine xi_aload_n C 1 dX6_wasReached_47 rfl rfl ?_
        refine xi_aload_n C 1 dX6_wasReached_48 rfl rfl ?_
        refine xi_getR C xK_X6 (q := 2) (r := 4) rfl 1 (by decide) (ki := 1) rfl xl_X6_22 rfl dX6_wasReached_49 ?_
        refine xi_getRN C xK_X1 (q := 4) (r := 28) rfl 5 (by decide) (ki := 5) rfl xn_X6_221 rfl dX6_wasReached_52 ?_
        refine xi_iload_n C 2 dX6_wasReached_55 rfl rfl ?_
        refine xi_iaload C (q := 28) rfl (by decide) hc1 dX6_wasReached_56 ?_
        refine xc_Vv C hw5 (c_X6_goBehind l D ca ad tF (S39 28 a1) S39 _ (xval.i (q := 28) (i := a1) hw5 hc1.1 rfl) h) xk_X6_goBehind xv_X6_goBehind xl_X6_182 ⟨Nat.le_of_ble_eq_true rfl, Nat.le_of_ble_eq_true rfl⟩ xK_X6 (q := 2) rfl rfl rfl (Nat.le_of_ble_eq_true rfl) ⟨Nat.le_of_ble_eq_true rfl, Nat.le_of_ble_eq_true rfl⟩ dX6_wasReached_57 (fun S57 h hw7 => ?_)
        refine xi_aload_n C 1 dX6_wasReached_60 rfl rfl ?_
        refine xi_getR C xK_X6 (q := 2) (r := 8) rfl 5 (by decide) (ki := 5) rfl xl_X6_46 rfl dX6_wasReached_61 ?_
        refine xc_Vj C hw7 (c_X7_pack_n l D ca ad tF S57 _ h) xk_X7_pack xv_X7_pack xl_X6_87 ⟨Nat.le_of_ble_eq_true rfl, Nat.le_of_ble_eq_true rfl⟩ xK_X7 (q := 8) rfl rfl rfl (Nat.le_of_ble_eq_true rfl) ⟨Nat.le_of_ble_eq_true rfl, Nat.le_of_ble_eq_true rfl⟩ dX6_wasReached_64 (fun r64 S64 h_r64 h hw8 => ?_)
        refine xi_aload_n C 1 dX6_wasReached_67 rfl rfl ?_
        refine xi_getR C xK_X6 (q := 2) (r := 4) rfl 1 (by decide) (ki := 1) rfl xl_X6_22 rfl dX6_wasReached_68 ?_
        refine xi_getRN C xK_X1 (q := 4) (r := 25) rfl 2 (by decide) (ki := 2) rfl xn_X6_154 rfl dX6_wasReached_71 ?_
        refine xi_iload_n C 2 dX6_wasReached_74 rfl rfl ?_
        refine xi_laload C (q := 25) rfl (by decide) hc1 dX6_wasReached_75 ?_
        refine xi_lcmp_ne C 84 h_r64 (xval.j (q := 25) (i := a1) hw8 hc1.1 rfl) dX6_wasReached_76 dX6_wasReached_77 (by decide) (fun z9 => ?_) (fun z9 => ?_)
        · replace h := h.1 z9
          refine xi_iconst C (v := 0) dX6_wasReached_84 rfl ?_
          exact xr_i C hA hZ hr hlocks (xnarZ (Or.inl rfl)).1 dX6_wasReached_85 (Nat.le_of_ble_eq_true rfl) (Nat.le_of_ble_eq_true rfl) hw8 ⟨_, rfl, (by decide), h⟩
        · replace h := h.2 z9
          refine xi_iconst C (v := 1) dX6_wasReached_80 rfl ?_
          refine xi_goto C 85 dX6_wasReached_81 (by decide) ?_
          exact xr_i C hA hZ hr hlocks (xnarZ (Or.inr rfl)).1 dX6_wasReached_85 (Nat.le_of_ble_eq_true rfl) (Nat.le_of_ble_eq_true rfl) hw8 ⟨_, rfl, (by decide), h⟩
      · replace h := h.2 z6
        refine xi_iconst C (v := 0) dX6_wasReached_45 rfl ?_
        exact xr_i C hA hZ hr hlocks (xnarZ (Or.inl rfl)).1 dX6_wasReached_46 (Nat.le_of_ble_eq_true rfl) (Nat.le_of_ble_eq_true rfl) hw5 ⟨_, rfl, (by decide), h⟩
    · replace h := h.2 z3
      refine xi_iconst C (v := 0) dX6_wasReached_19 rfl ?_
      exact xr_i C hA hZ hr hlocks (xnarZ (Or.inl rfl)).1 dX6_wasReached_20 (Nat.le_of_ble_eq_true rfl) (Nat.le_of_ble_eq_true rfl) hw ⟨_, rfl, (by decide), h⟩
set_option maxRecDepth 100000 in
set_option maxHeartbeats 4000000 in
theorem c_X6_isConsistent (l : Launch) (D : va_G) (ca : Nat → ClassId) (ad : Nat → Nat) (tF : Nat)  (S : xS) (Q : Int → xS → Prop)  (h : w_X6_isConsistent  S Q) : xM l yX6_isConsistent (xws yX6_isConsistent cX6_isConsistent 2 (some .boolean)) ({ frames := 6, cells := 0, slots := 0, locals := 137 }) (gC D ca ad tF) [.ref (ad 2)] S (xQi Q) 0 0 := by
  refine xm_of RX6 rfl (by decide +kernel) (Nat.le_of_ble_eq_true rfl) ?_
  intro p e s m args below meth c A Z C hA hZ hr hlocks hw
  unfold w_X6_isConsistent at h
  show xV (gC D ca ad tF) p l e ({ frames := 6, cells := 0, slots := 0, locals := 137 }) s m args below meth c A 2 Z 0 0 0 [(0, .ref (ad 2))] [] S
  refine xi_iconst C (v := 0) dX6_isConsistent_0 rfl ?_
  refine xi_istore_n C (L' := [(1, .int (iN 0)), (0, .ref (ad 2))]) dX6_isConsistent_1 rfl (by decide) rfl ?_
  refine xJ0_w (fun  S55 => xval (gC D ca ad tF) S55 → xV (gC D ca ad tF) p l e ({ frames := 6, cells := 0, slots := 0, locals := 137 }) s m args below meth c A 2 Z 0 0 55 [(0, .ref (ad 2))] [] S55) h (fun  S55 h  hw55 => ?_) (fun j55 hj55 h => ?_)
  · unfold w_X6_isConsistent_J55 at h
    refine xi_aload_n C 0 dX6_isConsistent_55 rfl rfl ?_
    refine xi_getI C xK_X6 (q := 2) (r := 0) rfl 13 (by decide) (ki := 13) rfl xl_X6_65 rfl dX6_isConsistent_56 ?_
    refine xi_bipush C (v := 45) dX6_isConsistent_59 (by decide +kernel) ?_
    refine xi_icmp_eq C 71 (xval.i (q := 2) (i := 13) hw55 (by decide) rfl) (by decide) dX6_isConsistent_61 (by decide) (fun z1 => ?_) (fun z1 => ?_)
    · replace h := h.1 z1
      refine xi_iconst C (v := 1) dX6_isConsistent_71 rfl ?_
      refine xi_goto C 76 dX6_isConsistent_72 (by decide) ?_
      exact xr_i C hA hZ hr hlocks (xnarZ (Or.inr rfl)).1 dX6_isConsistent_76 (Nat.le_of_ble_eq_true rfl) (Nat.le_of_ble_eq_true rfl) hw55 ⟨_, rfl, (by decide), h⟩
    · replace h := h.2 z1
      refine xi_aload_n C 0 dX6_isConsistent_64 rfl rfl ?_
      refine xc_Vi C hw55 (c_X6_doesReplay l D ca ad tF S55 _ h) xk_X6_doesReplay xv_X6_doesReplay xl_X6_236 ⟨Nat.le_of_ble_eq_true rfl, Nat.le_of_ble_eq_true rfl⟩ xK_X6 (q := 2) rfl rfl rfl (Nat.le_of_ble_eq_true rfl) ⟨Nat.le_of_ble_eq_true rfl, Nat.le_of_ble_eq_true rfl⟩ dX6_isConsistent_65 (fun r65 S65 h_r65 h hw2 => ?_)
      refine xi_if_eq C 75 h_r65 dX6_isConsistent_68 (by decide) (fun z3 => ?_) (fun z3 => ?_)
      · replace h := h.1 z3
        refine xi_iconst C (v := 0) dX6_isConsistent_75 rfl ?_
        exact xr_i C hA hZ hr hlocks (xnarZ (Or.inl rfl)).1 dX6_isConsistent_76 (Nat.le_of_ble_eq_true rfl) (Nat.le_of_ble_eq_true rfl) hw2 ⟨_, rfl, (by decide), h⟩
      · replace h := h.2 z3
        refine xi_iconst C (v := 1) dX6_isConsistent_71 rfl ?_
        refine xi_goto C 76 dX6_isConsistent_72 (by decide) ?_
        exact xr_i C hA hZ hr hlocks (xnarZ (Or.inr rfl)).1 dX6_isConsistent_76 (Nat.le_of_ble_eq_true rfl) (Nat.le_of_ble_eq_true rfl) hw2 ⟨_, rfl, (by decide), h⟩
  · refine xi_sub [1, 0] rfl (xW1 (fun v1_2 S2 => xR v1_2 → xval (gC D ca ad tF) S2 → xV (gC D ca ad tF) p l e ({ frames := 6, cells := 0, slots := 0, locals := 137 }) s m args below meth c A 2 Z 0 0 2 [(0, .ref (ad 2)), (1, .int (iN v1_2))] [] S2) h (fun k2 hk2 v1_2 S2 h h_v1_2 hw2 => ?_) (by decide) hw)
    unfold w_X6_isConsistent_L2 at h
    refine xi_iload_n C 1 dX6_isConsistent_2 rfl rfl ?_
    refine xi_aload_n C 0 dX6_isConsistent_3 rfl rfl ?_
    refine xi_getR C xK_X6 (q := 2) (r := 4) rfl 1 (by decide) (ki := 1) rfl xl_X6_22 rfl dX6_isConsistent_4 ?_
    refine xi_getIN C xK_X1 (q := 4) (r := 0) rfl 0 (by decide) (ki := 0) rfl xn_X6_114 rfl dX6_isConsistent_7 ?_
    refine xi_icmp_ge C 55 h_v1_2 (xval.i (q := 4) (i := 0) hw2 (by decide) rfl) dX6_isConsistent_10 (by decide) (fun z4 => ?_) (fun z4 => ?_)
    · replace h := h.1 z4
      exact xi_sub [0] rfl (hj55 S2 h hw2)
    · replace h := h.2 z4
      refine xi_aload_n C 0 dX6_isConsistent_13 rfl rfl ?_
      refine xi_getR C xK_X6 (q := 2) (r := 4) rfl 1 (by decide) (ki := 1) rfl xl_X6_22 rfl dX6_isConsistent_14 ?_
      refine xi_aload_n C 0 dX6_isConsistent_17 rfl rfl ?_
      refine xi_getR C xK_X6 (q := 2) (r := 4) rfl 1 (by decide) (ki := 1) rfl xl_X6_22 rfl dX6_isConsistent_18 ?_
      refine xi_getRN C xK_X1 (q := 4) (r := 25) rfl 2 (by decide) (ki := 2) rfl xn_X6_154 rfl dX6_isConsistent_21 ?_
      refine xi_iload_n C 1 dX6_isConsistent_24 rfl rfl ?_
      obtain ⟨hc5, h⟩ := h
      refine xi_laload C (q := 25) rfl (by decide) hc5 dX6_isConsistent_25 ?_
      refine xc_Vi C hw2 (c_X1_numberFor l D ca ad tF (S2 25 v1_2) S2 _ (xval.j (q := 25) (i := v1_2) hw2 hc5.1 rfl) h) xk_X1_numberFor xv_X1_numberFor xl_X6_185 ⟨Nat.le_of_ble_eq_true rfl, Nat.le_of_ble_eq_true rfl⟩ xK_X1 (q := 4) rfl rfl rfl (Nat.le_of_ble_eq_true rfl) ⟨Nat.le_of_ble_eq_true rfl, Nat.le_of_ble_eq_true rfl⟩ dX6_isConsistent_26 (fun r26 S26 h_r26 h hw6 => ?_)
      refine xi_iload_n C 1 dX6_isConsistent_29 rfl rfl ?_
      refine xi_icmp_eq C 35 h_r26 h_v1_2 dX6_isConsistent_30 (by decide) (fun z7 => ?_) (fun z7 => ?_)
      · replace h := h.1 z7
        refine xi_iload_n C 1 dX6_isConsistent_35 rfl rfl ?_
        refine xi_if_le C 49 h_v1_2 dX6_isConsistent_36 (by decide) (fun z8 => ?_) (fun z8 => ?_)
        · replace h := h.1 z8
          refine xi_iinc C (L' := [(1, .int (iN (v1_2 + 1))), (0, .ref (ad 2))]) 1 dX6_isConsistent_49 rfl (by decide) rfl ?_
          refine xi_goto C 2 dX6_isConsistent_52 (by decide) ?_
          obtain ⟨hc9, h⟩ := h
          exact xi_sub [1, 0] rfl (hk2 (v1_2 + 1) S26 h hc9 hw6)
        · replace h := h.2 z8
          refine xi_aload_n C 0 dX6_isConsistent_39 rfl rfl ?_
          refine xi_iload_n C 1 dX6_isConsistent_40 rfl rfl ?_
          refine xc_Vi C hw6 (c_X6_wasReached l D ca ad tF v1_2 S26 _ h_v1_2 h) xk_X6_wasReached xv_X6_wasReached xl_X6_233 ⟨Nat.le_of_ble_eq_true rfl, Nat.le_of_ble_eq_true rfl⟩ xK_X6 (q := 2) rfl rfl rfl (Nat.le_of_ble_eq_true rfl) ⟨Nat.le_of_ble_eq_true rfl, Nat.le_of_ble_eq_true rfl⟩ dX6_isConsistent_41 (fun r41 S41 h_r41 h hw10 => ?_)
          refine xi_if_ne C 49 h_r41 dX6_isConsistent_44 (by decide) (fun z11 => ?_) (fun z11 => ?_)
          · replace h := h.1 z11
            refine xi_iinc C (L' := [(1, .int (iN (v1_2 + 1))), (0, .ref (ad 2))]) 1 dX6_isConsistent_49 rfl (by decide) rfl ?_
            refine xi_goto C 2 dX6_isConsistent_52 (by decide) ?_
            obtain ⟨hc12, h⟩ := h
            exact xi_sub [1, 0] rfl (hk2 (v1_2 + 1) S41 h hc12 hw10)
          · replace h := h.2 z11
            refine xi_iconst C (v := 0) dX6_isConsistent_47 rfl ?_
            exact xr_i C hA hZ hr hlocks (xnarZ (Or.inl rfl)).1 dX6_isConsistent_48 (Nat.le_of_ble_eq_true rfl) (Nat.le_of_ble_eq_true rfl) hw10 ⟨_, rfl, (by decide), h⟩
      · replace h := h.2 z7
        refine xi_iconst C (v := 0) dX6_isConsistent_33 rfl ?_
        exact xr_i C hA hZ hr hlocks (xnarZ (Or.inl rfl)).1 dX6_isConsistent_34 (Nat.le_of_ble_eq_true rfl) (Nat.le_of_ble_eq_true rfl) hw6 ⟨_, rfl, (by decide), h⟩
set_option maxRecDepth 100000 in
set_option maxHeartbeats 4000000 in
theorem c_X6_drop (l : Launch) (D : va_G) (ca : Nat → ClassId) (ad : Nat → Nat) (tF : Nat)  (S : xS) (Q : xS → Prop)  (h : w_X6_drop  S Q) : xM l yX6_drop (xws yX6_drop cX6_drop 1 (none)) ({ frames := 0, cells := 0, slots := 0, locals := 0 }) (gC D ca ad tF) [.ref (ad 2)] S (xQv Q) 0 0 := by
  refine xm_of RX6 rfl (by decide +kernel) (Nat.le_of_ble_eq_true rfl) ?_
  intro p e s m args below meth c A Z C hA hZ hr hlocks hw
  unfold w_X6_drop at h
  show xV (gC D ca ad tF) p l e ({ frames := 0, cells := 0, slots := 0, locals := 0 }) s m args below meth c A 1 Z 0 0 0 [(0, .ref (ad 2))] [] S
  refine xi_aload_n C 0 dX6_drop_0 rfl rfl ?_
  refine xi_iconst C (v := 0) dX6_drop_1 rfl ?_
  refine xi_putZ C xK_X6 (q := 2) (r := 0) rfl 9 (by decide) (ki := 9) rfl xl_X6_49 rfl rfl rfl (Or.inl rfl) dX6_drop_2 ?_
  have hw1 := xval.up (q := 2) (i := 9) (v := 0) hw rfl (by decide)
  exact xr_v C hA hZ hr hlocks dX6_drop_5 (Nat.le_of_ble_eq_true rfl) (Nat.le_of_ble_eq_true rfl) hw1 ⟨rfl, h⟩
set_option maxRecDepth 100000 in
set_option maxHeartbeats 4000000 in
theorem c_X4_newProcess (l : Launch) (D : va_G) (ca : Nat → ClassId) (ad : Nat → Nat) (tF : Nat)  (S : xS) (Q : Int → xS → Prop)  (h : w_X4_newProcess  S Q) : xM l yX4_newProcess (xws yX4_newProcess cX4_newProcess 1 (some .int)) ({ frames := 0, cells := 0, slots := 0, locals := 0 }) (gC D ca ad tF) [.ref (ad 1)] S (xQi Q) 0 0 := by
  refine xm_of RX4 rfl (by decide +kernel) (Nat.le_of_ble_eq_true rfl) ?_
  intro p e s m args below meth c A Z C hA hZ hr hlocks hw
  unfold w_X4_newProcess at h
  show xV (gC D ca ad tF) p l e ({ frames := 0, cells := 0, slots := 0, locals := 0 }) s m args below meth c A 1 Z 0 0 0 [(0, .ref (ad 1))] [] S
  refine xi_aload_n C 0 dX4_newProcess_0 rfl rfl ?_
  refine xi_dup C dX4_newProcess_1 rfl ?_
  refine xi_getI C xK_X4 (q := 1) (r := 0) rfl 0 (by decide) (ki := 0) rfl xl_X4_53 rfl dX4_newProcess_2 ?_
  refine xi_iconst C (v := 1) dX4_newProcess_5 rfl ?_
  refine xi_iadd C dX4_newProcess_6 ?_
  obtain ⟨hc1, h⟩ := h
  refine xi_putI C xK_X4 (q := 1) (r := 0) rfl 0 (by decide) (ki := 0) rfl xl_X4_53 rfl rfl rfl dX4_newProcess_7 ?_
  have hw2 := xval.up (q := 1) (i := 0) (v := (S 1 0) + 1) hw rfl hc1
  refine xi_aload_n C 0 dX4_newProcess_10 rfl rfl ?_
  refine xi_getI C xK_X4 (q := 1) (r := 0) rfl 0 (by decide) (ki := 0) rfl xl_X4_53 rfl dX4_newProcess_11 ?_
  refine xi_iconst C (v := 1) dX4_newProcess_14 rfl ?_
  refine xi_isub C dX4_newProcess_15 ?_
  obtain ⟨hc3, h⟩ := h
  exact xr_i C hA hZ hr hlocks rfl dX4_newProcess_16 (Nat.le_of_ble_eq_true rfl) (Nat.le_of_ble_eq_true rfl) hw2 ⟨_, rfl, hc3, h⟩
set_option maxRecDepth 100000 in
set_option maxHeartbeats 4000000 in
theorem c_X4_isOwn (l : Launch) (D : va_G) (ca : Nat → ClassId) (ad : Nat → Nat) (tF : Nat) (a0 : Int) (a1 : Int) (S : xS) (Q : Int → xS → Prop) (h_a0 : xR a0) (h_a1 : xR a1) (h : w_X4_isOwn a0 a1 S Q) : xM l yX4_isOwn (xws yX4_isOwn cX4_isOwn 3 (some .boolean)) ({ frames := 0, cells := 0, slots := 0, locals := 0 }) (gC D ca ad tF) [.int (iN a0), .int (iN a1)] S (xQi Q) 0 0 := by
  refine xm_of RX4 rfl (by decide +kernel) (Nat.le_of_ble_eq_true rfl) ?_
  intro p e s m args below meth c A Z C hA hZ hr hlocks hw
  unfold w_X4_isOwn at h
  show xV (gC D ca ad tF) p l e ({ frames := 0, cells := 0, slots := 0, locals := 0 }) s m args below meth c A 3 Z 0 0 0 [(0, .int (iN a0)), (1, .int (iN a1))] [] S
  refine xi_getFO C xn_X4_46 dX4_isOwn_0 ?_
  refine xi_iload_n C 0 dX4_isOwn_3 rfl rfl ?_
  obtain ⟨hc1, h⟩ := h
  refine xi_ialoadFO C hc1 dX4_isOwn_4 ?_
  refine xi_istore_n C (L' := [(2, .int (iN (3 + 2 * a0))), (0, .int (iN a0)), (1, .int (iN a1))]) dX4_isOwn_5 rfl (by decide) rfl ?_
  refine xi_iload_n C 2 dX4_isOwn_6 rfl rfl ?_
  refine xi_iload_n C 0 dX4_isOwn_7 rfl rfl ?_
  refine xi_icmp_lt C 22 h_a1 (xR_FO hc1) dX4_isOwn_8 (by decide) (fun z2 => ?_) (fun z2 => ?_)
  · replace h := h.1 z2
    refine xi_iconst C (v := 0) dX4_isOwn_22 rfl ?_
    exact xr_i C hA hZ hr hlocks (xnarZ (Or.inl rfl)).1 dX4_isOwn_23 (Nat.le_of_ble_eq_true rfl) (Nat.le_of_ble_eq_true rfl) hw ⟨_, rfl, (by decide), h⟩
  · replace h := h.2 z2
    refine xi_iload_n C 2 dX4_isOwn_11 rfl rfl ?_
    refine xi_iload_n C 0 dX4_isOwn_12 rfl rfl ?_
    refine xi_iconst C (v := 2) dX4_isOwn_13 rfl ?_
    refine xi_iadd C dX4_isOwn_14 ?_
    obtain ⟨hc3, h⟩ := h
    refine xi_icmp_ge C 22 h_a1 hc3 dX4_isOwn_15 (by decide) (fun z4 => ?_) (fun z4 => ?_)
    · replace h := h.1 z4
      refine xi_iconst C (v := 0) dX4_isOwn_22 rfl ?_
      exact xr_i C hA hZ hr hlocks (xnarZ (Or.inl rfl)).1 dX4_isOwn_23 (Nat.le_of_ble_eq_true rfl) (Nat.le_of_ble_eq_true rfl) hw ⟨_, rfl, (by decide), h⟩
    · replace h := h.2 z4
      refine xi_iconst C (v := 1) dX4_isOwn_18 rfl ?_
      refine xi_goto C 23 dX4_isOwn_19 (by decide) ?_
      exact xr_i C hA hZ hr hlocks (xnarZ (Or.inr rfl)).1 dX4_isOwn_23 (Nat.le_of_ble_eq_true rfl) (Nat.le_of_ble_eq_true rfl) hw ⟨_, rfl, (by decide), h⟩
set_option maxRecDepth 100000 in
set_option maxHeartbeats 4000000 in
theorem c_X4_isUsable (l : Launch) (D : va_G) (ca : Nat → ClassId) (ad : Nat → Nat) (tF : Nat) (a0 : Int) (a1 : Int) (S : xS) (Q : Int → xS → Prop) (h_a0 : xR a0) (h_a1 : xR a1) (h : w_X4_isUsable a0 a1 S Q) : xM l yX4_isUsable (xws yX4_isUsable cX4_isUsable 2 (some .boolean)) ({ frames := 1, cells := 0, slots := 0, locals := 22 }) (gC D ca ad tF) [.int (iN a0), .int (iN a1)] S (xQi Q) 0 0 := by
  refine xm_of RX4 rfl (by decide +kernel) (Nat.le_of_ble_eq_true rfl) ?_
  intro p e s m args below meth c A Z C hA hZ hr hlocks hw
  unfold w_X4_isUsable at h
  show xV (gC D ca ad tF) p l e ({ frames := 1, cells := 0, slots := 0, locals := 22 }) s m args below meth c A 2 Z 0 0 0 [(0, .int (iN a0)), (1, .int (iN a1))] [] S
  refine xi_iload_n C 1 dX4_isUsable_0 rfl rfl ?_
  refine xJ0_w (fun  S9 => xval (gC D ca ad tF) S9 → xV (gC D ca ad tF) p l e ({ frames := 1, cells := 0, slots := 0, locals := 22 }) s m args below meth c A 2 Z 0 0 9 [(0, .int (iN a0)), (1, .int (iN a1))] [] S9) h (fun  S9 h  hw9 => ?_) (fun j9 hj9 h => ?_)
  · unfold w_X4_isUsable_J9 at h
    refine xi_iload_n C 0 dX4_isUsable_9 rfl rfl ?_
    refine xi_iload_n C 1 dX4_isUsable_10 rfl rfl ?_
    refine xc_Si C hw9 (c_X4_isOwn l D ca ad tF a0 a1 S9 _ h_a0 h_a1 h) xk_X4_isOwn xs_X4_isOwn xl_X4_49 ⟨Nat.le_of_ble_eq_true rfl, Nat.le_of_ble_eq_true rfl⟩ rfl rfl (Nat.le_of_ble_eq_true rfl) ⟨Nat.le_of_ble_eq_true rfl, Nat.le_of_ble_eq_true rfl⟩ dX4_isUsable_11 (fun r11 S11 h_r11 h hw2 => ?_)
    refine xi_if_eq C 21 h_r11 dX4_isUsable_14 (by decide) (fun z3 => ?_) (fun z3 => ?_)
    · replace h := h.1 z3
      refine xi_iconst C (v := 0) dX4_isUsable_21 rfl ?_
      exact xr_i C hA hZ hr hlocks (xnarZ (Or.inl rfl)).1 dX4_isUsable_22 (Nat.le_of_ble_eq_true rfl) (Nat.le_of_ble_eq_true rfl) hw2 ⟨_, rfl, (by decide), h⟩
    · replace h := h.2 z3
      refine xi_iconst C (v := 1) dX4_isUsable_17 rfl ?_
      refine xi_goto C 22 dX4_isUsable_18 (by decide) ?_
      exact xr_i C hA hZ hr hlocks (xnarZ (Or.inr rfl)).1 dX4_isUsable_22 (Nat.le_of_ble_eq_true rfl) (Nat.le_of_ble_eq_true rfl) hw2 ⟨_, rfl, (by decide), h⟩
  · refine xi_if_lt C 9 h_a1 dX4_isUsable_1 (by decide) (fun z1 => ?_) (fun z1 => ?_)
    · replace h := h.1 z1
      exact xi_sub [0, 1] rfl (hj9 S h hw)
    · replace h := h.2 z1
      refine xi_iload_n C 1 dX4_isUsable_4 rfl rfl ?_
      refine xi_iconst C (v := 3) dX4_isUsable_5 rfl ?_
      refine xi_icmp_lt C 17 h_a1 (by decide) dX4_isUsable_6 (by decide) (fun z4 => ?_) (fun z4 => ?_)
      · replace h := h.1 z4
        refine xi_iconst C (v := 1) dX4_isUsable_17 rfl ?_
        refine xi_goto C 22 dX4_isUsable_18 (by decide) ?_
        exact xr_i C hA hZ hr hlocks (xnarZ (Or.inr rfl)).1 dX4_isUsable_22 (Nat.le_of_ble_eq_true rfl) (Nat.le_of_ble_eq_true rfl) hw ⟨_, rfl, (by decide), h⟩
      · replace h := h.2 z4
        exact xi_sub [0, 1] rfl (hj9 S h hw)
set_option maxRecDepth 100000 in
set_option maxHeartbeats 4000000 in
theorem c_X4_isNumber (l : Launch) (D : va_G) (ca : Nat → ClassId) (ad : Nat → Nat) (tF : Nat) (a0 : Int) (S : xS) (Q : Int → xS → Prop) (h_a0 : xR a0) (h : w_X4_isNumber a0 S Q) : xM l yX4_isNumber (xws yX4_isNumber cX4_isNumber 1 (some .boolean)) ({ frames := 0, cells := 0, slots := 0, locals := 0 }) (gC D ca ad tF) [.int (iN a0)] S (xQi Q) 0 0 := by
  refine xm_of RX4 rfl (by decide +kernel) (Nat.le_of_ble_eq_true rfl) ?_
  intro p e s m args below meth c A Z C hA hZ hr hlocks hw
  unfold w_X4_isNumber at h
  show xV (gC D ca ad tF) p l e ({ frames := 0, cells := 0, slots := 0, locals := 0 }) s m args below meth c A 1 Z 0 0 0 [(0, .int (iN a0))] [] S
  refine xi_iload_n C 0 dX4_isNumber_0 rfl rfl ?_
  refine xi_if_lt C 13 h_a0 dX4_isNumber_1 (by decide) (fun z1 => ?_) (fun z1 => ?_)
  · replace h := h.1 z1
    refine xi_iconst C (v := 0) dX4_isNumber_13 rfl ?_
    exact xr_i C hA hZ hr hlocks (xnarZ (Or.inl rfl)).1 dX4_isNumber_14 (Nat.le_of_ble_eq_true rfl) (Nat.le_of_ble_eq_true rfl) hw ⟨_, rfl, (by decide), h⟩
  · replace h := h.2 z1
    refine xi_iload_n C 0 dX4_isNumber_4 rfl rfl ?_
    refine xi_iconst C (v := 4) dX4_isNumber_5 rfl ?_
    refine xi_icmp_ge C 13 h_a0 (by decide) dX4_isNumber_6 (by decide) (fun z2 => ?_) (fun z2 => ?_)
    · replace h := h.1 z2
      refine xi_iconst C (v := 0) dX4_isNumber_13 rfl ?_
      exact xr_i C hA hZ hr hlocks (xnarZ (Or.inl rfl)).1 dX4_isNumber_14 (Nat.le_of_ble_eq_true rfl) (Nat.le_of_ble_eq_true rfl) hw ⟨_, rfl, (by decide), h⟩
    · replace h := h.2 z2
      refine xi_iconst C (v := 1) dX4_isNumber_9 rfl ?_
      refine xi_goto C 14 dX4_isNumber_10 (by decide) ?_
      exact xr_i C hA hZ hr hlocks (xnarZ (Or.inr rfl)).1 dX4_isNumber_14 (Nat.le_of_ble_eq_true rfl) (Nat.le_of_ble_eq_true rfl) hw ⟨_, rfl, (by decide), h⟩
set_option maxRecDepth 100000 in
set_option maxHeartbeats 4000000 in
theorem c_X4_fits (l : Launch) (D : va_G) (ca : Nat → ClassId) (ad : Nat → Nat) (tF : Nat) (a1 : Int) (a2 : Int) (a3 : Int) (a4 : Int) (S : xS) (Q : Int → xS → Prop) (h_a1 : xR a1) (h_a2 : xR a2) (h_a3 : xR a3) (h_a4 : xR a4) (h : w_X4_fits a1 a2 a3 a4 S Q) : xM l yX4_fits (xws yX4_fits cX4_fits 5 (some .boolean)) ({ frames := 2, cells := 0, slots := 0, locals := 43 }) (gC D ca ad tF) [.ref (ad 1), .int (iN a1), .int (iN a2), .int (iN a3), .int (iN a4)] S (xQi Q) 0 0 := by
  refine xm_of RX4 rfl (by decide +kernel) (Nat.le_of_ble_eq_true rfl) ?_
  intro p e s m args below meth c A Z C hA hZ hr hlocks hw
  unfold w_X4_fits at h
  show xV (gC D ca ad tF) p l e ({ frames := 2, cells := 0, slots := 0, locals := 43 }) s m args below meth c A 5 Z 0 0 0 [(0, .ref (ad 1)), (1, .int (iN a1)), (2, .int (iN a2)), (3, .int (iN a3)), (4, .int (iN a4))] [] S
  refine xi_iload_n C 2 dX4_fits_0 rfl rfl ?_
  by_cases z1 : (a2 = 33 ∨ a2 = 61 ∨ a2 = 97 ∨ a2 = 105 ∨ a2 = 115)
  · replace h := h.1 z1
    refine xi_lookup C (off := 77) 78 h_a2 dX4_fits_1 (by decide +kernel) (by rcases z1 with z9 | z9 | z9 | z9 | z9 <;> rw [z9] <;> decide +kernel) (by decide) ?_
    refine xi_iload_n C 1 dX4_fits_78 rfl rfl ?_
    refine xi_iload_n C 3 dX4_fits_79 rfl rfl ?_
    refine xc_Si C hw (c_X4_isUsable l D ca ad tF a1 a3 S _ h_a1 h_a3 h) xk_X4_isUsable xs_X4_isUsable xl_X4_57 ⟨Nat.le_of_ble_eq_true rfl, Nat.le_of_ble_eq_true rfl⟩ rfl rfl (Nat.le_of_ble_eq_true rfl) ⟨Nat.le_of_ble_eq_true rfl, Nat.le_of_ble_eq_true rfl⟩ dX4_fits_80 (fun r80 S80 h_r80 h hw4 => ?_)
    refine xi_if_eq C 98 h_r80 dX4_fits_83 (by decide) (fun z5 => ?_) (fun z5 => ?_)
    · replace h := h.1 z5
      refine xi_iconst C (v := 0) dX4_fits_98 rfl ?_
      exact xr_i C hA hZ hr hlocks (xnarZ (Or.inl rfl)).1 dX4_fits_99 (Nat.le_of_ble_eq_true rfl) (Nat.le_of_ble_eq_true rfl) hw4 ⟨_, rfl, (by decide), h⟩
    · replace h := h.2 z5
      refine xi_iload C 4 dX4_fits_86 rfl ?_
      refine xc_Si C hw4 (c_X4_isNumber l D ca ad tF a4 S80 _ h_a4 h) xk_X4_isNumber xs_X4_isNumber xl_X4_60 ⟨Nat.le_of_ble_eq_true rfl, Nat.le_of_ble_eq_true rfl⟩ rfl rfl (Nat.le_of_ble_eq_true rfl) ⟨Nat.le_of_ble_eq_true rfl, Nat.le_of_ble_eq_true rfl⟩ dX4_fits_88 (fun r88 S88 h_r88 h hw6 => ?_)
      refine xi_if_eq C 98 h_r88 dX4_fits_91 (by decide) (fun z7 => ?_) (fun z7 => ?_)
      · replace h := h.1 z7
        refine xi_iconst C (v := 0) dX4_fits_98 rfl ?_
        exact xr_i C hA hZ hr hlocks (xnarZ (Or.inl rfl)).1 dX4_fits_99 (Nat.le_of_ble_eq_true rfl) (Nat.le_of_ble_eq_true rfl) hw6 ⟨_, rfl, (by decide), h⟩
      · replace h := h.2 z7
        refine xi_iconst C (v := 1) dX4_fits_94 rfl ?_
        refine xi_goto C 99 dX4_fits_95 (by decide) ?_
        exact xr_i C hA hZ hr hlocks (xnarZ (Or.inr rfl)).1 dX4_fits_99 (Nat.le_of_ble_eq_true rfl) (Nat.le_of_ble_eq_true rfl) hw6 ⟨_, rfl, (by decide), h⟩
  · by_cases z2 : (a2 = 107)
    · replace h := h.2.1 z2
      refine xi_lookup C (off := 75) 76 h_a2 dX4_fits_1 (by decide +kernel) (by rw [z2]; decide +kernel) (by decide) ?_
      refine xi_iconst C (v := 1) dX4_fits_76 rfl ?_
      exact xr_i C hA hZ hr hlocks (xnarZ (Or.inr rfl)).1 dX4_fits_77 (Nat.le_of_ble_eq_true rfl) (Nat.le_of_ble_eq_true rfl) hw ⟨_, rfl, (by decide), h⟩
    · by_cases z3 : (a2 = 114 ∨ a2 = 119)
      · replace h := h.2.2.1 z3
        refine xi_lookup C (off := 99) 100 h_a2 dX4_fits_1 (by decide +kernel) (by rcases z3 with z9 | z9 <;> rw [z9] <;> decide +kernel) (by decide) ?_
        refine xi_iload_n C 3 dX4_fits_100 rfl rfl ?_
        refine xi_if_lt C 125 h_a3 dX4_fits_101 (by decide) (fun z8 => ?_) (fun z8 => ?_)
        · replace h := h.1 z8
          refine xi_iconst C (v := 0) dX4_fits_125 rfl ?_
          exact xr_i C hA hZ hr hlocks (xnarZ (Or.inl rfl)).1 dX4_fits_126 (Nat.le_of_ble_eq_true rfl) (Nat.le_of_ble_eq_true rfl) hw ⟨_, rfl, (by decide), h⟩
        · replace h := h.2 z8
          refine xi_iload_n C 3 dX4_fits_104 rfl rfl ?_
          refine xi_aload_n C 0 dX4_fits_105 rfl rfl ?_
          refine xi_getI C xK_X4 (q := 1) (r := 0) rfl 7 (by decide) (ki := 7) rfl xl_X4_64 rfl dX4_fits_106 ?_
          refine xi_icmp_ge C 125 h_a3 (xval.i (q := 1) (i := 7) hw (by decide) rfl) dX4_fits_109 (by decide) (fun z9 => ?_) (fun z9 => ?_)
          · replace h := h.1 z9
            refine xi_iconst C (v := 0) dX4_fits_125 rfl ?_
            exact xr_i C hA hZ hr hlocks (xnarZ (Or.inl rfl)).1 dX4_fits_126 (Nat.le_of_ble_eq_true rfl) (Nat.le_of_ble_eq_true rfl) hw ⟨_, rfl, (by decide), h⟩
          · replace h := h.2 z9
            refine xi_iload_n C 1 dX4_fits_112 rfl rfl ?_
            refine xi_iload C 4 dX4_fits_113 rfl ?_
            refine xc_Si C hw (c_X4_isUsable l D ca ad tF a1 a4 S _ h_a1 h_a4 h) xk_X4_isUsable xs_X4_isUsable xl_X4_57 ⟨Nat.le_of_ble_eq_true rfl, Nat.le_of_ble_eq_true rfl⟩ rfl rfl (Nat.le_of_ble_eq_true rfl) ⟨Nat.le_of_ble_eq_true rfl, Nat.le_of_ble_eq_true rfl⟩ dX4_fits_115 (fun r115 S115 h_r115 h hw10 => ?_)
            refine xi_if_eq C 125 h_r115 dX4_fits_118 (by decide) (fun z11 => ?_) (fun z11 => ?_)
            · replace h := h.1 z11
              refine xi_iconst C (v := 0) dX4_fits_125 rfl ?_
              exact xr_i C hA hZ hr hlocks (xnarZ (Or.inl rfl)).1 dX4_fits_126 (Nat.le_of_ble_eq_true rfl) (Nat.le_of_ble_eq_true rfl) hw10 ⟨_, rfl, (by decide), h⟩
            · replace h := h.2 z11
              refine xi_iconst C (v := 1) dX4_fits_121 rfl ?_
              refine xi_goto C 126 dX4_fits_122 (by decide) ?_
              exact xr_i C hA hZ hr hlocks (xnarZ (Or.inr rfl)).1 dX4_fits_126 (Nat.le_of_ble_eq_true rfl) (Nat.le_of_ble_eq_true rfl) hw10 ⟨_, rfl, (by decide), h⟩
      · replace h := h.2.2.2 z1 z2 z3
        refine xi_lookup C (off := 126) 127 h_a2 dX4_fits_1 (by decide +kernel) (by rw [xsw_none _ _ _ (by simp; omega)]) (by decide) ?_
        refine xi_iconst C (v := 0) dX4_fits_127 rfl ?_
        exact xr_i C hA hZ hr hlocks (xnarZ (Or.inl rfl)).1 dX4_fits_128 (Nat.le_of_ble_eq_true rfl) (Nat.le_of_ble_eq_true rfl) hw ⟨_, rfl, (by decide), h⟩
set_option maxRecDepth 100000 in
set_option maxHeartbeats 4000000 in
theorem c_X4_newStep (l : Launch) (D : va_G) (ca : Nat → ClassId) (ad : Nat → Nat) (tF : Nat) (a1 : Int) (a2 : Int) (a3 : Int) (a4 : Int) (a5 : Int) (a6 : Int) (S : xS) (Q : Int → xS → Prop) (h_a1 : xR a1) (h_a2 : xR a2) (h_a3 : xR a3) (h_a4 : xR a4) (h_a5 : xR a5) (h_a6 : xR a6) (h : w_X4_newStep a1 a2 a3 a4 a5 a6 S Q) : xM l yX4_newStep (xws yX4_newStep cX4_newStep 9 (some .int)) ({ frames := 1, cells := 0, slots := 0, locals := 21 }) (gC D ca ad tF) [.ref (ad 1), .int (iN a1), .int (iN a2), .int (iN a3), .int (iN a4), .int (iN a5), .int (iN a6)] S (xQi Q) 0 0 := by
  refine xm_of RX4 rfl (by decide +kernel) (Nat.le_of_ble_eq_true rfl) ?_
  intro p e s m args below meth c A Z C hA hZ hr hlocks hw
  unfold w_X4_newStep at h
  show xV (gC D ca ad tF) p l e ({ frames := 1, cells := 0, slots := 0, locals := 21 }) s m args below meth c A 9 Z 0 0 0 [(0, .ref (ad 1)), (1, .int (iN a1)), (2, .int (iN a2)), (3, .int (iN a3)), (4, .int (iN a4)), (5, .int (iN a5)), (6, .int (iN a6))] [] S
  refine xi_aload_n C 0 dX4_newStep_0 rfl rfl ?_
  refine xi_getR C xK_X4 (q := 1) (r := 10) rfl 1 (by decide) (ki := 1) rfl xl_X4_9 rfl dX4_newStep_1 ?_
  refine xi_iload_n C 1 dX4_newStep_4 rfl rfl ?_
  obtain ⟨hc1, h⟩ := h
  refine xi_iaload C (q := 10) rfl (by decide) hc1 dX4_newStep_5 ?_
  refine xi_istore C (L' := [(7, .int (iN (S 10 a1))), (0, .ref (ad 1)), (1, .int (iN a1)), (2, .int (iN a2)), (3, .int (iN a3)), (4, .int (iN a4)), (5, .int (iN a5)), (6, .int (iN a6))]) dX4_newStep_6 (by decide) rfl ?_
  refine xi_iload_n C 2 dX4_newStep_8 rfl rfl ?_
  refine xi_iload C 0 dX4_newStep_9 rfl ?_
  refine xc_Si C hw (c_X4_stepAt l D ca ad tF a1 (S 10 a1) S _ h_a1 (xval.i (q := 10) (i := a1) hw hc1.1 rfl) h) xk_X4_stepAt xs_X4_stepAt xl_X4_67 ⟨Nat.le_of_ble_eq_true rfl, Nat.le_of_ble_eq_true rfl⟩ rfl rfl (Nat.le_of_ble_eq_true rfl) ⟨Nat.le_of_ble_eq_true rfl, Nat.le_of_ble_eq_true rfl⟩ dX4_newStep_11 (fun r11 S11 h_r11 h hw2 => ?_)
  refine xi_istore C (L' := [(8, .int (iN r11)), (7, .int (iN (S 10 a1))), (0, .ref (ad 1)), (1, .int (iN a1)), (2, .int (iN a2)), (3, .int (iN a3)), (4, .int (iN a4)), (5, .int (iN a5)), (6, .int (iN a6))]) dX4_newStep_14 (by decide) rfl ?_
  refine xi_aload_n C 2 dX4_newStep_16 rfl rfl ?_
  refine xi_getR C xK_X4 (q := 1) (r := 11) rfl 2 (by decide) (ki := 2) rfl xl_X4_15 rfl dX4_newStep_17 ?_
  refine xi_iload C 0 dX4_newStep_20 rfl ?_
  refine xi_iload_n C 4 dX4_newStep_22 rfl rfl ?_
  obtain ⟨hc3, h⟩ := h
  refine xi_iastore C (q := 11) rfl (by decide) hc3 dX4_newStep_23 ?_
  have hw4 := xval.up (q := 11) (i := r11) (v := a2) hw2 rfl h_a2
  refine xi_aload_n C 2 dX4_newStep_24 rfl rfl ?_
  refine xi_getR C xK_X4 (q := 1) (r := 12) rfl 3 (by decide) (ki := 3) rfl xl_X4_18 rfl dX4_newStep_25 ?_
  refine xi_iload C 0 dX4_newStep_28 rfl ?_
  refine xi_iload_n C 5 dX4_newStep_30 rfl rfl ?_
  refine xi_iastore C (q := 12) rfl (by decide) hc3 dX4_newStep_31 ?_
  have hw5 := xval.up (q := 12) (i := r11) (v := a3) hw4 rfl h_a3
  refine xi_aload_n C 2 dX4_newStep_32 rfl rfl ?_
  refine xi_getR C xK_X4 (q := 1) (r := 13) rfl 4 (by decide) (ki := 4) rfl xl_X4_21 rfl dX4_newStep_33 ?_
  refine xi_iload C 0 dX4_newStep_36 rfl ?_
  refine xi_iload C 6 dX4_newStep_38 rfl ?_
  obtain ⟨hc6, h⟩ := h
  refine xi_castore C (q := 13) rfl (by decide) hc3 hc6 dX4_newStep_40 ?_
  have hw7 := xval.up (q := 13) (i := r11) (v := a4) hw5 rfl h_a4
  refine xi_aload_n C 2 dX4_newStep_41 rfl rfl ?_
  refine xi_getR C xK_X4 (q := 1) (r := 14) rfl 5 (by decide) (ki := 5) rfl xl_X4_25 rfl dX4_newStep_42 ?_
  refine xi_iload C 0 dX4_newStep_45 rfl ?_
  refine xi_iload C 6 dX4_newStep_47 rfl ?_
  refine xi_bipush C (v := 107) dX4_newStep_49 (by decide +kernel) ?_
  refine xJ1_w (fun t0_60 S60 => xR t0_60 → xval (gC D ca ad tF) S60 → xV (gC D ca ad tF) p l e ({ frames := 1, cells := 0, slots := 0, locals := 21 }) s m args below meth c A 9 Z 0 0 60 [(0, .ref (ad 1)), (1, .int (iN a1)), (4, .int (iN a4)), (6, .int (iN a6)), (7, .int (iN (S 10 a1))), (8, .int (iN r11))] [.int (iN t0_60), .int (iN r11), .ref (ad 14)] S60) h (fun t0_60 S60 h h_t0_60 hw60 => ?_) (fun j60 hj60 h => ?_)
  · unfold w_X4_newStep_J60 at h
    refine xi_iastore C (q := 14) rfl (by decide) hc3 dX4_newStep_60 ?_
    have hw9 := xval.up (q := 14) (i := r11) (v := t0_60) hw60 rfl h_t0_60
    refine xi_aload_n C 0 dX4_newStep_61 rfl rfl ?_
    refine xi_getR C xK_X4 (q := 1) (r := 15) rfl 6 (by decide) (ki := 6) rfl xl_X4_28 rfl dX4_newStep_62 ?_
    refine xi_iload C 5 dX4_newStep_65 rfl ?_
    refine xi_iload C 2 dX4_newStep_67 rfl ?_
    refine xi_bipush C (v := 107) dX4_newStep_69 (by decide +kernel) ?_
    refine xJ1_w (fun t0_80 S80 => xR t0_80 → xval (gC D ca ad tF) S80 → xV (gC D ca ad tF) p l e ({ frames := 1, cells := 0, slots := 0, locals := 21 }) s m args below meth c A 9 Z 0 0 80 [(0, .ref (ad 1)), (1, .int (iN a1)), (7, .int (iN (S 10 a1)))] [.int (iN t0_80), .int (iN r11), .ref (ad 15)] S80) h (fun t0_80 S80 h h_t0_80 hw80 => ?_) (fun j80 hj80 h => ?_)
    · unfold w_X4_newStep_J80 at h
      refine xi_iastore C (q := 15) rfl (by decide) hc3 dX4_newStep_80 ?_
      have hw11 := xval.up (q := 15) (i := r11) (v := t0_80) hw80 rfl h_t0_80
      refine xi_aload_n C 0 dX4_newStep_81 rfl rfl ?_
      refine xi_getR C xK_X4 (q := 1) (r := 10) rfl 1 (by decide) (ki := 1) rfl xl_X4_9 rfl dX4_newStep_82 ?_
      refine xi_iload_n C 1 dX4_newStep_85 rfl rfl ?_
      refine xi_dup2 C dX4_newStep_86 rfl rfl ?_
      refine xi_iaload C (q := 10) rfl (by decide) hc1 dX4_newStep_87 ?_
      refine xi_iconst C (v := 1) dX4_newStep_88 rfl ?_
      refine xi_iadd C dX4_newStep_89 ?_
      obtain ⟨hc12, h⟩ := h
      refine xi_iastore C (q := 10) rfl (by decide) hc1 dX4_newStep_90 ?_
      have hw13 := xval.up (q := 10) (i := a1) (v := (S80 10 a1) + 1) hw11 rfl hc12
      refine xi_iload C 2 dX4_newStep_91 rfl ?_
      exact xr_i C hA hZ hr hlocks rfl dX4_newStep_93 (Nat.le_of_ble_eq_true rfl) (Nat.le_of_ble_eq_true rfl) hw13 ⟨_, rfl, (xval.i (q := 10) (i := a1) hw hc1.1 rfl), h⟩
    · refine xi_icmp_ne C 78 h_a4 (by decide) dX4_newStep_71 (by decide) (fun z10 => ?_) (fun z10 => ?_)
      · replace h := h.1 z10
        refine xi_iload C 3 dX4_newStep_78 rfl ?_
        exact xi_sub [0, 1, 4] rfl (hj80 a6 (xup S60 14 r11 t0_60) h h_a6 hw9)
      · replace h := h.2 z10
        refine xi_iconst C (v := 0) dX4_newStep_74 rfl ?_
        refine xi_goto C 80 dX4_newStep_75 (by decide) ?_
        exact xi_sub [0, 1, 4] rfl (hj80 0 (xup S60 14 r11 t0_60) h (by decide) hw9)
  · refine xi_icmp_ne C 58 h_a4 (by decide) dX4_newStep_51 (by decide) (fun z8 => ?_) (fun z8 => ?_)
    · replace h := h.1 z8
      refine xi_iload C 7 dX4_newStep_58 rfl ?_
      exact xi_sub [2, 3, 6, 8, 1, 0] rfl (hj60 a5 (xup (xup (xup S11 11 r11 a2) 12 r11 a3) 13 r11 a4) h h_a5 hw7)
    · replace h := h.2 z8
      refine xi_iconst C (v := 0) dX4_newStep_54 rfl ?_
      refine xi_goto C 60 dX4_newStep_55 (by decide) ?_
      exact xi_sub [2, 3, 6, 8, 1, 0] rfl (hj60 0 (xup (xup (xup S11 11 r11 a2) 12 r11 a3) 13 r11 a4) h (by decide) hw7)
set_option maxRecDepth 100000 in
set_option maxHeartbeats 4000000 in
theorem c_X4_newChannel (l : Launch) (D : va_G) (ca : Nat → ClassId) (ad : Nat → Nat) (tF : Nat) (a1 : Int) (S : xS) (Q : Int → xS → Prop) (h_a1 : xR a1) (h : w_X4_newChannel a1 S Q) : xM l yX4_newChannel (xws yX4_newChannel cX4_newChannel 2 (some .int)) ({ frames := 0, cells := 0, slots := 0, locals := 0 }) (gC D ca ad tF) [.ref (ad 1), .int (iN a1)] S (xQi Q) 0 0 := by
  refine xm_of RX4 rfl (by decide +kernel) (Nat.le_of_ble_eq_true rfl) ?_
  intro p e s m args below meth c A Z C hA hZ hr hlocks hw
  unfold w_X4_newChannel at h
  show xV (gC D ca ad tF) p l e ({ frames := 0, cells := 0, slots := 0, locals := 0 }) s m args below meth c A 2 Z 0 0 0 [(0, .ref (ad 1)), (1, .int (iN a1))] [] S
  refine xi_aload_n C 0 dX4_newChannel_0 rfl rfl ?_
  refine xi_getR C xK_X4 (q := 1) (r := 16) rfl 8 (by decide) (ki := 8) rfl xl_X4_31 rfl dX4_newChannel_1 ?_
  refine xi_aload_n C 0 dX4_newChannel_4 rfl rfl ?_
  refine xi_getI C xK_X4 (q := 1) (r := 0) rfl 7 (by decide) (ki := 7) rfl xl_X4_64 rfl dX4_newChannel_5 ?_
  refine xi_iload_n C 1 dX4_newChannel_8 rfl rfl ?_
  obtain ⟨hc1, h⟩ := h
  refine xi_iastore C (q := 16) rfl (by decide) hc1 dX4_newChannel_9 ?_
  have hw2 := xval.up (q := 16) (i := S 1 7) (v := a1) hw rfl h_a1
  refine xi_aload_n C 0 dX4_newChannel_10 rfl rfl ?_
  refine xi_dup C dX4_newChannel_11 rfl ?_
  refine xi_getI C xK_X4 (q := 1) (r := 0) rfl 7 (by decide) (ki := 7) rfl xl_X4_64 rfl dX4_newChannel_12 ?_
  refine xi_iconst C (v := 1) dX4_newChannel_15 rfl ?_
  refine xi_iadd C dX4_newChannel_16 ?_
  obtain ⟨hc3, h⟩ := h
  refine xi_putI C xK_X4 (q := 1) (r := 0) rfl 7 (by decide) (ki := 7) rfl xl_X4_64 rfl rfl rfl dX4_newChannel_17 ?_
  have hw4 := xval.up (q := 1) (i := 7) (v := (S 1 7) + 1) hw2 rfl hc3
  refine xi_aload_n C 0 dX4_newChannel_20 rfl rfl ?_
  refine xi_getI C xK_X4 (q := 1) (r := 0) rfl 7 (by decide) (ki := 7) rfl xl_X4_64 rfl dX4_newChannel_21 ?_
  refine xi_iconst C (v := 1) dX4_newChannel_24 rfl ?_
  refine xi_isub C dX4_newChannel_25 ?_
  obtain ⟨hc5, h⟩ := h
  exact xr_i C hA hZ hr hlocks rfl dX4_newChannel_26 (Nat.le_of_ble_eq_true rfl) (Nat.le_of_ble_eq_true rfl) hw4 ⟨_, rfl, hc5, h⟩
set_option maxRecDepth 100000 in
set_option maxHeartbeats 4000000 in
theorem c_X4_putMarks (l : Launch) (D : va_G) (ca : Nat → ClassId) (ad : Nat → Nat) (tF : Nat) (a1 : Int) (a2 : Int) (a3 : Int) (S : xS) (Q : Int → xS → Prop) (h_a1 : xR a1) (h_a2 : xR a2) (h_a3 : xR a3) (h : w_X4_putMarks a1 a2 a3 S Q) : xM l yX4_putMarks (xws yX4_putMarks cX4_putMarks 6 (some .boolean)) ({ frames := 0, cells := 0, slots := 0, locals := 0 }) (gC D ca ad tF) [.ref (ad 1), .int (iN a1), .int (iN a2), .int (iN a3)] S (xQi Q) 0 0 := by
  refine xm_of RX4 rfl (by decide +kernel) (Nat.le_of_ble_eq_true rfl) ?_
  intro p e s m args below meth c A Z C hA hZ hr hlocks hw
  unfold w_X4_putMarks at h
  show xV (gC D ca ad tF) p l e ({ frames := 0, cells := 0, slots := 0, locals := 0 }) s m args below meth c A 6 Z 0 0 0 [(0, .ref (ad 1)), (1, .int (iN a1)), (2, .int (iN a2)), (3, .int (iN a3))] [] S
  refine xi_iload_n C 1 dX4_putMarks_0 rfl rfl ?_
  refine xi_bipush C (v := 12) dX4_putMarks_1 (by decide +kernel) ?_
  refine xi_imul C dX4_putMarks_3 ?_
  refine xi_iload_n C 2 dX4_putMarks_4 rfl rfl ?_
  refine xi_iadd C dX4_putMarks_5 ?_
  refine xi_istore C (L' := [(4, .int (iN ((a1 * 12) + a2))), (0, .ref (ad 1)), (1, .int (iN a1)), (2, .int (iN a2)), (3, .int (iN a3))]) dX4_putMarks_6 (by decide) rfl ?_
  refine xi_aload_n C 1 dX4_putMarks_8 rfl rfl ?_
  refine xi_getR C xK_X4 (q := 1) (r := 18) rfl 10 (by decide) (ki := 10) rfl xl_X4_37 rfl dX4_putMarks_9 ?_
  refine xi_iload C 0 dX4_putMarks_12 rfl ?_
  obtain ⟨hc1, h⟩ := h
  refine xi_iaload C (q := 18) rfl (by decide) hc1 dX4_putMarks_14 ?_
  refine xi_iload_n C 4 dX4_putMarks_15 rfl rfl ?_
  refine xi_icmp_eq C 23 (xval.i (q := 18) (i := (a1 * 12) + a2) hw hc1.1 rfl) h_a3 dX4_putMarks_16 (by decide) (fun z2 => ?_) (fun z2 => ?_)
  · replace h := h.1 z2
    refine xi_iconst C (v := 0) dX4_putMarks_23 rfl ?_
    refine xi_istore C (L' := [(5, .int (iN 0)), (4, .int (iN ((a1 * 12) + a2))), (0, .ref (ad 1)), (1, .int (iN a1)), (2, .int (iN a2)), (3, .int (iN a3))]) dX4_putMarks_24 (by decide) rfl ?_
    refine xi_aload_n C 2 dX4_putMarks_26 rfl rfl ?_
    refine xi_getR C xK_X4 (q := 1) (r := 18) rfl 10 (by decide) (ki := 10) rfl xl_X4_37 rfl dX4_putMarks_27 ?_
    refine xi_iload C 1 dX4_putMarks_30 rfl ?_
    refine xi_iload_n C 5 dX4_putMarks_32 rfl rfl ?_
    refine xi_iastore C (q := 18) rfl (by decide) hc1 dX4_putMarks_33 ?_
    have hw3 := xval.up (q := 18) (i := (a1 * 12) + a2) (v := a3) hw rfl h_a3
    refine xi_iload C 0 dX4_putMarks_34 rfl ?_
    exact xr_i C hA hZ hr hlocks (xnarZ (Or.inl rfl)).1 dX4_putMarks_36 (Nat.le_of_ble_eq_true rfl) (Nat.le_of_ble_eq_true rfl) hw3 ⟨_, rfl, (by decide), h⟩
  · replace h := h.2 z2
    refine xi_iconst C (v := 1) dX4_putMarks_19 rfl ?_
    refine xi_goto C 24 dX4_putMarks_20 (by decide) ?_
    refine xi_istore C (L' := [(5, .int (iN 1)), (4, .int (iN ((a1 * 12) + a2))), (0, .ref (ad 1)), (1, .int (iN a1)), (2, .int (iN a2)), (3, .int (iN a3))]) dX4_putMarks_24 (by decide) rfl ?_
    refine xi_aload_n C 2 dX4_putMarks_26 rfl rfl ?_
    refine xi_getR C xK_X4 (q := 1) (r := 18) rfl 10 (by decide) (ki := 10) rfl xl_X4_37 rfl dX4_putMarks_27 ?_
    refine xi_iload C 1 dX4_putMarks_30 rfl ?_
    refine xi_iload_n C 5 dX4_putMarks_32 rfl rfl ?_
    refine xi_iastore C (q := 18) rfl (by decide) hc1 dX4_putMarks_33 ?_
    have hw4 := xval.up (q := 18) (i := (a1 * 12) + a2) (v := a3) hw rfl h_a3
    refine xi_iload C 0 dX4_putMarks_34 rfl ?_
    exact xr_i C hA hZ hr hlocks (xnarZ (Or.inr rfl)).1 dX4_putMarks_36 (Nat.le_of_ble_eq_true rfl) (Nat.le_of_ble_eq_true rfl) hw4 ⟨_, rfl, (by decide), h⟩
set_option maxRecDepth 100000 in
set_option maxHeartbeats 4000000 in
theorem c_X4_newInvariant (l : Launch) (D : va_G) (ca : Nat → ClassId) (ad : Nat → Nat) (tF : Nat) (a1 : Int) (a2 : Int) (S : xS) (Q : Int → xS → Prop) (h_a1 : xR a1) (h_a2 : xR a2) (h : w_X4_newInvariant a1 a2 S Q) : xM l yX4_newInvariant (xws yX4_newInvariant cX4_newInvariant 3 (some .int)) ({ frames := 0, cells := 0, slots := 0, locals := 0 }) (gC D ca ad tF) [.ref (ad 1), .int (iN a1), .int (iN a2)] S (xQi Q) 0 0 := by
  refine xm_of RX4 rfl (by decide +kernel) (Nat.le_of_ble_eq_true rfl) ?_
  intro p e s m args below meth c A Z C hA hZ hr hlocks hw
  unfold w_X4_newInvariant at h
  show xV (gC D ca ad tF) p l e ({ frames := 0, cells := 0, slots := 0, locals := 0 }) s m args below meth c A 3 Z 0 0 0 [(0, .ref (ad 1)), (1, .int (iN a1)), (2, .int (iN a2))] [] S
  refine xi_aload_n C 0 dX4_newInvariant_0 rfl rfl ?_
  refine xi_getR C xK_X4 (q := 1) (r := 19) rfl 12 (by decide) (ki := 12) rfl xl_X4_40 rfl dX4_newInvariant_1 ?_
  refine xi_aload_n C 0 dX4_newInvariant_4 rfl rfl ?_
  refine xi_getI C xK_X4 (q := 1) (r := 0) rfl 11 (by decide) (ki := 11) rfl xl_X4_71 rfl dX4_newInvariant_5 ?_
  refine xi_iload_n C 1 dX4_newInvariant_8 rfl rfl ?_
  obtain ⟨hc1, h⟩ := h
  refine xi_iastore C (q := 19) rfl (by decide) hc1 dX4_newInvariant_9 ?_
  have hw2 := xval.up (q := 19) (i := S 1 11) (v := a1) hw rfl h_a1
  refine xi_aload_n C 0 dX4_newInvariant_10 rfl rfl ?_
  refine xi_getR C xK_X4 (q := 1) (r := 20) rfl 13 (by decide) (ki := 13) rfl xl_X4_43 rfl dX4_newInvariant_11 ?_
  refine xi_aload_n C 0 dX4_newInvariant_14 rfl rfl ?_
  refine xi_getI C xK_X4 (q := 1) (r := 0) rfl 11 (by decide) (ki := 11) rfl xl_X4_71 rfl dX4_newInvariant_15 ?_
  refine xi_iload_n C 2 dX4_newInvariant_18 rfl rfl ?_
  refine xi_iastore C (q := 20) rfl (by decide) hc1 dX4_newInvariant_19 ?_
  have hw3 := xval.up (q := 20) (i := S 1 11) (v := a2) hw2 rfl h_a2
  refine xi_aload_n C 0 dX4_newInvariant_20 rfl rfl ?_
  refine xi_dup C dX4_newInvariant_21 rfl ?_
  refine xi_getI C xK_X4 (q := 1) (r := 0) rfl 11 (by decide) (ki := 11) rfl xl_X4_71 rfl dX4_newInvariant_22 ?_
  refine xi_iconst C (v := 1) dX4_newInvariant_25 rfl ?_
  refine xi_iadd C dX4_newInvariant_26 ?_
  obtain ⟨hc4, h⟩ := h
  refine xi_putI C xK_X4 (q := 1) (r := 0) rfl 11 (by decide) (ki := 11) rfl xl_X4_71 rfl rfl rfl dX4_newInvariant_27 ?_
  have hw5 := xval.up (q := 1) (i := 11) (v := (S 1 11) + 1) hw3 rfl hc4
  refine xi_aload_n C 0 dX4_newInvariant_30 rfl rfl ?_
  refine xi_getI C xK_X4 (q := 1) (r := 0) rfl 11 (by decide) (ki := 11) rfl xl_X4_71 rfl dX4_newInvariant_31 ?_
  exact xr_i C hA hZ hr hlocks rfl dX4_newInvariant_34 (Nat.le_of_ble_eq_true rfl) (Nat.le_of_ble_eq_true rfl) hw5 ⟨_, rfl, (xval.i (q := 1) (i := 11) hw5 (by decide) rfl), h⟩
set_option maxRecDepth 100000 in
set_option maxHeartbeats 4000000 in
theorem c_X4_isChannelStep (l : Launch) (D : va_G) (ca : Nat → ClassId) (ad : Nat → Nat) (tF : Nat) (a1 : Int) (S : xS) (Q : Int → xS → Prop) (h_a1 : xR a1) (h : w_X4_isChannelStep a1 S Q) : xM l yX4_isChannelStep (xws yX4_isChannelStep cX4_isChannelStep 2 (some .boolean)) ({ frames := 0, cells := 0, slots := 0, locals := 0 }) (gC D ca ad tF) [.ref (ad 1), .int (iN a1)] S (xQi Q) 0 0 := by
  refine xm_of RX4 rfl (by decide +kernel) (Nat.le_of_ble_eq_true rfl) ?_
  intro p e s m args below meth c A Z C hA hZ hr hlocks hw
  unfold w_X4_isChannelStep at h
  show xV (gC D ca ad tF) p l e ({ frames := 0, cells := 0, slots := 0, locals := 0 }) s m args below meth c A 2 Z 0 0 0 [(0, .ref (ad 1)), (1, .int (iN a1))] [] S
  refine xi_aload_n C 0 dX4_isChannelStep_0 rfl rfl ?_
  refine xi_getR C xK_X4 (q := 1) (r := 13) rfl 4 (by decide) (ki := 4) rfl xl_X4_21 rfl dX4_isChannelStep_1 ?_
  refine xi_iload_n C 1 dX4_isChannelStep_4 rfl rfl ?_
  obtain ⟨hc1, h⟩ := h
  refine xi_caload C (q := 13) rfl (by decide) hc1 dX4_isChannelStep_5 ?_
  refine xi_bipush C (v := 119) dX4_isChannelStep_6 (by decide +kernel) ?_
  refine xi_icmp_eq C 22 (xval.i (q := 13) (i := a1) hw hc1.1 rfl) (by decide) dX4_isChannelStep_8 (by decide) (fun z2 => ?_) (fun z2 => ?_)
  · replace h := h.1 z2
    refine xi_iconst C (v := 1) dX4_isChannelStep_22 rfl ?_
    refine xi_goto C 27 dX4_isChannelStep_23 (by decide) ?_
    exact xr_i C hA hZ hr hlocks (xnarZ (Or.inr rfl)).1 dX4_isChannelStep_27 (Nat.le_of_ble_eq_true rfl) (Nat.le_of_ble_eq_true rfl) hw ⟨_, rfl, (by decide), h⟩
  · replace h := h.2 z2
    refine xi_aload_n C 0 dX4_isChannelStep_11 rfl rfl ?_
    refine xi_getR C xK_X4 (q := 1) (r := 13) rfl 4 (by decide) (ki := 4) rfl xl_X4_21 rfl dX4_isChannelStep_12 ?_
    refine xi_iload_n C 1 dX4_isChannelStep_15 rfl rfl ?_
    refine xi_caload C (q := 13) rfl (by decide) hc1 dX4_isChannelStep_16 ?_
    refine xi_bipush C (v := 114) dX4_isChannelStep_17 (by decide +kernel) ?_
    refine xi_icmp_ne C 26 (xval.i (q := 13) (i := a1) hw hc1.1 rfl) (by decide) dX4_isChannelStep_19 (by decide) (fun z3 => ?_) (fun z3 => ?_)
    · replace h := h.1 z3
      refine xi_iconst C (v := 0) dX4_isChannelStep_26 rfl ?_
      exact xr_i C hA hZ hr hlocks (xnarZ (Or.inl rfl)).1 dX4_isChannelStep_27 (Nat.le_of_ble_eq_true rfl) (Nat.le_of_ble_eq_true rfl) hw ⟨_, rfl, (by decide), h⟩
    · replace h := h.2 z3
      refine xi_iconst C (v := 1) dX4_isChannelStep_22 rfl ?_
      refine xi_goto C 27 dX4_isChannelStep_23 (by decide) ?_
      exact xr_i C hA hZ hr hlocks (xnarZ (Or.inr rfl)).1 dX4_isChannelStep_27 (Nat.le_of_ble_eq_true rfl) (Nat.le_of_ble_eq_true rfl) hw ⟨_, rfl, (by decide), h⟩
set_option maxRecDepth 100000 in
set_option maxHeartbeats 4000000 in
theorem c_X4_takenFor (l : Launch) (D : va_G) (ca : Nat → ClassId) (ad : Nat → Nat) (tF : Nat) (a0 : Int) (a1 : Int) (a2 : Int) (S : xS) (Q : Int → xS → Prop) (h_a0 : xR a0) (h_a1 : xR a1) (h_a2 : xR a2) (h : w_X4_takenFor a0 a1 a2 S Q) : xM l yX4_takenFor (xws yX4_takenFor cX4_takenFor 3 (some .int)) ({ frames := 1, cells := 0, slots := 0, locals := 22 }) (gC D ca ad tF) [.int (iN a0), .int (iN a1), .int (iN a2)] S (xQi Q) 0 0 := by
  refine xm_of RX4 rfl (by decide +kernel) (Nat.le_of_ble_eq_true rfl) ?_
  intro p e s m args below meth c A Z C hA hZ hr hlocks hw
  unfold w_X4_takenFor at h
  show xV (gC D ca ad tF) p l e ({ frames := 1, cells := 0, slots := 0, locals := 22 }) s m args below meth c A 3 Z 0 0 0 [(0, .int (iN a0)), (1, .int (iN a1)), (2, .int (iN a2))] [] S
  refine xi_iload_n C 0 dX4_takenFor_0 rfl rfl ?_
  refine xi_iload_n C 2 dX4_takenFor_1 rfl rfl ?_
  refine xc_Si C hw (c_X4_isOwn l D ca ad tF a0 a2 S _ h_a0 h_a2 h) xk_X4_isOwn xs_X4_isOwn xl_X4_49 ⟨Nat.le_of_ble_eq_true rfl, Nat.le_of_ble_eq_true rfl⟩ rfl rfl (Nat.le_of_ble_eq_true rfl) ⟨Nat.le_of_ble_eq_true rfl, Nat.le_of_ble_eq_true rfl⟩ dX4_takenFor_2 (fun r2 S2 h_r2 h hw1 => ?_)
  refine xi_if_eq C 18 h_r2 dX4_takenFor_5 (by decide) (fun z2 => ?_) (fun z2 => ?_)
  · replace h := h.1 z2
    refine xi_iload_n C 2 dX4_takenFor_18 rfl rfl ?_
    exact xr_i C hA hZ hr hlocks rfl dX4_takenFor_19 (Nat.le_of_ble_eq_true rfl) (Nat.le_of_ble_eq_true rfl) hw1 ⟨_, rfl, h_a2, h⟩
  · replace h := h.2 z2
    refine xi_iload_n C 2 dX4_takenFor_8 rfl rfl ?_
    refine xi_iconst C (v := 2) dX4_takenFor_9 rfl ?_
    refine xi_iload_n C 1 dX4_takenFor_10 rfl rfl ?_
    refine xi_iload_n C 0 dX4_takenFor_11 rfl rfl ?_
    refine xi_isub C dX4_takenFor_12 ?_
    refine xi_imul C dX4_takenFor_13 ?_
    refine xi_iadd C dX4_takenFor_14 ?_
    refine xi_goto C 19 dX4_takenFor_15 (by decide) ?_
    obtain ⟨hc3, h⟩ := h
    exact xr_i C hA hZ hr hlocks rfl dX4_takenFor_19 (Nat.le_of_ble_eq_true rfl) (Nat.le_of_ble_eq_true rfl) hw1 ⟨_, rfl, hc3, h⟩
set_option maxRecDepth 100000 in
set_option maxHeartbeats 4000000 in
theorem c_X4_isSameStep (l : Launch) (D : va_G) (ca : Nat → ClassId) (ad : Nat → Nat) (tF : Nat) (a1 : Int) (a2 : Int) (a3 : Int) (S : xS) (Q : Int → xS → Prop) (h_a1 : xR a1) (h_a2 : xR a2) (h_a3 : xR a3) (h : w_X4_isSameStep a1 a2 a3 S Q) : xM l yX4_isSameStep (xws yX4_isSameStep cX4_isSameStep 6 (some .boolean)) ({ frames := 2, cells := 0, slots := 0, locals := 44 }) (gC D ca ad tF) [.ref (ad 1), .int (iN a1), .int (iN a2), .int (iN a3)] S (xQi Q) 0 0 := by
  refine xm_of RX4 rfl (by decide +kernel) (Nat.le_of_ble_eq_true rfl) ?_
  intro p e s m args below meth c A Z C hA hZ hr hlocks hw
  unfold w_X4_isSameStep at h
  show xV (gC D ca ad tF) p l e ({ frames := 2, cells := 0, slots := 0, locals := 44 }) s m args below meth c A 6 Z 0 0 0 [(0, .ref (ad 1)), (1, .int (iN a1)), (2, .int (iN a2)), (3, .int (iN a3))] [] S
  refine xi_iload_n C 1 dX4_isSameStep_0 rfl rfl ?_
  refine xi_iload_n C 3 dX4_isSameStep_1 rfl rfl ?_
  refine xc_Si C hw (c_X4_stepAt l D ca ad tF a1 a3 S _ h_a1 h_a3 h) xk_X4_stepAt xs_X4_stepAt xl_X4_67 ⟨Nat.le_of_ble_eq_true rfl, Nat.le_of_ble_eq_true rfl⟩ rfl rfl (Nat.le_of_ble_eq_true rfl) ⟨Nat.le_of_ble_eq_true rfl, Nat.le_of_ble_eq_true rfl⟩ dX4_isSameStep_2 (fun r2 S2 h_r2 h hw1 => ?_)
  refine xi_istore C (L' := [(4, .int (iN r2)), (0, .ref (ad 1)), (1, .int (iN a1)), (2, .int (iN a2)), (3, .int (iN a3))]) dX4_isSameStep_5 (by decide) rfl ?_
  refine xi_iload_n C 3 dX4_isSameStep_7 rfl rfl ?_
  refine xi_iload_n C 4 dX4_isSameStep_8 rfl rfl ?_
  refine xc_Si C hw1 (c_X4_stepAt l D ca ad tF a2 a3 S2 _ h_a2 h_a3 h) xk_X4_stepAt xs_X4_stepAt xl_X4_67 ⟨Nat.le_of_ble_eq_true rfl, Nat.le_of_ble_eq_true rfl⟩ rfl rfl (Nat.le_of_ble_eq_true rfl) ⟨Nat.le_of_ble_eq_true rfl, Nat.le_of_ble_eq_true rfl⟩ dX4_isSameStep_9 (fun r9 S9 h_r9 h hw2 => ?_)
  refine xi_istore C (L' := [(5, .int (iN r9)), (4, .int (iN r2)), (0, .ref (ad 1)), (1, .int (iN a1)), (2, .int (iN a2)), (3, .int (iN a3))]) dX4_isSameStep_12 (by decide) rfl ?_
  refine xi_aload_n C 2 dX4_isSameStep_14 rfl rfl ?_
  refine xi_getR C xK_X4 (q := 1) (r := 11) rfl 2 (by decide) (ki := 2) rfl xl_X4_15 rfl dX4_isSameStep_15 ?_
  refine xi_iload C 1 dX4_isSameStep_18 rfl ?_
  obtain ⟨hc3, h⟩ := h
  refine xi_iaload C (q := 11) rfl (by decide) hc3 dX4_isSameStep_20 ?_
  refine xi_aload_n C 2 dX4_isSameStep_21 rfl rfl ?_
  refine xi_getR C xK_X4 (q := 1) (r := 11) rfl 2 (by decide) (ki := 2) rfl xl_X4_15 rfl dX4_isSameStep_22 ?_
  refine xi_iload C 0 dX4_isSameStep_25 rfl ?_
  obtain ⟨hc4, h⟩ := h
  refine xi_iaload C (q := 11) rfl (by decide) hc4 dX4_isSameStep_27 ?_
  refine xi_icmp_ne C 65 (xval.i (q := 11) (i := r2) hw2 hc3.1 rfl) (xval.i (q := 11) (i := r9) hw2 hc4.1 rfl) dX4_isSameStep_28 (by decide) (fun z5 => ?_) (fun z5 => ?_)
  · replace h := h.1 z5
    refine xi_iconst C (v := 0) dX4_isSameStep_65 rfl ?_
    exact xr_i C hA hZ hr hlocks (xnarZ (Or.inl rfl)).1 dX4_isSameStep_66 (Nat.le_of_ble_eq_true rfl) (Nat.le_of_ble_eq_true rfl) hw2 ⟨_, rfl, (by decide), h⟩
  · replace h := h.2 z5
    refine xi_aload_n C 2 dX4_isSameStep_31 rfl rfl ?_
    refine xi_getR C xK_X4 (q := 1) (r := 12) rfl 3 (by decide) (ki := 3) rfl xl_X4_18 rfl dX4_isSameStep_32 ?_
    refine xi_iload C 1 dX4_isSameStep_35 rfl ?_
    refine xi_iaload C (q := 12) rfl (by decide) hc3 dX4_isSameStep_37 ?_
    refine xi_aload_n C 2 dX4_isSameStep_38 rfl rfl ?_
    refine xi_getR C xK_X4 (q := 1) (r := 12) rfl 3 (by decide) (ki := 3) rfl xl_X4_18 rfl dX4_isSameStep_39 ?_
    refine xi_iload C 0 dX4_isSameStep_42 rfl ?_
    refine xi_iaload C (q := 12) rfl (by decide) hc4 dX4_isSameStep_44 ?_
    refine xi_icmp_ne C 65 (xval.i (q := 12) (i := r2) hw2 hc3.1 rfl) (xval.i (q := 12) (i := r9) hw2 hc4.1 rfl) dX4_isSameStep_45 (by decide) (fun z6 => ?_) (fun z6 => ?_)
    · replace h := h.1 z6
      refine xi_iconst C (v := 0) dX4_isSameStep_65 rfl ?_
      exact xr_i C hA hZ hr hlocks (xnarZ (Or.inl rfl)).1 dX4_isSameStep_66 (Nat.le_of_ble_eq_true rfl) (Nat.le_of_ble_eq_true rfl) hw2 ⟨_, rfl, (by decide), h⟩
    · replace h := h.2 z6
      refine xi_aload_n C 2 dX4_isSameStep_48 rfl rfl ?_
      refine xi_getR C xK_X4 (q := 1) (r := 13) rfl 4 (by decide) (ki := 4) rfl xl_X4_21 rfl dX4_isSameStep_49 ?_
      refine xi_iload C 1 dX4_isSameStep_52 rfl ?_
      refine xi_caload C (q := 13) rfl (by decide) hc3 dX4_isSameStep_54 ?_
      refine xi_aload_n C 2 dX4_isSameStep_55 rfl rfl ?_
      refine xi_getR C xK_X4 (q := 1) (r := 13) rfl 4 (by decide) (ki := 4) rfl xl_X4_21 rfl dX4_isSameStep_56 ?_
      refine xi_iload C 0 dX4_isSameStep_59 rfl ?_
      refine xi_caload C (q := 13) rfl (by decide) hc4 dX4_isSameStep_61 ?_
      refine xi_icmp_eq C 67 (xval.i (q := 13) (i := r2) hw2 hc3.1 rfl) (xval.i (q := 13) (i := r9) hw2 hc4.1 rfl) dX4_isSameStep_62 (by decide) (fun z7 => ?_) (fun z7 => ?_)
      · replace h := h.1 z7
        refine xi_aload_n C 2 dX4_isSameStep_67 rfl rfl ?_
        refine xi_iload C 1 dX4_isSameStep_68 rfl ?_
        refine xc_Vi C hw2 (c_X4_isChannelStep l D ca ad tF r2 S9 _ h_r2 h) xk_X4_isChannelStep xv_X4_isChannelStep xl_X4_78 ⟨Nat.le_of_ble_eq_true rfl, Nat.le_of_ble_eq_true rfl⟩ xK_X4 (q := 1) rfl rfl rfl (Nat.le_of_ble_eq_true rfl) ⟨Nat.le_of_ble_eq_true rfl, Nat.le_of_ble_eq_true rfl⟩ dX4_isSameStep_70 (fun r70 S70 h_r70 h hw8 => ?_)
        refine xi_if_eq C 121 h_r70 dX4_isSameStep_73 (by decide) (fun z9 => ?_) (fun z9 => ?_)
        · replace h := h.1 z9
          refine xi_iload_n C 3 dX4_isSameStep_121 rfl rfl ?_
          refine xi_iload_n C 4 dX4_isSameStep_122 rfl rfl ?_
          refine xi_aload_n C 2 dX4_isSameStep_123 rfl rfl ?_
          refine xi_getR C xK_X4 (q := 1) (r := 14) rfl 5 (by decide) (ki := 5) rfl xl_X4_25 rfl dX4_isSameStep_124 ?_
          refine xi_iload C 1 dX4_isSameStep_127 rfl ?_
          refine xi_iaload C (q := 14) rfl (by decide) hc3 dX4_isSameStep_129 ?_
          refine xc_Si C hw8 (c_X4_takenFor l D ca ad tF a1 a2 (S70 14 r2) S70 _ h_a1 h_a2 (xval.i (q := 14) (i := r2) hw8 hc3.1 rfl) h) xk_X4_takenFor xs_X4_takenFor xl_X4_81 ⟨Nat.le_of_ble_eq_true rfl, Nat.le_of_ble_eq_true rfl⟩ rfl rfl (Nat.le_of_ble_eq_true rfl) ⟨Nat.le_of_ble_eq_true rfl, Nat.le_of_ble_eq_true rfl⟩ dX4_isSameStep_130 (fun r130 S130 h_r130 h hw10 => ?_)
          refine xi_aload_n C 2 dX4_isSameStep_133 rfl rfl ?_
          refine xi_getR C xK_X4 (q := 1) (r := 14) rfl 5 (by decide) (ki := 5) rfl xl_X4_25 rfl dX4_isSameStep_134 ?_
          refine xi_iload C 0 dX4_isSameStep_137 rfl ?_
          refine xi_iaload C (q := 14) rfl (by decide) hc4 dX4_isSameStep_139 ?_
          refine xi_icmp_ne C 164 h_r130 (xval.i (q := 14) (i := r9) hw10 hc4.1 rfl) dX4_isSameStep_140 (by decide) (fun z11 => ?_) (fun z11 => ?_)
          · replace h := h.1 z11
            refine xi_iconst C (v := 0) dX4_isSameStep_164 rfl ?_
            exact xr_i C hA hZ hr hlocks (xnarZ (Or.inl rfl)).1 dX4_isSameStep_165 (Nat.le_of_ble_eq_true rfl) (Nat.le_of_ble_eq_true rfl) hw10 ⟨_, rfl, (by decide), h⟩
          · replace h := h.2 z11
            refine xi_aload_n C 2 dX4_isSameStep_143 rfl rfl ?_
            refine xi_getR C xK_X4 (q := 1) (r := 15) rfl 6 (by decide) (ki := 6) rfl xl_X4_28 rfl dX4_isSameStep_144 ?_
            refine xi_iload C 1 dX4_isSameStep_147 rfl ?_
            refine xi_iaload C (q := 15) rfl (by decide) hc3 dX4_isSameStep_149 ?_
            refine xi_aload_n C 2 dX4_isSameStep_150 rfl rfl ?_
            refine xi_getR C xK_X4 (q := 1) (r := 15) rfl 6 (by decide) (ki := 6) rfl xl_X4_28 rfl dX4_isSameStep_151 ?_
            refine xi_iload C 0 dX4_isSameStep_154 rfl ?_
            refine xi_iaload C (q := 15) rfl (by decide) hc4 dX4_isSameStep_156 ?_
            refine xi_icmp_ne C 164 (xval.i (q := 15) (i := r2) hw10 hc3.1 rfl) (xval.i (q := 15) (i := r9) hw10 hc4.1 rfl) dX4_isSameStep_157 (by decide) (fun z12 => ?_) (fun z12 => ?_)
            · replace h := h.1 z12
              refine xi_iconst C (v := 0) dX4_isSameStep_164 rfl ?_
              exact xr_i C hA hZ hr hlocks (xnarZ (Or.inl rfl)).1 dX4_isSameStep_165 (Nat.le_of_ble_eq_true rfl) (Nat.le_of_ble_eq_true rfl) hw10 ⟨_, rfl, (by decide), h⟩
            · replace h := h.2 z12
              refine xi_iconst C (v := 1) dX4_isSameStep_160 rfl ?_
              refine xi_goto C 165 dX4_isSameStep_161 (by decide) ?_
              exact xr_i C hA hZ hr hlocks (xnarZ (Or.inr rfl)).1 dX4_isSameStep_165 (Nat.le_of_ble_eq_true rfl) (Nat.le_of_ble_eq_true rfl) hw10 ⟨_, rfl, (by decide), h⟩
        · replace h := h.2 z9
          refine xi_aload_n C 2 dX4_isSameStep_76 rfl rfl ?_
          refine xi_getR C xK_X4 (q := 1) (r := 14) rfl 5 (by decide) (ki := 5) rfl xl_X4_25 rfl dX4_isSameStep_77 ?_
          refine xi_iload C 1 dX4_isSameStep_80 rfl ?_
          refine xi_iaload C (q := 14) rfl (by decide) hc3 dX4_isSameStep_82 ?_
          refine xi_aload_n C 2 dX4_isSameStep_83 rfl rfl ?_
          refine xi_getR C xK_X4 (q := 1) (r := 14) rfl 5 (by decide) (ki := 5) rfl xl_X4_25 rfl dX4_isSameStep_84 ?_
          refine xi_iload C 0 dX4_isSameStep_87 rfl ?_
          refine xi_iaload C (q := 14) rfl (by decide) hc4 dX4_isSameStep_89 ?_
          refine xi_icmp_ne C 119 (xval.i (q := 14) (i := r2) hw8 hc3.1 rfl) (xval.i (q := 14) (i := r9) hw8 hc4.1 rfl) dX4_isSameStep_90 (by decide) (fun z13 => ?_) (fun z13 => ?_)
          · replace h := h.1 z13
            refine xi_iconst C (v := 0) dX4_isSameStep_119 rfl ?_
            exact xr_i C hA hZ hr hlocks (xnarZ (Or.inl rfl)).1 dX4_isSameStep_120 (Nat.le_of_ble_eq_true rfl) (Nat.le_of_ble_eq_true rfl) hw8 ⟨_, rfl, (by decide), h⟩
          · replace h := h.2 z13
            refine xi_iload_n C 3 dX4_isSameStep_93 rfl rfl ?_
            refine xi_iload_n C 4 dX4_isSameStep_94 rfl rfl ?_
            refine xi_aload_n C 2 dX4_isSameStep_95 rfl rfl ?_
            refine xi_getR C xK_X4 (q := 1) (r := 15) rfl 6 (by decide) (ki := 6) rfl xl_X4_28 rfl dX4_isSameStep_96 ?_
            refine xi_iload C 1 dX4_isSameStep_99 rfl ?_
            refine xi_iaload C (q := 15) rfl (by decide) hc3 dX4_isSameStep_101 ?_
            refine xc_Si C hw8 (c_X4_takenFor l D ca ad tF a1 a2 (S70 15 r2) S70 _ h_a1 h_a2 (xval.i (q := 15) (i := r2) hw8 hc3.1 rfl) h) xk_X4_takenFor xs_X4_takenFor xl_X4_81 ⟨Nat.le_of_ble_eq_true rfl, Nat.le_of_ble_eq_true rfl⟩ rfl rfl (Nat.le_of_ble_eq_true rfl) ⟨Nat.le_of_ble_eq_true rfl, Nat.le_of_ble_eq_true rfl⟩ dX4_isSameStep_102 (fun r102 S102 h_r102 h hw14 => ?_)
            refine xi_aload_n C 2 dX4_isSameStep_105 rfl rfl ?_
            refine xi_getR C xK_X4 (q := 1) (r := 15) rfl 6 (by decide) (ki := 6) rfl xl_X4_28 rfl dX4_isSameStep_106 ?_
            refine xi_iload C 0 dX4_isSameStep_109 rfl ?_
            refine xi_iaload C (q := 15) rfl (by decide) hc4 dX4_isSameStep_111 ?_
            refine xi_icmp_ne C 119 h_r102 (xval.i (q := 15) (i := r9) hw14 hc4.1 rfl) dX4_isSameStep_112 (by decide) (fun z15 => ?_) (fun z15 => ?_)
            · replace h := h.1 z15
              refine xi_iconst C (v := 0) dX4_isSameStep_119 rfl ?_
              exact xr_i C hA hZ hr hlocks (xnarZ (Or.inl rfl)).1 dX4_isSameStep_120 (Nat.le_of_ble_eq_true rfl) (Nat.le_of_ble_eq_true rfl) hw14 ⟨_, rfl, (by decide), h⟩
            · replace h := h.2 z15
              refine xi_iconst C (v := 1) dX4_isSameStep_115 rfl ?_
              refine xi_goto C 120 dX4_isSameStep_116 (by decide) ?_
              exact xr_i C hA hZ hr hlocks (xnarZ (Or.inr rfl)).1 dX4_isSameStep_120 (Nat.le_of_ble_eq_true rfl) (Nat.le_of_ble_eq_true rfl) hw14 ⟨_, rfl, (by decide), h⟩
      · replace h := h.2 z7
        refine xi_iconst C (v := 0) dX4_isSameStep_65 rfl ?_
        exact xr_i C hA hZ hr hlocks (xnarZ (Or.inl rfl)).1 dX4_isSameStep_66 (Nat.le_of_ble_eq_true rfl) (Nat.le_of_ble_eq_true rfl) hw2 ⟨_, rfl, (by decide), h⟩
set_option maxRecDepth 100000 in
set_option maxHeartbeats 4000000 in
theorem c_X4_hasAlike (l : Launch) (D : va_G) (ca : Nat → ClassId) (ad : Nat → Nat) (tF : Nat) (a1 : Int) (a2 : Int) (S : xS) (Q : Int → xS → Prop) (h_a1 : xR a1) (h_a2 : xR a2) (h : w_X4_hasAlike a1 a2 S Q) : xM l yX4_hasAlike (xws yX4_hasAlike cX4_hasAlike 4 (some .boolean)) ({ frames := 3, cells := 0, slots := 0, locals := 69 }) (gC D ca ad tF) [.ref (ad 1), .int (iN a1), .int (iN a2)] S (xQi Q) 0 0 := by
  refine xm_of RX4 rfl (by decide +kernel) (Nat.le_of_ble_eq_true rfl) ?_
  intro p e s m args below meth c A Z C hA hZ hr hlocks hw
  unfold w_X4_hasAlike at h
  show xV (gC D ca ad tF) p l e ({ frames := 3, cells := 0, slots := 0, locals := 69 }) s m args below meth c A 4 Z 0 0 0 [(0, .ref (ad 1)), (1, .int (iN a1)), (2, .int (iN a2))] [] S
  refine xi_aload_n C 0 dX4_hasAlike_0 rfl rfl ?_
  refine xi_getR C xK_X4 (q := 1) (r := 10) rfl 1 (by decide) (ki := 1) rfl xl_X4_9 rfl dX4_hasAlike_1 ?_
  refine xi_iload_n C 1 dX4_hasAlike_4 rfl rfl ?_
  obtain ⟨hc1, h⟩ := h
  refine xi_iaload C (q := 10) rfl (by decide) hc1 dX4_hasAlike_5 ?_
  refine xi_aload_n C 0 dX4_hasAlike_6 rfl rfl ?_
  refine xi_getR C xK_X4 (q := 1) (r := 10) rfl 1 (by decide) (ki := 1) rfl xl_X4_9 rfl dX4_hasAlike_7 ?_
  refine xi_iload_n C 2 dX4_hasAlike_10 rfl rfl ?_
  obtain ⟨hc2, h⟩ := h
  refine xi_iaload C (q := 10) rfl (by decide) hc2 dX4_hasAlike_11 ?_
  refine xi_icmp_eq C 17 (xval.i (q := 10) (i := a1) hw hc1.1 rfl) (xval.i (q := 10) (i := a2) hw hc2.1 rfl) dX4_hasAlike_12 (by decide) (fun z3 => ?_) (fun z3 => ?_)
  · replace h := h.1 z3
    refine xi_iconst C (v := 0) dX4_hasAlike_17 rfl ?_
    refine xi_istore_n C (L' := [(3, .int (iN 0)), (0, .ref (ad 1)), (1, .int (iN a1)), (2, .int (iN a2))]) dX4_hasAlike_18 rfl (by decide) rfl ?_
    refine xJ0_w (fun  S47 => xval (gC D ca ad tF) S47 → xV (gC D ca ad tF) p l e ({ frames := 3, cells := 0, slots := 0, locals := 69 }) s m args below meth c A 4 Z 0 0 47 [(0, .ref (ad 1)), (1, .int (iN a1)), (2, .int (iN a2))] [] S47) h (fun  S47 h  hw47 => ?_) (fun j47 hj47 h => ?_)
    · unfold w_X4_hasAlike_J47 at h
      refine xi_iconst C (v := 0) dX4_hasAlike_47 rfl ?_
      refine xi_istore_n C (L' := [(3, .int (iN 0)), (0, .ref (ad 1)), (1, .int (iN a1)), (2, .int (iN a2))]) dX4_hasAlike_48 rfl (by decide) rfl ?_
      refine xJ0_w (fun  S88 => xval (gC D ca ad tF) S88 → xV (gC D ca ad tF) p l e ({ frames := 3, cells := 0, slots := 0, locals := 69 }) s m args below meth c A 4 Z 0 0 88 [(0, .ref (ad 1)), (1, .int (iN a1)), (2, .int (iN a2))] [] S88) h (fun  S88 h  hw88 => ?_) (fun j88 hj88 h => ?_)
      · unfold w_X4_hasAlike_J88 at h
        refine xi_iconst C (v := 0) dX4_hasAlike_88 rfl ?_
        refine xi_istore_n C (L' := [(3, .int (iN 0)), (0, .ref (ad 1)), (1, .int (iN a1)), (2, .int (iN a2))]) dX4_hasAlike_89 rfl (by decide) rfl ?_
        refine xi_sub [1, 2, 3, 0] rfl (xW1 (fun v3_90 S90 => xR v3_90 → xval (gC D ca ad tF) S90 → xV (gC D ca ad tF) p l e ({ frames := 3, cells := 0, slots := 0, locals := 69 }) s m args below meth c A 4 Z 0 0 90 [(0, .ref (ad 1)), (1, .int (iN a1)), (2, .int (iN a2)), (3, .int (iN v3_90))] [] S90) h (fun k90 hk90 v3_90 S90 h h_v3_90 hw90 => ?_) (by decide) hw88)
        unfold w_X4_hasAlike_L90 at h
        refine xi_iload_n C 3 dX4_hasAlike_90 rfl rfl ?_
        refine xi_iconst C (v := 2) dX4_hasAlike_91 rfl ?_
        refine xi_icmp_ge C 130 h_v3_90 (by decide) dX4_hasAlike_92 (by decide) (fun z4 => ?_) (fun z4 => ?_)
        · replace h := h.1 z4
          refine xi_iconst C (v := 1) dX4_hasAlike_130 rfl ?_
          exact xr_i C hA hZ hr hlocks (xnarZ (Or.inr rfl)).1 dX4_hasAlike_131 (Nat.le_of_ble_eq_true rfl) (Nat.le_of_ble_eq_true rfl) hw90 ⟨_, rfl, (by decide), h⟩
        · replace h := h.2 z4
          refine xi_aload_n C 0 dX4_hasAlike_95 rfl rfl ?_
          refine xi_getR C xK_X4 (q := 1) (r := 17) rfl 9 (by decide) (ki := 9) rfl xl_X4_34 rfl dX4_hasAlike_96 ?_
          refine xi_getFO C xn_X4_46 dX4_hasAlike_99 ?_
          refine xi_iload_n C 1 dX4_hasAlike_102 rfl rfl ?_
          refine xi_ialoadFO C hc1 dX4_hasAlike_103 ?_
          refine xi_iload_n C 3 dX4_hasAlike_104 rfl rfl ?_
          refine xi_iadd C dX4_hasAlike_105 ?_
          obtain ⟨hc5, h⟩ := h
          refine xi_iaload C (q := 17) rfl (by decide) hc5 dX4_hasAlike_106 ?_
          refine xi_aload_n C 0 dX4_hasAlike_107 rfl rfl ?_
          refine xi_getR C xK_X4 (q := 1) (r := 17) rfl 9 (by decide) (ki := 9) rfl xl_X4_34 rfl dX4_hasAlike_108 ?_
          refine xi_getFO C xn_X4_46 dX4_hasAlike_111 ?_
          refine xi_iload_n C 2 dX4_hasAlike_114 rfl rfl ?_
          refine xi_ialoadFO C hc2 dX4_hasAlike_115 ?_
          refine xi_iload_n C 3 dX4_hasAlike_116 rfl rfl ?_
          refine xi_iadd C dX4_hasAlike_117 ?_
          obtain ⟨hc6, h⟩ := h
          refine xi_iaload C (q := 17) rfl (by decide) hc6 dX4_hasAlike_118 ?_
          refine xi_icmp_eq C 124 (xval.i (q := 17) (i := (3 + 2 * a1) + v3_90) hw90 hc5.1 rfl) (xval.i (q := 17) (i := (3 + 2 * a2) + v3_90) hw90 hc6.1 rfl) dX4_hasAlike_119 (by decide) (fun z7 => ?_) (fun z7 => ?_)
          · replace h := h.1 z7
            refine xi_iinc C (L' := [(3, .int (iN (v3_90 + 1))), (0, .ref (ad 1)), (1, .int (iN a1)), (2, .int (iN a2))]) 3 dX4_hasAlike_124 rfl (by decide) rfl ?_
            refine xi_goto C 90 dX4_hasAlike_127 (by decide) ?_
            obtain ⟨hc8, h⟩ := h
            exact xi_sub [1, 2, 3, 0] rfl (hk90 (v3_90 + 1) S90 h hc8 hw90)
          · replace h := h.2 z7
            refine xi_iconst C (v := 0) dX4_hasAlike_122 rfl ?_
            exact xr_i C hA hZ hr hlocks (xnarZ (Or.inl rfl)).1 dX4_hasAlike_123 (Nat.le_of_ble_eq_true rfl) (Nat.le_of_ble_eq_true rfl) hw90 ⟨_, rfl, (by decide), h⟩
      · refine xi_sub [1, 2, 3, 0] rfl (xW1 (fun v3_49 S49 => xR v3_49 → xval (gC D ca ad tF) S49 → xV (gC D ca ad tF) p l e ({ frames := 3, cells := 0, slots := 0, locals := 69 }) s m args below meth c A 4 Z 0 0 49 [(0, .ref (ad 1)), (1, .int (iN a1)), (2, .int (iN a2)), (3, .int (iN v3_49))] [] S49) h (fun k49 hk49 v3_49 S49 h h_v3_49 hw49 => ?_) (by decide) hw47)
        unfold w_X4_hasAlike_L49 at h
        refine xi_iload_n C 3 dX4_hasAlike_49 rfl rfl ?_
        refine xi_bipush C (v := 12) dX4_hasAlike_50 (by decide +kernel) ?_
        refine xi_icmp_ge C 88 h_v3_49 (by decide) dX4_hasAlike_52 (by decide) (fun z9 => ?_) (fun z9 => ?_)
        · replace h := h.1 z9
          exact xi_sub [0, 1, 2] rfl (hj88 S49 h hw49)
        · replace h := h.2 z9
          refine xi_aload_n C 0 dX4_hasAlike_55 rfl rfl ?_
          refine xi_getR C xK_X4 (q := 1) (r := 18) rfl 10 (by decide) (ki := 10) rfl xl_X4_37 rfl dX4_hasAlike_56 ?_
          refine xi_iload_n C 1 dX4_hasAlike_59 rfl rfl ?_
          refine xi_bipush C (v := 12) dX4_hasAlike_60 (by decide +kernel) ?_
          refine xi_imul C dX4_hasAlike_62 ?_
          refine xi_iload_n C 3 dX4_hasAlike_63 rfl rfl ?_
          refine xi_iadd C dX4_hasAlike_64 ?_
          obtain ⟨hc10, h⟩ := h
          refine xi_iaload C (q := 18) rfl (by decide) hc10 dX4_hasAlike_65 ?_
          refine xi_aload_n C 0 dX4_hasAlike_66 rfl rfl ?_
          refine xi_getR C xK_X4 (q := 1) (r := 18) rfl 10 (by decide) (ki := 10) rfl xl_X4_37 rfl dX4_hasAlike_67 ?_
          refine xi_iload_n C 2 dX4_hasAlike_70 rfl rfl ?_
          refine xi_bipush C (v := 12) dX4_hasAlike_71 (by decide +kernel) ?_
          refine xi_imul C dX4_hasAlike_73 ?_
          refine xi_iload_n C 3 dX4_hasAlike_74 rfl rfl ?_
          refine xi_iadd C dX4_hasAlike_75 ?_
          obtain ⟨hc11, h⟩ := h
          refine xi_iaload C (q := 18) rfl (by decide) hc11 dX4_hasAlike_76 ?_
          refine xi_icmp_eq C 82 (xval.i (q := 18) (i := (a1 * 12) + v3_49) hw49 hc10.1 rfl) (xval.i (q := 18) (i := (a2 * 12) + v3_49) hw49 hc11.1 rfl) dX4_hasAlike_77 (by decide) (fun z12 => ?_) (fun z12 => ?_)
          · replace h := h.1 z12
            refine xi_iinc C (L' := [(3, .int (iN (v3_49 + 1))), (0, .ref (ad 1)), (1, .int (iN a1)), (2, .int (iN a2))]) 3 dX4_hasAlike_82 rfl (by decide) rfl ?_
            refine xi_goto C 49 dX4_hasAlike_85 (by decide) ?_
            obtain ⟨hc13, h⟩ := h
            exact xi_sub [1, 2, 3, 0] rfl (hk49 (v3_49 + 1) S49 h hc13 hw49)
          · replace h := h.2 z12
            refine xi_iconst C (v := 0) dX4_hasAlike_80 rfl ?_
            exact xr_i C hA hZ hr hlocks (xnarZ (Or.inl rfl)).1 dX4_hasAlike_81 (Nat.le_of_ble_eq_true rfl) (Nat.le_of_ble_eq_true rfl) hw49 ⟨_, rfl, (by decide), h⟩
    · refine xi_sub [1, 2, 3, 0] rfl (xW1 (fun v3_19 S19 => xR v3_19 → xval (gC D ca ad tF) S19 → xV (gC D ca ad tF) p l e ({ frames := 3, cells := 0, slots := 0, locals := 69 }) s m args below meth c A 4 Z 0 0 19 [(0, .ref (ad 1)), (1, .int (iN a1)), (2, .int (iN a2)), (3, .int (iN v3_19))] [] S19) h (fun k19 hk19 v3_19 S19 h h_v3_19 hw19 => ?_) (by decide) hw)
      unfold w_X4_hasAlike_L19 at h
      refine xi_iload_n C 3 dX4_hasAlike_19 rfl rfl ?_
      refine xi_aload_n C 0 dX4_hasAlike_20 rfl rfl ?_
      refine xi_getR C xK_X4 (q := 1) (r := 10) rfl 1 (by decide) (ki := 1) rfl xl_X4_9 rfl dX4_hasAlike_21 ?_
      refine xi_iload_n C 1 dX4_hasAlike_24 rfl rfl ?_
      refine xi_iaload C (q := 10) rfl (by decide) hc1 dX4_hasAlike_25 ?_
      refine xi_icmp_ge C 47 h_v3_19 (xval.i (q := 10) (i := a1) hw19 hc1.1 rfl) dX4_hasAlike_26 (by decide) (fun z14 => ?_) (fun z14 => ?_)
      · replace h := h.1 z14
        exact xi_sub [0, 1, 2] rfl (hj47 S19 h hw19)
      · replace h := h.2 z14
        refine xi_aload_n C 0 dX4_hasAlike_29 rfl rfl ?_
        refine xi_iload_n C 1 dX4_hasAlike_30 rfl rfl ?_
        refine xi_iload_n C 2 dX4_hasAlike_31 rfl rfl ?_
        refine xi_iload_n C 3 dX4_hasAlike_32 rfl rfl ?_
        refine xc_Vi C hw19 (c_X4_isSameStep l D ca ad tF a1 a2 v3_19 S19 _ h_a1 h_a2 h_v3_19 h) xk_X4_isSameStep xv_X4_isSameStep xl_X4_74 ⟨Nat.le_of_ble_eq_true rfl, Nat.le_of_ble_eq_true rfl⟩ xK_X4 (q := 1) rfl rfl rfl (Nat.le_of_ble_eq_true rfl) ⟨Nat.le_of_ble_eq_true rfl, Nat.le_of_ble_eq_true rfl⟩ dX4_hasAlike_33 (fun r33 S33 h_r33 h hw15 => ?_)
        refine xi_if_ne C 41 h_r33 dX4_hasAlike_36 (by decide) (fun z16 => ?_) (fun z16 => ?_)
        · replace h := h.1 z16
          refine xi_iinc C (L' := [(3, .int (iN (v3_19 + 1))), (0, .ref (ad 1)), (1, .int (iN a1)), (2, .int (iN a2))]) 3 dX4_hasAlike_41 rfl (by decide) rfl ?_
          refine xi_goto C 19 dX4_hasAlike_44 (by decide) ?_
          obtain ⟨hc17, h⟩ := h
          exact xi_sub [1, 2, 3, 0] rfl (hk19 (v3_19 + 1) S33 h hc17 hw15)
        · replace h := h.2 z16
          refine xi_iconst C (v := 0) dX4_hasAlike_39 rfl ?_
          exact xr_i C hA hZ hr hlocks (xnarZ (Or.inl rfl)).1 dX4_hasAlike_40 (Nat.le_of_ble_eq_true rfl) (Nat.le_of_ble_eq_true rfl) hw15 ⟨_, rfl, (by decide), h⟩
  · replace h := h.2 z3
    refine xi_iconst C (v := 0) dX4_hasAlike_15 rfl ?_
    exact xr_i C hA hZ hr hlocks (xnarZ (Or.inl rfl)).1 dX4_hasAlike_16 (Nat.le_of_ble_eq_true rfl) (Nat.le_of_ble_eq_true rfl) hw ⟨_, rfl, (by decide), h⟩
set_option maxRecDepth 100000 in
set_option maxHeartbeats 4000000 in
theorem c_X4_isWatched (l : Launch) (D : va_G) (ca : Nat → ClassId) (ad : Nat → Nat) (tF : Nat) (a1 : Int) (S : xS) (Q : Int → xS → Prop) (h_a1 : xR a1) (h : w_X4_isWatched a1 S Q) : xM l yX4_isWatched (xws yX4_isWatched cX4_isWatched 3 (some .boolean)) ({ frames := 1, cells := 0, slots := 0, locals := 22 }) (gC D ca ad tF) [.ref (ad 1), .int (iN a1)] S (xQi Q) 0 0 := by
  refine xm_of RX4 rfl (by decide +kernel) (Nat.le_of_ble_eq_true rfl) ?_
  intro p e s m args below meth c A Z C hA hZ hr hlocks hw
  unfold w_X4_isWatched at h
  show xV (gC D ca ad tF) p l e ({ frames := 1, cells := 0, slots := 0, locals := 22 }) s m args below meth c A 3 Z 0 0 0 [(0, .ref (ad 1)), (1, .int (iN a1))] [] S
  refine xi_iconst C (v := 0) dX4_isWatched_0 rfl ?_
  refine xi_istore_n C (L' := [(2, .int (iN 0)), (0, .ref (ad 1)), (1, .int (iN a1))]) dX4_isWatched_1 rfl (by decide) rfl ?_
  refine xi_sub [1, 2, 0] rfl (xW1 (fun v2_2 S2 => xR v2_2 → xval (gC D ca ad tF) S2 → xV (gC D ca ad tF) p l e ({ frames := 1, cells := 0, slots := 0, locals := 22 }) s m args below meth c A 3 Z 0 0 2 [(0, .ref (ad 1)), (1, .int (iN a1)), (2, .int (iN v2_2))] [] S2) h (fun k2 hk2 v2_2 S2 h h_v2_2 hw2 => ?_) (by decide) hw)
  unfold w_X4_isWatched_L2 at h
  refine xi_iload_n C 2 dX4_isWatched_2 rfl rfl ?_
  refine xi_aload_n C 0 dX4_isWatched_3 rfl rfl ?_
  refine xi_getI C xK_X4 (q := 1) (r := 0) rfl 11 (by decide) (ki := 11) rfl xl_X4_71 rfl dX4_isWatched_4 ?_
  refine xi_icmp_ge C 31 h_v2_2 (xval.i (q := 1) (i := 11) hw2 (by decide) rfl) dX4_isWatched_7 (by decide) (fun z1 => ?_) (fun z1 => ?_)
  · replace h := h.1 z1
    refine xi_iconst C (v := 0) dX4_isWatched_31 rfl ?_
    exact xr_i C hA hZ hr hlocks (xnarZ (Or.inl rfl)).1 dX4_isWatched_32 (Nat.le_of_ble_eq_true rfl) (Nat.le_of_ble_eq_true rfl) hw2 ⟨_, rfl, (by decide), h⟩
  · replace h := h.2 z1
    refine xi_iload_n C 1 dX4_isWatched_10 rfl rfl ?_
    refine xi_aload_n C 0 dX4_isWatched_11 rfl rfl ?_
    refine xi_getR C xK_X4 (q := 1) (r := 19) rfl 12 (by decide) (ki := 12) rfl xl_X4_40 rfl dX4_isWatched_12 ?_
    refine xi_iload_n C 2 dX4_isWatched_15 rfl rfl ?_
    obtain ⟨hc2, h⟩ := h
    refine xi_iaload C (q := 19) rfl (by decide) hc2 dX4_isWatched_16 ?_
    refine xc_Si C hw2 (c_X4_isOwn l D ca ad tF a1 (S2 19 v2_2) S2 _ h_a1 (xval.i (q := 19) (i := v2_2) hw2 hc2.1 rfl) h) xk_X4_isOwn xs_X4_isOwn xl_X4_49 ⟨Nat.le_of_ble_eq_true rfl, Nat.le_of_ble_eq_true rfl⟩ rfl rfl (Nat.le_of_ble_eq_true rfl) ⟨Nat.le_of_ble_eq_true rfl, Nat.le_of_ble_eq_true rfl⟩ dX4_isWatched_17 (fun r17 S17 h_r17 h hw3 => ?_)
    refine xi_if_eq C 25 h_r17 dX4_isWatched_20 (by decide) (fun z4 => ?_) (fun z4 => ?_)
    · replace h := h.1 z4
      refine xi_iinc C (L' := [(2, .int (iN (v2_2 + 1))), (0, .ref (ad 1)), (1, .int (iN a1))]) 2 dX4_isWatched_25 rfl (by decide) rfl ?_
      refine xi_goto C 2 dX4_isWatched_28 (by decide) ?_
      obtain ⟨hc5, h⟩ := h
      exact xi_sub [1, 2, 0] rfl (hk2 (v2_2 + 1) S17 h hc5 hw3)
    · replace h := h.2 z4
      refine xi_iconst C (v := 1) dX4_isWatched_23 rfl ?_
      exact xr_i C hA hZ hr hlocks (xnarZ (Or.inr rfl)).1 dX4_isWatched_24 (Nat.le_of_ble_eq_true rfl) (Nat.le_of_ble_eq_true rfl) hw3 ⟨_, rfl, (by decide), h⟩
set_option maxRecDepth 100000 in
set_option maxHeartbeats 4000000 in
theorem c_X4_hasInvariantOfAlike (l : Launch) (D : va_G) (ca : Nat → ClassId) (ad : Nat → Nat) (tF : Nat)  (S : xS) (Q : Int → xS → Prop)  (h : w_X4_hasInvariantOfAlike  S Q) : xM l yX4_hasInvariantOfAlike (xws yX4_hasInvariantOfAlike cX4_hasInvariantOfAlike 3 (some .boolean)) ({ frames := 4, cells := 0, slots := 0, locals := 92 }) (gC D ca ad tF) [.ref (ad 1)] S (xQi Q) 0 0 := by
  refine xm_of RX4 rfl (by decide +kernel) (Nat.le_of_ble_eq_true rfl) ?_
  intro p e s m args below meth c A Z C hA hZ hr hlocks hw
  unfold w_X4_hasInvariantOfAlike at h
  show xV (gC D ca ad tF) p l e ({ frames := 4, cells := 0, slots := 0, locals := 92 }) s m args below meth c A 3 Z 0 0 0 [(0, .ref (ad 1))] [] S
  refine xi_iconst C (v := 0) dX4_hasInvariantOfAlike_0 rfl ?_
  refine xi_istore_n C (L' := [(1, .int (iN 0)), (0, .ref (ad 1))]) dX4_hasInvariantOfAlike_1 rfl (by decide) rfl ?_
  refine xi_sub [1, 0] rfl (xW1 (fun v1_2 S2 => xR v1_2 → xval (gC D ca ad tF) S2 → xV (gC D ca ad tF) p l e ({ frames := 4, cells := 0, slots := 0, locals := 92 }) s m args below meth c A 3 Z 0 0 2 [(0, .ref (ad 1)), (1, .int (iN v1_2))] [] S2) h (fun k2 hk2 v1_2 S2 h h_v1_2 hw2 => ?_) (by decide) hw)
  unfold w_X4_hasInvariantOfAlike_L2 at h
  refine xi_iload_n C 1 dX4_hasInvariantOfAlike_2 rfl rfl ?_
  refine xi_aload_n C 0 dX4_hasInvariantOfAlike_3 rfl rfl ?_
  refine xi_getI C xK_X4 (q := 1) (r := 0) rfl 0 (by decide) (ki := 0) rfl xl_X4_53 rfl dX4_hasInvariantOfAlike_4 ?_
  refine xi_icmp_ge C 56 h_v1_2 (xval.i (q := 1) (i := 0) hw2 (by decide) rfl) dX4_hasInvariantOfAlike_7 (by decide) (fun z1 => ?_) (fun z1 => ?_)
  · replace h := h.1 z1
    refine xi_iconst C (v := 0) dX4_hasInvariantOfAlike_56 rfl ?_
    exact xr_i C hA hZ hr hlocks (xnarZ (Or.inl rfl)).1 dX4_hasInvariantOfAlike_57 (Nat.le_of_ble_eq_true rfl) (Nat.le_of_ble_eq_true rfl) hw2 ⟨_, rfl, (by decide), h⟩
  · replace h := h.2 z1
    refine xi_iconst C (v := 0) dX4_hasInvariantOfAlike_10 rfl ?_
    refine xi_istore_n C (L' := [(2, .int (iN 0)), (0, .ref (ad 1)), (1, .int (iN v1_2))]) dX4_hasInvariantOfAlike_11 rfl (by decide) rfl ?_
    refine xi_sub [1, 2, 0] rfl (xW1 (fun v2_12 S12 => xR v2_12 → xval (gC D ca ad tF) S12 → xV (gC D ca ad tF) p l e ({ frames := 4, cells := 0, slots := 0, locals := 92 }) s m args below meth c A 3 Z 0 0 12 [(0, .ref (ad 1)), (1, .int (iN v1_2)), (2, .int (iN v2_12))] [] S12) h (fun k12 hk12 v2_12 S12 h h_v2_12 hw12 => ?_) (by decide) hw2)
    unfold w_X4_hasInvariantOfAlike_L12 at h
    refine xi_iload_n C 2 dX4_hasInvariantOfAlike_12 rfl rfl ?_
    refine xi_aload_n C 0 dX4_hasInvariantOfAlike_13 rfl rfl ?_
    refine xi_getI C xK_X4 (q := 1) (r := 0) rfl 0 (by decide) (ki := 0) rfl xl_X4_53 rfl dX4_hasInvariantOfAlike_14 ?_
    refine xi_icmp_ge C 50 h_v2_12 (xval.i (q := 1) (i := 0) hw12 (by decide) rfl) dX4_hasInvariantOfAlike_17 (by decide) (fun z2 => ?_) (fun z2 => ?_)
    · replace h := h.1 z2
      refine xi_iinc C (L' := [(1, .int (iN (v1_2 + 1))), (0, .ref (ad 1)), (2, .int (iN v2_12))]) 1 dX4_hasInvariantOfAlike_50 rfl (by decide) rfl ?_
      refine xi_goto C 2 dX4_hasInvariantOfAlike_53 (by decide) ?_
      obtain ⟨hc3, h⟩ := h
      exact xi_sub [1, 0] rfl (hk2 (v1_2 + 1) S12 h hc3 hw12)
    · replace h := h.2 z2
      refine xi_iload_n C 2 dX4_hasInvariantOfAlike_20 rfl rfl ?_
      refine xi_iload_n C 1 dX4_hasInvariantOfAlike_21 rfl rfl ?_
      refine xi_icmp_eq C 44 h_v2_12 h_v1_2 dX4_hasInvariantOfAlike_22 (by decide) (fun z4 => ?_) (fun z4 => ?_)
      · replace h := h.1 z4
        refine xi_iinc C (L' := [(2, .int (iN (v2_12 + 1))), (0, .ref (ad 1)), (1, .int (iN v1_2))]) 2 dX4_hasInvariantOfAlike_44 rfl (by decide) rfl ?_
        refine xi_goto C 12 dX4_hasInvariantOfAlike_47 (by decide) ?_
        obtain ⟨hc5, h⟩ := h
        exact xi_sub [1, 2, 0] rfl (hk12 (v2_12 + 1) S12 h hc5 hw12)
      · replace h := h.2 z4
        refine xi_aload_n C 0 dX4_hasInvariantOfAlike_25 rfl rfl ?_
        refine xi_iload_n C 1 dX4_hasInvariantOfAlike_26 rfl rfl ?_
        refine xc_Vi C hw12 (c_X4_isWatched l D ca ad tF v1_2 S12 _ h_v1_2 h) xk_X4_isWatched xv_X4_isWatched xl_X4_85 ⟨Nat.le_of_ble_eq_true rfl, Nat.le_of_ble_eq_true rfl⟩ xK_X4 (q := 1) rfl rfl rfl (Nat.le_of_ble_eq_true rfl) ⟨Nat.le_of_ble_eq_true rfl, Nat.le_of_ble_eq_true rfl⟩ dX4_hasInvariantOfAlike_27 (fun r27 S27 h_r27 h hw6 => ?_)
        refine xi_if_eq C 44 h_r27 dX4_hasInvariantOfAlike_30 (by decide) (fun z7 => ?_) (fun z7 => ?_)
        · replace h := h.1 z7
          refine xi_iinc C (L' := [(2, .int (iN (v2_12 + 1))), (0, .ref (ad 1)), (1, .int (iN v1_2))]) 2 dX4_hasInvariantOfAlike_44 rfl (by decide) rfl ?_
          refine xi_goto C 12 dX4_hasInvariantOfAlike_47 (by decide) ?_
          obtain ⟨hc8, h⟩ := h
          exact xi_sub [1, 2, 0] rfl (hk12 (v2_12 + 1) S27 h hc8 hw6)
        · replace h := h.2 z7
          refine xi_aload_n C 0 dX4_hasInvariantOfAlike_33 rfl rfl ?_
          refine xi_iload_n C 1 dX4_hasInvariantOfAlike_34 rfl rfl ?_
          refine xi_iload_n C 2 dX4_hasInvariantOfAlike_35 rfl rfl ?_
          refine xc_Vi C hw6 (c_X4_hasAlike l D ca ad tF v1_2 v2_12 S27 _ h_v1_2 h_v2_12 h) xk_X4_hasAlike xv_X4_hasAlike xl_X4_88 ⟨Nat.le_of_ble_eq_true rfl, Nat.le_of_ble_eq_true rfl⟩ xK_X4 (q := 1) rfl rfl rfl (Nat.le_of_ble_eq_true rfl) ⟨Nat.le_of_ble_eq_true rfl, Nat.le_of_ble_eq_true rfl⟩ dX4_hasInvariantOfAlike_36 (fun r36 S36 h_r36 h hw9 => ?_)
          refine xi_if_eq C 44 h_r36 dX4_hasInvariantOfAlike_39 (by decide) (fun z10 => ?_) (fun z10 => ?_)
          · replace h := h.1 z10
            refine xi_iinc C (L' := [(2, .int (iN (v2_12 + 1))), (0, .ref (ad 1)), (1, .int (iN v1_2))]) 2 dX4_hasInvariantOfAlike_44 rfl (by decide) rfl ?_
            refine xi_goto C 12 dX4_hasInvariantOfAlike_47 (by decide) ?_
            obtain ⟨hc11, h⟩ := h
            exact xi_sub [1, 2, 0] rfl (hk12 (v2_12 + 1) S36 h hc11 hw9)
          · replace h := h.2 z10
            refine xi_iconst C (v := 1) dX4_hasInvariantOfAlike_42 rfl ?_
            exact xr_i C hA hZ hr hlocks (xnarZ (Or.inr rfl)).1 dX4_hasInvariantOfAlike_43 (Nat.le_of_ble_eq_true rfl) (Nat.le_of_ble_eq_true rfl) hw9 ⟨_, rfl, (by decide), h⟩
set_option maxRecDepth 100000 in
set_option maxHeartbeats 4000000 in
theorem c_X1_clear (l : Launch) (D : va_G) (ca : Nat → ClassId) (ad : Nat → Nat) (tF : Nat) (a1 : Int) (S : xS) (Q : xS → Prop) (h_a1 : xR a1) (h : w_X1_clear a1 S Q) : xM l yX1_clear (xws yX1_clear cX1_clear 2 (none)) ({ frames := 1, cells := 0, slots := 0, locals := 23 }) (gC D ca ad tF) [.ref (ad 4), .int (iN a1)] S (xQv Q) 0 0 := by
  refine xm_of RX1 rfl (by decide +kernel) (Nat.le_of_ble_eq_true rfl) ?_
  intro p e s m args below meth c A Z C hA hZ hr hlocks hw
  unfold w_X1_clear at h
  show xV (gC D ca ad tF) p l e ({ frames := 1, cells := 0, slots := 0, locals := 23 }) s m args below meth c A 2 Z 0 0 0 [(0, .ref (ad 4)), (1, .int (iN a1))] [] S
  refine xi_aload_n C 0 dX1_clear_0 rfl rfl ?_
  refine xi_iload_n C 1 dX1_clear_1 rfl rfl ?_
  obtain ⟨hc1, h⟩ := h
  refine xi_putZ C xK_X1 (q := 4) (r := 0) rfl 1 (by decide) (ki := 1) rfl xl_X1_34 rfl rfl rfl hc1 dX1_clear_2 ?_
  have hw2 := xval.up (q := 4) (i := 1) (v := a1) hw rfl h_a1
  refine xi_aload_n C 0 dX1_clear_5 rfl rfl ?_
  refine xi_iconst C (v := 0) dX1_clear_6 rfl ?_
  refine xi_putI C xK_X1 (q := 4) (r := 0) rfl 0 (by decide) (ki := 0) rfl xl_X1_38 rfl rfl rfl dX1_clear_7 ?_
  have hw3 := xval.up (q := 4) (i := 0) (v := 0) hw2 rfl (by decide)
  refine xi_aload_n C 0 dX1_clear_10 rfl rfl ?_
  refine xi_getR C xK_X1 (q := 4) (r := 31) rfl 8 (by decide) (ki := 8) rfl xl_X1_31 rfl dX1_clear_11 ?_
  refine xi_iconst C (v := 0) dX1_clear_14 rfl ?_
  refine xc_Sv (Qm := fun S' => S' = xfill (xup (xup S 4 1 a1) 4 0 0) 31 4096 0) C hw3 (c_fill l _ (q := 31) (n := 4096) (v := 0) (S := (xup (xup S 4 1 a1) 4 0 0)) rfl (by decide) (by decide) (fun _ => rfl) rfl) xk_J7_fill_53178 xs_J7_fill_53178 xl_X1_42 ⟨Nat.le_of_ble_eq_true rfl, Nat.le_of_ble_eq_true rfl⟩ rfl rfl (by decide) ⟨Nat.le_of_ble_eq_true rfl, Nat.le_of_ble_eq_true rfl⟩ dX1_clear_15 (fun S15 h9_5 hw4 => ?_)
  subst h9_5
  exact xr_v C hA hZ hr hlocks dX1_clear_18 (Nat.le_of_ble_eq_true rfl) (Nat.le_of_ble_eq_true rfl) hw4 ⟨rfl, h⟩
set_option maxRecDepth 100000 in
set_option maxHeartbeats 4000000 in
theorem c_X2_clear (l : Launch) (D : va_G) (ca : Nat → ClassId) (ad : Nat → Nat) (tF : Nat)  (S : xS) (Q : xS → Prop)  (h : w_X2_clear  S Q) : xM l yX2_clear (xws yX2_clear cX2_clear 1 (none)) ({ frames := 0, cells := 0, slots := 0, locals := 0 }) (gC D ca ad tF) [.ref (ad 5)] S (xQv Q) 0 0 := by
  refine xm_of RX2 rfl (by decide +kernel) (Nat.le_of_ble_eq_true rfl) ?_
  intro p e s m args below meth c A Z C hA hZ hr hlocks hw
  unfold w_X2_clear at h
  show xV (gC D ca ad tF) p l e ({ frames := 0, cells := 0, slots := 0, locals := 0 }) s m args below meth c A 1 Z 0 0 0 [(0, .ref (ad 5))] [] S
  refine xi_aload_n C 0 dX2_clear_0 rfl rfl ?_
  refine xi_iconst C (v := 0) dX2_clear_1 rfl ?_
  refine xi_putI C xK_X2 (q := 5) (r := 0) rfl 0 (by decide) (ki := 0) rfl xl_X2_21 rfl rfl rfl dX2_clear_2 ?_
  have hw1 := xval.up (q := 5) (i := 0) (v := 0) hw rfl (by decide)
  refine xi_aload_n C 0 dX2_clear_5 rfl rfl ?_
  refine xi_iconst C (v := 0) dX2_clear_6 rfl ?_
  refine xi_putI C xK_X2 (q := 5) (r := 0) rfl 3 (by decide) (ki := 3) rfl xl_X2_25 rfl rfl rfl dX2_clear_7 ?_
  have hw2 := xval.up (q := 5) (i := 3) (v := 0) hw1 rfl (by decide)
  refine xi_aload_n C 0 dX2_clear_10 rfl rfl ?_
  refine xi_getR C xK_X2 (q := 5) (r := 34) rfl 4 (by decide) (ki := 4) rfl xl_X2_18 rfl dX2_clear_11 ?_
  refine xi_iconst C (v := 0) dX2_clear_14 rfl ?_
  refine xi_iconst C (v := 0) dX2_clear_15 rfl ?_
  refine xi_iastore C (q := 34) rfl (by decide) (by decide) dX2_clear_16 ?_
  have hw3 := xval.up (q := 34) (i := 0) (v := 0) hw2 rfl (by decide)
  exact xr_v C hA hZ hr hlocks dX2_clear_17 (Nat.le_of_ble_eq_true rfl) (Nat.le_of_ble_eq_true rfl) hw3 ⟨rfl, h⟩
set_option maxRecDepth 100000 in
set_option maxHeartbeats 4000000 in
theorem c_X6_findKin (l : Launch) (D : va_G) (ca : Nat → ClassId) (ad : Nat → Nat) (tF : Nat)  (S : xS) (Q : xS → Prop)  (h : w_X6_findKin  S Q) : xM l yX6_findKin (xws yX6_findKin cX6_findKin 3 (none)) ({ frames := 4, cells := 0, slots := 0, locals := 92 }) (gC D ca ad tF) [.ref (ad 2)] S (xQv Q) 0 0 := by
  refine xm_of RX6 rfl (by decide +kernel) (Nat.le_of_ble_eq_true rfl) ?_
  intro p e s m args below meth c A Z C hA hZ hr hlocks hw
  unfold w_X6_findKin at h
  show xV (gC D ca ad tF) p l e ({ frames := 4, cells := 0, slots := 0, locals := 92 }) s m args below meth c A 3 Z 0 0 0 [(0, .ref (ad 2))] [] S
  refine xi_aload_n C 0 dX6_findKin_0 rfl rfl ?_
  refine xi_getR C xK_X6 (q := 2) (r := 21) rfl 6 (by decide) (ki := 6) rfl xl_X6_9 rfl dX6_findKin_1 ?_
  refine xi_iconst C (v := 0) dX6_findKin_4 rfl ?_
  refine xc_Sv (Qm := fun S' => S' = xfill S 21 9 0) C hw (c_fill l _ (q := 21) (n := 9) (v := 0) (S := S) rfl (by decide) (by decide) (fun _ => rfl) rfl) xk_J7_fill_53178 xs_J7_fill_53178 xl_X6_95 ⟨Nat.le_of_ble_eq_true rfl, Nat.le_of_ble_eq_true rfl⟩ rfl rfl (by decide) ⟨Nat.le_of_ble_eq_true rfl, Nat.le_of_ble_eq_true rfl⟩ dX6_findKin_5 (fun S5 h9_2 hw1 => ?_)
  subst h9_2
  refine xi_iconst C (v := 0) dX6_findKin_8 rfl ?_
  refine xi_istore_n C (L' := [(1, .int (iN 0)), (0, .ref (ad 2))]) dX6_findKin_9 rfl (by decide) rfl ?_
  refine xi_sub [1, 0] rfl (xW1 (fun v1_10 S10 => xR v1_10 → xval (gC D ca ad tF) S10 → xV (gC D ca ad tF) p l e ({ frames := 4, cells := 0, slots := 0, locals := 92 }) s m args below meth c A 3 Z 0 0 10 [(0, .ref (ad 2)), (1, .int (iN v1_10))] [] S10) h (fun k10 hk10 v1_10 S10 h h_v1_10 hw10 => ?_) (by decide) hw1)
  unfold w_X6_findKin_L10 at h
  refine xi_iload_n C 1 dX6_findKin_10 rfl rfl ?_
  refine xi_aload_n C 0 dX6_findKin_11 rfl rfl ?_
  refine xi_getR C xK_X6 (q := 2) (r := 1) rfl 0 (by decide) (ki := 0) rfl xl_X6_18 rfl dX6_findKin_12 ?_
  refine xi_getIN C xK_X4 (q := 1) (r := 0) rfl 0 (by decide) (ki := 0) rfl xn_X6_101 rfl dX6_findKin_15 ?_
  refine xi_icmp_ge C 78 h_v1_10 (xval.i (q := 1) (i := 0) hw10 (by decide) rfl) dX6_findKin_18 (by decide) (fun z3 => ?_) (fun z3 => ?_)
  · replace h := h.1 z3
    exact xr_v C hA hZ hr hlocks dX6_findKin_78 (Nat.le_of_ble_eq_true rfl) (Nat.le_of_ble_eq_true rfl) hw10 ⟨rfl, h⟩
  · replace h := h.2 z3
    refine xi_iconst C (v := 0) dX6_findKin_21 rfl ?_
    refine xi_istore_n C (L' := [(2, .int (iN 0)), (0, .ref (ad 2)), (1, .int (iN v1_10))]) dX6_findKin_22 rfl (by decide) rfl ?_
    refine xi_sub [1, 2, 0] rfl (xW1 (fun v2_23 S23 => xR v2_23 → xval (gC D ca ad tF) S23 → xV (gC D ca ad tF) p l e ({ frames := 4, cells := 0, slots := 0, locals := 92 }) s m args below meth c A 3 Z 0 0 23 [(0, .ref (ad 2)), (1, .int (iN v1_10)), (2, .int (iN v2_23))] [] S23) h (fun k23 hk23 v2_23 S23 h h_v2_23 hw23 => ?_) (by decide) hw10)
    unfold w_X6_findKin_L23 at h
    refine xi_iload_n C 2 dX6_findKin_23 rfl rfl ?_
    refine xi_aload_n C 0 dX6_findKin_24 rfl rfl ?_
    refine xi_getR C xK_X6 (q := 2) (r := 1) rfl 0 (by decide) (ki := 0) rfl xl_X6_18 rfl dX6_findKin_25 ?_
    refine xi_getIN C xK_X4 (q := 1) (r := 0) rfl 0 (by decide) (ki := 0) rfl xn_X6_101 rfl dX6_findKin_28 ?_
    refine xi_icmp_ge C 72 h_v2_23 (xval.i (q := 1) (i := 0) hw23 (by decide) rfl) dX6_findKin_31 (by decide) (fun z4 => ?_) (fun z4 => ?_)
    · replace h := h.1 z4
      refine xi_iinc C (L' := [(1, .int (iN (v1_10 + 1))), (0, .ref (ad 2)), (2, .int (iN v2_23))]) 1 dX6_findKin_72 rfl (by decide) rfl ?_
      refine xi_goto C 10 dX6_findKin_75 (by decide) ?_
      obtain ⟨hc5, h⟩ := h
      exact xi_sub [1, 0] rfl (hk10 (v1_10 + 1) S23 h hc5 hw23)
    · replace h := h.2 z4
      refine xi_aload_n C 0 dX6_findKin_34 rfl rfl ?_
      refine xi_getI C xK_X6 (q := 2) (r := 0) rfl 10 (by decide) (ki := 10) rfl xl_X6_53 rfl dX6_findKin_35 ?_
      refine xi_bipush C (v := 115) dX6_findKin_38 (by decide +kernel) ?_
      refine xi_icmp_ne C 66 (xval.i (q := 2) (i := 10) hw23 (by decide) rfl) (by decide) dX6_findKin_40 (by decide) (fun z6 => ?_) (fun z6 => ?_)
      · replace h := h.1 z6
        refine xi_iinc C (L' := [(2, .int (iN (v2_23 + 1))), (0, .ref (ad 2)), (1, .int (iN v1_10))]) 2 dX6_findKin_66 rfl (by decide) rfl ?_
        refine xi_goto C 23 dX6_findKin_69 (by decide) ?_
        obtain ⟨hc7, h⟩ := h
        exact xi_sub [1, 2, 0] rfl (hk23 (v2_23 + 1) S23 h hc7 hw23)
      · replace h := h.2 z6
        refine xi_aload_n C 0 dX6_findKin_43 rfl rfl ?_
        refine xi_getR C xK_X6 (q := 2) (r := 1) rfl 0 (by decide) (ki := 0) rfl xl_X6_18 rfl dX6_findKin_44 ?_
        refine xi_iload_n C 1 dX6_findKin_47 rfl rfl ?_
        refine xi_iload_n C 2 dX6_findKin_48 rfl rfl ?_
        refine xc_Vi C hw23 (c_X4_hasAlike l D ca ad tF v1_10 v2_23 S23 _ h_v1_10 h_v2_23 h) xk_X4_hasAlike xv_X4_hasAlike xl_X6_106 ⟨Nat.le_of_ble_eq_true rfl, Nat.le_of_ble_eq_true rfl⟩ xK_X4 (q := 1) rfl rfl rfl (Nat.le_of_ble_eq_true rfl) ⟨Nat.le_of_ble_eq_true rfl, Nat.le_of_ble_eq_true rfl⟩ dX6_findKin_49 (fun r49 S49 h_r49 h hw8 => ?_)
        refine xi_if_eq C 66 h_r49 dX6_findKin_52 (by decide) (fun z9 => ?_) (fun z9 => ?_)
        · replace h := h.1 z9
          refine xi_iinc C (L' := [(2, .int (iN (v2_23 + 1))), (0, .ref (ad 2)), (1, .int (iN v1_10))]) 2 dX6_findKin_66 rfl (by decide) rfl ?_
          refine xi_goto C 23 dX6_findKin_69 (by decide) ?_
          obtain ⟨hc10, h⟩ := h
          exact xi_sub [1, 2, 0] rfl (hk23 (v2_23 + 1) S49 h hc10 hw8)
        · replace h := h.2 z9
          refine xi_aload_n C 0 dX6_findKin_55 rfl rfl ?_
          refine xi_getR C xK_X6 (q := 2) (r := 21) rfl 6 (by decide) (ki := 6) rfl xl_X6_9 rfl dX6_findKin_56 ?_
          refine xi_iload_n C 1 dX6_findKin_59 rfl rfl ?_
          refine xi_iconst C (v := 3) dX6_findKin_60 rfl ?_
          refine xi_imul C dX6_findKin_61 ?_
          refine xi_iload_n C 2 dX6_findKin_62 rfl rfl ?_
          refine xi_iadd C dX6_findKin_63 ?_
          refine xi_iconst C (v := 1) dX6_findKin_64 rfl ?_
          obtain ⟨hc11, h⟩ := h
          refine xi_iastore C (q := 21) rfl (by decide) hc11 dX6_findKin_65 ?_
          have hw12 := xval.up (q := 21) (i := (v1_10 * 3) + v2_23) (v := 1) hw8 rfl (by decide)
          refine xi_iinc C (L' := [(2, .int (iN (v2_23 + 1))), (0, .ref (ad 2)), (1, .int (iN v1_10))]) 2 dX6_findKin_66 rfl (by decide) rfl ?_
          refine xi_goto C 23 dX6_findKin_69 (by decide) ?_
          obtain ⟨hc13, h⟩ := h
          exact xi_sub [1, 2, 0] rfl (hk23 (v2_23 + 1) (xup S49 21 ((v1_10 * 3) + v2_23) 1) h hc13 hw12)
set_option maxRecDepth 100000 in
set_option maxHeartbeats 4000000 in
theorem c_X7_goToStart_n (l : Launch) (D : va_G) (ca : Nat → ClassId) (ad : Nat → Nat) (tF : Nat)  (S : xS) (Q : xS → Prop)  (h : w_X7_goToStart_n  S Q) : xM l yX7_goToStart (xws yX7_goToStart cX7_goToStart 1 (none)) ({ frames := 1, cells := 0, slots := 0, locals := 60 }) (gC D ca ad tF) [.ref (ad 8)] S (xQv Q) 0 0 := by
  refine xm_of RX7 rfl (by decide +kernel) (Nat.le_of_ble_eq_true rfl) ?_
  intro p e s m args below meth c A Z C hA hZ hr hlocks hw
  unfold w_X7_goToStart_n at h
  show xV (gC D ca ad tF) p l e ({ frames := 1, cells := 0, slots := 0, locals := 60 }) s m args below meth c A 1 Z 0 0 0 [(0, .ref (ad 8))] [] S
  refine xi_aload_n C 0 dX7_goToStart_0 rfl rfl ?_
  refine xi_getR C xK_X7 (q := 8) (r := 41) rfl 1 (by decide) (ki := 1) rfl xl_X7_9 rfl dX7_goToStart_1 ?_
  refine xi_iconst C (v := 0) dX7_goToStart_4 rfl ?_
  refine xc_Sv (Qm := fun S' => S' = xfill S 41 3 0) C hw (c_fill l _ (q := 41) (n := 3) (v := 0) (S := S) rfl (by decide) (by decide) (fun _ => rfl) rfl) xk_J7_fill_53178 xs_J7_fill_53178 xl_X7_31 ⟨Nat.le_of_ble_eq_true rfl, Nat.le_of_ble_eq_true rfl⟩ rfl rfl (by decide) ⟨Nat.le_of_ble_eq_true rfl, Nat.le_of_ble_eq_true rfl⟩ dX7_goToStart_5 (fun S5 h9_2 hw1 => ?_)
  subst h9_2
  refine xi_aload_n C 0 dX7_goToStart_8 rfl rfl ?_
  refine xi_getR C xK_X7 (q := 8) (r := 1) rfl 0 (by decide) (ki := 0) rfl xl_X7_27 rfl dX7_goToStart_9 ?_
  refine xi_getRN C xK_X4 (q := 1) (r := 17) rfl 9 (by decide) (ki := 9) rfl xn_X7_37 rfl dX7_goToStart_12 ?_
  refine xi_iconst C (v := 0) dX7_goToStart_15 rfl ?_
  refine xi_aload_n C 0 dX7_goToStart_16 rfl rfl ?_
  refine xi_getR C xK_X7 (q := 8) (r := 42) rfl 2 (by decide) (ki := 2) rfl xl_X7_15 rfl dX7_goToStart_17 ?_
  refine xi_iconst C (v := 0) dX7_goToStart_20 rfl ?_
  refine xi_bipush C (v := 9) dX7_goToStart_21 (by decide +kernel) ?_
  refine xi_acopy C (ni := 9) rfl xl_X7_42 xacw (q0 := 17) (q1 := 42) (n0 := 9) (n1 := 9) (n := 9) rfl rfl (by decide) ⟨Nat.le_of_ble_eq_true rfl, Nat.le_of_ble_eq_true rfl⟩ dX7_goToStart_23 ?_
  have hw3 := xval.copy (q0 := 17) (q1 := 42) (n := 9) hw1 (fun _ => rfl) (fun _ => rfl)
  refine xi_aload_n C 0 dX7_goToStart_26 rfl rfl ?_
  refine xi_getR C xK_X7 (q := 8) (r := 43) rfl 3 (by decide) (ki := 3) rfl xl_X7_18 rfl dX7_goToStart_27 ?_
  refine xi_iconst C (v := 0) dX7_goToStart_30 rfl ?_
  refine xc_Sv (Qm := fun S' => S' = xfill (xcopy (xfill S 41 3 0) 17 0 42 0 9) 43 2 0) C hw3 (c_fill l _ (q := 43) (n := 2) (v := 0) (S := (xcopy (xfill S 41 3 0) 17 0 42 0 9)) rfl (by decide) (by decide) (fun _ => rfl) rfl) xk_J7_fill_53178 xs_J7_fill_53178 xl_X7_31 ⟨Nat.le_of_ble_eq_true rfl, Nat.le_of_ble_eq_true rfl⟩ rfl rfl (by decide) ⟨Nat.le_of_ble_eq_true rfl, Nat.le_of_ble_eq_true rfl⟩ dX7_goToStart_31 (fun S31 h9_5 hw4 => ?_)
  subst h9_5
  refine xi_aload_n C 0 dX7_goToStart_34 rfl rfl ?_
  refine xi_getR C xK_X7 (q := 8) (r := 44) rfl 4 (by decide) (ki := 4) rfl xl_X7_21 rfl dX7_goToStart_35 ?_
  refine xi_iconst C (v := 0) dX7_goToStart_38 rfl ?_
  refine xc_Sv (Qm := fun S' => S' = xfill (xfill (xcopy (xfill S 41 3 0) 17 0 42 0 9) 43 2 0) 44 2 0) C hw4 (c_fill l _ (q := 44) (n := 2) (v := 0) (S := (xfill (xcopy (xfill S 41 3 0) 17 0 42 0 9) 43 2 0)) rfl (by decide) (by decide) (fun _ => rfl) rfl) xk_J7_fill_53178 xs_J7_fill_53178 xl_X7_31 ⟨Nat.le_of_ble_eq_true rfl, Nat.le_of_ble_eq_true rfl⟩ rfl rfl (by decide) ⟨Nat.le_of_ble_eq_true rfl, Nat.le_of_ble_eq_true rfl⟩ dX7_goToStart_39 (fun S39 h9_7 hw6 => ?_)
  subst h9_7
  refine xi_aload_n C 0 dX7_goToStart_42 rfl rfl ?_
  refine xi_getR C xK_X7 (q := 8) (r := 45) rfl 5 (by decide) (ki := 5) rfl xl_X7_24 rfl dX7_goToStart_43 ?_
  refine xi_iconst C (v := 0) dX7_goToStart_46 rfl ?_
  refine xc_Sv (Qm := fun S' => S' = xfill (xfill (xfill (xcopy (xfill S 41 3 0) 17 0 42 0 9) 43 2 0) 44 2 0) 45 2 0) C hw6 (c_fill l _ (q := 45) (n := 2) (v := 0) (S := (xfill (xfill (xcopy (xfill S 41 3 0) 17 0 42 0 9) 43 2 0) 44 2 0)) rfl (by decide) (by decide) (fun _ => rfl) rfl) xk_J7_fill_53178 xs_J7_fill_53178 xl_X7_31 ⟨Nat.le_of_ble_eq_true rfl, Nat.le_of_ble_eq_true rfl⟩ rfl rfl (by decide) ⟨Nat.le_of_ble_eq_true rfl, Nat.le_of_ble_eq_true rfl⟩ dX7_goToStart_47 (fun S47 h9_9 hw8 => ?_)
  subst h9_9
  exact xr_v C hA hZ hr hlocks dX7_goToStart_50 (Nat.le_of_ble_eq_true rfl) (Nat.le_of_ble_eq_true rfl) hw8 ⟨rfl, h⟩
set_option maxRecDepth 100000 in
set_option maxHeartbeats 4000000 in
theorem c_X7_packValues_n (l : Launch) (D : va_G) (ca : Nat → ClassId) (ad : Nat → Nat) (tF : Nat)  (S : xS) (Q : Int → xS → Prop)  (h : w_X7_packValues_n  S Q) : xM l yX7_packValues (xws yX7_packValues cX7_packValues 3 (some .int)) ({ frames := 0, cells := 0, slots := 0, locals := 0 }) (gC D ca ad tF) [.ref (ad 8)] S (xQi Q) 0 0 := by
  refine xm_of RX7 rfl (by decide +kernel) (Nat.le_of_ble_eq_true rfl) ?_
  intro p e s m args below meth c A Z C hA hZ hr hlocks hw
  unfold w_X7_packValues_n at h
  show xV (gC D ca ad tF) p l e ({ frames := 0, cells := 0, slots := 0, locals := 0 }) s m args below meth c A 3 Z 0 0 0 [(0, .ref (ad 8))] [] S
  refine xi_iconst C (v := 0) dX7_packValues_0 rfl ?_
  refine xi_istore_n C (L' := [(1, .int (iN 0)), (0, .ref (ad 8))]) dX7_packValues_1 rfl (by decide) rfl ?_
  refine xi_iconst C (v := 0) dX7_packValues_2 rfl ?_
  refine xi_istore_n C (L' := [(2, .int (iN 0)), (1, .int (iN 0)), (0, .ref (ad 8))]) dX7_packValues_3 rfl (by decide) rfl ?_
  refine xi_sub [2, 1, 0] rfl (xW2 (fun v1_4 v2_4 S4 => xR v1_4 → xR v2_4 → xval (gC D ca ad tF) S4 → xV (gC D ca ad tF) p l e ({ frames := 0, cells := 0, slots := 0, locals := 0 }) s m args below meth c A 3 Z 0 0 4 [(0, .ref (ad 8)), (1, .int (iN v1_4)), (2, .int (iN v2_4))] [] S4) h (fun k4 hk4 v1_4 v2_4 S4 h h_v1_4 h_v2_4 hw4 => ?_) (by decide) (by decide) hw)
  unfold w_X7_packValues_n_L4 at h
  refine xi_iload_n C 2 dX7_packValues_4 rfl rfl ?_
  refine xi_bipush C (v := 9) dX7_packValues_5 (by decide +kernel) ?_
  refine xi_icmp_ge C 29 h_v2_4 (by decide) dX7_packValues_7 (by decide) (fun z1 => ?_) (fun z1 => ?_)
  · replace h := h.1 z1
    refine xi_iload_n C 1 dX7_packValues_29 rfl rfl ?_
    exact xr_i C hA hZ hr hlocks rfl dX7_packValues_30 (Nat.le_of_ble_eq_true rfl) (Nat.le_of_ble_eq_true rfl) hw4 ⟨_, rfl, h_v1_4, h⟩
  · replace h := h.2 z1
    refine xi_iload_n C 1 dX7_packValues_10 rfl rfl ?_
    refine xi_aload_n C 0 dX7_packValues_11 rfl rfl ?_
    refine xi_getR C xK_X7 (q := 8) (r := 42) rfl 2 (by decide) (ki := 2) rfl xl_X7_15 rfl dX7_packValues_12 ?_
    refine xi_iload_n C 2 dX7_packValues_15 rfl rfl ?_
    obtain ⟨hc2, h⟩ := h
    refine xi_iaload C (q := 42) rfl (by decide) hc2 dX7_packValues_16 ?_
    refine xi_iconst C (v := 2) dX7_packValues_17 rfl ?_
    refine xi_iload_n C 2 dX7_packValues_18 rfl rfl ?_
    refine xi_imul C dX7_packValues_19 ?_
    obtain ⟨hc3, h⟩ := h
    refine xi_ishl C hc3 dX7_packValues_20 ?_
    refine xi_ior C dX7_packValues_21 ?_
    refine xi_istore_n C (L' := [(1, .int (iN (xor32 v1_4 ((S4 42 v2_4) * 2 ^ (2 * v2_4).toNat)))), (0, .ref (ad 8)), (2, .int (iN v2_4))]) dX7_packValues_22 rfl (by decide) rfl ?_
    refine xi_iinc C (L' := [(2, .int (iN (v2_4 + 1))), (1, .int (iN (xor32 v1_4 ((S4 42 v2_4) * 2 ^ (2 * v2_4).toNat)))), (0, .ref (ad 8))]) 2 dX7_packValues_23 rfl (by decide) rfl ?_
    refine xi_goto C 4 dX7_packValues_26 (by decide) ?_
    obtain ⟨hc4, h⟩ := h
    exact xi_sub [2, 1, 0] rfl (hk4 (xor32 v1_4 ((S4 42 v2_4) * 2 ^ (2 * v2_4).toNat)) (v2_4 + 1) S4 h (xor32_R _ _) hc4 hw4)
set_option maxRecDepth 100000 in
set_option maxHeartbeats 4000000 in
theorem c_X1_add (l : Launch) (D : va_G) (ca : Nat → ClassId) (ad : Nat → Nat) (tF : Nat) (a1 : Int) (a3 : Int) (a4 : Int) (a5 : Int) (S : xS) (Q : Int → xS → Prop) (h_a1 : xRJ a1) (h_a3 : xR a3) (h_a4 : xR a4) (h_a5 : xR a5) (h : w_X1_add a1 a3 a4 a5 S Q) : xM l yX1_add (xws yX1_add cX1_add 7 (some .int)) ({ frames := 1, cells := 0, slots := 0, locals := 25 }) (gC D ca ad tF) [.ref (ad 4), .long (jN a1), .int (iN a3), .int (iN a4), .int (iN a5)] S (xQi Q) 0 0 := by
  refine xm_of RX1 rfl (by decide +kernel) (Nat.le_of_ble_eq_true rfl) ?_
  intro p e s m args below meth c A Z C hA hZ hr hlocks hw
  unfold w_X1_add at h
  show xV (gC D ca ad tF) p l e ({ frames := 1, cells := 0, slots := 0, locals := 25 }) s m args below meth c A 7 Z 0 0 0 [(0, .ref (ad 4)), (1, .long (jN a1)), (3, .int (iN a3)), (4, .int (iN a4)), (5, .int (iN a5))] [] S
  refine xi_aload_n C 0 dX1_add_0 rfl rfl ?_
  refine xi_getI C xK_X1 (q := 4) (r := 0) rfl 0 (by decide) (ki := 0) rfl xl_X1_38 rfl dX1_add_1 ?_
  refine xi_istore C (L' := [(6, .int (iN (S 4 0))), (0, .ref (ad 4)), (1, .long (jN a1)), (3, .int (iN a3)), (4, .int (iN a4)), (5, .int (iN a5))]) dX1_add_4 (by decide) rfl ?_
  refine xi_aload_n C 1 dX1_add_6 rfl rfl ?_
  refine xi_getR C xK_X1 (q := 4) (r := 31) rfl 8 (by decide) (ki := 8) rfl xl_X1_31 rfl dX1_add_7 ?_
  refine xi_aload_n C 1 dX1_add_10 rfl rfl ?_
  refine xi_lload_n C 2 dX1_add_11 rfl rfl ?_
  refine xc_Vi C hw (c_X1_slotFor l D ca ad tF a1 S _ h_a1 h) xk_X1_slotFor xv_X1_slotFor xl_X1_48 ⟨Nat.le_of_ble_eq_true rfl, Nat.le_of_ble_eq_true rfl⟩ xK_X1 (q := 4) rfl rfl rfl (Nat.le_of_ble_eq_true rfl) ⟨Nat.le_of_ble_eq_true rfl, Nat.le_of_ble_eq_true rfl⟩ dX1_add_12 (fun r12 S12 h_r12 h hw1 => ?_)
  refine xi_iload C 0 dX1_add_15 rfl ?_
  refine xi_iconst C (v := 1) dX1_add_17 rfl ?_
  refine xi_iadd C dX1_add_18 ?_
  obtain ⟨hc2, h⟩ := h
  obtain ⟨hc3, h⟩ := h
  refine xi_iastore C (q := 31) rfl (by decide) hc3 dX1_add_19 ?_
  have hw4 := xval.up (q := 31) (i := r12) (v := (S 4 0) + 1) hw1 rfl hc2
  refine xi_aload_n C 1 dX1_add_20 rfl rfl ?_
  refine xi_getR C xK_X1 (q := 4) (r := 25) rfl 2 (by decide) (ki := 2) rfl xl_X1_9 rfl dX1_add_21 ?_
  refine xi_iload C 0 dX1_add_24 rfl ?_
  refine xi_lload_n C 2 dX1_add_26 rfl rfl ?_
  obtain ⟨hc5, h⟩ := h
  refine xi_lastore C (q := 25) rfl (by decide) hc5 dX1_add_27 ?_
  have hw6 := xval.upJ (q := 25) (i := S 4 0) (v := a1) hw4 rfl h_a1
  refine xi_aload_n C 1 dX1_add_28 rfl rfl ?_
  refine xi_getR C xK_X1 (q := 4) (r := 26) rfl 3 (by decide) (ki := 3) rfl xl_X1_15 rfl dX1_add_29 ?_
  refine xi_iload C 0 dX1_add_32 rfl ?_
  refine xi_iload_n C 3 dX1_add_34 rfl rfl ?_
  refine xi_iastore C (q := 26) rfl (by decide) hc5 dX1_add_35 ?_
  have hw7 := xval.up (q := 26) (i := S 4 0) (v := a3) hw6 rfl h_a3
  refine xi_aload_n C 1 dX1_add_36 rfl rfl ?_
  refine xi_getR C xK_X1 (q := 4) (r := 27) rfl 4 (by decide) (ki := 4) rfl xl_X1_19 rfl dX1_add_37 ?_
  refine xi_iload C 0 dX1_add_40 rfl ?_
  refine xi_iload C 4 dX1_add_42 rfl ?_
  refine xi_iastore C (q := 27) rfl (by decide) hc5 dX1_add_44 ?_
  have hw8 := xval.up (q := 27) (i := S 4 0) (v := a4) hw7 rfl h_a4
  refine xi_aload_n C 1 dX1_add_45 rfl rfl ?_
  refine xi_getR C xK_X1 (q := 4) (r := 28) rfl 5 (by decide) (ki := 5) rfl xl_X1_22 rfl dX1_add_46 ?_
  refine xi_iload C 0 dX1_add_49 rfl ?_
  refine xi_iload C 5 dX1_add_51 rfl ?_
  refine xi_iastore C (q := 28) rfl (by decide) hc5 dX1_add_53 ?_
  have hw9 := xval.up (q := 28) (i := S 4 0) (v := a5) hw8 rfl h_a5
  refine xi_aload_n C 1 dX1_add_54 rfl rfl ?_
  refine xi_getR C xK_X1 (q := 4) (r := 29) rfl 6 (by decide) (ki := 6) rfl xl_X1_25 rfl dX1_add_55 ?_
  refine xi_iload C 0 dX1_add_58 rfl ?_
  refine xi_iload C 4 dX1_add_60 rfl ?_
  refine xi_iconst C (v := (-1)) dX1_add_62 rfl ?_
  refine xJ1_w (fun t0_79 S79 => xR t0_79 → xval (gC D ca ad tF) S79 → xV (gC D ca ad tF) p l e ({ frames := 1, cells := 0, slots := 0, locals := 25 }) s m args below meth c A 7 Z 0 0 79 [(0, .ref (ad 4)), (6, .int (iN (S 4 0)))] [.int (iN t0_79), .int (iN (S 4 0)), .ref (ad 29)] S79) h (fun t0_79 S79 h h_t0_79 hw79 => ?_) (fun j79 hj79 h => ?_)
  · unfold w_X1_add_J79 at h
    refine xi_iastore C (q := 29) rfl (by decide) hc5 dX1_add_79 ?_
    have hw11 := xval.up (q := 29) (i := S 4 0) (v := t0_79) hw79 rfl h_t0_79
    refine xi_aload_n C 0 dX1_add_80 rfl rfl ?_
    refine xi_getR C xK_X1 (q := 4) (r := 30) rfl 7 (by decide) (ki := 7) rfl xl_X1_28 rfl dX1_add_81 ?_
    refine xi_iload C 1 dX1_add_84 rfl ?_
    refine xi_iconst C (v := (-1)) dX1_add_86 rfl ?_
    refine xi_iastore C (q := 30) rfl (by decide) hc5 dX1_add_87 ?_
    have hw12 := xval.up (q := 30) (i := S 4 0) (v := (-1)) hw11 rfl (by decide)
    refine xi_aload_n C 0 dX1_add_88 rfl rfl ?_
    refine xi_dup C dX1_add_89 rfl ?_
    refine xi_getI C xK_X1 (q := 4) (r := 0) rfl 0 (by decide) (ki := 0) rfl xl_X1_38 rfl dX1_add_90 ?_
    refine xi_iconst C (v := 1) dX1_add_93 rfl ?_
    refine xi_iadd C dX1_add_94 ?_
    obtain ⟨hc13, h⟩ := h
    refine xi_putI C xK_X1 (q := 4) (r := 0) rfl 0 (by decide) (ki := 0) rfl xl_X1_38 rfl rfl rfl dX1_add_95 ?_
    have hw14 := xval.up (q := 4) (i := 0) (v := (S79 4 0) + 1) hw12 rfl hc13
    refine xi_iload C 1 dX1_add_98 rfl ?_
    exact xr_i C hA hZ hr hlocks rfl dX1_add_100 (Nat.le_of_ble_eq_true rfl) (Nat.le_of_ble_eq_true rfl) hw14 ⟨_, rfl, (xval.i (q := 4) (i := 0) hw (by decide) rfl), h⟩
  · refine xi_icmp_ne C 70 h_a4 (by decide) dX1_add_63 (by decide) (fun z10 => ?_) (fun z10 => ?_)
    · replace h := h.1 z10
      refine xi_aload_n C 1 dX1_add_70 rfl rfl ?_
      refine xi_getR C xK_X1 (q := 4) (r := 29) rfl 6 (by decide) (ki := 6) rfl xl_X1_25 rfl dX1_add_71 ?_
      refine xi_iload C 4 dX1_add_74 rfl ?_
      obtain ⟨hc15, h⟩ := h
      refine xi_iaload C (q := 29) rfl (by decide) hc15 dX1_add_76 ?_
      refine xi_iconst C (v := 1) dX1_add_77 rfl ?_
      refine xi_iadd C dX1_add_78 ?_
      obtain ⟨hc16, h⟩ := h
      exact xi_sub [1, 0] rfl (hj79 ((S12 29 a4) + 1) (xup (xup (xup (xup (xup S12 31 r12 ((S 4 0) + 1)) 25 (S 4 0) a1) 26 (S 4 0) a3) 27 (S 4 0) a4) 28 (S 4 0) a5) h hc16 hw9)
    · replace h := h.2 z10
      refine xi_iconst C (v := 0) dX1_add_66 rfl ?_
      refine xi_goto C 79 dX1_add_67 (by decide) ?_
      exact xi_sub [1, 0] rfl (hj79 0 (xup (xup (xup (xup (xup S12 31 r12 ((S 4 0) + 1)) 25 (S 4 0) a1) 26 (S 4 0) a3) 27 (S 4 0) a4) 28 (S 4 0) a5) h (by decide) hw9)
set_option maxRecDepth 100000 in
set_option maxHeartbeats 4000000 in
theorem c_X4_breaksInvariant_n (l : Launch) (D : va_G) (ca : Nat → ClassId) (ad : Nat → Nat) (tF : Nat)  (S : xS) (Q : Int → xS → Prop)  (h : w_X4_breaksInvariant_n  S Q) : xM l yX4_breaksInvariant (xws yX4_breaksInvariant cX4_breaksInvariant 3 (some .boolean)) ({ frames := 0, cells := 0, slots := 0, locals := 0 }) (gC D ca ad tF) [.ref (ad 1), .ref (ad 8)] S (xQi Q) 0 0 := by
  refine xm_of RX4 rfl (by decide +kernel) (Nat.le_of_ble_eq_true rfl) ?_
  intro p e s m args below meth c A Z C hA hZ hr hlocks hw
  unfold w_X4_breaksInvariant_n at h
  show xV (gC D ca ad tF) p l e ({ frames := 0, cells := 0, slots := 0, locals := 0 }) s m args below meth c A 3 Z 0 0 0 [(0, .ref (ad 1)), (1, .ref (ad 8))] [] S
  refine xi_iconst C (v := 0) dX4_breaksInvariant_0 rfl ?_
  refine xi_istore_n C (L' := [(2, .int (iN 0)), (0, .ref (ad 1)), (1, .ref (ad 8))]) dX4_breaksInvariant_1 rfl (by decide) rfl ?_
  refine xi_sub [1, 2, 0] rfl (xW1 (fun v2_2 S2 => xR v2_2 → xval (gC D ca ad tF) S2 → xV (gC D ca ad tF) p l e ({ frames := 0, cells := 0, slots := 0, locals := 0 }) s m args below meth c A 3 Z 0 0 2 [(0, .ref (ad 1)), (1, .ref (ad 8)), (2, .int (iN v2_2))] [] S2) h (fun k2 hk2 v2_2 S2 h h_v2_2 hw2 => ?_) (by decide) hw)
  unfold w_X4_breaksInvariant_n_L2 at h
  refine xi_iload_n C 2 dX4_breaksInvariant_2 rfl rfl ?_
  refine xi_aload_n C 0 dX4_breaksInvariant_3 rfl rfl ?_
  refine xi_getI C xK_X4 (q := 1) (r := 0) rfl 11 (by decide) (ki := 11) rfl xl_X4_71 rfl dX4_breaksInvariant_4 ?_
  refine xi_icmp_ge C 38 h_v2_2 (xval.i (q := 1) (i := 11) hw2 (by decide) rfl) dX4_breaksInvariant_7 (by decide) (fun z1 => ?_) (fun z1 => ?_)
  · replace h := h.1 z1
    refine xi_iconst C (v := 0) dX4_breaksInvariant_38 rfl ?_
    exact xr_i C hA hZ hr hlocks (xnarZ (Or.inl rfl)).1 dX4_breaksInvariant_39 (Nat.le_of_ble_eq_true rfl) (Nat.le_of_ble_eq_true rfl) hw2 ⟨_, rfl, (by decide), h⟩
  · replace h := h.2 z1
    refine xi_aload_n C 1 dX4_breaksInvariant_10 rfl rfl ?_
    refine xi_getRN C xK_X7 (q := 8) (r := 42) rfl 2 (by decide) (ki := 2) rfl xn_X4_94 rfl dX4_breaksInvariant_11 ?_
    refine xi_aload_n C 0 dX4_breaksInvariant_14 rfl rfl ?_
    refine xi_getR C xK_X4 (q := 1) (r := 19) rfl 12 (by decide) (ki := 12) rfl xl_X4_40 rfl dX4_breaksInvariant_15 ?_
    refine xi_iload_n C 2 dX4_breaksInvariant_18 rfl rfl ?_
    obtain ⟨hc2, h⟩ := h
    refine xi_iaload C (q := 19) rfl (by decide) hc2 dX4_breaksInvariant_19 ?_
    obtain ⟨hc3, h⟩ := h
    refine xi_iaload C (q := 42) rfl (by decide) hc3 dX4_breaksInvariant_20 ?_
    refine xi_aload_n C 0 dX4_breaksInvariant_21 rfl rfl ?_
    refine xi_getR C xK_X4 (q := 1) (r := 20) rfl 13 (by decide) (ki := 13) rfl xl_X4_43 rfl dX4_breaksInvariant_22 ?_
    refine xi_iload_n C 2 dX4_breaksInvariant_25 rfl rfl ?_
    refine xi_iaload C (q := 20) rfl (by decide) hc2 dX4_breaksInvariant_26 ?_
    refine xi_icmp_ne C 32 (xval.i (q := 42) (i := S2 19 v2_2) hw2 hc3.1 rfl) (xval.i (q := 20) (i := v2_2) hw2 hc2.1 rfl) dX4_breaksInvariant_27 (by decide) (fun z4 => ?_) (fun z4 => ?_)
    · replace h := h.1 z4
      refine xi_iinc C (L' := [(2, .int (iN (v2_2 + 1))), (0, .ref (ad 1)), (1, .ref (ad 8))]) 2 dX4_breaksInvariant_32 rfl (by decide) rfl ?_
      refine xi_goto C 2 dX4_breaksInvariant_35 (by decide) ?_
      obtain ⟨hc5, h⟩ := h
      exact xi_sub [1, 2, 0] rfl (hk2 (v2_2 + 1) S2 h hc5 hw2)
    · replace h := h.2 z4
      refine xi_iconst C (v := 1) dX4_breaksInvariant_30 rfl ?_
      exact xr_i C hA hZ hr hlocks (xnarZ (Or.inr rfl)).1 dX4_breaksInvariant_31 (Nat.le_of_ble_eq_true rfl) (Nat.le_of_ble_eq_true rfl) hw2 ⟨_, rfl, (by decide), h⟩
set_option maxRecDepth 100000 in
set_option maxHeartbeats 4000000 in
theorem c_X6_endWith (l : Launch) (D : va_G) (ca : Nat → ClassId) (ad : Nat → Nat) (tF : Nat) (a1 : Int) (a2 : Int) (S : xS) (Q : xS → Prop) (h_a1 : xR a1) (h_a2 : xR a2) (h : w_X6_endWith a1 a2 S Q) : xM l yX6_endWith (xws yX6_endWith cX6_endWith 5 (none)) ({ frames := 0, cells := 0, slots := 0, locals := 0 }) (gC D ca ad tF) [.ref (ad 2), .int (iN a1), .int (iN a2)] S (xQv Q) 0 0 := by
  refine xm_of RX6 rfl (by decide +kernel) (Nat.le_of_ble_eq_true rfl) ?_
  intro p e s m args below meth c A Z C hA hZ hr hlocks hw
  unfold w_X6_endWith at h
  show xV (gC D ca ad tF) p l e ({ frames := 0, cells := 0, slots := 0, locals := 0 }) s m args below meth c A 5 Z 0 0 0 [(0, .ref (ad 2)), (1, .int (iN a1)), (2, .int (iN a2))] [] S
  refine xi_aload_n C 0 dX6_endWith_0 rfl rfl ?_
  refine xi_iload_n C 1 dX6_endWith_1 rfl rfl ?_
  obtain ⟨hc1, h⟩ := h
  refine xi_putC C xK_X6 (q := 2) (r := 0) rfl 13 (by decide) (ki := 13) rfl xl_X6_65 rfl rfl rfl hc1 dX6_endWith_2 ?_
  have hw2 := xval.up (q := 2) (i := 13) (v := a1) hw rfl h_a1
  refine xi_aload_n C 0 dX6_endWith_5 rfl rfl ?_
  refine xi_aload_n C 0 dX6_endWith_6 rfl rfl ?_
  refine xi_getR C xK_X6 (q := 2) (r := 4) rfl 1 (by decide) (ki := 1) rfl xl_X6_22 rfl dX6_endWith_7 ?_
  refine xi_getRN C xK_X1 (q := 4) (r := 29) rfl 6 (by decide) (ki := 6) rfl xn_X6_218 rfl dX6_endWith_10 ?_
  refine xi_iload_n C 2 dX6_endWith_13 rfl rfl ?_
  obtain ⟨hc3, h⟩ := h
  refine xi_iaload C (q := 29) rfl (by decide) hc3 dX6_endWith_14 ?_
  refine xi_putI C xK_X6 (q := 2) (r := 0) rfl 8 (by decide) (ki := 8) rfl xl_X6_68 rfl rfl rfl dX6_endWith_15 ?_
  have hw4 := xval.up (q := 2) (i := 8) (v := S 29 a2) hw2 rfl (xval.i (q := 29) (i := a2) hw2 hc3.1 rfl)
  refine xi_iload_n C 2 dX6_endWith_18 rfl rfl ?_
  refine xi_istore_n C (L' := [(3, .int (iN a2)), (0, .ref (ad 2)), (1, .int (iN a1)), (2, .int (iN a2))]) dX6_endWith_19 rfl (by decide) rfl ?_
  refine xi_aload_n C 1 dX6_endWith_20 rfl rfl ?_
  refine xi_getI C xK_X6 (q := 2) (r := 0) rfl 8 (by decide) (ki := 8) rfl xl_X6_68 rfl dX6_endWith_21 ?_
  refine xi_iconst C (v := 1) dX6_endWith_24 rfl ?_
  refine xi_isub C dX6_endWith_25 ?_
  refine xi_istore C (L' := [(4, .int (iN ((S 29 a2) - 1))), (3, .int (iN a2)), (0, .ref (ad 2)), (1, .int (iN a1)), (2, .int (iN a2))]) dX6_endWith_26 (by decide) rfl ?_
  obtain ⟨hc5, h⟩ := h
  refine xi_sub [2, 1, 0] rfl (xW2 (fun v3_28 v4_28 S28 => xR v3_28 → xR v4_28 → xval (gC D ca ad tF) S28 → xV (gC D ca ad tF) p l e ({ frames := 0, cells := 0, slots := 0, locals := 0 }) s m args below meth c A 5 Z 0 0 28 [(0, .ref (ad 2)), (3, .int (iN v3_28)), (4, .int (iN v4_28))] [] S28) h (fun k28 hk28 v3_28 v4_28 S28 h h_v3_28 h_v4_28 hw28 => ?_) h_a2 hc5 hw4)
  unfold w_X6_endWith_L28 at h
  refine xi_iload C 2 dX6_endWith_28 rfl ?_
  refine xi_if_lt C 65 h_v4_28 dX6_endWith_30 (by decide) (fun z6 => ?_) (fun z6 => ?_)
  · replace h := h.1 z6
    exact xr_v C hA hZ hr hlocks dX6_endWith_65 (Nat.le_of_ble_eq_true rfl) (Nat.le_of_ble_eq_true rfl) hw28 ⟨rfl, h⟩
  · replace h := h.2 z6
    refine xi_aload_n C 0 dX6_endWith_33 rfl rfl ?_
    refine xi_getR C xK_X6 (q := 2) (r := 22) rfl 7 (by decide) (ki := 7) rfl xl_X6_15 rfl dX6_endWith_34 ?_
    refine xi_iload C 2 dX6_endWith_37 rfl ?_
    refine xi_aload_n C 0 dX6_endWith_39 rfl rfl ?_
    refine xi_getR C xK_X6 (q := 2) (r := 4) rfl 1 (by decide) (ki := 1) rfl xl_X6_22 rfl dX6_endWith_40 ?_
    refine xi_getRN C xK_X1 (q := 4) (r := 28) rfl 5 (by decide) (ki := 5) rfl xn_X6_221 rfl dX6_endWith_43 ?_
    refine xi_iload_n C 1 dX6_endWith_46 rfl rfl ?_
    obtain ⟨hc7, h⟩ := h
    refine xi_iaload C (q := 28) rfl (by decide) hc7 dX6_endWith_47 ?_
    obtain ⟨hc8, h⟩ := h
    refine xi_iastore C (q := 22) rfl (by decide) hc8 dX6_endWith_48 ?_
    have hw9 := xval.up (q := 22) (i := v4_28) (v := S28 28 v3_28) hw28 rfl (xval.i (q := 28) (i := v3_28) hw28 hc7.1 rfl)
    refine xi_aload_n C 0 dX6_endWith_49 rfl rfl ?_
    refine xi_getR C xK_X6 (q := 2) (r := 4) rfl 1 (by decide) (ki := 1) rfl xl_X6_22 rfl dX6_endWith_50 ?_
    refine xi_getRN C xK_X1 (q := 4) (r := 27) rfl 4 (by decide) (ki := 4) rfl xn_X6_224 rfl dX6_endWith_53 ?_
    refine xi_iload_n C 1 dX6_endWith_56 rfl rfl ?_
    refine xi_iaload C (q := 27) rfl (by decide) hc7 dX6_endWith_57 ?_
    refine xi_istore_n C (L' := [(3, .int (iN (S28 27 v3_28))), (0, .ref (ad 2)), (4, .int (iN v4_28))]) dX6_endWith_58 rfl (by decide) rfl ?_
    refine xi_iinc C (L' := [(4, .int (iN (v4_28 + (-1)))), (3, .int (iN (S28 27 v3_28))), (0, .ref (ad 2))]) 2 dX6_endWith_59 rfl (by decide) rfl ?_
    refine xi_goto C 28 dX6_endWith_62 (by decide) ?_
    obtain ⟨hc10, h⟩ := h
    exact xi_sub [2, 1, 0] rfl (hk28 (S28 27 v3_28) (v4_28 + (-1)) (xup S28 22 v4_28 (S28 28 v3_28)) h (xval.i (q := 27) (i := v3_28) hw9 hc7.1 rfl) hc10 hw9)
set_option maxRecDepth 100000 in
set_option maxHeartbeats 4000000 in
theorem c_X6_find (l : Launch) (D : va_G) (ca : Nat → ClassId) (ad : Nat → Nat) (tF : Nat) (a1 : Int) (a3 : Int) (a4 : Int) (S : xS) (Q : Int → xS → Prop) (h_a1 : xRJ a1) (h_a3 : xR a3) (h_a4 : xR a4) (h : w_X6_find a1 a3 a4 S Q) : xM l yX6_find (xws yX6_find cX6_find 6 (some .int)) ({ frames := 2, cells := 0, slots := 0, locals := 51 }) (gC D ca ad tF) [.ref (ad 2), .long (jN a1), .int (iN a3), .int (iN a4)] S (xQi Q) 0 0 := by
  refine xm_of RX6 rfl (by decide +kernel) (Nat.le_of_ble_eq_true rfl) ?_
  intro p e s m args below meth c A Z C hA hZ hr hlocks hw
  unfold w_X6_find at h
  show xV (gC D ca ad tF) p l e ({ frames := 2, cells := 0, slots := 0, locals := 51 }) s m args below meth c A 6 Z 0 0 0 [(0, .ref (ad 2)), (1, .long (jN a1)), (3, .int (iN a3)), (4, .int (iN a4))] [] S
  refine xi_aload_n C 0 dX6_find_0 rfl rfl ?_
  refine xi_getR C xK_X6 (q := 2) (r := 4) rfl 1 (by decide) (ki := 1) rfl xl_X6_22 rfl dX6_find_1 ?_
  refine xi_lload_n C 1 dX6_find_4 rfl rfl ?_
  refine xi_aload_n C 0 dX6_find_5 rfl rfl ?_
  refine xi_getR C xK_X6 (q := 2) (r := 8) rfl 5 (by decide) (ki := 5) rfl xl_X6_46 rfl dX6_find_6 ?_
  refine xc_Vi C hw (c_X7_packValues_n l D ca ad tF S _ h) xk_X7_packValues xv_X7_packValues xl_X6_208 ⟨Nat.le_of_ble_eq_true rfl, Nat.le_of_ble_eq_true rfl⟩ xK_X7 (q := 8) rfl rfl rfl (Nat.le_of_ble_eq_true rfl) ⟨Nat.le_of_ble_eq_true rfl, Nat.le_of_ble_eq_true rfl⟩ dX6_find_9 (fun r9 S9 h_r9 h hw1 => ?_)
  refine xi_iload_n C 2 dX6_find_12 rfl rfl ?_
  refine xi_iload C 3 dX6_find_13 rfl ?_
  refine xc_Vi C hw1 (c_X1_add l D ca ad tF a1 r9 a3 a4 S9 _ h_a1 h_r9 h_a3 h_a4 h) xk_X1_add xv_X1_add xl_X6_211 ⟨Nat.le_of_ble_eq_true rfl, Nat.le_of_ble_eq_true rfl⟩ xK_X1 (q := 4) rfl rfl rfl (Nat.le_of_ble_eq_true rfl) ⟨Nat.le_of_ble_eq_true rfl, Nat.le_of_ble_eq_true rfl⟩ dX6_find_15 (fun r15 S15 h_r15 h hw2 => ?_)
  refine xi_istore C (L' := [(5, .int (iN r15)), (0, .ref (ad 2)), (1, .long (jN a1)), (3, .int (iN a3)), (4, .int (iN a4))]) dX6_find_18 (by decide) rfl ?_
  refine xi_aload_n C 1 dX6_find_20 rfl rfl ?_
  refine xi_getR C xK_X6 (q := 2) (r := 1) rfl 0 (by decide) (ki := 0) rfl xl_X6_18 rfl dX6_find_21 ?_
  refine xi_aload_n C 1 dX6_find_24 rfl rfl ?_
  refine xi_getR C xK_X6 (q := 2) (r := 8) rfl 5 (by decide) (ki := 5) rfl xl_X6_46 rfl dX6_find_25 ?_
  refine xc_Vi C hw2 (c_X4_breaksInvariant_n l D ca ad tF S15 _ h) xk_X4_breaksInvariant xv_X4_breaksInvariant xl_X6_215 ⟨Nat.le_of_ble_eq_true rfl, Nat.le_of_ble_eq_true rfl⟩ xK_X4 (q := 1) rfl rfl rfl (Nat.le_of_ble_eq_true rfl) ⟨Nat.le_of_ble_eq_true rfl, Nat.le_of_ble_eq_true rfl⟩ dX6_find_28 (fun r28 S28 h_r28 h hw3 => ?_)
  refine xi_if_eq C 42 h_r28 dX6_find_31 (by decide) (fun z4 => ?_) (fun z4 => ?_)
  · replace h := h.1 z4
    refine xi_iload C 0 dX6_find_42 rfl ?_
    exact xr_i C hA hZ hr hlocks rfl dX6_find_44 (Nat.le_of_ble_eq_true rfl) (Nat.le_of_ble_eq_true rfl) hw3 ⟨_, rfl, h_r15, h⟩
  · replace h := h.2 z4
    refine xi_aload_n C 1 dX6_find_34 rfl rfl ?_
    refine xi_bipush C (v := 105) dX6_find_35 (by decide +kernel) ?_
    refine xi_iload C 0 dX6_find_37 rfl ?_
    refine xc_Vv C hw3 (c_X6_endWith l D ca ad tF 105 r15 S28 _ (by decide) h_r15 h) xk_X6_endWith xv_X6_endWith xl_X6_132 ⟨Nat.le_of_ble_eq_true rfl, Nat.le_of_ble_eq_true rfl⟩ xK_X6 (q := 2) rfl rfl rfl (Nat.le_of_ble_eq_true rfl) ⟨Nat.le_of_ble_eq_true rfl, Nat.le_of_ble_eq_true rfl⟩ dX6_find_39 (fun S39 h hw5 => ?_)
    refine xi_iload C 0 dX6_find_42 rfl ?_
    exact xr_i C hA hZ hr hlocks rfl dX6_find_44 (Nat.le_of_ble_eq_true rfl) (Nat.le_of_ble_eq_true rfl) hw5 ⟨_, rfl, h_r15, h⟩
set_option maxRecDepth 100000 in
set_option maxHeartbeats 4000000 in
theorem c_X6_beginIn (l : Launch) (D : va_G) (ca : Nat → ClassId) (ad : Nat → Nat) (tF : Nat) (a1 : Int) (S : xS) (Q : xS → Prop) (h_a1 : xR a1) (h : w_X6_beginIn a1 S Q) : xM l yX6_beginIn (xws yX6_beginIn cX6_beginIn 2 (none)) ({ frames := 5, cells := 0, slots := 0, locals := 114 }) (gC D ca ad tF) [.ref (ad 2), .int (iN a1)] S (xQv Q) 0 0 := by
  refine xm_of RX6 rfl (by decide +kernel) (Nat.le_of_ble_eq_true rfl) ?_
  intro p e s m args below meth c A Z C hA hZ hr hlocks hw
  unfold w_X6_beginIn at h
  show xV (gC D ca ad tF) p l e ({ frames := 5, cells := 0, slots := 0, locals := 114 }) s m args below meth c A 2 Z 0 0 0 [(0, .ref (ad 2)), (1, .int (iN a1))] [] S
  refine xi_aload_n C 0 dX6_beginIn_0 rfl rfl ?_
  refine xi_iload_n C 1 dX6_beginIn_1 rfl rfl ?_
  obtain ⟨hc1, h⟩ := h
  refine xi_putC C xK_X6 (q := 2) (r := 0) rfl 10 (by decide) (ki := 10) rfl xl_X6_53 rfl rfl rfl hc1 dX6_beginIn_2 ?_
  have hw2 := xval.up (q := 2) (i := 10) (v := a1) hw rfl h_a1
  refine xi_aload_n C 0 dX6_beginIn_5 rfl rfl ?_
  refine xi_iconst C (v := 1) dX6_beginIn_6 rfl ?_
  refine xi_putZ C xK_X6 (q := 2) (r := 0) rfl 9 (by decide) (ki := 9) rfl xl_X6_49 rfl rfl rfl (Or.inr rfl) dX6_beginIn_7 ?_
  have hw3 := xval.up (q := 2) (i := 9) (v := 1) hw2 rfl (by decide)
  refine xi_aload_n C 0 dX6_beginIn_10 rfl rfl ?_
  refine xi_iconst C (v := 0) dX6_beginIn_11 rfl ?_
  refine xi_putI C xK_X6 (q := 2) (r := 0) rfl 11 (by decide) (ki := 11) rfl xl_X6_57 rfl rfl rfl dX6_beginIn_12 ?_
  have hw4 := xval.up (q := 2) (i := 11) (v := 0) hw3 rfl (by decide)
  refine xi_aload_n C 0 dX6_beginIn_15 rfl rfl ?_
  refine xi_lconst C (v := 0) dX6_beginIn_16 (by decide +kernel) ?_
  refine xi_putJ C xK_X6 (q := 2) (r := 0) rfl 12 (by decide) (ki := 12) rfl xl_X6_61 rfl rfl rfl dX6_beginIn_17 ?_
  have hw5 := xval.upJ (q := 2) (i := 12) (v := 0) hw4 rfl (by decide)
  refine xi_aload_n C 0 dX6_beginIn_20 rfl rfl ?_
  refine xi_bipush C (v := 45) dX6_beginIn_21 (by decide +kernel) ?_
  refine xi_putC C xK_X6 (q := 2) (r := 0) rfl 13 (by decide) (ki := 13) rfl xl_X6_65 rfl rfl rfl (by decide) dX6_beginIn_23 ?_
  have hw6 := xval.up (q := 2) (i := 13) (v := 45) hw5 rfl (by decide)
  refine xi_aload_n C 0 dX6_beginIn_26 rfl rfl ?_
  refine xi_iconst C (v := 0) dX6_beginIn_27 rfl ?_
  refine xi_putI C xK_X6 (q := 2) (r := 0) rfl 8 (by decide) (ki := 8) rfl xl_X6_68 rfl rfl rfl dX6_beginIn_28 ?_
  have hw7 := xval.up (q := 2) (i := 8) (v := 0) hw6 rfl (by decide)
  refine xi_aload_n C 0 dX6_beginIn_31 rfl rfl ?_
  refine xi_getR C xK_X6 (q := 2) (r := 4) rfl 1 (by decide) (ki := 1) rfl xl_X6_22 rfl dX6_beginIn_32 ?_
  refine xi_iload_n C 1 dX6_beginIn_35 rfl rfl ?_
  refine xi_bipush C (v := 104) dX6_beginIn_36 (by decide +kernel) ?_
  refine xJ1_w (fun t0_46 S46 => xR t0_46 → xval (gC D ca ad tF) S46 → xV (gC D ca ad tF) p l e ({ frames := 5, cells := 0, slots := 0, locals := 114 }) s m args below meth c A 2 Z 0 0 46 [(0, .ref (ad 2))] [.int (iN t0_46), .ref (ad 4)] S46) h (fun t0_46 S46 h h_t0_46 hw46 => ?_) (fun j46 hj46 h => ?_)
  · unfold w_X6_beginIn_J46 at h
    refine xc_Vv C hw46 (c_X1_clear l D ca ad tF t0_46 S46 _ h_t0_46 h) xk_X1_clear xv_X1_clear xl_X6_71 ⟨Nat.le_of_ble_eq_true rfl, Nat.le_of_ble_eq_true rfl⟩ xK_X1 (q := 4) rfl rfl rfl (Nat.le_of_ble_eq_true rfl) ⟨Nat.le_of_ble_eq_true rfl, Nat.le_of_ble_eq_true rfl⟩ dX6_beginIn_46 (fun S46 h hw9 => ?_)
    refine xi_aload_n C 0 dX6_beginIn_49 rfl rfl ?_
    refine xi_getR C xK_X6 (q := 2) (r := 5) rfl 2 (by decide) (ki := 2) rfl xl_X6_26 rfl dX6_beginIn_50 ?_
    refine xc_Vv C hw9 (c_X2_clear l D ca ad tF S46 _ h) xk_X2_clear xv_X2_clear xl_X6_77 ⟨Nat.le_of_ble_eq_true rfl, Nat.le_of_ble_eq_true rfl⟩ xK_X2 (q := 5) rfl rfl rfl (Nat.le_of_ble_eq_true rfl) ⟨Nat.le_of_ble_eq_true rfl, Nat.le_of_ble_eq_true rfl⟩ dX6_beginIn_53 (fun S53 h hw10 => ?_)
    refine xi_aload_n C 0 dX6_beginIn_56 rfl rfl ?_
    refine xc_Vv C hw10 (c_X6_findKin l D ca ad tF S53 _ h) xk_X6_findKin xv_X6_findKin xl_X6_81 ⟨Nat.le_of_ble_eq_true rfl, Nat.le_of_ble_eq_true rfl⟩ xK_X6 (q := 2) rfl rfl rfl (Nat.le_of_ble_eq_true rfl) ⟨Nat.le_of_ble_eq_true rfl, Nat.le_of_ble_eq_true rfl⟩ dX6_beginIn_57 (fun S57 h hw11 => ?_)
    refine xi_aload_n C 0 dX6_beginIn_60 rfl rfl ?_
    refine xi_getR C xK_X6 (q := 2) (r := 8) rfl 5 (by decide) (ki := 5) rfl xl_X6_46 rfl dX6_beginIn_61 ?_
    refine xc_Vv C hw11 (c_X7_goToStart_n l D ca ad tF S57 _ h) xk_X7_goToStart xv_X7_goToStart xl_X6_84 ⟨Nat.le_of_ble_eq_true rfl, Nat.le_of_ble_eq_true rfl⟩ xK_X7 (q := 8) rfl rfl rfl (Nat.le_of_ble_eq_true rfl) ⟨Nat.le_of_ble_eq_true rfl, Nat.le_of_ble_eq_true rfl⟩ dX6_beginIn_64 (fun S64 h hw12 => ?_)
    refine xi_aload_n C 0 dX6_beginIn_67 rfl rfl ?_
    refine xi_aload_n C 0 dX6_beginIn_68 rfl rfl ?_
    refine xi_getR C xK_X6 (q := 2) (r := 8) rfl 5 (by decide) (ki := 5) rfl xl_X6_46 rfl dX6_beginIn_69 ?_
    refine xc_Vj C hw12 (c_X7_pack_n l D ca ad tF S64 _ h) xk_X7_pack xv_X7_pack xl_X6_87 ⟨Nat.le_of_ble_eq_true rfl, Nat.le_of_ble_eq_true rfl⟩ xK_X7 (q := 8) rfl rfl rfl (Nat.le_of_ble_eq_true rfl) ⟨Nat.le_of_ble_eq_true rfl, Nat.le_of_ble_eq_true rfl⟩ dX6_beginIn_72 (fun r72 S72 h_r72 h hw13 => ?_)
    refine xi_iconst C (v := (-1)) dX6_beginIn_75 rfl ?_
    refine xi_iconst C (v := (-1)) dX6_beginIn_76 rfl ?_
    refine xc_Vi C hw13 (c_X6_find l D ca ad tF r72 (-1) (-1) S72 _ h_r72 (by decide) (by decide) h) xk_X6_find xv_X6_find xl_X6_91 ⟨Nat.le_of_ble_eq_true rfl, Nat.le_of_ble_eq_true rfl⟩ xK_X6 (q := 2) rfl rfl rfl (Nat.le_of_ble_eq_true rfl) ⟨Nat.le_of_ble_eq_true rfl, Nat.le_of_ble_eq_true rfl⟩ dX6_beginIn_77 (fun r77 S77 h_r77 h hw14 => ?_)
    refine xi_pop C dX6_beginIn_80 rfl ?_
    exact xr_v C hA hZ hr hlocks dX6_beginIn_81 (Nat.le_of_ble_eq_true rfl) (Nat.le_of_ble_eq_true rfl) hw14 ⟨rfl, h⟩
  · refine xi_icmp_ne C 45 h_a1 (by decide) dX6_beginIn_38 (by decide) (fun z8 => ?_) (fun z8 => ?_)
    · replace h := h.1 z8
      refine xi_iconst C (v := 0) dX6_beginIn_45 rfl ?_
      exact xi_sub [0] rfl (hj46 0 (xup (xup (xup (xup (xup (xup S 2 10 a1) 2 9 1) 2 11 0) 2 12 0) 2 13 45) 2 8 0) h (by decide) hw7)
    · replace h := h.2 z8
      refine xi_iconst C (v := 1) dX6_beginIn_41 rfl ?_
      refine xi_goto C 46 dX6_beginIn_42 (by decide) ?_
      exact xi_sub [0] rfl (hj46 1 (xup (xup (xup (xup (xup (xup S 2 10 a1) 2 9 1) 2 11 0) 2 12 0) 2 13 45) 2 8 0) h (by decide) hw7)
set_option maxRecDepth 100000 in
set_option maxHeartbeats 4000000 in
theorem c_X6_isCutShort (l : Launch) (D : va_G) (ca : Nat → ClassId) (ad : Nat → Nat) (tF : Nat)  (S : xS) (Q : Int → xS → Prop)  (h : w_X6_isCutShort  S Q) : xM l yX6_isCutShort (xws yX6_isCutShort cX6_isCutShort 1 (some .boolean)) ({ frames := 0, cells := 0, slots := 0, locals := 0 }) (gC D ca ad tF) [.ref (ad 2)] S (xQi Q) 0 0 := by
  refine xm_of RX6 rfl (by decide +kernel) (Nat.le_of_ble_eq_true rfl) ?_
  intro p e s m args below meth c A Z C hA hZ hr hlocks hw
  unfold w_X6_isCutShort at h
  show xV (gC D ca ad tF) p l e ({ frames := 0, cells := 0, slots := 0, locals := 0 }) s m args below meth c A 1 Z 0 0 0 [(0, .ref (ad 2))] [] S
  refine xi_aload_n C 0 dX6_isCutShort_0 rfl rfl ?_
  refine xi_getI C xK_X6 (q := 2) (r := 0) rfl 13 (by decide) (ki := 13) rfl xl_X6_65 rfl dX6_isCutShort_1 ?_
  refine xi_bipush C (v := 45) dX6_isCutShort_4 (by decide +kernel) ?_
  refine xi_icmp_ne C 22 (xval.i (q := 2) (i := 13) hw (by decide) rfl) (by decide) dX6_isCutShort_6 (by decide) (fun z1 => ?_) (fun z1 => ?_)
  · replace h := h.1 z1
    refine xi_iconst C (v := 1) dX6_isCutShort_22 rfl ?_
    refine xi_goto C 27 dX6_isCutShort_23 (by decide) ?_
    exact xr_i C hA hZ hr hlocks (xnarZ (Or.inr rfl)).1 dX6_isCutShort_27 (Nat.le_of_ble_eq_true rfl) (Nat.le_of_ble_eq_true rfl) hw ⟨_, rfl, (by decide), h⟩
  · replace h := h.2 z1
    refine xi_aload_n C 0 dX6_isCutShort_9 rfl rfl ?_
    refine xi_getR C xK_X6 (q := 2) (r := 4) rfl 1 (by decide) (ki := 1) rfl xl_X6_22 rfl dX6_isCutShort_10 ?_
    refine xi_getIN C xK_X1 (q := 4) (r := 0) rfl 0 (by decide) (ki := 0) rfl xn_X6_114 rfl dX6_isCutShort_13 ?_
    refine xi_sipush C (v := 2000) dX6_isCutShort_16 (by decide +kernel) ?_
    refine xi_icmp_lt C 26 (xval.i (q := 4) (i := 0) hw (by decide) rfl) (by decide) dX6_isCutShort_19 (by decide) (fun z2 => ?_) (fun z2 => ?_)
    · replace h := h.1 z2
      refine xi_iconst C (v := 0) dX6_isCutShort_26 rfl ?_
      exact xr_i C hA hZ hr hlocks (xnarZ (Or.inl rfl)).1 dX6_isCutShort_27 (Nat.le_of_ble_eq_true rfl) (Nat.le_of_ble_eq_true rfl) hw ⟨_, rfl, (by decide), h⟩
    · replace h := h.2 z2
      refine xi_iconst C (v := 1) dX6_isCutShort_22 rfl ?_
      refine xi_goto C 27 dX6_isCutShort_23 (by decide) ?_
      exact xr_i C hA hZ hr hlocks (xnarZ (Or.inr rfl)).1 dX6_isCutShort_27 (Nat.le_of_ble_eq_true rfl) (Nat.le_of_ble_eq_true rfl) hw ⟨_, rfl, (by decide), h⟩
set_option maxRecDepth 100000 in
set_option maxHeartbeats 4000000 in
theorem c_X6_hasEnded (l : Launch) (D : va_G) (ca : Nat → ClassId) (ad : Nat → Nat) (tF : Nat)  (S : xS) (Q : Int → xS → Prop)  (h : w_X6_hasEnded  S Q) : xM l yX6_hasEnded (xws yX6_hasEnded cX6_hasEnded 1 (some .boolean)) ({ frames := 1, cells := 0, slots := 0, locals := 20 }) (gC D ca ad tF) [.ref (ad 2)] S (xQi Q) 0 0 := by
  refine xm_of RX6 rfl (by decide +kernel) (Nat.le_of_ble_eq_true rfl) ?_
  intro p e s m args below meth c A Z C hA hZ hr hlocks hw
  unfold w_X6_hasEnded at h
  show xV (gC D ca ad tF) p l e ({ frames := 1, cells := 0, slots := 0, locals := 20 }) s m args below meth c A 1 Z 0 0 0 [(0, .ref (ad 2))] [] S
  refine xi_aload_n C 0 dX6_hasEnded_0 rfl rfl ?_
  refine xc_Vi C hw (c_X6_isCutShort l D ca ad tF S _ h) xk_X6_isCutShort xv_X6_isCutShort xl_X6_117 ⟨Nat.le_of_ble_eq_true rfl, Nat.le_of_ble_eq_true rfl⟩ xK_X6 (q := 2) rfl rfl rfl (Nat.le_of_ble_eq_true rfl) ⟨Nat.le_of_ble_eq_true rfl, Nat.le_of_ble_eq_true rfl⟩ dX6_hasEnded_1 (fun r1 S1 h_r1 h hw1 => ?_)
  refine xi_if_ne C 21 h_r1 dX6_hasEnded_4 (by decide) (fun z2 => ?_) (fun z2 => ?_)
  · replace h := h.1 z2
    refine xi_iconst C (v := 1) dX6_hasEnded_21 rfl ?_
    refine xi_goto C 26 dX6_hasEnded_22 (by decide) ?_
    exact xr_i C hA hZ hr hlocks (xnarZ (Or.inr rfl)).1 dX6_hasEnded_26 (Nat.le_of_ble_eq_true rfl) (Nat.le_of_ble_eq_true rfl) hw1 ⟨_, rfl, (by decide), h⟩
  · replace h := h.2 z2
    refine xi_aload_n C 0 dX6_hasEnded_7 rfl rfl ?_
    refine xi_getI C xK_X6 (q := 2) (r := 0) rfl 11 (by decide) (ki := 11) rfl xl_X6_57 rfl dX6_hasEnded_8 ?_
    refine xi_aload_n C 0 dX6_hasEnded_11 rfl rfl ?_
    refine xi_getR C xK_X6 (q := 2) (r := 4) rfl 1 (by decide) (ki := 1) rfl xl_X6_22 rfl dX6_hasEnded_12 ?_
    refine xi_getIN C xK_X1 (q := 4) (r := 0) rfl 0 (by decide) (ki := 0) rfl xn_X6_114 rfl dX6_hasEnded_15 ?_
    refine xi_icmp_lt C 25 (xval.i (q := 2) (i := 11) hw1 (by decide) rfl) (xval.i (q := 4) (i := 0) hw1 (by decide) rfl) dX6_hasEnded_18 (by decide) (fun z3 => ?_) (fun z3 => ?_)
    · replace h := h.1 z3
      refine xi_iconst C (v := 0) dX6_hasEnded_25 rfl ?_
      exact xr_i C hA hZ hr hlocks (xnarZ (Or.inl rfl)).1 dX6_hasEnded_26 (Nat.le_of_ble_eq_true rfl) (Nat.le_of_ble_eq_true rfl) hw1 ⟨_, rfl, (by decide), h⟩
    · replace h := h.2 z3
      refine xi_iconst C (v := 1) dX6_hasEnded_21 rfl ?_
      refine xi_goto C 26 dX6_hasEnded_22 (by decide) ?_
      exact xr_i C hA hZ hr hlocks (xnarZ (Or.inr rfl)).1 dX6_hasEnded_26 (Nat.le_of_ble_eq_true rfl) (Nat.le_of_ble_eq_true rfl) hw1 ⟨_, rfl, (by decide), h⟩
set_option maxRecDepth 100000 in
set_option maxHeartbeats 4000000 in
theorem c_X6_judge (l : Launch) (D : va_G) (ca : Nat → ClassId) (ad : Nat → Nat) (tF : Nat)  (S : xS) (Q : Int → xS → Prop)  (h : w_X6_judge  S Q) : xM l yX6_judge (xws yX6_judge cX6_judge 1 (some .char)) ({ frames := 2, cells := 0, slots := 0, locals := 40 }) (gC D ca ad tF) [.ref (ad 2)] S (xQi Q) 0 0 := by
  refine xm_of RX6 rfl (by decide +kernel) (Nat.le_of_ble_eq_true rfl) ?_
  intro p e s m args below meth c A Z C hA hZ hr hlocks hw
  unfold w_X6_judge at h
  show xV (gC D ca ad tF) p l e ({ frames := 2, cells := 0, slots := 0, locals := 40 }) s m args below meth c A 1 Z 0 0 0 [(0, .ref (ad 2))] [] S
  refine xi_aload_n C 0 dX6_judge_0 rfl rfl ?_
  refine xi_getI C xK_X6 (q := 2) (r := 0) rfl 13 (by decide) (ki := 13) rfl xl_X6_65 rfl dX6_judge_1 ?_
  refine xi_bipush C (v := 45) dX6_judge_4 (by decide +kernel) ?_
  refine xi_icmp_eq C 12 (xval.i (q := 2) (i := 13) hw (by decide) rfl) (by decide) dX6_judge_6 (by decide) (fun z1 => ?_) (fun z1 => ?_)
  · replace h := h.1 z1
    refine xi_aload_n C 0 dX6_judge_12 rfl rfl ?_
    refine xi_getI C xK_X6 (q := 2) (r := 0) rfl 10 (by decide) (ki := 10) rfl xl_X6_53 rfl dX6_judge_13 ?_
    refine xi_bipush C (v := 104) dX6_judge_16 (by decide +kernel) ?_
    refine xi_icmp_eq C 46 (xval.i (q := 2) (i := 10) hw (by decide) rfl) (by decide) dX6_judge_18 (by decide) (fun z2 => ?_) (fun z2 => ?_)
    · replace h := h.1 z2
      refine xi_bipush C (v := 63) dX6_judge_46 (by decide +kernel) ?_
      exact xr_i C hA hZ hr hlocks (xnarC (by decide)).1 dX6_judge_48 (Nat.le_of_ble_eq_true rfl) (Nat.le_of_ble_eq_true rfl) hw ⟨_, rfl, (by decide), h⟩
    · replace h := h.2 z2
      refine xi_aload_n C 0 dX6_judge_21 rfl rfl ?_
      refine xc_Vi C hw (c_X6_hasEnded l D ca ad tF S _ h) xk_X6_hasEnded xv_X6_hasEnded xl_X6_110 ⟨Nat.le_of_ble_eq_true rfl, Nat.le_of_ble_eq_true rfl⟩ xK_X6 (q := 2) rfl rfl rfl (Nat.le_of_ble_eq_true rfl) ⟨Nat.le_of_ble_eq_true rfl, Nat.le_of_ble_eq_true rfl⟩ dX6_judge_22 (fun r22 S22 h_r22 h hw3 => ?_)
      refine xi_if_eq C 46 h_r22 dX6_judge_25 (by decide) (fun z4 => ?_) (fun z4 => ?_)
      · replace h := h.1 z4
        refine xi_bipush C (v := 63) dX6_judge_46 (by decide +kernel) ?_
        exact xr_i C hA hZ hr hlocks (xnarC (by decide)).1 dX6_judge_48 (Nat.le_of_ble_eq_true rfl) (Nat.le_of_ble_eq_true rfl) hw3 ⟨_, rfl, (by decide), h⟩
      · replace h := h.2 z4
        refine xi_aload_n C 0 dX6_judge_28 rfl rfl ?_
        refine xi_getR C xK_X6 (q := 2) (r := 4) rfl 1 (by decide) (ki := 1) rfl xl_X6_22 rfl dX6_judge_29 ?_
        refine xi_getIN C xK_X1 (q := 4) (r := 0) rfl 0 (by decide) (ki := 0) rfl xn_X6_114 rfl dX6_judge_32 ?_
        refine xi_sipush C (v := 2000) dX6_judge_35 (by decide +kernel) ?_
        refine xi_icmp_ge C 46 (xval.i (q := 4) (i := 0) hw3 (by decide) rfl) (by decide) dX6_judge_38 (by decide) (fun z5 => ?_) (fun z5 => ?_)
        · replace h := h.1 z5
          refine xi_bipush C (v := 63) dX6_judge_46 (by decide +kernel) ?_
          exact xr_i C hA hZ hr hlocks (xnarC (by decide)).1 dX6_judge_48 (Nat.le_of_ble_eq_true rfl) (Nat.le_of_ble_eq_true rfl) hw3 ⟨_, rfl, (by decide), h⟩
        · replace h := h.2 z5
          refine xi_bipush C (v := 110) dX6_judge_41 (by decide +kernel) ?_
          refine xi_goto C 48 dX6_judge_43 (by decide) ?_
          exact xr_i C hA hZ hr hlocks (xnarC (by decide)).1 dX6_judge_48 (Nat.le_of_ble_eq_true rfl) (Nat.le_of_ble_eq_true rfl) hw3 ⟨_, rfl, (by decide), h⟩
  · replace h := h.2 z1
    refine xi_bipush C (v := 102) dX6_judge_9 (by decide +kernel) ?_
    exact xr_i C hA hZ hr hlocks (xnarC (by decide)).1 dX6_judge_11 (Nat.le_of_ble_eq_true rfl) (Nat.le_of_ble_eq_true rfl) hw ⟨_, rfl, (by decide), h⟩
set_option maxRecDepth 100000 in
set_option maxHeartbeats 4000000 in
theorem c_X4_isPrivateStep (l : Launch) (D : va_G) (ca : Nat → ClassId) (ad : Nat → Nat) (tF : Nat) (a1 : Int) (a2 : Int) (S : xS) (Q : Int → xS → Prop) (h_a1 : xR a1) (h_a2 : xR a2) (h : w_X4_isPrivateStep a1 a2 S Q) : xM l yX4_isPrivateStep (xws yX4_isPrivateStep cX4_isPrivateStep 3 (some .boolean)) ({ frames := 1, cells := 0, slots := 0, locals := 22 }) (gC D ca ad tF) [.ref (ad 1), .int (iN a1), .int (iN a2)] S (xQi Q) 0 0 := by
  refine xm_of RX4 rfl (by decide +kernel) (Nat.le_of_ble_eq_true rfl) ?_
  intro p e s m args below meth c A Z C hA hZ hr hlocks hw
  unfold w_X4_isPrivateStep at h
  show xV (gC D ca ad tF) p l e ({ frames := 1, cells := 0, slots := 0, locals := 22 }) s m args below meth c A 3 Z 0 0 0 [(0, .ref (ad 1)), (1, .int (iN a1)), (2, .int (iN a2))] [] S
  refine xi_aload_n C 0 dX4_isPrivateStep_0 rfl rfl ?_
  refine xi_getR C xK_X4 (q := 1) (r := 13) rfl 4 (by decide) (ki := 4) rfl xl_X4_21 rfl dX4_isPrivateStep_1 ?_
  refine xi_iload_n C 2 dX4_isPrivateStep_4 rfl rfl ?_
  obtain ⟨hc1, h⟩ := h
  refine xi_caload C (q := 13) rfl (by decide) hc1 dX4_isPrivateStep_5 ?_
  refine xi_bipush C (v := 107) dX4_isPrivateStep_6 (by decide +kernel) ?_
  refine xi_icmp_ne C 13 (xval.i (q := 13) (i := a2) hw hc1.1 rfl) (by decide) dX4_isPrivateStep_8 (by decide) (fun z2 => ?_) (fun z2 => ?_)
  · replace h := h.1 z2
    refine xi_aload_n C 0 dX4_isPrivateStep_13 rfl rfl ?_
    refine xi_getR C xK_X4 (q := 1) (r := 13) rfl 4 (by decide) (ki := 4) rfl xl_X4_21 rfl dX4_isPrivateStep_14 ?_
    refine xi_iload_n C 2 dX4_isPrivateStep_17 rfl rfl ?_
    refine xi_caload C (q := 13) rfl (by decide) hc1 dX4_isPrivateStep_18 ?_
    refine xi_bipush C (v := 97) dX4_isPrivateStep_19 (by decide +kernel) ?_
    refine xi_icmp_eq C 49 (xval.i (q := 13) (i := a2) hw hc1.1 rfl) (by decide) dX4_isPrivateStep_21 (by decide) (fun z3 => ?_) (fun z3 => ?_)
    · replace h := h.1 z3
      refine xi_iconst C (v := 0) dX4_isPrivateStep_49 rfl ?_
      exact xr_i C hA hZ hr hlocks (xnarZ (Or.inl rfl)).1 dX4_isPrivateStep_50 (Nat.le_of_ble_eq_true rfl) (Nat.le_of_ble_eq_true rfl) hw ⟨_, rfl, (by decide), h⟩
    · replace h := h.2 z3
      refine xi_aload_n C 0 dX4_isPrivateStep_24 rfl rfl ?_
      refine xi_iload_n C 2 dX4_isPrivateStep_25 rfl rfl ?_
      refine xc_Vi C hw (c_X4_isChannelStep l D ca ad tF a2 S _ h_a2 h) xk_X4_isChannelStep xv_X4_isChannelStep xl_X4_78 ⟨Nat.le_of_ble_eq_true rfl, Nat.le_of_ble_eq_true rfl⟩ xK_X4 (q := 1) rfl rfl rfl (Nat.le_of_ble_eq_true rfl) ⟨Nat.le_of_ble_eq_true rfl, Nat.le_of_ble_eq_true rfl⟩ dX4_isPrivateStep_26 (fun r26 S26 h_r26 h hw4 => ?_)
      refine xi_if_ne C 49 h_r26 dX4_isPrivateStep_29 (by decide) (fun z5 => ?_) (fun z5 => ?_)
      · replace h := h.1 z5
        refine xi_iconst C (v := 0) dX4_isPrivateStep_49 rfl ?_
        exact xr_i C hA hZ hr hlocks (xnarZ (Or.inl rfl)).1 dX4_isPrivateStep_50 (Nat.le_of_ble_eq_true rfl) (Nat.le_of_ble_eq_true rfl) hw4 ⟨_, rfl, (by decide), h⟩
      · replace h := h.2 z5
        refine xi_iload_n C 1 dX4_isPrivateStep_32 rfl rfl ?_
        refine xi_aload_n C 0 dX4_isPrivateStep_33 rfl rfl ?_
        refine xi_getR C xK_X4 (q := 1) (r := 14) rfl 5 (by decide) (ki := 5) rfl xl_X4_25 rfl dX4_isPrivateStep_34 ?_
        refine xi_iload_n C 2 dX4_isPrivateStep_37 rfl rfl ?_
        refine xi_iaload C (q := 14) rfl (by decide) hc1 dX4_isPrivateStep_38 ?_
        refine xc_Si C hw4 (c_X4_isOwn l D ca ad tF a1 (S26 14 a2) S26 _ h_a1 (xval.i (q := 14) (i := a2) hw4 hc1.1 rfl) h) xk_X4_isOwn xs_X4_isOwn xl_X4_49 ⟨Nat.le_of_ble_eq_true rfl, Nat.le_of_ble_eq_true rfl⟩ rfl rfl (Nat.le_of_ble_eq_true rfl) ⟨Nat.le_of_ble_eq_true rfl, Nat.le_of_ble_eq_true rfl⟩ dX4_isPrivateStep_39 (fun r39 S39 h_r39 h hw6 => ?_)
        refine xi_if_eq C 49 h_r39 dX4_isPrivateStep_42 (by decide) (fun z7 => ?_) (fun z7 => ?_)
        · replace h := h.1 z7
          refine xi_iconst C (v := 0) dX4_isPrivateStep_49 rfl ?_
          exact xr_i C hA hZ hr hlocks (xnarZ (Or.inl rfl)).1 dX4_isPrivateStep_50 (Nat.le_of_ble_eq_true rfl) (Nat.le_of_ble_eq_true rfl) hw6 ⟨_, rfl, (by decide), h⟩
        · replace h := h.2 z7
          refine xi_iconst C (v := 1) dX4_isPrivateStep_45 rfl ?_
          refine xi_goto C 50 dX4_isPrivateStep_46 (by decide) ?_
          exact xr_i C hA hZ hr hlocks (xnarZ (Or.inr rfl)).1 dX4_isPrivateStep_50 (Nat.le_of_ble_eq_true rfl) (Nat.le_of_ble_eq_true rfl) hw6 ⟨_, rfl, (by decide), h⟩
  · replace h := h.2 z2
    refine xi_iconst C (v := 1) dX4_isPrivateStep_11 rfl ?_
    exact xr_i C hA hZ hr hlocks (xnarZ (Or.inr rfl)).1 dX4_isPrivateStep_12 (Nat.le_of_ble_eq_true rfl) (Nat.le_of_ble_eq_true rfl) hw ⟨_, rfl, (by decide), h⟩
set_option maxRecDepth 100000 in
set_option maxHeartbeats 4000000 in
theorem c_X4_isPrivate (l : Launch) (D : va_G) (ca : Nat → ClassId) (ad : Nat → Nat) (tF : Nat) (a1 : Int) (a2 : Int) (S : xS) (Q : Int → xS → Prop) (h_a1 : xR a1) (h_a2 : xR a2) (h : w_X4_isPrivate a1 a2 S Q) : xM l yX4_isPrivate (xws yX4_isPrivate cX4_isPrivate 5 (some .boolean)) ({ frames := 2, cells := 0, slots := 0, locals := 44 }) (gC D ca ad tF) [.ref (ad 1), .int (iN a1), .int (iN a2)] S (xQi Q) 0 0 := by
  refine xm_of RX4 rfl (by decide +kernel) (Nat.le_of_ble_eq_true rfl) ?_
  intro p e s m args below meth c A Z C hA hZ hr hlocks hw
  unfold w_X4_isPrivate at h
  show xV (gC D ca ad tF) p l e ({ frames := 2, cells := 0, slots := 0, locals := 44 }) s m args below meth c A 5 Z 0 0 0 [(0, .ref (ad 1)), (1, .int (iN a1)), (2, .int (iN a2))] [] S
  refine xi_aload_n C 0 dX4_isPrivate_0 rfl rfl ?_
  refine xi_iload_n C 1 dX4_isPrivate_1 rfl rfl ?_
  refine xc_Vi C hw (c_X4_isWatched l D ca ad tF a1 S _ h_a1 h) xk_X4_isWatched xv_X4_isWatched xl_X4_85 ⟨Nat.le_of_ble_eq_true rfl, Nat.le_of_ble_eq_true rfl⟩ xK_X4 (q := 1) rfl rfl rfl (Nat.le_of_ble_eq_true rfl) ⟨Nat.le_of_ble_eq_true rfl, Nat.le_of_ble_eq_true rfl⟩ dX4_isPrivate_2 (fun r2 S2 h_r2 h hw1 => ?_)
  refine xi_if_eq C 10 h_r2 dX4_isPrivate_5 (by decide) (fun z2 => ?_) (fun z2 => ?_)
  · replace h := h.1 z2
    refine xi_iconst C (v := 0) dX4_isPrivate_10 rfl ?_
    refine xi_istore_n C (L' := [(3, .int (iN 0)), (0, .ref (ad 1)), (1, .int (iN a1)), (2, .int (iN a2))]) dX4_isPrivate_11 rfl (by decide) rfl ?_
    refine xi_sub [1, 2, 3, 0] rfl (xW1 (fun v3_12 S12 => xR v3_12 → xval (gC D ca ad tF) S12 → xV (gC D ca ad tF) p l e ({ frames := 2, cells := 0, slots := 0, locals := 44 }) s m args below meth c A 5 Z 0 0 12 [(0, .ref (ad 1)), (1, .int (iN a1)), (2, .int (iN a2)), (3, .int (iN v3_12))] [] S12) h (fun k12 hk12 v3_12 S12 h h_v3_12 hw12 => ?_) (by decide) hw1)
    unfold w_X4_isPrivate_L12 at h
    refine xi_iload_n C 3 dX4_isPrivate_12 rfl rfl ?_
    refine xi_aload_n C 0 dX4_isPrivate_13 rfl rfl ?_
    refine xi_getR C xK_X4 (q := 1) (r := 10) rfl 1 (by decide) (ki := 1) rfl xl_X4_9 rfl dX4_isPrivate_14 ?_
    refine xi_iload_n C 1 dX4_isPrivate_17 rfl rfl ?_
    obtain ⟨hc3, h⟩ := h
    refine xi_iaload C (q := 10) rfl (by decide) hc3 dX4_isPrivate_18 ?_
    refine xi_icmp_ge C 58 h_v3_12 (xval.i (q := 10) (i := a1) hw12 hc3.1 rfl) dX4_isPrivate_19 (by decide) (fun z4 => ?_) (fun z4 => ?_)
    · replace h := h.1 z4
      refine xi_iconst C (v := 1) dX4_isPrivate_58 rfl ?_
      exact xr_i C hA hZ hr hlocks (xnarZ (Or.inr rfl)).1 dX4_isPrivate_59 (Nat.le_of_ble_eq_true rfl) (Nat.le_of_ble_eq_true rfl) hw12 ⟨_, rfl, (by decide), h⟩
    · replace h := h.2 z4
      refine xi_iload_n C 1 dX4_isPrivate_22 rfl rfl ?_
      refine xi_iload_n C 3 dX4_isPrivate_23 rfl rfl ?_
      refine xc_Si C hw12 (c_X4_stepAt l D ca ad tF a1 v3_12 S12 _ h_a1 h_v3_12 h) xk_X4_stepAt xs_X4_stepAt xl_X4_67 ⟨Nat.le_of_ble_eq_true rfl, Nat.le_of_ble_eq_true rfl⟩ rfl rfl (Nat.le_of_ble_eq_true rfl) ⟨Nat.le_of_ble_eq_true rfl, Nat.le_of_ble_eq_true rfl⟩ dX4_isPrivate_24 (fun r24 S24 h_r24 h hw5 => ?_)
      refine xi_istore C (L' := [(4, .int (iN r24)), (0, .ref (ad 1)), (1, .int (iN a1)), (2, .int (iN a2)), (3, .int (iN v3_12))]) dX4_isPrivate_27 (by decide) rfl ?_
      refine xi_aload_n C 1 dX4_isPrivate_29 rfl rfl ?_
      refine xi_getR C xK_X4 (q := 1) (r := 11) rfl 2 (by decide) (ki := 2) rfl xl_X4_15 rfl dX4_isPrivate_30 ?_
      refine xi_iload C 0 dX4_isPrivate_33 rfl ?_
      obtain ⟨hc6, h⟩ := h
      refine xi_iaload C (q := 11) rfl (by decide) hc6 dX4_isPrivate_35 ?_
      refine xi_iload_n C 3 dX4_isPrivate_36 rfl rfl ?_
      refine xi_icmp_ne C 52 (xval.i (q := 11) (i := r24) hw5 hc6.1 rfl) h_a2 dX4_isPrivate_37 (by decide) (fun z7 => ?_) (fun z7 => ?_)
      · replace h := h.1 z7
        refine xi_iinc C (L' := [(3, .int (iN (v3_12 + 1))), (4, .int (iN r24)), (0, .ref (ad 1)), (1, .int (iN a1)), (2, .int (iN a2))]) 4 dX4_isPrivate_52 rfl (by decide) rfl ?_
        refine xi_goto C 12 dX4_isPrivate_55 (by decide) ?_
        obtain ⟨hc8, h⟩ := h
        exact xi_sub [2, 3, 4, 0] rfl (hk12 (v3_12 + 1) S24 h hc8 hw5)
      · replace h := h.2 z7
        refine xi_aload_n C 1 dX4_isPrivate_40 rfl rfl ?_
        refine xi_iload_n C 2 dX4_isPrivate_41 rfl rfl ?_
        refine xi_iload C 0 dX4_isPrivate_42 rfl ?_
        refine xc_Vi C hw5 (c_X4_isPrivateStep l D ca ad tF a1 r24 S24 _ h_a1 h_r24 h) xk_X4_isPrivateStep xv_X4_isPrivateStep xl_X4_91 ⟨Nat.le_of_ble_eq_true rfl, Nat.le_of_ble_eq_true rfl⟩ xK_X4 (q := 1) rfl rfl rfl (Nat.le_of_ble_eq_true rfl) ⟨Nat.le_of_ble_eq_true rfl, Nat.le_of_ble_eq_true rfl⟩ dX4_isPrivate_44 (fun r44 S44 h_r44 h hw9 => ?_)
        refine xi_if_ne C 52 h_r44 dX4_isPrivate_47 (by decide) (fun z10 => ?_) (fun z10 => ?_)
        · replace h := h.1 z10
          refine xi_iinc C (L' := [(3, .int (iN (v3_12 + 1))), (4, .int (iN r24)), (0, .ref (ad 1)), (1, .int (iN a1)), (2, .int (iN a2))]) 4 dX4_isPrivate_52 rfl (by decide) rfl ?_
          refine xi_goto C 12 dX4_isPrivate_55 (by decide) ?_
          obtain ⟨hc11, h⟩ := h
          exact xi_sub [2, 3, 4, 0] rfl (hk12 (v3_12 + 1) S44 h hc11 hw9)
        · replace h := h.2 z10
          refine xi_iconst C (v := 0) dX4_isPrivate_50 rfl ?_
          exact xr_i C hA hZ hr hlocks (xnarZ (Or.inl rfl)).1 dX4_isPrivate_51 (Nat.le_of_ble_eq_true rfl) (Nat.le_of_ble_eq_true rfl) hw9 ⟨_, rfl, (by decide), h⟩
  · replace h := h.2 z2
    refine xi_iconst C (v := 0) dX4_isPrivate_8 rfl ?_
    exact xr_i C hA hZ hr hlocks (xnarZ (Or.inl rfl)).1 dX4_isPrivate_9 (Nat.le_of_ble_eq_true rfl) (Nat.le_of_ble_eq_true rfl) hw1 ⟨_, rfl, (by decide), h⟩
set_option maxRecDepth 100000 in
set_option maxHeartbeats 4000000 in
theorem c_X3_leaderOf (l : Launch) (D : va_G) (ca : Nat → ClassId) (ad : Nat → Nat) (tF : Nat) (a0 : Int) (S : xS) (Q : Int → xS → Prop) (h_a0 : xR a0) (h : w_X3_leaderOf a0 S Q) : xM l yX3_leaderOf (xws yX3_leaderOf cX3_leaderOf 1 (some .int)) ({ frames := 1, cells := 0, slots := 0, locals := 20 }) (gC D ca ad tF) [.int (iN a0)] S (xQi Q) 0 0 := by
  refine xm_of RX3 rfl (by decide +kernel) (Nat.le_of_ble_eq_true rfl) ?_
  intro p e s m args below meth c A Z C hA hZ hr hlocks hw
  unfold w_X3_leaderOf at h
  show xV (gC D ca ad tF) p l e ({ frames := 1, cells := 0, slots := 0, locals := 20 }) s m args below meth c A 1 Z 0 0 0 [(0, .int (iN a0))] [] S
  refine xi_iload_n C 0 dX3_leaderOf_0 rfl rfl ?_
  refine xc_Si C hw (c_X3_leadOf l D ca ad tF a0 S _ h_a0 h) xk_X3_leadOf xs_X3_leadOf xl_X3_19 ⟨Nat.le_of_ble_eq_true rfl, Nat.le_of_ble_eq_true rfl⟩ rfl rfl (Nat.le_of_ble_eq_true rfl) ⟨Nat.le_of_ble_eq_true rfl, Nat.le_of_ble_eq_true rfl⟩ dX3_leaderOf_1 (fun r1 S1 h_r1 h hw1 => ?_)
  refine xc_Si C hw1 (c_X4_processOf l D ca ad tF r1 S1 _ h_r1 h) xk_X4_processOf xs_X4_processOf xl_X3_23 ⟨Nat.le_of_ble_eq_true rfl, Nat.le_of_ble_eq_true rfl⟩ rfl rfl (Nat.le_of_ble_eq_true rfl) ⟨Nat.le_of_ble_eq_true rfl, Nat.le_of_ble_eq_true rfl⟩ dX3_leaderOf_4 (fun r4 S4 h_r4 h hw2 => ?_)
  exact xr_i C hA hZ hr hlocks rfl dX3_leaderOf_7 (Nat.le_of_ble_eq_true rfl) (Nat.le_of_ble_eq_true rfl) hw2 ⟨_, rfl, h_r4, h⟩
set_option maxRecDepth 100000 in
set_option maxHeartbeats 4000000 in
theorem c_X3_hasLedBy (l : Launch) (D : va_G) (ca : Nat → ClassId) (ad : Nat → Nat) (tF : Nat) (a1 : Int) (S : xS) (Q : Int → xS → Prop) (h_a1 : xR a1) (h : w_X3_hasLedBy a1 S Q) : xM l yX3_hasLedBy (xws yX3_hasLedBy cX3_hasLedBy 3 (some .boolean)) ({ frames := 2, cells := 0, slots := 0, locals := 40 }) (gC D ca ad tF) [.ref (ad 6), .int (iN a1)] S (xQi Q) 0 0 := by
  refine xm_of RX3 rfl (by decide +kernel) (Nat.le_of_ble_eq_true rfl) ?_
  intro p e s m args below meth c A Z C hA hZ hr hlocks hw
  unfold w_X3_hasLedBy at h
  show xV (gC D ca ad tF) p l e ({ frames := 2, cells := 0, slots := 0, locals := 40 }) s m args below meth c A 3 Z 0 0 0 [(0, .ref (ad 6)), (1, .int (iN a1))] [] S
  refine xi_iconst C (v := 0) dX3_hasLedBy_0 rfl ?_
  refine xi_istore_n C (L' := [(2, .int (iN 0)), (0, .ref (ad 6)), (1, .int (iN a1))]) dX3_hasLedBy_1 rfl (by decide) rfl ?_
  refine xi_sub [1, 2, 0] rfl (xW1 (fun v2_2 S2 => xR v2_2 → xval (gC D ca ad tF) S2 → xV (gC D ca ad tF) p l e ({ frames := 2, cells := 0, slots := 0, locals := 40 }) s m args below meth c A 3 Z 0 0 2 [(0, .ref (ad 6)), (1, .int (iN a1)), (2, .int (iN v2_2))] [] S2) h (fun k2 hk2 v2_2 S2 h h_v2_2 hw2 => ?_) (by decide) hw)
  unfold w_X3_hasLedBy_L2 at h
  refine xi_iload_n C 2 dX3_hasLedBy_2 rfl rfl ?_
  refine xi_aload_n C 0 dX3_hasLedBy_3 rfl rfl ?_
  refine xi_getI C xK_X3 (q := 6) (r := 0) rfl 2 (by decide) (ki := 2) rfl xl_X3_34 rfl dX3_hasLedBy_4 ?_
  refine xi_icmp_ge C 31 h_v2_2 (xval.i (q := 6) (i := 2) hw2 (by decide) rfl) dX3_hasLedBy_7 (by decide) (fun z1 => ?_) (fun z1 => ?_)
  · replace h := h.1 z1
    refine xi_iconst C (v := 0) dX3_hasLedBy_31 rfl ?_
    exact xr_i C hA hZ hr hlocks (xnarZ (Or.inl rfl)).1 dX3_hasLedBy_32 (Nat.le_of_ble_eq_true rfl) (Nat.le_of_ble_eq_true rfl) hw2 ⟨_, rfl, (by decide), h⟩
  · replace h := h.2 z1
    refine xi_aload_n C 0 dX3_hasLedBy_10 rfl rfl ?_
    refine xi_getR C xK_X3 (q := 6) (r := 35) rfl 1 (by decide) (ki := 1) rfl xl_X3_9 rfl dX3_hasLedBy_11 ?_
    refine xi_iload_n C 2 dX3_hasLedBy_14 rfl rfl ?_
    obtain ⟨hc2, h⟩ := h
    refine xi_iaload C (q := 35) rfl (by decide) hc2 dX3_hasLedBy_15 ?_
    refine xc_Si C hw2 (c_X3_leaderOf l D ca ad tF (S2 35 v2_2) S2 _ (xval.i (q := 35) (i := v2_2) hw2 hc2.1 rfl) h) xk_X3_leaderOf xs_X3_leaderOf xl_X3_31 ⟨Nat.le_of_ble_eq_true rfl, Nat.le_of_ble_eq_true rfl⟩ rfl rfl (Nat.le_of_ble_eq_true rfl) ⟨Nat.le_of_ble_eq_true rfl, Nat.le_of_ble_eq_true rfl⟩ dX3_hasLedBy_16 (fun r16 S16 h_r16 h hw3 => ?_)
    refine xi_iload_n C 1 dX3_hasLedBy_19 rfl rfl ?_
    refine xi_icmp_ne C 25 h_r16 h_a1 dX3_hasLedBy_20 (by decide) (fun z4 => ?_) (fun z4 => ?_)
    · replace h := h.1 z4
      refine xi_iinc C (L' := [(2, .int (iN (v2_2 + 1))), (0, .ref (ad 6)), (1, .int (iN a1))]) 2 dX3_hasLedBy_25 rfl (by decide) rfl ?_
      refine xi_goto C 2 dX3_hasLedBy_28 (by decide) ?_
      obtain ⟨hc5, h⟩ := h
      exact xi_sub [1, 2, 0] rfl (hk2 (v2_2 + 1) S16 h hc5 hw3)
    · replace h := h.2 z4
      refine xi_iconst C (v := 1) dX3_hasLedBy_23 rfl ?_
      exact xr_i C hA hZ hr hlocks (xnarZ (Or.inr rfl)).1 dX3_hasLedBy_24 (Nat.le_of_ble_eq_true rfl) (Nat.le_of_ble_eq_true rfl) hw3 ⟨_, rfl, (by decide), h⟩
set_option maxRecDepth 100000 in
set_option maxHeartbeats 4000000 in
theorem c_X6_leadsToNewAlone (l : Launch) (D : va_G) (ca : Nat → ClassId) (ad : Nat → Nat) (tF : Nat) (a1 : Int) (S : xS) (Q : Int → xS → Prop) (h_a1 : xR a1) (h : w_X6_leadsToNewAlone a1 S Q) : xM l yX6_leadsToNewAlone (xws yX6_leadsToNewAlone cX6_leadsToNewAlone 4 (some .boolean)) ({ frames := 3, cells := 0, slots := 0, locals := 102 }) (gC D ca ad tF) [.ref (ad 2), .int (iN a1)] S (xQi Q) 0 0 := by
  refine xm_of RX6 rfl (by decide +kernel) (Nat.le_of_ble_eq_true rfl) ?_
  intro p e s m args below meth c A Z C hA hZ hr hlocks hw
  unfold w_X6_leadsToNewAlone at h
  show xV (gC D ca ad tF) p l e ({ frames := 3, cells := 0, slots := 0, locals := 102 }) s m args below meth c A 4 Z 0 0 0 [(0, .ref (ad 2)), (1, .int (iN a1))] [] S
  refine xi_iconst C (v := 0) dX6_leadsToNewAlone_0 rfl ?_
  refine xi_istore_n C (L' := [(2, .int (iN 0)), (0, .ref (ad 2)), (1, .int (iN a1))]) dX6_leadsToNewAlone_1 rfl (by decide) rfl ?_
  refine xi_sub [1, 2, 0] rfl (xW1 (fun v2_2 S2 => xR v2_2 → xval (gC D ca ad tF) S2 → xV (gC D ca ad tF) p l e ({ frames := 3, cells := 0, slots := 0, locals := 102 }) s m args below meth c A 4 Z 0 0 2 [(0, .ref (ad 2)), (1, .int (iN a1)), (2, .int (iN v2_2))] [] S2) h (fun k2 hk2 v2_2 S2 h h_v2_2 hw2 => ?_) (by decide) hw)
  unfold w_X6_leadsToNewAlone_L2 at h
  refine xi_iload_n C 2 dX6_leadsToNewAlone_2 rfl rfl ?_
  refine xi_aload_n C 0 dX6_leadsToNewAlone_3 rfl rfl ?_
  refine xi_getR C xK_X6 (q := 2) (r := 6) rfl 3 (by decide) (ki := 3) rfl xl_X6_35 rfl dX6_leadsToNewAlone_4 ?_
  refine xi_getIN C xK_X3 (q := 6) (r := 0) rfl 2 (by decide) (ki := 2) rfl xn_X6_127 rfl dX6_leadsToNewAlone_7 ?_
  refine xi_icmp_ge C 62 h_v2_2 (xval.i (q := 6) (i := 2) hw2 (by decide) rfl) dX6_leadsToNewAlone_10 (by decide) (fun z1 => ?_) (fun z1 => ?_)
  · replace h := h.1 z1
    refine xi_iconst C (v := 1) dX6_leadsToNewAlone_62 rfl ?_
    exact xr_i C hA hZ hr hlocks (xnarZ (Or.inr rfl)).1 dX6_leadsToNewAlone_63 (Nat.le_of_ble_eq_true rfl) (Nat.le_of_ble_eq_true rfl) hw2 ⟨_, rfl, (by decide), h⟩
  · replace h := h.2 z1
    refine xi_aload_n C 0 dX6_leadsToNewAlone_13 rfl rfl ?_
    refine xi_getR C xK_X6 (q := 2) (r := 6) rfl 3 (by decide) (ki := 3) rfl xl_X6_35 rfl dX6_leadsToNewAlone_14 ?_
    refine xi_getRN C xK_X3 (q := 6) (r := 35) rfl 1 (by decide) (ki := 1) rfl xn_X6_140 rfl dX6_leadsToNewAlone_17 ?_
    refine xi_iload_n C 2 dX6_leadsToNewAlone_20 rfl rfl ?_
    obtain ⟨hc2, h⟩ := h
    refine xi_iaload C (q := 35) rfl (by decide) hc2 dX6_leadsToNewAlone_21 ?_
    refine xi_istore_n C (L' := [(3, .int (iN (S2 35 v2_2))), (0, .ref (ad 2)), (1, .int (iN a1)), (2, .int (iN v2_2))]) dX6_leadsToNewAlone_22 rfl (by decide) rfl ?_
    refine xi_iload_n C 0 dX6_leadsToNewAlone_23 rfl rfl ?_
    refine xc_Si C hw2 (c_X3_leaderOf l D ca ad tF (S2 35 v2_2) S2 _ (xval.i (q := 35) (i := v2_2) hw2 hc2.1 rfl) h) xk_X3_leaderOf xs_X3_leaderOf xl_X6_143 ⟨Nat.le_of_ble_eq_true rfl, Nat.le_of_ble_eq_true rfl⟩ rfl rfl (Nat.le_of_ble_eq_true rfl) ⟨Nat.le_of_ble_eq_true rfl, Nat.le_of_ble_eq_true rfl⟩ dX6_leadsToNewAlone_24 (fun r24 S24 h_r24 h hw3 => ?_)
    refine xi_iload_n C 2 dX6_leadsToNewAlone_27 rfl rfl ?_
    refine xi_icmp_ne C 56 h_r24 h_a1 dX6_leadsToNewAlone_28 (by decide) (fun z4 => ?_) (fun z4 => ?_)
    · replace h := h.1 z4
      refine xi_iinc C (L' := [(2, .int (iN (v2_2 + 1))), (3, .int (iN (S2 35 v2_2))), (0, .ref (ad 2)), (1, .int (iN a1))]) 3 dX6_leadsToNewAlone_56 rfl (by decide) rfl ?_
      refine xi_goto C 2 dX6_leadsToNewAlone_59 (by decide) ?_
      obtain ⟨hc5, h⟩ := h
      exact xi_sub [2, 3, 0] rfl (hk2 (v2_2 + 1) S24 h hc5 hw3)
    · replace h := h.2 z4
      refine xi_aload_n C 1 dX6_leadsToNewAlone_31 rfl rfl ?_
      refine xi_iload_n C 0 dX6_leadsToNewAlone_32 rfl rfl ?_
      refine xc_Vv C hw3 (c_X6_goBehind l D ca ad tF (S2 35 v2_2) S24 _ (xval.i (q := 35) (i := v2_2) hw2 hc2.1 rfl) h) xk_X6_goBehind xv_X6_goBehind xl_X6_182 ⟨Nat.le_of_ble_eq_true rfl, Nat.le_of_ble_eq_true rfl⟩ xK_X6 (q := 2) rfl rfl rfl (Nat.le_of_ble_eq_true rfl) ⟨Nat.le_of_ble_eq_true rfl, Nat.le_of_ble_eq_true rfl⟩ dX6_leadsToNewAlone_33 (fun S33 h hw6 => ?_)
      refine xi_aload_n C 1 dX6_leadsToNewAlone_36 rfl rfl ?_
      refine xi_getR C xK_X6 (q := 2) (r := 4) rfl 1 (by decide) (ki := 1) rfl xl_X6_22 rfl dX6_leadsToNewAlone_37 ?_
      refine xi_aload_n C 1 dX6_leadsToNewAlone_40 rfl rfl ?_
      refine xi_getR C xK_X6 (q := 2) (r := 8) rfl 5 (by decide) (ki := 5) rfl xl_X6_46 rfl dX6_leadsToNewAlone_41 ?_
      refine xc_Vj C hw6 (c_X7_pack_n l D ca ad tF S33 _ h) xk_X7_pack xv_X7_pack xl_X6_87 ⟨Nat.le_of_ble_eq_true rfl, Nat.le_of_ble_eq_true rfl⟩ xK_X7 (q := 8) rfl rfl rfl (Nat.le_of_ble_eq_true rfl) ⟨Nat.le_of_ble_eq_true rfl, Nat.le_of_ble_eq_true rfl⟩ dX6_leadsToNewAlone_44 (fun r44 S44 h_r44 h hw7 => ?_)
      refine xc_Vi C hw7 (c_X1_numberFor l D ca ad tF r44 S44 _ h_r44 h) xk_X1_numberFor xv_X1_numberFor xl_X6_185 ⟨Nat.le_of_ble_eq_true rfl, Nat.le_of_ble_eq_true rfl⟩ xK_X1 (q := 4) rfl rfl rfl (Nat.le_of_ble_eq_true rfl) ⟨Nat.le_of_ble_eq_true rfl, Nat.le_of_ble_eq_true rfl⟩ dX6_leadsToNewAlone_47 (fun r47 S47 h_r47 h hw8 => ?_)
      refine xi_iconst C (v := (-1)) dX6_leadsToNewAlone_50 rfl ?_
      refine xi_icmp_eq C 56 h_r47 (by decide) dX6_leadsToNewAlone_51 (by decide) (fun z9 => ?_) (fun z9 => ?_)
      · replace h := h.1 z9
        refine xi_iinc C (L' := [(2, .int (iN (v2_2 + 1))), (3, .int (iN (S2 35 v2_2))), (0, .ref (ad 2)), (1, .int (iN a1))]) 3 dX6_leadsToNewAlone_56 rfl (by decide) rfl ?_
        refine xi_goto C 2 dX6_leadsToNewAlone_59 (by decide) ?_
        obtain ⟨hc10, h⟩ := h
        exact xi_sub [2, 3, 0] rfl (hk2 (v2_2 + 1) S47 h hc10 hw8)
      · replace h := h.2 z9
        refine xi_iconst C (v := 0) dX6_leadsToNewAlone_54 rfl ?_
        exact xr_i C hA hZ hr hlocks (xnarZ (Or.inl rfl)).1 dX6_leadsToNewAlone_55 (Nat.le_of_ble_eq_true rfl) (Nat.le_of_ble_eq_true rfl) hw8 ⟨_, rfl, (by decide), h⟩
set_option maxRecDepth 100000 in
set_option maxHeartbeats 4000000 in
theorem c_X6_processThatGoesAlone (l : Launch) (D : va_G) (ca : Nat → ClassId) (ad : Nat → Nat) (tF : Nat)  (S : xS) (Q : Int → xS → Prop)  (h : w_X6_processThatGoesAlone  S Q) : xM l yX6_processThatGoesAlone (xws yX6_processThatGoesAlone cX6_processThatGoesAlone 3 (some .int)) ({ frames := 4, cells := 0, slots := 0, locals := 125 }) (gC D ca ad tF) [.ref (ad 2)] S (xQi Q) 0 0 := by
  refine xm_of RX6 rfl (by decide +kernel) (Nat.le_of_ble_eq_true rfl) ?_
  intro p e s m args below meth c A Z C hA hZ hr hlocks hw
  unfold w_X6_processThatGoesAlone at h
  show xV (gC D ca ad tF) p l e ({ frames := 4, cells := 0, slots := 0, locals := 125 }) s m args below meth c A 3 Z 0 0 0 [(0, .ref (ad 2))] [] S
  refine xi_iconst C (v := 0) dX6_processThatGoesAlone_0 rfl ?_
  refine xi_istore_n C (L' := [(1, .int (iN 0)), (0, .ref (ad 2))]) dX6_processThatGoesAlone_1 rfl (by decide) rfl ?_
  refine xi_sub [1, 0] rfl (xW1 (fun v1_2 S2 => xR v1_2 → xval (gC D ca ad tF) S2 → xV (gC D ca ad tF) p l e ({ frames := 4, cells := 0, slots := 0, locals := 125 }) s m args below meth c A 3 Z 0 0 2 [(0, .ref (ad 2)), (1, .int (iN v1_2))] [] S2) h (fun k2 hk2 v1_2 S2 h h_v1_2 hw2 => ?_) (by decide) hw)
  unfold w_X6_processThatGoesAlone_L2 at h
  refine xi_iload_n C 1 dX6_processThatGoesAlone_2 rfl rfl ?_
  refine xi_aload_n C 0 dX6_processThatGoesAlone_3 rfl rfl ?_
  refine xi_getR C xK_X6 (q := 2) (r := 1) rfl 0 (by decide) (ki := 0) rfl xl_X6_18 rfl dX6_processThatGoesAlone_4 ?_
  refine xi_getIN C xK_X4 (q := 1) (r := 0) rfl 0 (by decide) (ki := 0) rfl xn_X6_101 rfl dX6_processThatGoesAlone_7 ?_
  refine xi_icmp_ge C 62 h_v1_2 (xval.i (q := 1) (i := 0) hw2 (by decide) rfl) dX6_processThatGoesAlone_10 (by decide) (fun z1 => ?_) (fun z1 => ?_)
  · replace h := h.1 z1
    refine xi_iconst C (v := (-1)) dX6_processThatGoesAlone_62 rfl ?_
    exact xr_i C hA hZ hr hlocks rfl dX6_processThatGoesAlone_63 (Nat.le_of_ble_eq_true rfl) (Nat.le_of_ble_eq_true rfl) hw2 ⟨_, rfl, (by decide), h⟩
  · replace h := h.2 z1
    refine xi_aload_n C 0 dX6_processThatGoesAlone_13 rfl rfl ?_
    refine xi_getR C xK_X6 (q := 2) (r := 1) rfl 0 (by decide) (ki := 0) rfl xl_X6_18 rfl dX6_processThatGoesAlone_14 ?_
    refine xi_iload_n C 1 dX6_processThatGoesAlone_17 rfl rfl ?_
    refine xi_aload_n C 0 dX6_processThatGoesAlone_18 rfl rfl ?_
    refine xi_getR C xK_X6 (q := 2) (r := 7) rfl 4 (by decide) (ki := 4) rfl xl_X6_42 rfl dX6_processThatGoesAlone_19 ?_
    refine xi_getRN C xK_X7 (q := 7) (r := 36) rfl 1 (by decide) (ki := 1) rfl xn_X6_169 rfl dX6_processThatGoesAlone_22 ?_
    refine xi_iload_n C 1 dX6_processThatGoesAlone_25 rfl rfl ?_
    obtain ⟨hc2, h⟩ := h
    refine xi_iaload C (q := 36) rfl (by decide) hc2 dX6_processThatGoesAlone_26 ?_
    refine xc_Vi C hw2 (c_X4_isPrivate l D ca ad tF v1_2 (S2 36 v1_2) S2 _ h_v1_2 (xval.i (q := 36) (i := v1_2) hw2 hc2.1 rfl) h) xk_X4_isPrivate xv_X4_isPrivate xl_X6_172 ⟨Nat.le_of_ble_eq_true rfl, Nat.le_of_ble_eq_true rfl⟩ xK_X4 (q := 1) rfl rfl rfl (Nat.le_of_ble_eq_true rfl) ⟨Nat.le_of_ble_eq_true rfl, Nat.le_of_ble_eq_true rfl⟩ dX6_processThatGoesAlone_27 (fun r27 S27 h_r27 h hw3 => ?_)
    refine xi_istore_n C (L' := [(2, .int (iN r27)), (0, .ref (ad 2)), (1, .int (iN v1_2))]) dX6_processThatGoesAlone_30 rfl (by decide) rfl ?_
    refine xi_iload_n C 0 dX6_processThatGoesAlone_31 rfl rfl ?_
    refine xi_if_eq C 56 h_r27 dX6_processThatGoesAlone_32 (by decide) (fun z4 => ?_) (fun z4 => ?_)
    · replace h := h.1 z4
      refine xi_iinc C (L' := [(1, .int (iN (v1_2 + 1))), (2, .int (iN r27)), (0, .ref (ad 2))]) 2 dX6_processThatGoesAlone_56 rfl (by decide) rfl ?_
      refine xi_goto C 2 dX6_processThatGoesAlone_59 (by decide) ?_
      obtain ⟨hc5, h⟩ := h
      exact xi_sub [2, 0] rfl (hk2 (v1_2 + 1) S27 h hc5 hw3)
    · replace h := h.2 z4
      refine xi_aload_n C 1 dX6_processThatGoesAlone_35 rfl rfl ?_
      refine xi_getR C xK_X6 (q := 2) (r := 6) rfl 3 (by decide) (ki := 3) rfl xl_X6_35 rfl dX6_processThatGoesAlone_36 ?_
      refine xi_iload_n C 2 dX6_processThatGoesAlone_39 rfl rfl ?_
      refine xc_Vi C hw3 (c_X3_hasLedBy l D ca ad tF v1_2 S27 _ h_v1_2 h) xk_X3_hasLedBy xv_X3_hasLedBy xl_X6_175 ⟨Nat.le_of_ble_eq_true rfl, Nat.le_of_ble_eq_true rfl⟩ xK_X3 (q := 6) rfl rfl rfl (Nat.le_of_ble_eq_true rfl) ⟨Nat.le_of_ble_eq_true rfl, Nat.le_of_ble_eq_true rfl⟩ dX6_processThatGoesAlone_40 (fun r40 S40 h_r40 h hw6 => ?_)
      refine xi_if_eq C 56 h_r40 dX6_processThatGoesAlone_43 (by decide) (fun z7 => ?_) (fun z7 => ?_)
      · replace h := h.1 z7
        refine xi_iinc C (L' := [(1, .int (iN (v1_2 + 1))), (2, .int (iN r27)), (0, .ref (ad 2))]) 2 dX6_processThatGoesAlone_56 rfl (by decide) rfl ?_
        refine xi_goto C 2 dX6_processThatGoesAlone_59 (by decide) ?_
        obtain ⟨hc8, h⟩ := h
        exact xi_sub [2, 0] rfl (hk2 (v1_2 + 1) S40 h hc8 hw6)
      · replace h := h.2 z7
        refine xi_aload_n C 1 dX6_processThatGoesAlone_46 rfl rfl ?_
        refine xi_iload_n C 2 dX6_processThatGoesAlone_47 rfl rfl ?_
        refine xc_Vi C hw6 (c_X6_leadsToNewAlone l D ca ad tF v1_2 S40 _ h_v1_2 h) xk_X6_leadsToNewAlone xv_X6_leadsToNewAlone xl_X6_179 ⟨Nat.le_of_ble_eq_true rfl, Nat.le_of_ble_eq_true rfl⟩ xK_X6 (q := 2) rfl rfl rfl (Nat.le_of_ble_eq_true rfl) ⟨Nat.le_of_ble_eq_true rfl, Nat.le_of_ble_eq_true rfl⟩ dX6_processThatGoesAlone_48 (fun r48 S48 h_r48 h hw9 => ?_)
        refine xi_if_eq C 56 h_r48 dX6_processThatGoesAlone_51 (by decide) (fun z10 => ?_) (fun z10 => ?_)
        · replace h := h.1 z10
          refine xi_iinc C (L' := [(1, .int (iN (v1_2 + 1))), (2, .int (iN r27)), (0, .ref (ad 2))]) 2 dX6_processThatGoesAlone_56 rfl (by decide) rfl ?_
          refine xi_goto C 2 dX6_processThatGoesAlone_59 (by decide) ?_
          obtain ⟨hc11, h⟩ := h
          exact xi_sub [2, 0] rfl (hk2 (v1_2 + 1) S48 h hc11 hw9)
        · replace h := h.2 z10
          refine xi_iload_n C 2 dX6_processThatGoesAlone_54 rfl rfl ?_
          exact xr_i C hA hZ hr hlocks rfl dX6_processThatGoesAlone_55 (Nat.le_of_ble_eq_true rfl) (Nat.le_of_ble_eq_true rfl) hw9 ⟨_, rfl, h_v1_2, h⟩
set_option maxRecDepth 100000 in
set_option maxHeartbeats 4000000 in
theorem c_X3_doersOf (l : Launch) (D : va_G) (ca : Nat → ClassId) (ad : Nat → Nat) (tF : Nat) (a0 : Int) (S : xS) (Q : Int → xS → Prop) (h_a0 : xR a0) (h : w_X3_doersOf a0 S Q) : xM l yX3_doersOf (xws yX3_doersOf cX3_doersOf 3 (some .int)) ({ frames := 2, cells := 0, slots := 0, locals := 40 }) (gC D ca ad tF) [.int (iN a0)] S (xQi Q) 0 0 := by
  refine xm_of RX3 rfl (by decide +kernel) (Nat.le_of_ble_eq_true rfl) ?_
  intro p e s m args below meth c A Z C hA hZ hr hlocks hw
  unfold w_X3_doersOf at h
  show xV (gC D ca ad tF) p l e ({ frames := 2, cells := 0, slots := 0, locals := 40 }) s m args below meth c A 3 Z 0 0 0 [(0, .int (iN a0))] [] S
  refine xi_iload_n C 0 dX3_doersOf_0 rfl rfl ?_
  refine xc_Si C hw (c_X3_partnerOf l D ca ad tF a0 S _ h_a0 h) xk_X3_partnerOf xs_X3_partnerOf xl_X3_28 ⟨Nat.le_of_ble_eq_true rfl, Nat.le_of_ble_eq_true rfl⟩ rfl rfl (Nat.le_of_ble_eq_true rfl) ⟨Nat.le_of_ble_eq_true rfl, Nat.le_of_ble_eq_true rfl⟩ dX3_doersOf_1 (fun r1 S1 h_r1 h hw1 => ?_)
  refine xi_istore_n C (L' := [(1, .int (iN r1)), (0, .int (iN a0))]) dX3_doersOf_4 rfl (by decide) rfl ?_
  refine xi_iconst C (v := 1) dX3_doersOf_5 rfl ?_
  refine xi_iload_n C 1 dX3_doersOf_6 rfl rfl ?_
  refine xc_Si C hw1 (c_X3_leaderOf l D ca ad tF a0 S1 _ h_a0 h) xk_X3_leaderOf xs_X3_leaderOf xl_X3_31 ⟨Nat.le_of_ble_eq_true rfl, Nat.le_of_ble_eq_true rfl⟩ rfl rfl (Nat.le_of_ble_eq_true rfl) ⟨Nat.le_of_ble_eq_true rfl, Nat.le_of_ble_eq_true rfl⟩ dX3_doersOf_7 (fun r7 S7 h_r7 h hw2 => ?_)
  obtain ⟨hc3, h⟩ := h
  refine xi_ishl C hc3 dX3_doersOf_10 ?_
  refine xi_istore_n C (L' := [(2, .int (iN (1 * 2 ^ r7.toNat))), (1, .int (iN r1)), (0, .int (iN a0))]) dX3_doersOf_11 rfl (by decide) rfl ?_
  refine xi_iload_n C 1 dX3_doersOf_12 rfl rfl ?_
  refine xi_iconst C (v := (-1)) dX3_doersOf_13 rfl ?_
  refine xi_icmp_ne C 21 h_r1 (by decide) dX3_doersOf_14 (by decide) (fun z4 => ?_) (fun z4 => ?_)
  · replace h := h.1 z4
    refine xi_iload_n C 0 dX3_doersOf_21 rfl rfl ?_
    refine xi_iconst C (v := 1) dX3_doersOf_22 rfl ?_
    refine xi_iload_n C 1 dX3_doersOf_23 rfl rfl ?_
    refine xc_Si C hw2 (c_X4_processOf l D ca ad tF r1 S7 _ h_r1 h) xk_X4_processOf xs_X4_processOf xl_X3_23 ⟨Nat.le_of_ble_eq_true rfl, Nat.le_of_ble_eq_true rfl⟩ rfl rfl (Nat.le_of_ble_eq_true rfl) ⟨Nat.le_of_ble_eq_true rfl, Nat.le_of_ble_eq_true rfl⟩ dX3_doersOf_24 (fun r24 S24 h_r24 h hw5 => ?_)
    obtain ⟨hc6, h⟩ := h
    refine xi_ishl C hc6 dX3_doersOf_27 ?_
    refine xi_ior C dX3_doersOf_28 ?_
    exact xr_i C hA hZ hr hlocks rfl dX3_doersOf_29 (Nat.le_of_ble_eq_true rfl) (Nat.le_of_ble_eq_true rfl) hw5 ⟨_, rfl, (xor32_R _ _), h⟩
  · replace h := h.2 z4
    refine xi_iload_n C 0 dX3_doersOf_17 rfl rfl ?_
    refine xi_goto C 29 dX3_doersOf_18 (by decide) ?_
    obtain ⟨hc7, h⟩ := h
    exact xr_i C hA hZ hr hlocks rfl dX3_doersOf_29 (Nat.le_of_ble_eq_true rfl) (Nat.le_of_ble_eq_true rfl) hw2 ⟨_, rfl, hc7, h⟩
set_option maxRecDepth 100000 in
set_option maxHeartbeats 4000000 in
theorem c_X2_closeState (l : Launch) (D : va_G) (ca : Nat → ClassId) (ad : Nat → Nat) (tF : Nat)  (S : xS) (Q : xS → Prop)  (h : w_X2_closeState  S Q) : xM l yX2_closeState (xws yX2_closeState cX2_closeState 1 (none)) ({ frames := 0, cells := 0, slots := 0, locals := 0 }) (gC D ca ad tF) [.ref (ad 5)] S (xQv Q) 0 0 := by
  refine xm_of RX2 rfl (by decide +kernel) (Nat.le_of_ble_eq_true rfl) ?_
  intro p e s m args below meth c A Z C hA hZ hr hlocks hw
  unfold w_X2_closeState at h
  show xV (gC D ca ad tF) p l e ({ frames := 0, cells := 0, slots := 0, locals := 0 }) s m args below meth c A 1 Z 0 0 0 [(0, .ref (ad 5))] [] S
  refine xi_aload_n C 0 dX2_closeState_0 rfl rfl ?_
  refine xi_getI C xK_X2 (q := 5) (r := 0) rfl 0 (by decide) (ki := 0) rfl xl_X2_21 rfl dX2_closeState_1 ?_
  refine xi_sipush C (v := 2000) dX2_closeState_4 (by decide +kernel) ?_
  refine xi_icmp_ge C 43 (xval.i (q := 5) (i := 0) hw (by decide) rfl) (by decide) dX2_closeState_7 (by decide) (fun z1 => ?_) (fun z1 => ?_)
  · replace h := h.1 z1
    exact xr_v C hA hZ hr hlocks dX2_closeState_43 (Nat.le_of_ble_eq_true rfl) (Nat.le_of_ble_eq_true rfl) hw ⟨rfl, h⟩
  · replace h := h.2 z1
    refine xi_aload_n C 0 dX2_closeState_10 rfl rfl ?_
    refine xi_dup C dX2_closeState_11 rfl ?_
    refine xi_getI C xK_X2 (q := 5) (r := 0) rfl 0 (by decide) (ki := 0) rfl xl_X2_21 rfl dX2_closeState_12 ?_
    refine xi_iconst C (v := 1) dX2_closeState_15 rfl ?_
    refine xi_iadd C dX2_closeState_16 ?_
    obtain ⟨hc2, h⟩ := h
    refine xi_putI C xK_X2 (q := 5) (r := 0) rfl 0 (by decide) (ki := 0) rfl xl_X2_21 rfl rfl rfl dX2_closeState_17 ?_
    have hw3 := xval.up (q := 5) (i := 0) (v := (S 5 0) + 1) hw rfl hc2
    refine xi_aload_n C 0 dX2_closeState_20 rfl rfl ?_
    refine xi_getR C xK_X2 (q := 5) (r := 32) rfl 1 (by decide) (ki := 1) rfl xl_X2_9 rfl dX2_closeState_21 ?_
    refine xi_aload_n C 0 dX2_closeState_24 rfl rfl ?_
    refine xi_getI C xK_X2 (q := 5) (r := 0) rfl 0 (by decide) (ki := 0) rfl xl_X2_21 rfl dX2_closeState_25 ?_
    refine xi_aload_n C 0 dX2_closeState_28 rfl rfl ?_
    refine xi_getI C xK_X2 (q := 5) (r := 0) rfl 3 (by decide) (ki := 3) rfl xl_X2_25 rfl dX2_closeState_29 ?_
    obtain ⟨hc4, h⟩ := h
    refine xi_iastore C (q := 32) rfl (by decide) hc4 dX2_closeState_32 ?_
    have hw5 := xval.up (q := 32) (i := (S 5 0) + 1) (v := S 5 3) hw3 rfl (xval.i (q := 5) (i := 3) hw3 (by decide) rfl)
    refine xi_aload_n C 0 dX2_closeState_33 rfl rfl ?_
    refine xi_getR C xK_X2 (q := 5) (r := 34) rfl 4 (by decide) (ki := 4) rfl xl_X2_18 rfl dX2_closeState_34 ?_
    refine xi_aload_n C 0 dX2_closeState_37 rfl rfl ?_
    refine xi_getI C xK_X2 (q := 5) (r := 0) rfl 0 (by decide) (ki := 0) rfl xl_X2_21 rfl dX2_closeState_38 ?_
    refine xi_iconst C (v := 0) dX2_closeState_41 rfl ?_
    refine xi_iastore C (q := 34) rfl (by decide) hc4 dX2_closeState_42 ?_
    have hw6 := xval.up (q := 34) (i := (S 5 0) + 1) (v := 0) hw5 rfl (by decide)
    exact xr_v C hA hZ hr hlocks dX2_closeState_43 (Nat.le_of_ble_eq_true rfl) (Nat.le_of_ble_eq_true rfl) hw6 ⟨rfl, h⟩
set_option maxRecDepth 100000 in
set_option maxHeartbeats 4000000 in
theorem c_X6_countMoves (l : Launch) (D : va_G) (ca : Nat → ClassId) (ad : Nat → Nat) (tF : Nat) (a1 : Int) (S : xS) (Q : Int → xS → Prop) (h_a1 : xR a1) (h : w_X6_countMoves a1 S Q) : xM l yX6_countMoves (xws yX6_countMoves cX6_countMoves 2 (some .int)) ({ frames := 5, cells := 0, slots := 0, locals := 115 }) (gC D ca ad tF) [.ref (ad 2), .int (iN a1)] S (xQi Q) 0 0 := by
  refine xm_of RX6 rfl (by decide +kernel) (Nat.le_of_ble_eq_true rfl) ?_
  intro p e s m args below meth c A Z C hA hZ hr hlocks hw
  unfold w_X6_countMoves at h
  show xV (gC D ca ad tF) p l e ({ frames := 5, cells := 0, slots := 0, locals := 115 }) s m args below meth c A 2 Z 0 0 0 [(0, .ref (ad 2)), (1, .int (iN a1))] [] S
  refine xi_aload_n C 0 dX6_countMoves_0 rfl rfl ?_
  refine xi_getR C xK_X6 (q := 2) (r := 4) rfl 1 (by decide) (ki := 1) rfl xl_X6_22 rfl dX6_countMoves_1 ?_
  refine xi_getRN C xK_X1 (q := 4) (r := 30) rfl 7 (by decide) (ki := 7) rfl xn_X6_166 rfl dX6_countMoves_4 ?_
  refine xi_iload_n C 1 dX6_countMoves_7 rfl rfl ?_
  obtain ⟨hc1, h⟩ := h
  refine xi_iaload C (q := 30) rfl (by decide) hc1 dX6_countMoves_8 ?_
  refine xi_iconst C (v := (-1)) dX6_countMoves_9 rfl ?_
  refine xi_icmp_ne C 18 (xval.i (q := 30) (i := a1) hw hc1.1 rfl) (by decide) dX6_countMoves_10 (by decide) (fun z2 => ?_) (fun z2 => ?_)
  · replace h := h.1 z2
    refine xi_aload_n C 0 dX6_countMoves_18 rfl rfl ?_
    refine xi_getR C xK_X6 (q := 2) (r := 4) rfl 1 (by decide) (ki := 1) rfl xl_X6_22 rfl dX6_countMoves_19 ?_
    refine xi_getRN C xK_X1 (q := 4) (r := 30) rfl 7 (by decide) (ki := 7) rfl xn_X6_166 rfl dX6_countMoves_22 ?_
    refine xi_iload_n C 1 dX6_countMoves_25 rfl rfl ?_
    refine xi_iaload C (q := 30) rfl (by decide) hc1 dX6_countMoves_26 ?_
    exact xr_i C hA hZ hr hlocks rfl dX6_countMoves_27 (Nat.le_of_ble_eq_true rfl) (Nat.le_of_ble_eq_true rfl) hw ⟨_, rfl, (xval.i (q := 30) (i := a1) hw hc1.1 rfl), h⟩
  · replace h := h.2 z2
    refine xi_aload_n C 0 dX6_countMoves_13 rfl rfl ?_
    refine xi_iload_n C 1 dX6_countMoves_14 rfl rfl ?_
    refine xc_Vv C hw (c_X6_listMoves l D ca ad tF a1 S _ h_a1 h) xk_X6_listMoves xv_X6_listMoves xl_X6_123 ⟨Nat.le_of_ble_eq_true rfl, Nat.le_of_ble_eq_true rfl⟩ xK_X6 (q := 2) rfl rfl rfl (Nat.le_of_ble_eq_true rfl) ⟨Nat.le_of_ble_eq_true rfl, Nat.le_of_ble_eq_true rfl⟩ dX6_countMoves_15 (fun S15 h hw3 => ?_)
    refine xi_aload_n C 0 dX6_countMoves_18 rfl rfl ?_
    refine xi_getR C xK_X6 (q := 2) (r := 4) rfl 1 (by decide) (ki := 1) rfl xl_X6_22 rfl dX6_countMoves_19 ?_
    refine xi_getRN C xK_X1 (q := 4) (r := 30) rfl 7 (by decide) (ki := 7) rfl xn_X6_166 rfl dX6_countMoves_22 ?_
    refine xi_iload_n C 1 dX6_countMoves_25 rfl rfl ?_
    refine xi_iaload C (q := 30) rfl (by decide) hc1 dX6_countMoves_26 ?_
    exact xr_i C hA hZ hr hlocks rfl dX6_countMoves_27 (Nat.le_of_ble_eq_true rfl) (Nat.le_of_ble_eq_true rfl) hw3 ⟨_, rfl, (xval.i (q := 30) (i := a1) hw3 hc1.1 rfl), h⟩
set_option maxRecDepth 100000 in
set_option maxHeartbeats 4000000 in
theorem c_X6_codeBehind (l : Launch) (D : va_G) (ca : Nat → ClassId) (ad : Nat → Nat) (tF : Nat) (a1 : Int) (a2 : Int) (S : xS) (Q : Int → xS → Prop) (h_a1 : xR a1) (h_a2 : xR a2) (h : w_X6_codeBehind a1 a2 S Q) : xM l yX6_codeBehind (xws yX6_codeBehind cX6_codeBehind 3 (some .long)) ({ frames := 5, cells := 0, slots := 0, locals := 115 }) (gC D ca ad tF) [.ref (ad 2), .int (iN a1), .int (iN a2)] S (xQj Q) 0 0 := by
  refine xm_of RX6 rfl (by decide +kernel) (Nat.le_of_ble_eq_true rfl) ?_
  intro p e s m args below meth c A Z C hA hZ hr hlocks hw
  unfold w_X6_codeBehind at h
  show xV (gC D ca ad tF) p l e ({ frames := 5, cells := 0, slots := 0, locals := 115 }) s m args below meth c A 3 Z 0 0 0 [(0, .ref (ad 2)), (1, .int (iN a1)), (2, .int (iN a2))] [] S
  refine xi_aload_n C 0 dX6_codeBehind_0 rfl rfl ?_
  refine xi_iload_n C 1 dX6_codeBehind_1 rfl rfl ?_
  refine xc_Vv C hw (c_X6_listMoves l D ca ad tF a1 S _ h_a1 h) xk_X6_listMoves xv_X6_listMoves xl_X6_123 ⟨Nat.le_of_ble_eq_true rfl, Nat.le_of_ble_eq_true rfl⟩ xK_X6 (q := 2) rfl rfl rfl (Nat.le_of_ble_eq_true rfl) ⟨Nat.le_of_ble_eq_true rfl, Nat.le_of_ble_eq_true rfl⟩ dX6_codeBehind_2 (fun S2 h hw1 => ?_)
  refine xi_aload_n C 0 dX6_codeBehind_5 rfl rfl ?_
  refine xi_getR C xK_X6 (q := 2) (r := 8) rfl 5 (by decide) (ki := 5) rfl xl_X6_46 rfl dX6_codeBehind_6 ?_
  refine xi_aload_n C 0 dX6_codeBehind_9 rfl rfl ?_
  refine xi_getR C xK_X6 (q := 2) (r := 7) rfl 4 (by decide) (ki := 4) rfl xl_X6_42 rfl dX6_codeBehind_10 ?_
  refine xc_Vv C hw1 (c_X7_copyFrom_nh l D ca ad tF S2 _ h) xk_X7_copyFrom xv_X7_copyFrom xl_X6_198 ⟨Nat.le_of_ble_eq_true rfl, Nat.le_of_ble_eq_true rfl⟩ xK_X7 (q := 8) rfl rfl rfl (Nat.le_of_ble_eq_true rfl) ⟨Nat.le_of_ble_eq_true rfl, Nat.le_of_ble_eq_true rfl⟩ dX6_codeBehind_13 (fun S13 h hw2 => ?_)
  refine xi_aload_n C 0 dX6_codeBehind_16 rfl rfl ?_
  refine xi_getR C xK_X6 (q := 2) (r := 8) rfl 5 (by decide) (ki := 5) rfl xl_X6_46 rfl dX6_codeBehind_17 ?_
  refine xi_aload_n C 0 dX6_codeBehind_20 rfl rfl ?_
  refine xi_getR C xK_X6 (q := 2) (r := 6) rfl 3 (by decide) (ki := 3) rfl xl_X6_35 rfl dX6_codeBehind_21 ?_
  refine xi_getRN C xK_X3 (q := 6) (r := 35) rfl 1 (by decide) (ki := 1) rfl xn_X6_140 rfl dX6_codeBehind_24 ?_
  refine xi_iload_n C 2 dX6_codeBehind_27 rfl rfl ?_
  obtain ⟨hc3, h⟩ := h
  refine xi_iaload C (q := 35) rfl (by decide) hc3 dX6_codeBehind_28 ?_
  refine xc_Vv C hw2 (c_X7_doMove_n l D ca ad tF (S13 35 a2) S13 _ (xval.i (q := 35) (i := a2) hw2 hc3.1 rfl) h) xk_X7_doMove xv_X7_doMove xl_X6_201 ⟨Nat.le_of_ble_eq_true rfl, Nat.le_of_ble_eq_true rfl⟩ xK_X7 (q := 8) rfl rfl rfl (Nat.le_of_ble_eq_true rfl) ⟨Nat.le_of_ble_eq_true rfl, Nat.le_of_ble_eq_true rfl⟩ dX6_codeBehind_29 (fun S29 h hw4 => ?_)
  refine xi_aload_n C 0 dX6_codeBehind_32 rfl rfl ?_
  refine xi_getR C xK_X6 (q := 2) (r := 8) rfl 5 (by decide) (ki := 5) rfl xl_X6_46 rfl dX6_codeBehind_33 ?_
  refine xc_Vj C hw4 (c_X7_pack_n l D ca ad tF S29 _ h) xk_X7_pack xv_X7_pack xl_X6_87 ⟨Nat.le_of_ble_eq_true rfl, Nat.le_of_ble_eq_true rfl⟩ xK_X7 (q := 8) rfl rfl rfl (Nat.le_of_ble_eq_true rfl) ⟨Nat.le_of_ble_eq_true rfl, Nat.le_of_ble_eq_true rfl⟩ dX6_codeBehind_36 (fun r36 S36 h_r36 h hw5 => ?_)
  exact xr_j C hA hZ hr hlocks dX6_codeBehind_39 (Nat.le_of_ble_eq_true rfl) (Nat.le_of_ble_eq_true rfl) hw5 ⟨_, rfl, h_r36, h⟩
set_option maxRecDepth 100000 in
set_option maxHeartbeats 4000000 in
theorem c_X1_valueIn (l : Launch) (D : va_G) (ca : Nat → ClassId) (ad : Nat → Nat) (tF : Nat) (a1 : Int) (a2 : Int) (S : xS) (Q : Int → xS → Prop) (h_a1 : xR a1) (h_a2 : xR a2) (h : w_X1_valueIn a1 a2 S Q) : xM l yX1_valueIn (xws yX1_valueIn cX1_valueIn 3 (some .int)) ({ frames := 0, cells := 0, slots := 0, locals := 0 }) (gC D ca ad tF) [.ref (ad 4), .int (iN a1), .int (iN a2)] S (xQi Q) 0 0 := by
  refine xm_of RX1 rfl (by decide +kernel) (Nat.le_of_ble_eq_true rfl) ?_
  intro p e s m args below meth c A Z C hA hZ hr hlocks hw
  unfold w_X1_valueIn at h
  show xV (gC D ca ad tF) p l e ({ frames := 0, cells := 0, slots := 0, locals := 0 }) s m args below meth c A 3 Z 0 0 0 [(0, .ref (ad 4)), (1, .int (iN a1)), (2, .int (iN a2))] [] S
  refine xi_aload_n C 0 dX1_valueIn_0 rfl rfl ?_
  refine xi_getR C xK_X1 (q := 4) (r := 26) rfl 3 (by decide) (ki := 3) rfl xl_X1_15 rfl dX1_valueIn_1 ?_
  refine xi_iload_n C 1 dX1_valueIn_4 rfl rfl ?_
  obtain ⟨hc1, h⟩ := h
  refine xi_iaload C (q := 26) rfl (by decide) hc1 dX1_valueIn_5 ?_
  refine xi_iconst C (v := 2) dX1_valueIn_6 rfl ?_
  refine xi_iload_n C 2 dX1_valueIn_7 rfl rfl ?_
  refine xi_imul C dX1_valueIn_8 ?_
  obtain ⟨hc2, h⟩ := h
  refine xi_ishr C (xval.i (q := 26) (i := a1) hw hc1.1 rfl) hc2 dX1_valueIn_9 ?_
  refine xi_iconst C (v := 3) dX1_valueIn_10 rfl ?_
  refine xi_iand C dX1_valueIn_11 ?_
  exact xr_i C hA hZ hr hlocks rfl dX1_valueIn_12 (Nat.le_of_ble_eq_true rfl) (Nat.le_of_ble_eq_true rfl) hw ⟨_, rfl, (xand_R _ _), h⟩
set_option maxRecDepth 100000 in
set_option maxHeartbeats 4000000 in
theorem c_X4_numberOf (l : Launch) (D : va_G) (ca : Nat → ClassId) (ad : Nat → Nat) (tF : Nat) (a0 : Int) (S : xS) (Q : Int → xS → Prop) (h_a0 : xR a0) (h : w_X4_numberOf a0 S Q) : xM l yX4_numberOf (xws yX4_numberOf cX4_numberOf 1 (some .int)) ({ frames := 0, cells := 0, slots := 0, locals := 0 }) (gC D ca ad tF) [.int (iN a0)] S (xQi Q) 0 0 := by
  refine xm_of RX4 rfl (by decide +kernel) (Nat.le_of_ble_eq_true rfl) ?_
  intro p e s m args below meth c A Z C hA hZ hr hlocks hw
  unfold w_X4_numberOf at h
  show xV (gC D ca ad tF) p l e ({ frames := 0, cells := 0, slots := 0, locals := 0 }) s m args below meth c A 1 Z 0 0 0 [(0, .int (iN a0))] [] S
  refine xi_iload_n C 0 dX4_numberOf_0 rfl rfl ?_
  refine xi_bipush C (v := 14) dX4_numberOf_1 (by decide +kernel) ?_
  obtain ⟨hc1, h⟩ := h
  refine xi_irem C h_a0 hc1 (by decide) (by decide) dX4_numberOf_3 ?_
  exact xr_i C hA hZ hr hlocks rfl dX4_numberOf_4 (Nat.le_of_ble_eq_true rfl) (Nat.le_of_ble_eq_true rfl) hw ⟨_, rfl, (xR_mod h_a0 hc1 (by decide) (by decide)), h⟩
set_option maxRecDepth 100000 in
set_option maxHeartbeats 4000000 in
theorem c_X5_markWithout (l : Launch) (D : va_G) (ca : Nat → ClassId) (ad : Nat → Nat) (tF : Nat) (a1 : Int) (a2 : Int) (S : xS) (Q : xS → Prop) (h_a1 : xR a1) (h_a2 : xR a2) (h : w_X5_markWithout a1 a2 S Q) : xM l yX5_markWithout (xws yX5_markWithout cX5_markWithout 4 (none)) ({ frames := 1, cells := 0, slots := 0, locals := 22 }) (gC D ca ad tF) [.ref (ad 3), .int (iN a1), .int (iN a2)] S (xQv Q) 0 0 := by
  refine xm_of RX5 rfl (by decide +kernel) (Nat.le_of_ble_eq_true rfl) ?_
  intro p e s m args below meth c A Z C hA hZ hr hlocks hw
  unfold w_X5_markWithout at h
  show xV (gC D ca ad tF) p l e ({ frames := 1, cells := 0, slots := 0, locals := 22 }) s m args below meth c A 4 Z 0 0 0 [(0, .ref (ad 3)), (1, .int (iN a1)), (2, .int (iN a2))] [] S
  refine xi_iconst C (v := 0) dX5_markWithout_0 rfl ?_
  refine xi_istore_n C (L' := [(3, .int (iN 0)), (0, .ref (ad 3)), (1, .int (iN a1)), (2, .int (iN a2))]) dX5_markWithout_1 rfl (by decide) rfl ?_
  refine xi_sub [1, 2, 3, 0] rfl (xW1 (fun v3_2 S2 => xR v3_2 → xval (gC D ca ad tF) S2 → xV (gC D ca ad tF) p l e ({ frames := 1, cells := 0, slots := 0, locals := 22 }) s m args below meth c A 4 Z 0 0 2 [(0, .ref (ad 3)), (1, .int (iN a1)), (2, .int (iN a2)), (3, .int (iN v3_2))] [] S2) h (fun k2 hk2 v3_2 S2 h h_v3_2 hw2 => ?_) (by decide) hw)
  unfold w_X5_markWithout_L2 at h
  refine xi_iload_n C 3 dX5_markWithout_2 rfl rfl ?_
  refine xi_aload_n C 0 dX5_markWithout_3 rfl rfl ?_
  refine xi_getR C xK_X5 (q := 3) (r := 5) rfl 1 (by decide) (ki := 1) rfl xl_X5_22 rfl dX5_markWithout_4 ?_
  refine xi_getIN C xK_X2 (q := 5) (r := 0) rfl 0 (by decide) (ki := 0) rfl xn_X5_57 rfl dX5_markWithout_7 ?_
  refine xi_icmp_ge C 43 h_v3_2 (xval.i (q := 5) (i := 0) hw2 (by decide) rfl) dX5_markWithout_10 (by decide) (fun z1 => ?_) (fun z1 => ?_)
  · replace h := h.1 z1
    exact xr_v C hA hZ hr hlocks dX5_markWithout_43 (Nat.le_of_ble_eq_true rfl) (Nat.le_of_ble_eq_true rfl) hw2 ⟨rfl, h⟩
  · replace h := h.2 z1
    refine xi_aload_n C 0 dX5_markWithout_13 rfl rfl ?_
    refine xi_getR C xK_X5 (q := 3) (r := 23) rfl 3 (by decide) (ki := 3) rfl xl_X5_9 rfl dX5_markWithout_14 ?_
    refine xi_iload_n C 3 dX5_markWithout_17 rfl rfl ?_
    refine xi_aload_n C 0 dX5_markWithout_18 rfl rfl ?_
    refine xi_getR C xK_X5 (q := 3) (r := 4) rfl 0 (by decide) (ki := 0) rfl xl_X5_18 rfl dX5_markWithout_19 ?_
    refine xi_iload_n C 3 dX5_markWithout_22 rfl rfl ?_
    refine xi_iload_n C 1 dX5_markWithout_23 rfl rfl ?_
    refine xc_Vi C hw2 (c_X1_valueIn l D ca ad tF v3_2 a1 S2 _ h_v3_2 h_a1 h) xk_X1_valueIn xv_X1_valueIn xl_X5_62 ⟨Nat.le_of_ble_eq_true rfl, Nat.le_of_ble_eq_true rfl⟩ xK_X1 (q := 4) rfl rfl rfl (Nat.le_of_ble_eq_true rfl) ⟨Nat.le_of_ble_eq_true rfl, Nat.le_of_ble_eq_true rfl⟩ dX5_markWithout_24 (fun r24 S24 h_r24 h hw2 => ?_)
    refine xi_iload_n C 2 dX5_markWithout_27 rfl rfl ?_
    refine xi_icmp_ne C 35 h_r24 h_a2 dX5_markWithout_28 (by decide) (fun z3 => ?_) (fun z3 => ?_)
    · replace h := h.1 z3
      refine xi_iconst C (v := 1) dX5_markWithout_35 rfl ?_
      obtain ⟨hc4, h⟩ := h
      refine xi_iastore C (q := 23) rfl (by decide) hc4 dX5_markWithout_36 ?_
      have hw5 := xval.up (q := 23) (i := v3_2) (v := 1) hw2 rfl (by decide)
      refine xi_iinc C (L' := [(3, .int (iN (v3_2 + 1))), (0, .ref (ad 3)), (1, .int (iN a1)), (2, .int (iN a2))]) 3 dX5_markWithout_37 rfl (by decide) rfl ?_
      refine xi_goto C 2 dX5_markWithout_40 (by decide) ?_
      obtain ⟨hc6, h⟩ := h
      exact xi_sub [1, 2, 3, 0] rfl (hk2 (v3_2 + 1) (xup S24 23 v3_2 1) h hc6 hw5)
    · replace h := h.2 z3
      refine xi_iconst C (v := 0) dX5_markWithout_31 rfl ?_
      refine xi_goto C 36 dX5_markWithout_32 (by decide) ?_
      obtain ⟨hc7, h⟩ := h
      refine xi_iastore C (q := 23) rfl (by decide) hc7 dX5_markWithout_36 ?_
      have hw8 := xval.up (q := 23) (i := v3_2) (v := 0) hw2 rfl (by decide)
      refine xi_iinc C (L' := [(3, .int (iN (v3_2 + 1))), (0, .ref (ad 3)), (1, .int (iN a1)), (2, .int (iN a2))]) 3 dX5_markWithout_37 rfl (by decide) rfl ?_
      refine xi_goto C 2 dX5_markWithout_40 (by decide) ?_
      obtain ⟨hc9, h⟩ := h
      exact xi_sub [1, 2, 3, 0] rfl (hk2 (v3_2 + 1) (xup S24 23 v3_2 0) h hc9 hw8)
set_option maxRecDepth 100000 in
set_option maxHeartbeats 4000000 in
theorem c_X0_enter (l : Launch) (D : va_G) (ca : Nat → ClassId) (ad : Nat → Nat) (tF : Nat) (a1 : Int) (S : xS) (Q : xS → Prop) (h_a1 : xR a1) (h : w_X0_enter a1 S Q) : xM l yX0_enter (xws yX0_enter cX0_enter 2 (none)) ({ frames := 0, cells := 0, slots := 0, locals := 0 }) (gC D ca ad tF) [.ref (ad 9), .int (iN a1)] S (xQv Q) 0 0 := by
  refine xm_of RX0 rfl (by decide +kernel) (Nat.le_of_ble_eq_true rfl) ?_
  intro p e s m args below meth c A Z C hA hZ hr hlocks hw
  unfold w_X0_enter at h
  show xV (gC D ca ad tF) p l e ({ frames := 0, cells := 0, slots := 0, locals := 0 }) s m args below meth c A 2 Z 0 0 0 [(0, .ref (ad 9)), (1, .int (iN a1))] [] S
  refine xi_aload_n C 0 dX0_enter_0 rfl rfl ?_
  refine xi_dup C dX0_enter_1 rfl ?_
  refine xi_getI C xK_X0 (q := 9) (r := 0) rfl 5 (by decide) (ki := 5) rfl xl_X0_44 rfl dX0_enter_2 ?_
  refine xi_iconst C (v := 1) dX0_enter_5 rfl ?_
  refine xi_iadd C dX0_enter_6 ?_
  obtain ⟨hc1, h⟩ := h
  refine xi_putI C xK_X0 (q := 9) (r := 0) rfl 5 (by decide) (ki := 5) rfl xl_X0_44 rfl rfl rfl dX0_enter_7 ?_
  have hw2 := xval.up (q := 9) (i := 5) (v := (S 9 5) + 1) hw rfl hc1
  refine xi_aload_n C 0 dX0_enter_10 rfl rfl ?_
  refine xi_getR C xK_X0 (q := 9) (r := 47) rfl 3 (by decide) (ki := 3) rfl xl_X0_15 rfl dX0_enter_11 ?_
  refine xi_iload_n C 1 dX0_enter_14 rfl rfl ?_
  refine xi_aload_n C 0 dX0_enter_15 rfl rfl ?_
  refine xi_getI C xK_X0 (q := 9) (r := 0) rfl 5 (by decide) (ki := 5) rfl xl_X0_44 rfl dX0_enter_16 ?_
  obtain ⟨hc3, h⟩ := h
  refine xi_iastore C (q := 47) rfl (by decide) hc3 dX0_enter_19 ?_
  have hw4 := xval.up (q := 47) (i := a1) (v := (S 9 5) + 1) hw2 rfl (xval.i (q := 9) (i := 5) hw2 (by decide) rfl)
  refine xi_aload_n C 0 dX0_enter_20 rfl rfl ?_
  refine xi_getR C xK_X0 (q := 9) (r := 48) rfl 4 (by decide) (ki := 4) rfl xl_X0_18 rfl dX0_enter_21 ?_
  refine xi_iload_n C 1 dX0_enter_24 rfl rfl ?_
  refine xi_aload_n C 0 dX0_enter_25 rfl rfl ?_
  refine xi_getI C xK_X0 (q := 9) (r := 0) rfl 5 (by decide) (ki := 5) rfl xl_X0_44 rfl dX0_enter_26 ?_
  refine xi_iastore C (q := 48) rfl (by decide) hc3 dX0_enter_29 ?_
  have hw5 := xval.up (q := 48) (i := a1) (v := (S 9 5) + 1) hw4 rfl (xval.i (q := 9) (i := 5) hw4 (by decide) rfl)
  refine xi_aload_n C 0 dX0_enter_30 rfl rfl ?_
  refine xi_getR C xK_X0 (q := 9) (r := 49) rfl 6 (by decide) (ki := 6) rfl xl_X0_21 rfl dX0_enter_31 ?_
  refine xi_iload_n C 1 dX0_enter_34 rfl rfl ?_
  refine xi_aload_n C 0 dX0_enter_35 rfl rfl ?_
  refine xi_getR C xK_X0 (q := 9) (r := 5) rfl 0 (by decide) (ki := 0) rfl xl_X0_36 rfl dX0_enter_36 ?_
  refine xi_getRN C xK_X2 (q := 5) (r := 32) rfl 1 (by decide) (ki := 1) rfl xn_X0_75 rfl dX0_enter_39 ?_
  refine xi_iload_n C 1 dX0_enter_42 rfl rfl ?_
  refine xi_iaload C (q := 32) rfl (by decide) ⟨hc3.1, Int.lt_of_lt_of_le hc3.2 (by decide)⟩ dX0_enter_43 ?_
  refine xi_iastore C (q := 49) rfl (by decide) hc3 dX0_enter_44 ?_
  have hw6 := xval.up (q := 49) (i := a1) (v := S 32 a1) hw5 rfl (xval.i (q := 32) (i := a1) hw5 hc3.1 rfl)
  refine xi_aload_n C 0 dX0_enter_45 rfl rfl ?_
  refine xi_getR C xK_X0 (q := 9) (r := 50) rfl 7 (by decide) (ki := 7) rfl xl_X0_24 rfl dX0_enter_46 ?_
  refine xi_aload_n C 0 dX0_enter_49 rfl rfl ?_
  refine xi_getI C xK_X0 (q := 9) (r := 0) rfl 8 (by decide) (ki := 8) rfl xl_X0_47 rfl dX0_enter_50 ?_
  refine xi_iload_n C 1 dX0_enter_53 rfl rfl ?_
  obtain ⟨hc7, h⟩ := h
  refine xi_iastore C (q := 50) rfl (by decide) hc7 dX0_enter_54 ?_
  have hw8 := xval.up (q := 50) (i := S 9 8) (v := a1) hw6 rfl h_a1
  refine xi_aload_n C 0 dX0_enter_55 rfl rfl ?_
  refine xi_dup C dX0_enter_56 rfl ?_
  refine xi_getI C xK_X0 (q := 9) (r := 0) rfl 8 (by decide) (ki := 8) rfl xl_X0_47 rfl dX0_enter_57 ?_
  refine xi_iconst C (v := 1) dX0_enter_60 rfl ?_
  refine xi_iadd C dX0_enter_61 ?_
  obtain ⟨hc9, h⟩ := h
  refine xi_putI C xK_X0 (q := 9) (r := 0) rfl 8 (by decide) (ki := 8) rfl xl_X0_47 rfl rfl rfl dX0_enter_62 ?_
  have hw10 := xval.up (q := 9) (i := 8) (v := (S 9 8) + 1) hw8 rfl hc9
  refine xi_aload_n C 0 dX0_enter_65 rfl rfl ?_
  refine xi_getR C xK_X0 (q := 9) (r := 51) rfl 9 (by decide) (ki := 9) rfl xl_X0_27 rfl dX0_enter_66 ?_
  refine xi_aload_n C 0 dX0_enter_69 rfl rfl ?_
  refine xi_getI C xK_X0 (q := 9) (r := 0) rfl 10 (by decide) (ki := 10) rfl xl_X0_50 rfl dX0_enter_70 ?_
  refine xi_iload_n C 1 dX0_enter_73 rfl rfl ?_
  obtain ⟨hc11, h⟩ := h
  refine xi_iastore C (q := 51) rfl (by decide) hc11 dX0_enter_74 ?_
  have hw12 := xval.up (q := 51) (i := S 9 10) (v := a1) hw10 rfl h_a1
  refine xi_aload_n C 0 dX0_enter_75 rfl rfl ?_
  refine xi_dup C dX0_enter_76 rfl ?_
  refine xi_getI C xK_X0 (q := 9) (r := 0) rfl 10 (by decide) (ki := 10) rfl xl_X0_50 rfl dX0_enter_77 ?_
  refine xi_iconst C (v := 1) dX0_enter_80 rfl ?_
  refine xi_iadd C dX0_enter_81 ?_
  obtain ⟨hc13, h⟩ := h
  refine xi_putI C xK_X0 (q := 9) (r := 0) rfl 10 (by decide) (ki := 10) rfl xl_X0_50 rfl rfl rfl dX0_enter_82 ?_
  have hw14 := xval.up (q := 9) (i := 10) (v := (S 9 10) + 1) hw12 rfl hc13
  exact xr_v C hA hZ hr hlocks dX0_enter_85 (Nat.le_of_ble_eq_true rfl) (Nat.le_of_ble_eq_true rfl) hw14 ⟨rfl, h⟩
set_option maxRecDepth 100000 in
set_option maxHeartbeats 4000000 in
theorem c_X0_close (l : Launch) (D : va_G) (ca : Nat → ClassId) (ad : Nat → Nat) (tF : Nat) (a1 : Int) (S : xS) (Q : xS → Prop) (h_a1 : xR a1) (h : w_X0_close a1 S Q) : xM l yX0_close (xws yX0_close cX0_close 4 (none)) ({ frames := 0, cells := 0, slots := 0, locals := 0 }) (gC D ca ad tF) [.ref (ad 9), .int (iN a1)] S (xQv Q) 0 0 := by
  refine xm_of RX0 rfl (by decide +kernel) (Nat.le_of_ble_eq_true rfl) ?_
  intro p e s m args below meth c A Z C hA hZ hr hlocks hw
  unfold w_X0_close at h
  show xV (gC D ca ad tF) p l e ({ frames := 0, cells := 0, slots := 0, locals := 0 }) s m args below meth c A 4 Z 0 0 0 [(0, .ref (ad 9)), (1, .int (iN a1))] [] S
  refine xi_aload_n C 0 dX0_close_0 rfl rfl ?_
  refine xi_getI C xK_X0 (q := 9) (r := 0) rfl 10 (by decide) (ki := 10) rfl xl_X0_50 rfl dX0_close_1 ?_
  refine xi_iconst C (v := 1) dX0_close_4 rfl ?_
  refine xi_isub C dX0_close_5 ?_
  refine xi_istore_n C (L' := [(2, .int (iN ((S 9 10) - 1))), (0, .ref (ad 9)), (1, .int (iN a1))]) dX0_close_6 rfl (by decide) rfl ?_
  obtain ⟨hc1, h⟩ := h
  refine xi_sub [1, 2, 0] rfl (xW1 (fun v2_7 S7 => xR v2_7 → xval (gC D ca ad tF) S7 → xV (gC D ca ad tF) p l e ({ frames := 0, cells := 0, slots := 0, locals := 0 }) s m args below meth c A 4 Z 0 0 7 [(0, .ref (ad 9)), (1, .int (iN a1)), (2, .int (iN v2_7))] [] S7) h (fun k7 hk7 v2_7 S7 h h_v2_7 hw7 => ?_) hc1 hw)
  unfold w_X0_close_L7 at h
  refine xi_iload_n C 2 dX0_close_7 rfl rfl ?_
  refine xi_if_lt C 52 h_v2_7 dX0_close_8 (by decide) (fun z2 => ?_) (fun z2 => ?_)
  · replace h := h.1 z2
    refine xi_aload_n C 0 dX0_close_52 rfl rfl ?_
    refine xi_dup C dX0_close_53 rfl ?_
    refine xi_getI C xK_X0 (q := 9) (r := 0) rfl 1 (by decide) (ki := 1) rfl xl_X0_40 rfl dX0_close_54 ?_
    refine xi_iconst C (v := 1) dX0_close_57 rfl ?_
    refine xi_iadd C dX0_close_58 ?_
    obtain ⟨hc3, h⟩ := h
    refine xi_putI C xK_X0 (q := 9) (r := 0) rfl 1 (by decide) (ki := 1) rfl xl_X0_40 rfl rfl rfl dX0_close_59 ?_
    have hw4 := xval.up (q := 9) (i := 1) (v := (S7 9 1) + 1) hw7 rfl hc3
    exact xr_v C hA hZ hr hlocks dX0_close_62 (Nat.le_of_ble_eq_true rfl) (Nat.le_of_ble_eq_true rfl) hw4 ⟨rfl, h⟩
  · replace h := h.2 z2
    refine xi_aload_n C 0 dX0_close_11 rfl rfl ?_
    refine xi_getR C xK_X0 (q := 9) (r := 51) rfl 9 (by decide) (ki := 9) rfl xl_X0_27 rfl dX0_close_12 ?_
    refine xi_iload_n C 2 dX0_close_15 rfl rfl ?_
    obtain ⟨hc5, h⟩ := h
    refine xi_iaload C (q := 51) rfl (by decide) hc5 dX0_close_16 ?_
    refine xi_istore_n C (L' := [(3, .int (iN (S7 51 v2_7))), (0, .ref (ad 9)), (1, .int (iN a1)), (2, .int (iN v2_7))]) dX0_close_17 rfl (by decide) rfl ?_
    refine xi_aload_n C 1 dX0_close_18 rfl rfl ?_
    refine xi_getR C xK_X0 (q := 9) (r := 46) rfl 2 (by decide) (ki := 2) rfl xl_X0_9 rfl dX0_close_19 ?_
    refine xi_iload_n C 0 dX0_close_22 rfl rfl ?_
    refine xi_aload_n C 1 dX0_close_23 rfl rfl ?_
    refine xi_getI C xK_X0 (q := 9) (r := 0) rfl 1 (by decide) (ki := 1) rfl xl_X0_40 rfl dX0_close_24 ?_
    obtain ⟨hc6, h⟩ := h
    refine xi_iastore C (q := 46) rfl (by decide) hc6 dX0_close_27 ?_
    have hw7 := xval.up (q := 46) (i := S7 51 v2_7) (v := S7 9 1) hw7 rfl (xval.i (q := 9) (i := 1) hw7 (by decide) rfl)
    refine xi_aload_n C 1 dX0_close_28 rfl rfl ?_
    refine xi_dup C dX0_close_29 rfl ?_
    refine xi_getI C xK_X0 (q := 9) (r := 0) rfl 10 (by decide) (ki := 10) rfl xl_X0_50 rfl dX0_close_30 ?_
    refine xi_iconst C (v := 1) dX0_close_33 rfl ?_
    refine xi_isub C dX0_close_34 ?_
    obtain ⟨hc8, h⟩ := h
    refine xi_putI C xK_X0 (q := 9) (r := 0) rfl 10 (by decide) (ki := 10) rfl xl_X0_50 rfl rfl rfl dX0_close_35 ?_
    have hw9 := xval.up (q := 9) (i := 10) (v := (S7 9 10) - 1) hw7 rfl hc8
    refine xi_iload_n C 0 dX0_close_38 rfl rfl ?_
    refine xi_iload_n C 2 dX0_close_39 rfl rfl ?_
    refine xi_icmp_ne C 46 (xval.i (q := 51) (i := v2_7) hw7 hc5.1 rfl) h_a1 dX0_close_40 (by decide) (fun z10 => ?_) (fun z10 => ?_)
    · replace h := h.1 z10
      refine xi_iinc C (L' := [(2, .int (iN (v2_7 + (-1)))), (3, .int (iN (S7 51 v2_7))), (0, .ref (ad 9)), (1, .int (iN a1))]) 3 dX0_close_46 rfl (by decide) rfl ?_
      refine xi_goto C 7 dX0_close_49 (by decide) ?_
      obtain ⟨hc11, h⟩ := h
      exact xi_sub [2, 3, 0] rfl (hk7 (v2_7 + (-1)) (xup (xup S7 46 (S7 51 v2_7) (S7 9 1)) 9 10 ((S7 9 10) - 1)) h hc11 hw9)
    · replace h := h.2 z10
      refine xi_goto C 52 dX0_close_43 (by decide) ?_
      refine xi_aload_n C 1 dX0_close_52 rfl rfl ?_
      refine xi_dup C dX0_close_53 rfl ?_
      refine xi_getI C xK_X0 (q := 9) (r := 0) rfl 1 (by decide) (ki := 1) rfl xl_X0_40 rfl dX0_close_54 ?_
      refine xi_iconst C (v := 1) dX0_close_57 rfl ?_
      refine xi_iadd C dX0_close_58 ?_
      obtain ⟨hc12, h⟩ := h
      refine xi_putI C xK_X0 (q := 9) (r := 0) rfl 1 (by decide) (ki := 1) rfl xl_X0_40 rfl rfl rfl dX0_close_59 ?_
      have hw13 := xval.up (q := 9) (i := 1) (v := (S7 9 1) + 1) hw9 rfl hc12
      exact xr_v C hA hZ hr hlocks dX0_close_62 (Nat.le_of_ble_eq_true rfl) (Nat.le_of_ble_eq_true rfl) hw13 ⟨rfl, h⟩
set_option maxRecDepth 100000 in
set_option maxHeartbeats 4000000 in
theorem c_X0_leave (l : Launch) (D : va_G) (ca : Nat → ClassId) (ad : Nat → Nat) (tF : Nat) (a1 : Int) (S : xS) (Q : xS → Prop) (h_a1 : xR a1) (h : w_X0_leave a1 S Q) : xM l yX0_leave (xws yX0_leave cX0_leave 3 (none)) ({ frames := 1, cells := 0, slots := 0, locals := 60 }) (gC D ca ad tF) [.ref (ad 9), .int (iN a1)] S (xQv Q) 0 0 := by
  refine xm_of RX0 rfl (by decide +kernel) (Nat.le_of_ble_eq_true rfl) ?_
  intro p e s m args below meth c A Z C hA hZ hr hlocks hw
  unfold w_X0_leave at h
  show xV (gC D ca ad tF) p l e ({ frames := 1, cells := 0, slots := 0, locals := 60 }) s m args below meth c A 3 Z 0 0 0 [(0, .ref (ad 9)), (1, .int (iN a1))] [] S
  refine xi_aload_n C 0 dX0_leave_0 rfl rfl ?_
  refine xi_dup C dX0_leave_1 rfl ?_
  refine xi_getI C xK_X0 (q := 9) (r := 0) rfl 8 (by decide) (ki := 8) rfl xl_X0_47 rfl dX0_leave_2 ?_
  refine xi_iconst C (v := 1) dX0_leave_5 rfl ?_
  refine xi_isub C dX0_leave_6 ?_
  obtain ⟨hc1, h⟩ := h
  refine xi_putI C xK_X0 (q := 9) (r := 0) rfl 8 (by decide) (ki := 8) rfl xl_X0_47 rfl rfl rfl dX0_leave_7 ?_
  have hw2 := xval.up (q := 9) (i := 8) (v := (S 9 8) - 1) hw rfl hc1
  refine xi_aload_n C 0 dX0_leave_10 rfl rfl ?_
  refine xi_getI C xK_X0 (q := 9) (r := 0) rfl 8 (by decide) (ki := 8) rfl xl_X0_47 rfl dX0_leave_11 ?_
  refine xJ0_w (fun  S50 => xval (gC D ca ad tF) S50 → xV (gC D ca ad tF) p l e ({ frames := 1, cells := 0, slots := 0, locals := 60 }) s m args below meth c A 3 Z 0 0 50 [(0, .ref (ad 9)), (1, .int (iN a1))] [] S50) h (fun  S50 h  hw50 => ?_) (fun j50 hj50 h => ?_)
  · unfold w_X0_leave_J50 at h
    refine xi_aload_n C 0 dX0_leave_50 rfl rfl ?_
    refine xi_getR C xK_X0 (q := 9) (r := 48) rfl 4 (by decide) (ki := 4) rfl xl_X0_18 rfl dX0_leave_51 ?_
    refine xi_iload_n C 1 dX0_leave_54 rfl rfl ?_
    obtain ⟨hc4, h⟩ := h
    refine xi_iaload C (q := 48) rfl (by decide) hc4 dX0_leave_55 ?_
    refine xi_aload_n C 0 dX0_leave_56 rfl rfl ?_
    refine xi_getR C xK_X0 (q := 9) (r := 47) rfl 3 (by decide) (ki := 3) rfl xl_X0_15 rfl dX0_leave_57 ?_
    refine xi_iload_n C 1 dX0_leave_60 rfl rfl ?_
    refine xi_iaload C (q := 47) rfl (by decide) hc4 dX0_leave_61 ?_
    refine xi_icmp_ne C 70 (xval.i (q := 48) (i := a1) hw50 hc4.1 rfl) (xval.i (q := 47) (i := a1) hw50 hc4.1 rfl) dX0_leave_62 (by decide) (fun z5 => ?_) (fun z5 => ?_)
    · replace h := h.1 z5
      exact xr_v C hA hZ hr hlocks dX0_leave_70 (Nat.le_of_ble_eq_true rfl) (Nat.le_of_ble_eq_true rfl) hw50 ⟨rfl, h⟩
    · replace h := h.2 z5
      refine xi_aload_n C 0 dX0_leave_65 rfl rfl ?_
      refine xi_iload_n C 1 dX0_leave_66 rfl rfl ?_
      refine xc_Vv C hw50 (c_X0_close l D ca ad tF a1 S50 _ h_a1 h) xk_X0_close xv_X0_close xl_X0_98 ⟨Nat.le_of_ble_eq_true rfl, Nat.le_of_ble_eq_true rfl⟩ xK_X0 (q := 9) rfl rfl rfl (Nat.le_of_ble_eq_true rfl) ⟨Nat.le_of_ble_eq_true rfl, Nat.le_of_ble_eq_true rfl⟩ dX0_leave_67 (fun S67 h hw6 => ?_)
      exact xr_v C hA hZ hr hlocks dX0_leave_70 (Nat.le_of_ble_eq_true rfl) (Nat.le_of_ble_eq_true rfl) hw6 ⟨rfl, h⟩
  · refine xi_if_le C 50 (xval.i (q := 9) (i := 8) hw2 (by decide) rfl) dX0_leave_14 (by decide) (fun z3 => ?_) (fun z3 => ?_)
    · replace h := h.1 z3
      exact xi_sub [0, 1] rfl (hj50 (xup S 9 8 ((S 9 8) - 1)) h hw2)
    · replace h := h.2 z3
      refine xi_aload_n C 0 dX0_leave_17 rfl rfl ?_
      refine xi_getR C xK_X0 (q := 9) (r := 50) rfl 7 (by decide) (ki := 7) rfl xl_X0_24 rfl dX0_leave_18 ?_
      refine xi_aload_n C 0 dX0_leave_21 rfl rfl ?_
      refine xi_getI C xK_X0 (q := 9) (r := 0) rfl 8 (by decide) (ki := 8) rfl xl_X0_47 rfl dX0_leave_22 ?_
      refine xi_iconst C (v := 1) dX0_leave_25 rfl ?_
      refine xi_isub C dX0_leave_26 ?_
      obtain ⟨hc7, h⟩ := h
      refine xi_iaload C (q := 50) rfl (by decide) hc7 dX0_leave_27 ?_
      refine xi_istore_n C (L' := [(2, .int (iN (S 50 (((S 9 8) - 1) - 1)))), (0, .ref (ad 9)), (1, .int (iN a1))]) dX0_leave_28 rfl (by decide) rfl ?_
      refine xi_aload_n C 1 dX0_leave_29 rfl rfl ?_
      refine xi_getR C xK_X0 (q := 9) (r := 48) rfl 4 (by decide) (ki := 4) rfl xl_X0_18 rfl dX0_leave_30 ?_
      refine xi_iload_n C 0 dX0_leave_33 rfl rfl ?_
      refine xi_aload_n C 1 dX0_leave_34 rfl rfl ?_
      refine xi_getR C xK_X0 (q := 9) (r := 48) rfl 4 (by decide) (ki := 4) rfl xl_X0_18 rfl dX0_leave_35 ?_
      refine xi_iload_n C 0 dX0_leave_38 rfl rfl ?_
      obtain ⟨hc8, h⟩ := h
      refine xi_iaload C (q := 48) rfl (by decide) hc8 dX0_leave_39 ?_
      refine xi_aload_n C 1 dX0_leave_40 rfl rfl ?_
      refine xi_getR C xK_X0 (q := 9) (r := 48) rfl 4 (by decide) (ki := 4) rfl xl_X0_18 rfl dX0_leave_41 ?_
      refine xi_iload_n C 2 dX0_leave_44 rfl rfl ?_
      obtain ⟨hc9, h⟩ := h
      refine xi_iaload C (q := 48) rfl (by decide) hc9 dX0_leave_45 ?_
      refine xi_mmin C (xval.i (q := 48) (i := S 50 (((S 9 8) - 1) - 1)) hw2 hc8.1 rfl) (xval.i (q := 48) (i := a1) hw2 hc9.1 rfl) xl_X0_92 xmmw (Nat.le_of_ble_eq_true rfl) ⟨Nat.le_of_ble_eq_true rfl, Nat.le_of_ble_eq_true rfl⟩ ⟨Nat.zero_le _, Nat.zero_le _⟩ dX0_leave_46 ?_
      refine xi_iastore C (q := 48) rfl (by decide) hc8 dX0_leave_49 ?_
      have hw10 := xval.up (q := 48) (i := S 50 (((S 9 8) - 1) - 1)) (v := xmin (S 48 (S 50 (((S 9 8) - 1) - 1))) (S 48 a1)) hw2 rfl (xmin_R (xval.i (q := 48) (i := S 50 (((S 9 8) - 1) - 1)) hw2 hc8.1 rfl) (xval.i (q := 48) (i := a1) hw2 hc9.1 rfl))
      exact xi_sub [1, 2] rfl (hj50 (xup (xup S 9 8 ((S 9 8) - 1)) 48 (S 50 (((S 9 8) - 1) - 1)) (xmin (S 48 (S 50 (((S 9 8) - 1) - 1))) (S 48 a1))) h hw10)
set_option maxRecDepth 100000 in
set_option maxHeartbeats 4000000 in
theorem c_X2_targetOf (l : Launch) (D : va_G) (ca : Nat → ClassId) (ad : Nat → Nat) (tF : Nat) (a0 : Int) (S : xS) (Q : Int → xS → Prop) (h_a0 : xR a0) (h : w_X2_targetOf a0 S Q) : xM l yX2_targetOf (xws yX2_targetOf cX2_targetOf 1 (some .int)) ({ frames := 0, cells := 0, slots := 0, locals := 0 }) (gC D ca ad tF) [.int (iN a0)] S (xQi Q) 0 0 := by
  refine xm_of RX2 rfl (by decide +kernel) (Nat.le_of_ble_eq_true rfl) ?_
  intro p e s m args below meth c A Z C hA hZ hr hlocks hw
  unfold w_X2_targetOf at h
  show xV (gC D ca ad tF) p l e ({ frames := 0, cells := 0, slots := 0, locals := 0 }) s m args below meth c A 1 Z 0 0 0 [(0, .int (iN a0))] [] S
  refine xi_iload_n C 0 dX2_targetOf_0 rfl rfl ?_
  refine xi_iconst C (v := 3) dX2_targetOf_1 rfl ?_
  refine xi_ishr C h_a0 (by decide) dX2_targetOf_2 ?_
  exact xr_i C hA hZ hr hlocks rfl dX2_targetOf_3 (Nat.le_of_ble_eq_true rfl) (Nat.le_of_ble_eq_true rfl) hw ⟨_, rfl, (xR_shr h_a0), h⟩
set_option maxRecDepth 100000 in
set_option maxHeartbeats 4000000 in
theorem c_X0_lookAt (l : Launch) (D : va_G) (ca : Nat → ClassId) (ad : Nat → Nat) (tF : Nat) (a1 : Int) (a2 : Int) (S : xS) (Q : xS → Prop) (h_a1 : xR a1) (h_a2 : xR a2) (h : w_X0_lookAt a1 a2 S Q) : xM l yX0_lookAt (xws yX0_lookAt cX0_lookAt 3 (none)) ({ frames := 1, cells := 0, slots := 0, locals := 60 }) (gC D ca ad tF) [.ref (ad 9), .int (iN a1), .int (iN a2)] S (xQv Q) 0 0 := by
  refine xm_of RX0 rfl (by decide +kernel) (Nat.le_of_ble_eq_true rfl) ?_
  intro p e s m args below meth c A Z C hA hZ hr hlocks hw
  unfold w_X0_lookAt at h
  show xV (gC D ca ad tF) p l e ({ frames := 1, cells := 0, slots := 0, locals := 60 }) s m args below meth c A 3 Z 0 0 0 [(0, .ref (ad 9)), (1, .int (iN a1)), (2, .int (iN a2))] [] S
  refine xi_aload_n C 0 dX0_lookAt_0 rfl rfl ?_
  refine xi_getR C xK_X0 (q := 9) (r := 47) rfl 3 (by decide) (ki := 3) rfl xl_X0_15 rfl dX0_lookAt_1 ?_
  refine xi_iload_n C 1 dX0_lookAt_4 rfl rfl ?_
  obtain ⟨hc1, h⟩ := h
  refine xi_iaload C (q := 47) rfl (by decide) hc1 dX0_lookAt_5 ?_
  refine xi_if_ne C 17 (xval.i (q := 47) (i := a1) hw hc1.1 rfl) dX0_lookAt_6 (by decide) (fun z2 => ?_) (fun z2 => ?_)
  · replace h := h.1 z2
    refine xi_aload_n C 0 dX0_lookAt_17 rfl rfl ?_
    refine xi_getR C xK_X0 (q := 9) (r := 46) rfl 2 (by decide) (ki := 2) rfl xl_X0_9 rfl dX0_lookAt_18 ?_
    refine xi_iload_n C 1 dX0_lookAt_21 rfl rfl ?_
    refine xi_iaload C (q := 46) rfl (by decide) hc1 dX0_lookAt_22 ?_
    refine xi_iconst C (v := (-1)) dX0_lookAt_23 rfl ?_
    refine xi_icmp_ne C 48 (xval.i (q := 46) (i := a1) hw hc1.1 rfl) (by decide) dX0_lookAt_24 (by decide) (fun z3 => ?_) (fun z3 => ?_)
    · replace h := h.1 z3
      exact xr_v C hA hZ hr hlocks dX0_lookAt_48 (Nat.le_of_ble_eq_true rfl) (Nat.le_of_ble_eq_true rfl) hw ⟨rfl, h⟩
    · replace h := h.2 z3
      refine xi_aload_n C 0 dX0_lookAt_27 rfl rfl ?_
      refine xi_getR C xK_X0 (q := 9) (r := 48) rfl 4 (by decide) (ki := 4) rfl xl_X0_18 rfl dX0_lookAt_28 ?_
      refine xi_iload_n C 2 dX0_lookAt_31 rfl rfl ?_
      refine xi_aload_n C 0 dX0_lookAt_32 rfl rfl ?_
      refine xi_getR C xK_X0 (q := 9) (r := 48) rfl 4 (by decide) (ki := 4) rfl xl_X0_18 rfl dX0_lookAt_33 ?_
      refine xi_iload_n C 2 dX0_lookAt_36 rfl rfl ?_
      obtain ⟨hc4, h⟩ := h
      refine xi_iaload C (q := 48) rfl (by decide) hc4 dX0_lookAt_37 ?_
      refine xi_aload_n C 0 dX0_lookAt_38 rfl rfl ?_
      refine xi_getR C xK_X0 (q := 9) (r := 47) rfl 3 (by decide) (ki := 3) rfl xl_X0_15 rfl dX0_lookAt_39 ?_
      refine xi_iload_n C 1 dX0_lookAt_42 rfl rfl ?_
      refine xi_iaload C (q := 47) rfl (by decide) hc1 dX0_lookAt_43 ?_
      refine xi_mmin C (xval.i (q := 48) (i := a2) hw hc4.1 rfl) (xval.i (q := 47) (i := a1) hw hc1.1 rfl) xl_X0_92 xmmw (Nat.le_of_ble_eq_true rfl) ⟨Nat.le_of_ble_eq_true rfl, Nat.le_of_ble_eq_true rfl⟩ ⟨Nat.zero_le _, Nat.zero_le _⟩ dX0_lookAt_44 ?_
      refine xi_iastore C (q := 48) rfl (by decide) hc4 dX0_lookAt_47 ?_
      have hw5 := xval.up (q := 48) (i := a2) (v := xmin (S 48 a2) (S 47 a1)) hw rfl (xmin_R (xval.i (q := 48) (i := a2) hw hc4.1 rfl) (xval.i (q := 47) (i := a1) hw hc1.1 rfl))
      exact xr_v C hA hZ hr hlocks dX0_lookAt_48 (Nat.le_of_ble_eq_true rfl) (Nat.le_of_ble_eq_true rfl) hw5 ⟨rfl, h⟩
  · replace h := h.2 z2
    refine xi_aload_n C 0 dX0_lookAt_9 rfl rfl ?_
    refine xi_iload_n C 1 dX0_lookAt_10 rfl rfl ?_
    refine xc_Vv C hw (c_X0_enter l D ca ad tF a1 S _ h_a1 h) xk_X0_enter xv_X0_enter xl_X0_68 ⟨Nat.le_of_ble_eq_true rfl, Nat.le_of_ble_eq_true rfl⟩ xK_X0 (q := 9) rfl rfl rfl (Nat.le_of_ble_eq_true rfl) ⟨Nat.le_of_ble_eq_true rfl, Nat.le_of_ble_eq_true rfl⟩ dX0_lookAt_11 (fun S11 h hw6 => ?_)
    refine xi_goto C 48 dX0_lookAt_14 (by decide) ?_
    exact xr_v C hA hZ hr hlocks dX0_lookAt_48 (Nat.le_of_ble_eq_true rfl) (Nat.le_of_ble_eq_true rfl) hw6 ⟨rfl, h⟩
set_option maxRecDepth 100000 in
set_option maxHeartbeats 4000000 in
theorem c_X0_walkFrom (l : Launch) (D : va_G) (ca : Nat → ClassId) (ad : Nat → Nat) (tF : Nat) (a1 : Int) (S : xS) (Q : xS → Prop) (h_a1 : xR a1) (h : w_X0_walkFrom a1 S Q) : xM l yX0_walkFrom (xws yX0_walkFrom cX0_walkFrom 7 (none)) ({ frames := 2, cells := 0, slots := 0, locals := 82 }) (gC D ca ad tF) [.ref (ad 9), .int (iN a1), .ref (ad 23)] S (xQv Q) 0 0 := by
  refine xm_of RX0 rfl (by decide +kernel) (Nat.le_of_ble_eq_true rfl) ?_
  intro p e s m args below meth c A Z C hA hZ hr hlocks hw
  unfold w_X0_walkFrom at h
  show xV (gC D ca ad tF) p l e ({ frames := 2, cells := 0, slots := 0, locals := 82 }) s m args below meth c A 7 Z 0 0 0 [(0, .ref (ad 9)), (1, .int (iN a1)), (2, .ref (ad 23))] [] S
  refine xi_aload_n C 0 dX0_walkFrom_0 rfl rfl ?_
  refine xi_iload_n C 1 dX0_walkFrom_1 rfl rfl ?_
  refine xc_Vv C hw (c_X0_enter l D ca ad tF a1 S _ h_a1 h) xk_X0_enter xv_X0_enter xl_X0_68 ⟨Nat.le_of_ble_eq_true rfl, Nat.le_of_ble_eq_true rfl⟩ xK_X0 (q := 9) rfl rfl rfl (Nat.le_of_ble_eq_true rfl) ⟨Nat.le_of_ble_eq_true rfl, Nat.le_of_ble_eq_true rfl⟩ dX0_walkFrom_2 (fun S2 h hw1 => ?_)
  refine xi_aload_n C 0 dX0_walkFrom_5 rfl rfl ?_
  refine xi_getR C xK_X0 (q := 9) (r := 5) rfl 0 (by decide) (ki := 0) rfl xl_X0_36 rfl dX0_walkFrom_6 ?_
  refine xi_getIN C xK_X2 (q := 5) (r := 0) rfl 3 (by decide) (ki := 3) rfl xn_X0_72 rfl dX0_walkFrom_9 ?_
  refine xi_aload_n C 0 dX0_walkFrom_12 rfl rfl ?_
  refine xi_getR C xK_X0 (q := 9) (r := 5) rfl 0 (by decide) (ki := 0) rfl xl_X0_36 rfl dX0_walkFrom_13 ?_
  refine xi_getIN C xK_X2 (q := 5) (r := 0) rfl 0 (by decide) (ki := 0) rfl xn_X0_59 rfl dX0_walkFrom_16 ?_
  refine xi_iadd C dX0_walkFrom_19 ?_
  refine xi_istore_n C (L' := [(3, .int (iN ((S2 5 3) + (S2 5 0)))), (0, .ref (ad 9)), (1, .int (iN a1)), (2, .ref (ad 23))]) dX0_walkFrom_20 rfl (by decide) rfl ?_
  refine xi_iconst C (v := 0) dX0_walkFrom_21 rfl ?_
  refine xi_istore C (L' := [(4, .int (iN 0)), (3, .int (iN ((S2 5 3) + (S2 5 0)))), (0, .ref (ad 9)), (1, .int (iN a1)), (2, .ref (ad 23))]) dX0_walkFrom_22 (by decide) rfl ?_
  refine xi_sub [2, 4, 1, 0] rfl (xW1 (fun v4_24 S24 => xR v4_24 → xval (gC D ca ad tF) S24 → xV (gC D ca ad tF) p l e ({ frames := 2, cells := 0, slots := 0, locals := 82 }) s m args below meth c A 7 Z 0 0 24 [(0, .ref (ad 9)), (2, .ref (ad 23)), (3, .int (iN ((S2 5 3) + (S2 5 0)))), (4, .int (iN v4_24))] [] S24) h (fun k24 hk24 v4_24 S24 h h_v4_24 hw24 => ?_) (by decide) hw1)
  unfold w_X0_walkFrom_L24 at h
  refine xi_iload C 3 dX0_walkFrom_24 rfl ?_
  refine xi_iload_n C 2 dX0_walkFrom_26 rfl rfl ?_
  obtain ⟨hc2, h⟩ := h
  refine xi_icmp_ge C 134 h_v4_24 hc2 dX0_walkFrom_27 (by decide) (fun z3 => ?_) (fun z3 => ?_)
  · replace h := h.1 z3
    exact xr_v C hA hZ hr hlocks dX0_walkFrom_134 (Nat.le_of_ble_eq_true rfl) (Nat.le_of_ble_eq_true rfl) hw24 ⟨rfl, h⟩
  · replace h := h.2 z3
    refine xi_aload_n C 0 dX0_walkFrom_30 rfl rfl ?_
    refine xi_getI C xK_X0 (q := 9) (r := 0) rfl 8 (by decide) (ki := 8) rfl xl_X0_47 rfl dX0_walkFrom_31 ?_
    refine xi_if_le C 134 (xval.i (q := 9) (i := 8) hw24 (by decide) rfl) dX0_walkFrom_34 (by decide) (fun z4 => ?_) (fun z4 => ?_)
    · replace h := h.1 z4
      exact xr_v C hA hZ hr hlocks dX0_walkFrom_134 (Nat.le_of_ble_eq_true rfl) (Nat.le_of_ble_eq_true rfl) hw24 ⟨rfl, h⟩
    · replace h := h.2 z4
      refine xi_aload_n C 0 dX0_walkFrom_37 rfl rfl ?_
      refine xi_getR C xK_X0 (q := 9) (r := 50) rfl 7 (by decide) (ki := 7) rfl xl_X0_24 rfl dX0_walkFrom_38 ?_
      refine xi_aload_n C 0 dX0_walkFrom_41 rfl rfl ?_
      refine xi_getI C xK_X0 (q := 9) (r := 0) rfl 8 (by decide) (ki := 8) rfl xl_X0_47 rfl dX0_walkFrom_42 ?_
      refine xi_iconst C (v := 1) dX0_walkFrom_45 rfl ?_
      refine xi_isub C dX0_walkFrom_46 ?_
      obtain ⟨hc5, h⟩ := h
      refine xi_iaload C (q := 50) rfl (by decide) hc5 dX0_walkFrom_47 ?_
      refine xi_istore C (L' := [(5, .int (iN (S24 50 ((S24 9 8) - 1)))), (0, .ref (ad 9)), (2, .ref (ad 23)), (3, .int (iN ((S2 5 3) + (S2 5 0)))), (4, .int (iN v4_24))]) dX0_walkFrom_48 (by decide) rfl ?_
      refine xi_aload_n C 1 dX0_walkFrom_50 rfl rfl ?_
      refine xi_getR C xK_X0 (q := 9) (r := 49) rfl 6 (by decide) (ki := 6) rfl xl_X0_21 rfl dX0_walkFrom_51 ?_
      refine xi_iload C 0 dX0_walkFrom_54 rfl ?_
      obtain ⟨hc6, h⟩ := h
      refine xi_iaload C (q := 49) rfl (by decide) hc6 dX0_walkFrom_56 ?_
      refine xi_aload_n C 1 dX0_walkFrom_57 rfl rfl ?_
      refine xi_getR C xK_X0 (q := 9) (r := 5) rfl 0 (by decide) (ki := 0) rfl xl_X0_36 rfl dX0_walkFrom_58 ?_
      refine xi_getRN C xK_X2 (q := 5) (r := 32) rfl 1 (by decide) (ki := 1) rfl xn_X0_75 rfl dX0_walkFrom_61 ?_
      refine xi_iload C 0 dX0_walkFrom_64 rfl ?_
      refine xi_iconst C (v := 1) dX0_walkFrom_66 rfl ?_
      refine xi_iadd C dX0_walkFrom_67 ?_
      obtain ⟨hc7, h⟩ := h
      refine xi_iaload C (q := 32) rfl (by decide) hc7 dX0_walkFrom_68 ?_
      refine xi_icmp_ge C 122 (xval.i (q := 49) (i := S24 50 ((S24 9 8) - 1)) hw24 hc6.1 rfl) (xval.i (q := 32) (i := (S24 50 ((S24 9 8) - 1)) + 1) hw24 hc7.1 rfl) dX0_walkFrom_69 (by decide) (fun z8 => ?_) (fun z8 => ?_)
      · replace h := h.1 z8
        refine xi_aload_n C 1 dX0_walkFrom_122 rfl rfl ?_
        refine xi_iload C 0 dX0_walkFrom_123 rfl ?_
        refine xc_Vv C hw24 (c_X0_leave l D ca ad tF (S24 50 ((S24 9 8) - 1)) S24 _ (xval.i (q := 50) (i := (S24 9 8) - 1) hw24 hc5.1 rfl) h) xk_X0_leave xv_X0_leave xl_X0_89 ⟨Nat.le_of_ble_eq_true rfl, Nat.le_of_ble_eq_true rfl⟩ xK_X0 (q := 9) rfl rfl rfl (Nat.le_of_ble_eq_true rfl) ⟨Nat.le_of_ble_eq_true rfl, Nat.le_of_ble_eq_true rfl⟩ dX0_walkFrom_125 (fun S125 h hw9 => ?_)
        refine xi_iinc C (L' := [(4, .int (iN (v4_24 + 1))), (5, .int (iN (S24 50 ((S24 9 8) - 1)))), (0, .ref (ad 9)), (2, .ref (ad 23)), (3, .int (iN ((S2 5 3) + (S2 5 0))))]) 4 dX0_walkFrom_128 rfl (by decide) rfl ?_
        refine xi_goto C 24 dX0_walkFrom_131 (by decide) ?_
        obtain ⟨hc10, h⟩ := h
        exact xi_sub [2, 3, 4, 0] rfl (hk24 (v4_24 + 1) S125 h hc10 hw9)
      · replace h := h.2 z8
        refine xi_aload_n C 1 dX0_walkFrom_72 rfl rfl ?_
        refine xi_getR C xK_X0 (q := 9) (r := 5) rfl 0 (by decide) (ki := 0) rfl xl_X0_36 rfl dX0_walkFrom_73 ?_
        refine xi_getEN C xK_X2 (q := 5) (r := 33) rfl 2 (by decide) (ki := 2) rfl xn_X0_78 rfl dX0_walkFrom_76 ?_
        refine xi_aload_n C 1 dX0_walkFrom_79 rfl rfl ?_
        refine xi_getR C xK_X0 (q := 9) (r := 49) rfl 6 (by decide) (ki := 6) rfl xl_X0_21 rfl dX0_walkFrom_80 ?_
        refine xi_iload C 0 dX0_walkFrom_83 rfl ?_
        refine xi_iaload C (q := 49) rfl (by decide) hc6 dX0_walkFrom_85 ?_
        obtain ⟨hc11, h⟩ := h
        refine xi_ialoadE C (q := 33) rfl hc11 dX0_walkFrom_86 ?_
        refine xc_Si C hw24 (c_X2_targetOf l D ca ad tF (S24 33 (S24 49 (S24 50 ((S24 9 8) - 1)))) S24 _ (xval.i (q := 33) (i := S24 49 (S24 50 ((S24 9 8) - 1))) hw24 hc11.1 rfl) h) xk_X2_targetOf xs_X2_targetOf xl_X0_81 ⟨Nat.le_of_ble_eq_true rfl, Nat.le_of_ble_eq_true rfl⟩ rfl rfl (Nat.le_of_ble_eq_true rfl) ⟨Nat.le_of_ble_eq_true rfl, Nat.le_of_ble_eq_true rfl⟩ dX0_walkFrom_87 (fun r87 S87 h_r87 h hw12 => ?_)
        refine xi_istore C (L' := [(6, .int (iN r87)), (5, .int (iN (S24 50 ((S24 9 8) - 1)))), (0, .ref (ad 9)), (2, .ref (ad 23)), (3, .int (iN ((S2 5 3) + (S2 5 0)))), (4, .int (iN v4_24))]) dX0_walkFrom_90 (by decide) rfl ?_
        refine xi_aload_n C 2 dX0_walkFrom_92 rfl rfl ?_
        refine xi_getR C xK_X0 (q := 9) (r := 49) rfl 6 (by decide) (ki := 6) rfl xl_X0_21 rfl dX0_walkFrom_93 ?_
        refine xi_iload C 1 dX0_walkFrom_96 rfl ?_
        refine xi_dup2 C dX0_walkFrom_98 rfl rfl ?_
        refine xi_iaload C (q := 49) rfl (by decide) hc6 dX0_walkFrom_99 ?_
        refine xi_iconst C (v := 1) dX0_walkFrom_100 rfl ?_
        refine xi_iadd C dX0_walkFrom_101 ?_
        obtain ⟨hc13, h⟩ := h
        refine xi_iastore C (q := 49) rfl (by decide) hc6 dX0_walkFrom_102 ?_
        have hw14 := xval.up (q := 49) (i := S24 50 ((S24 9 8) - 1)) (v := (S87 49 (S24 50 ((S24 9 8) - 1))) + 1) hw12 rfl hc13
        refine xi_aload_n C 3 dX0_walkFrom_103 rfl rfl ?_
        refine xi_iload C 0 dX0_walkFrom_104 rfl ?_
        obtain ⟨hc15, h⟩ := h
        refine xi_iaload C (q := 23) rfl (by decide) hc15 dX0_walkFrom_106 ?_
        refine xi_iconst C (v := 1) dX0_walkFrom_107 rfl ?_
        refine xi_icmp_ne C 119 (xval.i (q := 23) (i := r87) hw14 hc15.1 rfl) (by decide) dX0_walkFrom_108 (by decide) (fun z16 => ?_) (fun z16 => ?_)
        · replace h := h.1 z16
          refine xi_goto C 128 dX0_walkFrom_119 (by decide) ?_
          refine xi_iinc C (L' := [(4, .int (iN (v4_24 + 1))), (6, .int (iN r87)), (5, .int (iN (S24 50 ((S24 9 8) - 1)))), (0, .ref (ad 9)), (2, .ref (ad 23)), (3, .int (iN ((S2 5 3) + (S2 5 0))))]) 5 dX0_walkFrom_128 rfl (by decide) rfl ?_
          refine xi_goto C 24 dX0_walkFrom_131 (by decide) ?_
          obtain ⟨hc17, h⟩ := h
          exact xi_sub [3, 4, 5, 0] rfl (hk24 (v4_24 + 1) (xup S87 49 (S24 50 ((S24 9 8) - 1)) ((S87 49 (S24 50 ((S24 9 8) - 1))) + 1)) h hc17 hw14)
        · replace h := h.2 z16
          refine xi_aload_n C 2 dX0_walkFrom_111 rfl rfl ?_
          refine xi_iload C 0 dX0_walkFrom_112 rfl ?_
          refine xi_iload C 1 dX0_walkFrom_114 rfl ?_
          refine xc_Vv C hw14 (c_X0_lookAt l D ca ad tF r87 (S24 50 ((S24 9 8) - 1)) (xup S87 49 (S24 50 ((S24 9 8) - 1)) ((S87 49 (S24 50 ((S24 9 8) - 1))) + 1)) _ h_r87 (xval.i (q := 50) (i := (S24 9 8) - 1) hw24 hc5.1 rfl) h) xk_X0_lookAt xv_X0_lookAt xl_X0_85 ⟨Nat.le_of_ble_eq_true rfl, Nat.le_of_ble_eq_true rfl⟩ xK_X0 (q := 9) rfl rfl rfl (Nat.le_of_ble_eq_true rfl) ⟨Nat.le_of_ble_eq_true rfl, Nat.le_of_ble_eq_true rfl⟩ dX0_walkFrom_116 (fun S116 h hw18 => ?_)
          refine xi_goto C 128 dX0_walkFrom_119 (by decide) ?_
          refine xi_iinc C (L' := [(4, .int (iN (v4_24 + 1))), (6, .int (iN r87)), (5, .int (iN (S24 50 ((S24 9 8) - 1)))), (0, .ref (ad 9)), (2, .ref (ad 23)), (3, .int (iN ((S2 5 3) + (S2 5 0))))]) 5 dX0_walkFrom_128 rfl (by decide) rfl ?_
          refine xi_goto C 24 dX0_walkFrom_131 (by decide) ?_
          obtain ⟨hc19, h⟩ := h
          exact xi_sub [3, 4, 5, 0] rfl (hk24 (v4_24 + 1) S116 h hc19 hw18)
set_option maxRecDepth 100000 in
set_option maxHeartbeats 4000000 in
theorem c_X0_split (l : Launch) (D : va_G) (ca : Nat → ClassId) (ad : Nat → Nat) (tF : Nat)  (S : xS) (Q : xS → Prop)  (h : w_X0_split  S Q) : xM l yX0_split (xws yX0_split cX0_split 3 (none)) ({ frames := 3, cells := 0, slots := 0, locals := 108 }) (gC D ca ad tF) [.ref (ad 9), .ref (ad 23)] S (xQv Q) 0 0 := by
  refine xm_of RX0 rfl (by decide +kernel) (Nat.le_of_ble_eq_true rfl) ?_
  intro p e s m args below meth c A Z C hA hZ hr hlocks hw
  unfold w_X0_split at h
  show xV (gC D ca ad tF) p l e ({ frames := 3, cells := 0, slots := 0, locals := 108 }) s m args below meth c A 3 Z 0 0 0 [(0, .ref (ad 9)), (1, .ref (ad 23))] [] S
  refine xi_aload_n C 0 dX0_split_0 rfl rfl ?_
  refine xi_iconst C (v := 0) dX0_split_1 rfl ?_
  refine xi_putI C xK_X0 (q := 9) (r := 0) rfl 1 (by decide) (ki := 1) rfl xl_X0_40 rfl rfl rfl dX0_split_2 ?_
  have hw1 := xval.up (q := 9) (i := 1) (v := 0) hw rfl (by decide)
  refine xi_aload_n C 0 dX0_split_5 rfl rfl ?_
  refine xi_iconst C (v := 0) dX0_split_6 rfl ?_
  refine xi_putI C xK_X0 (q := 9) (r := 0) rfl 5 (by decide) (ki := 5) rfl xl_X0_44 rfl rfl rfl dX0_split_7 ?_
  have hw2 := xval.up (q := 9) (i := 5) (v := 0) hw1 rfl (by decide)
  refine xi_aload_n C 0 dX0_split_10 rfl rfl ?_
  refine xi_iconst C (v := 0) dX0_split_11 rfl ?_
  refine xi_putI C xK_X0 (q := 9) (r := 0) rfl 8 (by decide) (ki := 8) rfl xl_X0_47 rfl rfl rfl dX0_split_12 ?_
  have hw3 := xval.up (q := 9) (i := 8) (v := 0) hw2 rfl (by decide)
  refine xi_aload_n C 0 dX0_split_15 rfl rfl ?_
  refine xi_iconst C (v := 0) dX0_split_16 rfl ?_
  refine xi_putI C xK_X0 (q := 9) (r := 0) rfl 10 (by decide) (ki := 10) rfl xl_X0_50 rfl rfl rfl dX0_split_17 ?_
  have hw4 := xval.up (q := 9) (i := 10) (v := 0) hw3 rfl (by decide)
  refine xi_aload_n C 0 dX0_split_20 rfl rfl ?_
  refine xi_getR C xK_X0 (q := 9) (r := 47) rfl 3 (by decide) (ki := 3) rfl xl_X0_15 rfl dX0_split_21 ?_
  refine xi_iconst C (v := 0) dX0_split_24 rfl ?_
  refine xc_Sv (Qm := fun S' => S' = xfill (xup (xup (xup (xup S 9 1 0) 9 5 0) 9 8 0) 9 10 0) 47 2000 0) C hw4 (c_fill l _ (q := 47) (n := 2000) (v := 0) (S := (xup (xup (xup (xup S 9 1 0) 9 5 0) 9 8 0) 9 10 0)) rfl (by decide) (by decide) (fun _ => rfl) rfl) xk_J7_fill_53178 xs_J7_fill_53178 xl_X0_53 ⟨Nat.le_of_ble_eq_true rfl, Nat.le_of_ble_eq_true rfl⟩ rfl rfl (by decide) ⟨Nat.le_of_ble_eq_true rfl, Nat.le_of_ble_eq_true rfl⟩ dX0_split_25 (fun S25 h9_6 hw5 => ?_)
  subst h9_6
  refine xi_aload_n C 0 dX0_split_28 rfl rfl ?_
  refine xi_getR C xK_X0 (q := 9) (r := 46) rfl 2 (by decide) (ki := 2) rfl xl_X0_9 rfl dX0_split_29 ?_
  refine xi_iconst C (v := (-1)) dX0_split_32 rfl ?_
  refine xc_Sv (Qm := fun S' => S' = xfill (xfill (xup (xup (xup (xup S 9 1 0) 9 5 0) 9 8 0) 9 10 0) 47 2000 0) 46 2000 (-1)) C hw5 (c_fill l _ (q := 46) (n := 2000) (v := (-1)) (S := (xfill (xup (xup (xup (xup S 9 1 0) 9 5 0) 9 8 0) 9 10 0) 47 2000 0)) rfl (by decide) (by decide) (fun _ => rfl) rfl) xk_J7_fill_53178 xs_J7_fill_53178 xl_X0_53 ⟨Nat.le_of_ble_eq_true rfl, Nat.le_of_ble_eq_true rfl⟩ rfl rfl (by decide) ⟨Nat.le_of_ble_eq_true rfl, Nat.le_of_ble_eq_true rfl⟩ dX0_split_33 (fun S33 h9_8 hw7 => ?_)
  subst h9_8
  refine xi_iconst C (v := 0) dX0_split_36 rfl ?_
  refine xi_istore_n C (L' := [(2, .int (iN 0)), (0, .ref (ad 9)), (1, .ref (ad 23))]) dX0_split_37 rfl (by decide) rfl ?_
  refine xi_sub [1, 2, 0] rfl (xW1 (fun v2_38 S38 => xR v2_38 → xval (gC D ca ad tF) S38 → xV (gC D ca ad tF) p l e ({ frames := 3, cells := 0, slots := 0, locals := 108 }) s m args below meth c A 3 Z 0 0 38 [(0, .ref (ad 9)), (1, .ref (ad 23)), (2, .int (iN v2_38))] [] S38) h (fun k38 hk38 v2_38 S38 h h_v2_38 hw38 => ?_) (by decide) hw7)
  unfold w_X0_split_L38 at h
  refine xi_iload_n C 2 dX0_split_38 rfl rfl ?_
  refine xi_aload_n C 0 dX0_split_39 rfl rfl ?_
  refine xi_getR C xK_X0 (q := 9) (r := 5) rfl 0 (by decide) (ki := 0) rfl xl_X0_36 rfl dX0_split_40 ?_
  refine xi_getIN C xK_X2 (q := 5) (r := 0) rfl 0 (by decide) (ki := 0) rfl xn_X0_59 rfl dX0_split_43 ?_
  refine xi_icmp_ge C 77 h_v2_38 (xval.i (q := 5) (i := 0) hw38 (by decide) rfl) dX0_split_46 (by decide) (fun z9 => ?_) (fun z9 => ?_)
  · replace h := h.1 z9
    exact xr_v C hA hZ hr hlocks dX0_split_77 (Nat.le_of_ble_eq_true rfl) (Nat.le_of_ble_eq_true rfl) hw38 ⟨rfl, h⟩
  · replace h := h.2 z9
    refine xi_aload_n C 1 dX0_split_49 rfl rfl ?_
    refine xi_iload_n C 2 dX0_split_50 rfl rfl ?_
    obtain ⟨hc10, h⟩ := h
    refine xi_iaload C (q := 23) rfl (by decide) hc10 dX0_split_51 ?_
    refine xi_iconst C (v := 1) dX0_split_52 rfl ?_
    refine xi_icmp_ne C 71 (xval.i (q := 23) (i := v2_38) hw38 hc10.1 rfl) (by decide) dX0_split_53 (by decide) (fun z11 => ?_) (fun z11 => ?_)
    · replace h := h.1 z11
      refine xi_iinc C (L' := [(2, .int (iN (v2_38 + 1))), (0, .ref (ad 9)), (1, .ref (ad 23))]) 2 dX0_split_71 rfl (by decide) rfl ?_
      refine xi_goto C 38 dX0_split_74 (by decide) ?_
      obtain ⟨hc12, h⟩ := h
      exact xi_sub [1, 2, 0] rfl (hk38 (v2_38 + 1) S38 h hc12 hw38)
    · replace h := h.2 z11
      refine xi_aload_n C 0 dX0_split_56 rfl rfl ?_
      refine xi_getR C xK_X0 (q := 9) (r := 47) rfl 3 (by decide) (ki := 3) rfl xl_X0_15 rfl dX0_split_57 ?_
      refine xi_iload_n C 2 dX0_split_60 rfl rfl ?_
      refine xi_iaload C (q := 47) rfl (by decide) hc10 dX0_split_61 ?_
      refine xi_if_ne C 71 (xval.i (q := 47) (i := v2_38) hw38 hc10.1 rfl) dX0_split_62 (by decide) (fun z13 => ?_) (fun z13 => ?_)
      · replace h := h.1 z13
        refine xi_iinc C (L' := [(2, .int (iN (v2_38 + 1))), (0, .ref (ad 9)), (1, .ref (ad 23))]) 2 dX0_split_71 rfl (by decide) rfl ?_
        refine xi_goto C 38 dX0_split_74 (by decide) ?_
        obtain ⟨hc14, h⟩ := h
        exact xi_sub [1, 2, 0] rfl (hk38 (v2_38 + 1) S38 h hc14 hw38)
      · replace h := h.2 z13
        refine xi_aload_n C 0 dX0_split_65 rfl rfl ?_
        refine xi_iload_n C 2 dX0_split_66 rfl rfl ?_
        refine xi_aload_n C 1 dX0_split_67 rfl rfl ?_
        refine xc_Vv C hw38 (c_X0_walkFrom l D ca ad tF v2_38 S38 _ h_v2_38 h) xk_X0_walkFrom xv_X0_walkFrom xl_X0_64 ⟨Nat.le_of_ble_eq_true rfl, Nat.le_of_ble_eq_true rfl⟩ xK_X0 (q := 9) rfl rfl rfl (Nat.le_of_ble_eq_true rfl) ⟨Nat.le_of_ble_eq_true rfl, Nat.le_of_ble_eq_true rfl⟩ dX0_split_68 (fun S68 h hw15 => ?_)
        refine xi_iinc C (L' := [(2, .int (iN (v2_38 + 1))), (0, .ref (ad 9)), (1, .ref (ad 23))]) 2 dX0_split_71 rfl (by decide) rfl ?_
        refine xi_goto C 38 dX0_split_74 (by decide) ?_
        obtain ⟨hc16, h⟩ := h
        exact xi_sub [1, 2, 0] rfl (hk38 (v2_38 + 1) S68 h hc16 hw15)
set_option maxRecDepth 100000 in
set_option maxHeartbeats 4000000 in
theorem c_X2_isWithoutEdges (l : Launch) (D : va_G) (ca : Nat → ClassId) (ad : Nat → Nat) (tF : Nat) (a1 : Int) (S : xS) (Q : Int → xS → Prop) (h_a1 : xR a1) (h : w_X2_isWithoutEdges a1 S Q) : xM l yX2_isWithoutEdges (xws yX2_isWithoutEdges cX2_isWithoutEdges 2 (some .boolean)) ({ frames := 0, cells := 0, slots := 0, locals := 0 }) (gC D ca ad tF) [.ref (ad 5), .int (iN a1)] S (xQi Q) 0 0 := by
  refine xm_of RX2 rfl (by decide +kernel) (Nat.le_of_ble_eq_true rfl) ?_
  intro p e s m args below meth c A Z C hA hZ hr hlocks hw
  unfold w_X2_isWithoutEdges at h
  show xV (gC D ca ad tF) p l e ({ frames := 0, cells := 0, slots := 0, locals := 0 }) s m args below meth c A 2 Z 0 0 0 [(0, .ref (ad 5)), (1, .int (iN a1))] [] S
  refine xi_aload_n C 0 dX2_isWithoutEdges_0 rfl rfl ?_
  refine xi_getR C xK_X2 (q := 5) (r := 32) rfl 1 (by decide) (ki := 1) rfl xl_X2_9 rfl dX2_isWithoutEdges_1 ?_
  refine xi_iload_n C 1 dX2_isWithoutEdges_4 rfl rfl ?_
  obtain ⟨hc1, h⟩ := h
  refine xi_iaload C (q := 32) rfl (by decide) hc1 dX2_isWithoutEdges_5 ?_
  refine xi_aload_n C 0 dX2_isWithoutEdges_6 rfl rfl ?_
  refine xi_getR C xK_X2 (q := 5) (r := 32) rfl 1 (by decide) (ki := 1) rfl xl_X2_9 rfl dX2_isWithoutEdges_7 ?_
  refine xi_iload_n C 1 dX2_isWithoutEdges_10 rfl rfl ?_
  refine xi_iconst C (v := 1) dX2_isWithoutEdges_11 rfl ?_
  refine xi_iadd C dX2_isWithoutEdges_12 ?_
  obtain ⟨hc2, h⟩ := h
  refine xi_iaload C (q := 32) rfl (by decide) hc2 dX2_isWithoutEdges_13 ?_
  refine xi_icmp_ne C 21 (xval.i (q := 32) (i := a1) hw hc1.1 rfl) (xval.i (q := 32) (i := a1 + 1) hw hc2.1 rfl) dX2_isWithoutEdges_14 (by decide) (fun z3 => ?_) (fun z3 => ?_)
  · replace h := h.1 z3
    refine xi_iconst C (v := 0) dX2_isWithoutEdges_21 rfl ?_
    exact xr_i C hA hZ hr hlocks (xnarZ (Or.inl rfl)).1 dX2_isWithoutEdges_22 (Nat.le_of_ble_eq_true rfl) (Nat.le_of_ble_eq_true rfl) hw ⟨_, rfl, (by decide), h⟩
  · replace h := h.2 z3
    refine xi_iconst C (v := 1) dX2_isWithoutEdges_17 rfl ?_
    refine xi_goto C 22 dX2_isWithoutEdges_18 (by decide) ?_
    exact xr_i C hA hZ hr hlocks (xnarZ (Or.inr rfl)).1 dX2_isWithoutEdges_22 (Nat.le_of_ble_eq_true rfl) (Nat.le_of_ble_eq_true rfl) hw ⟨_, rfl, (by decide), h⟩
set_option maxRecDepth 100000 in
set_option maxHeartbeats 4000000 in
theorem c_X2_doersOf (l : Launch) (D : va_G) (ca : Nat → ClassId) (ad : Nat → Nat) (tF : Nat) (a0 : Int) (S : xS) (Q : Int → xS → Prop) (h_a0 : xR a0) (h : w_X2_doersOf a0 S Q) : xM l yX2_doersOf (xws yX2_doersOf cX2_doersOf 1 (some .int)) ({ frames := 0, cells := 0, slots := 0, locals := 0 }) (gC D ca ad tF) [.int (iN a0)] S (xQi Q) 0 0 := by
  refine xm_of RX2 rfl (by decide +kernel) (Nat.le_of_ble_eq_true rfl) ?_
  intro p e s m args below meth c A Z C hA hZ hr hlocks hw
  unfold w_X2_doersOf at h
  show xV (gC D ca ad tF) p l e ({ frames := 0, cells := 0, slots := 0, locals := 0 }) s m args below meth c A 1 Z 0 0 0 [(0, .int (iN a0))] [] S
  refine xi_iload_n C 0 dX2_doersOf_0 rfl rfl ?_
  refine xi_bipush C (v := 7) dX2_doersOf_1 (by decide +kernel) ?_
  refine xi_iand C dX2_doersOf_3 ?_
  exact xr_i C hA hZ hr hlocks rfl dX2_doersOf_4 (Nat.le_of_ble_eq_true rfl) (Nat.le_of_ble_eq_true rfl) hw ⟨_, rfl, (xand_R _ _), h⟩
set_option maxRecDepth 100000 in
set_option maxHeartbeats 4000000 in
theorem c_X0_judge (l : Launch) (D : va_G) (ca : Nat → ClassId) (ad : Nat → Nat) (tF : Nat) (a1 : Int) (a2 : Int) (S : xS) (Q : xS → Prop) (h_a1 : xR a1) (h_a2 : xR a2) (h : w_X0_judge a1 a2 S Q) : xM l yX0_judge (xws yX0_judge cX0_judge 5 (none)) ({ frames := 1, cells := 0, slots := 0, locals := 21 }) (gC D ca ad tF) [.ref (ad 9), .int (iN a1), .int (iN a2)] S (xQv Q) 0 0 := by
  refine xm_of RX0 rfl (by decide +kernel) (Nat.le_of_ble_eq_true rfl) ?_
  intro p e s m args below meth c A Z C hA hZ hr hlocks hw
  unfold w_X0_judge at h
  show xV (gC D ca ad tF) p l e ({ frames := 1, cells := 0, slots := 0, locals := 21 }) s m args below meth c A 5 Z 0 0 0 [(0, .ref (ad 9)), (1, .int (iN a1)), (2, .int (iN a2))] [] S
  refine xi_aload_n C 0 dX0_judge_0 rfl rfl ?_
  refine xi_getR C xK_X0 (q := 9) (r := 52) rfl 11 (by decide) (ki := 11) rfl xl_X0_30 rfl dX0_judge_1 ?_
  refine xi_iload_n C 2 dX0_judge_4 rfl rfl ?_
  refine xi_dup2 C dX0_judge_5 rfl rfl ?_
  obtain ⟨hc1, h⟩ := h
  refine xi_iaload C (q := 52) rfl (by decide) hc1 dX0_judge_6 ?_
  refine xi_bipush C (v := 7) dX0_judge_7 (by decide +kernel) ?_
  refine xi_aload_n C 0 dX0_judge_9 rfl rfl ?_
  refine xi_getR C xK_X0 (q := 9) (r := 5) rfl 0 (by decide) (ki := 0) rfl xl_X0_36 rfl dX0_judge_10 ?_
  refine xi_getRN C xK_X2 (q := 5) (r := 34) rfl 4 (by decide) (ki := 4) rfl xn_X0_104 rfl dX0_judge_13 ?_
  refine xi_iload_n C 1 dX0_judge_16 rfl rfl ?_
  obtain ⟨hc2, h⟩ := h
  refine xi_iaload C (q := 34) rfl (by decide) hc2 dX0_judge_17 ?_
  refine xi_iconst C (v := (-1)) dX0_judge_18 rfl ?_
  refine xi_ixor C dX0_judge_19 ?_
  refine xi_iand C dX0_judge_20 ?_
  refine xi_ior C dX0_judge_21 ?_
  refine xi_iastore C (q := 52) rfl (by decide) hc1 dX0_judge_22 ?_
  have hw3 := xval.up (q := 52) (i := a2) (v := xor32 (S 52 a2) (xand 7 (xxor (S 34 a1) (-1)))) hw rfl (xor32_R _ _)
  refine xi_aload_n C 0 dX0_judge_23 rfl rfl ?_
  refine xi_getR C xK_X0 (q := 9) (r := 5) rfl 0 (by decide) (ki := 0) rfl xl_X0_36 rfl dX0_judge_24 ?_
  refine xi_iload_n C 1 dX0_judge_27 rfl rfl ?_
  refine xc_Vi C hw3 (c_X2_isWithoutEdges l D ca ad tF a1 (xup S 52 a2 (xor32 (S 52 a2) (xand 7 (xxor (S 34 a1) (-1))))) _ h_a1 h) xk_X2_isWithoutEdges xv_X2_isWithoutEdges xl_X0_107 ⟨Nat.le_of_ble_eq_true rfl, Nat.le_of_ble_eq_true rfl⟩ xK_X2 (q := 5) rfl rfl rfl (Nat.le_of_ble_eq_true rfl) ⟨Nat.le_of_ble_eq_true rfl, Nat.le_of_ble_eq_true rfl⟩ dX0_judge_28 (fun r28 S28 h_r28 h hw4 => ?_)
  refine xJ0_w (fun  S41 => xval (gC D ca ad tF) S41 → xV (gC D ca ad tF) p l e ({ frames := 1, cells := 0, slots := 0, locals := 21 }) s m args below meth c A 5 Z 0 0 41 [(0, .ref (ad 9)), (1, .int (iN a1)), (2, .int (iN a2))] [] S41) h (fun  S41 h  hw41 => ?_) (fun j41 hj41 h => ?_)
  · unfold w_X0_judge_J41 at h
    refine xi_aload_n C 0 dX0_judge_41 rfl rfl ?_
    refine xi_getR C xK_X0 (q := 9) (r := 5) rfl 0 (by decide) (ki := 0) rfl xl_X0_36 rfl dX0_judge_42 ?_
    refine xi_getRN C xK_X2 (q := 5) (r := 32) rfl 1 (by decide) (ki := 1) rfl xn_X0_75 rfl dX0_judge_45 ?_
    refine xi_iload_n C 1 dX0_judge_48 rfl rfl ?_
    refine xi_iaload C (q := 32) rfl (by decide) hc2 dX0_judge_49 ?_
    refine xi_istore_n C (L' := [(3, .int (iN (S41 32 a1))), (0, .ref (ad 9)), (1, .int (iN a1)), (2, .int (iN a2))]) dX0_judge_50 rfl (by decide) rfl ?_
    refine xi_sub [1, 2, 3, 0] rfl (xW1 (fun v3_51 S51 => xR v3_51 → xval (gC D ca ad tF) S51 → xV (gC D ca ad tF) p l e ({ frames := 1, cells := 0, slots := 0, locals := 21 }) s m args below meth c A 5 Z 0 0 51 [(0, .ref (ad 9)), (1, .int (iN a1)), (2, .int (iN a2)), (3, .int (iN v3_51))] [] S51) h (fun k51 hk51 v3_51 S51 h h_v3_51 hw51 => ?_) (xval.i (q := 32) (i := a1) hw41 hc2.1 rfl) hw41)
    unfold w_X0_judge_L51 at h
    refine xi_iload_n C 3 dX0_judge_51 rfl rfl ?_
    refine xi_aload_n C 0 dX0_judge_52 rfl rfl ?_
    refine xi_getR C xK_X0 (q := 9) (r := 5) rfl 0 (by decide) (ki := 0) rfl xl_X0_36 rfl dX0_judge_53 ?_
    refine xi_getRN C xK_X2 (q := 5) (r := 32) rfl 1 (by decide) (ki := 1) rfl xn_X0_75 rfl dX0_judge_56 ?_
    refine xi_iload_n C 1 dX0_judge_59 rfl rfl ?_
    refine xi_iconst C (v := 1) dX0_judge_60 rfl ?_
    refine xi_iadd C dX0_judge_61 ?_
    obtain ⟨hc6, h⟩ := h
    refine xi_iaload C (q := 32) rfl (by decide) hc6 dX0_judge_62 ?_
    refine xi_icmp_ge C 118 h_v3_51 (xval.i (q := 32) (i := a1 + 1) hw51 hc6.1 rfl) dX0_judge_63 (by decide) (fun z7 => ?_) (fun z7 => ?_)
    · replace h := h.1 z7
      exact xr_v C hA hZ hr hlocks dX0_judge_118 (Nat.le_of_ble_eq_true rfl) (Nat.le_of_ble_eq_true rfl) hw51 ⟨rfl, h⟩
    · replace h := h.2 z7
      refine xi_aload_n C 0 dX0_judge_66 rfl rfl ?_
      refine xi_getR C xK_X0 (q := 9) (r := 5) rfl 0 (by decide) (ki := 0) rfl xl_X0_36 rfl dX0_judge_67 ?_
      refine xi_getEN C xK_X2 (q := 5) (r := 33) rfl 2 (by decide) (ki := 2) rfl xn_X0_78 rfl dX0_judge_70 ?_
      refine xi_iload_n C 3 dX0_judge_73 rfl rfl ?_
      obtain ⟨hc8, h⟩ := h
      refine xi_ialoadE C (q := 33) rfl hc8 dX0_judge_74 ?_
      refine xi_istore C (L' := [(4, .int (iN (S51 33 v3_51))), (0, .ref (ad 9)), (1, .int (iN a1)), (2, .int (iN a2)), (3, .int (iN v3_51))]) dX0_judge_75 (by decide) rfl ?_
      refine xi_aload_n C 1 dX0_judge_77 rfl rfl ?_
      refine xi_getR C xK_X0 (q := 9) (r := 46) rfl 2 (by decide) (ki := 2) rfl xl_X0_9 rfl dX0_judge_78 ?_
      refine xi_iload C 0 dX0_judge_81 rfl ?_
      refine xc_Si C hw51 (c_X2_targetOf l D ca ad tF (S51 33 v3_51) S51 _ (xval.i (q := 33) (i := v3_51) hw51 hc8.1 rfl) h) xk_X2_targetOf xs_X2_targetOf xl_X0_81 ⟨Nat.le_of_ble_eq_true rfl, Nat.le_of_ble_eq_true rfl⟩ rfl rfl (Nat.le_of_ble_eq_true rfl) ⟨Nat.le_of_ble_eq_true rfl, Nat.le_of_ble_eq_true rfl⟩ dX0_judge_83 (fun r83 S83 h_r83 h hw9 => ?_)
      obtain ⟨hc10, h⟩ := h
      refine xi_iaload C (q := 46) rfl (by decide) hc10 dX0_judge_86 ?_
      refine xi_iload_n C 3 dX0_judge_87 rfl rfl ?_
      refine xi_icmp_ne C 112 (xval.i (q := 46) (i := r83) hw9 hc10.1 rfl) h_a2 dX0_judge_88 (by decide) (fun z11 => ?_) (fun z11 => ?_)
      · replace h := h.1 z11
        refine xi_iinc C (L' := [(3, .int (iN (v3_51 + 1))), (4, .int (iN (S51 33 v3_51))), (0, .ref (ad 9)), (1, .int (iN a1)), (2, .int (iN a2))]) 4 dX0_judge_112 rfl (by decide) rfl ?_
        refine xi_goto C 51 dX0_judge_115 (by decide) ?_
        obtain ⟨hc12, h⟩ := h
        exact xi_sub [2, 3, 4, 0] rfl (hk51 (v3_51 + 1) S83 h hc12 hw9)
      · replace h := h.2 z11
        refine xi_aload_n C 1 dX0_judge_91 rfl rfl ?_
        refine xi_getR C xK_X0 (q := 9) (r := 53) rfl 12 (by decide) (ki := 12) rfl xl_X0_33 rfl dX0_judge_92 ?_
        refine xi_iload_n C 3 dX0_judge_95 rfl rfl ?_
        refine xi_iconst C (v := 1) dX0_judge_96 rfl ?_
        refine xi_iastore C (q := 53) rfl (by decide) hc1 dX0_judge_97 ?_
        have hw13 := xval.up (q := 53) (i := a2) (v := 1) hw9 rfl (by decide)
        refine xi_aload_n C 1 dX0_judge_98 rfl rfl ?_
        refine xi_getR C xK_X0 (q := 9) (r := 52) rfl 11 (by decide) (ki := 11) rfl xl_X0_30 rfl dX0_judge_99 ?_
        refine xi_iload_n C 3 dX0_judge_102 rfl rfl ?_
        refine xi_dup2 C dX0_judge_103 rfl rfl ?_
        refine xi_iaload C (q := 52) rfl (by decide) hc1 dX0_judge_104 ?_
        refine xi_iload C 0 dX0_judge_105 rfl ?_
        refine xc_Si C hw13 (c_X2_doersOf l D ca ad tF (S51 33 v3_51) (xup S83 53 a2 1) _ (xval.i (q := 33) (i := v3_51) hw51 hc8.1 rfl) h) xk_X2_doersOf xs_X2_doersOf xl_X0_111 ⟨Nat.le_of_ble_eq_true rfl, Nat.le_of_ble_eq_true rfl⟩ rfl rfl (Nat.le_of_ble_eq_true rfl) ⟨Nat.le_of_ble_eq_true rfl, Nat.le_of_ble_eq_true rfl⟩ dX0_judge_107 (fun r107 S107 h_r107 h hw14 => ?_)
        refine xi_ior C dX0_judge_110 ?_
        refine xi_iastore C (q := 52) rfl (by decide) hc1 dX0_judge_111 ?_
        have hw15 := xval.up (q := 52) (i := a2) (v := xor32 (S83 52 a2) r107) hw14 rfl (xor32_R _ _)
        refine xi_iinc C (L' := [(3, .int (iN (v3_51 + 1))), (4, .int (iN (S51 33 v3_51))), (0, .ref (ad 9)), (1, .int (iN a1)), (2, .int (iN a2))]) 4 dX0_judge_112 rfl (by decide) rfl ?_
        refine xi_goto C 51 dX0_judge_115 (by decide) ?_
        obtain ⟨hc16, h⟩ := h
        exact xi_sub [2, 3, 4, 0] rfl (hk51 (v3_51 + 1) (xup S107 52 a2 (xor32 (S83 52 a2) r107)) h hc16 hw15)
  · refine xi_if_eq C 41 h_r28 dX0_judge_31 (by decide) (fun z5 => ?_) (fun z5 => ?_)
    · replace h := h.1 z5
      exact xi_sub [0, 1, 2] rfl (hj41 S28 h hw4)
    · replace h := h.2 z5
      refine xi_aload_n C 0 dX0_judge_34 rfl rfl ?_
      refine xi_getR C xK_X0 (q := 9) (r := 53) rfl 12 (by decide) (ki := 12) rfl xl_X0_33 rfl dX0_judge_35 ?_
      refine xi_iload_n C 2 dX0_judge_38 rfl rfl ?_
      refine xi_iconst C (v := 1) dX0_judge_39 rfl ?_
      refine xi_iastore C (q := 53) rfl (by decide) hc1 dX0_judge_40 ?_
      have hw17 := xval.up (q := 53) (i := a2) (v := 1) hw4 rfl (by decide)
      exact xi_sub [0, 1, 2] rfl (hj41 (xup S28 53 a2 1) h hw17)
set_option maxRecDepth 100000 in
set_option maxHeartbeats 4000000 in
theorem c_X0_holdsRun (l : Launch) (D : va_G) (ca : Nat → ClassId) (ad : Nat → Nat) (tF : Nat) (a1 : Int) (S : xS) (Q : Int → xS → Prop) (h_a1 : xR a1) (h : w_X0_holdsRun a1 S Q) : xM l yX0_holdsRun (xws yX0_holdsRun cX0_holdsRun 3 (some .boolean)) ({ frames := 2, cells := 0, slots := 0, locals := 45 }) (gC D ca ad tF) [.ref (ad 9), .int (iN a1)] S (xQi Q) 0 0 := by
  refine xm_of RX0 rfl (by decide +kernel) (Nat.le_of_ble_eq_true rfl) ?_
  intro p e s m args below meth c A Z C hA hZ hr hlocks hw
  unfold w_X0_holdsRun at h
  show xV (gC D ca ad tF) p l e ({ frames := 2, cells := 0, slots := 0, locals := 45 }) s m args below meth c A 3 Z 0 0 0 [(0, .ref (ad 9)), (1, .int (iN a1))] [] S
  refine xi_aload_n C 0 dX0_holdsRun_0 rfl rfl ?_
  refine xi_getR C xK_X0 (q := 9) (r := 52) rfl 11 (by decide) (ki := 11) rfl xl_X0_30 rfl dX0_holdsRun_1 ?_
  refine xi_iconst C (v := 0) dX0_holdsRun_4 rfl ?_
  refine xc_Sv (Qm := fun S' => S' = xfill S 52 2000 0) C hw (c_fill l _ (q := 52) (n := 2000) (v := 0) (S := S) rfl (by decide) (by decide) (fun _ => rfl) rfl) xk_J7_fill_53178 xs_J7_fill_53178 xl_X0_53 ⟨Nat.le_of_ble_eq_true rfl, Nat.le_of_ble_eq_true rfl⟩ rfl rfl (by decide) ⟨Nat.le_of_ble_eq_true rfl, Nat.le_of_ble_eq_true rfl⟩ dX0_holdsRun_5 (fun S5 h9_2 hw1 => ?_)
  subst h9_2
  refine xi_aload_n C 0 dX0_holdsRun_8 rfl rfl ?_
  refine xi_getR C xK_X0 (q := 9) (r := 53) rfl 12 (by decide) (ki := 12) rfl xl_X0_33 rfl dX0_holdsRun_9 ?_
  refine xi_iconst C (v := 0) dX0_holdsRun_12 rfl ?_
  refine xc_Sv (Qm := fun S' => S' = xfill (xfill S 52 2000 0) 53 2000 0) C hw1 (c_fill l _ (q := 53) (n := 2000) (v := 0) (S := (xfill S 52 2000 0)) rfl (by decide) (by decide) (fun _ => rfl) rfl) xk_J7_fill_53178 xs_J7_fill_53178 xl_X0_53 ⟨Nat.le_of_ble_eq_true rfl, Nat.le_of_ble_eq_true rfl⟩ rfl rfl (by decide) ⟨Nat.le_of_ble_eq_true rfl, Nat.le_of_ble_eq_true rfl⟩ dX0_holdsRun_13 (fun S13 h9_4 hw3 => ?_)
  subst h9_4
  refine xi_iconst C (v := 0) dX0_holdsRun_16 rfl ?_
  refine xi_istore_n C (L' := [(2, .int (iN 0)), (0, .ref (ad 9)), (1, .int (iN a1))]) dX0_holdsRun_17 rfl (by decide) rfl ?_
  refine xJ0_w (fun  S56 => xval (gC D ca ad tF) S56 → xV (gC D ca ad tF) p l e ({ frames := 2, cells := 0, slots := 0, locals := 45 }) s m args below meth c A 3 Z 0 0 56 [(0, .ref (ad 9)), (1, .int (iN a1))] [] S56) h (fun  S56 h  hw56 => ?_) (fun j56 hj56 h => ?_)
  · unfold w_X0_holdsRun_J56 at h
    refine xi_iconst C (v := 0) dX0_holdsRun_56 rfl ?_
    refine xi_istore_n C (L' := [(2, .int (iN 0)), (0, .ref (ad 9)), (1, .int (iN a1))]) dX0_holdsRun_57 rfl (by decide) rfl ?_
    refine xi_sub [1, 2, 0] rfl (xW1 (fun v2_58 S58 => xR v2_58 → xval (gC D ca ad tF) S58 → xV (gC D ca ad tF) p l e ({ frames := 2, cells := 0, slots := 0, locals := 45 }) s m args below meth c A 3 Z 0 0 58 [(0, .ref (ad 9)), (1, .int (iN a1)), (2, .int (iN v2_58))] [] S58) h (fun k58 hk58 v2_58 S58 h h_v2_58 hw58 => ?_) (by decide) hw56)
    unfold w_X0_holdsRun_L58 at h
    refine xi_iload_n C 2 dX0_holdsRun_58 rfl rfl ?_
    refine xi_aload_n C 0 dX0_holdsRun_59 rfl rfl ?_
    refine xi_getI C xK_X0 (q := 9) (r := 0) rfl 1 (by decide) (ki := 1) rfl xl_X0_40 rfl dX0_holdsRun_60 ?_
    refine xi_icmp_ge C 99 h_v2_58 (xval.i (q := 9) (i := 1) hw58 (by decide) rfl) dX0_holdsRun_63 (by decide) (fun z5 => ?_) (fun z5 => ?_)
    · replace h := h.1 z5
      refine xi_iconst C (v := 0) dX0_holdsRun_99 rfl ?_
      exact xr_i C hA hZ hr hlocks (xnarZ (Or.inl rfl)).1 dX0_holdsRun_100 (Nat.le_of_ble_eq_true rfl) (Nat.le_of_ble_eq_true rfl) hw58 ⟨_, rfl, (by decide), h⟩
    · replace h := h.2 z5
      refine xi_aload_n C 0 dX0_holdsRun_66 rfl rfl ?_
      refine xi_getR C xK_X0 (q := 9) (r := 53) rfl 12 (by decide) (ki := 12) rfl xl_X0_33 rfl dX0_holdsRun_67 ?_
      refine xi_iload_n C 2 dX0_holdsRun_70 rfl rfl ?_
      obtain ⟨hc6, h⟩ := h
      refine xi_iaload C (q := 53) rfl (by decide) hc6 dX0_holdsRun_71 ?_
      refine xi_iconst C (v := 1) dX0_holdsRun_72 rfl ?_
      refine xi_icmp_ne C 93 (xval.i (q := 53) (i := v2_58) hw58 hc6.1 rfl) (by decide) dX0_holdsRun_73 (by decide) (fun z7 => ?_) (fun z7 => ?_)
      · replace h := h.1 z7
        refine xi_iinc C (L' := [(2, .int (iN (v2_58 + 1))), (0, .ref (ad 9)), (1, .int (iN a1))]) 2 dX0_holdsRun_93 rfl (by decide) rfl ?_
        refine xi_goto C 58 dX0_holdsRun_96 (by decide) ?_
        obtain ⟨hc8, h⟩ := h
        exact xi_sub [1, 2, 0] rfl (hk58 (v2_58 + 1) S58 h hc8 hw58)
      · replace h := h.2 z7
        refine xi_iload_n C 1 dX0_holdsRun_76 rfl rfl ?_
        refine xi_if_eq C 91 h_a1 dX0_holdsRun_77 (by decide) (fun z9 => ?_) (fun z9 => ?_)
        · replace h := h.1 z9
          refine xi_iconst C (v := 1) dX0_holdsRun_91 rfl ?_
          exact xr_i C hA hZ hr hlocks (xnarZ (Or.inr rfl)).1 dX0_holdsRun_92 (Nat.le_of_ble_eq_true rfl) (Nat.le_of_ble_eq_true rfl) hw58 ⟨_, rfl, (by decide), h⟩
        · replace h := h.2 z9
          refine xi_aload_n C 0 dX0_holdsRun_80 rfl rfl ?_
          refine xi_getR C xK_X0 (q := 9) (r := 52) rfl 11 (by decide) (ki := 11) rfl xl_X0_30 rfl dX0_holdsRun_81 ?_
          refine xi_iload_n C 2 dX0_holdsRun_84 rfl rfl ?_
          refine xi_iaload C (q := 52) rfl (by decide) hc6 dX0_holdsRun_85 ?_
          refine xi_bipush C (v := 7) dX0_holdsRun_86 (by decide +kernel) ?_
          refine xi_icmp_ne C 93 (xval.i (q := 52) (i := v2_58) hw58 hc6.1 rfl) (by decide) dX0_holdsRun_88 (by decide) (fun z10 => ?_) (fun z10 => ?_)
          · replace h := h.1 z10
            refine xi_iinc C (L' := [(2, .int (iN (v2_58 + 1))), (0, .ref (ad 9)), (1, .int (iN a1))]) 2 dX0_holdsRun_93 rfl (by decide) rfl ?_
            refine xi_goto C 58 dX0_holdsRun_96 (by decide) ?_
            obtain ⟨hc11, h⟩ := h
            exact xi_sub [1, 2, 0] rfl (hk58 (v2_58 + 1) S58 h hc11 hw58)
          · replace h := h.2 z10
            refine xi_iconst C (v := 1) dX0_holdsRun_91 rfl ?_
            exact xr_i C hA hZ hr hlocks (xnarZ (Or.inr rfl)).1 dX0_holdsRun_92 (Nat.le_of_ble_eq_true rfl) (Nat.le_of_ble_eq_true rfl) hw58 ⟨_, rfl, (by decide), h⟩
  · refine xi_sub [1, 2, 0] rfl (xW1 (fun v2_18 S18 => xR v2_18 → xval (gC D ca ad tF) S18 → xV (gC D ca ad tF) p l e ({ frames := 2, cells := 0, slots := 0, locals := 45 }) s m args below meth c A 3 Z 0 0 18 [(0, .ref (ad 9)), (1, .int (iN a1)), (2, .int (iN v2_18))] [] S18) h (fun k18 hk18 v2_18 S18 h h_v2_18 hw18 => ?_) (by decide) hw3)
    unfold w_X0_holdsRun_L18 at h
    refine xi_iload_n C 2 dX0_holdsRun_18 rfl rfl ?_
    refine xi_aload_n C 0 dX0_holdsRun_19 rfl rfl ?_
    refine xi_getR C xK_X0 (q := 9) (r := 5) rfl 0 (by decide) (ki := 0) rfl xl_X0_36 rfl dX0_holdsRun_20 ?_
    refine xi_getIN C xK_X2 (q := 5) (r := 0) rfl 0 (by decide) (ki := 0) rfl xn_X0_59 rfl dX0_holdsRun_23 ?_
    refine xi_icmp_ge C 56 h_v2_18 (xval.i (q := 5) (i := 0) hw18 (by decide) rfl) dX0_holdsRun_26 (by decide) (fun z12 => ?_) (fun z12 => ?_)
    · replace h := h.1 z12
      exact xi_sub [0, 1] rfl (hj56 S18 h hw18)
    · replace h := h.2 z12
      refine xi_aload_n C 0 dX0_holdsRun_29 rfl rfl ?_
      refine xi_getR C xK_X0 (q := 9) (r := 46) rfl 2 (by decide) (ki := 2) rfl xl_X0_9 rfl dX0_holdsRun_30 ?_
      refine xi_iload_n C 2 dX0_holdsRun_33 rfl rfl ?_
      obtain ⟨hc13, h⟩ := h
      refine xi_iaload C (q := 46) rfl (by decide) hc13 dX0_holdsRun_34 ?_
      refine xi_iconst C (v := (-1)) dX0_holdsRun_35 rfl ?_
      refine xi_icmp_eq C 50 (xval.i (q := 46) (i := v2_18) hw18 hc13.1 rfl) (by decide) dX0_holdsRun_36 (by decide) (fun z14 => ?_) (fun z14 => ?_)
      · replace h := h.1 z14
        refine xi_iinc C (L' := [(2, .int (iN (v2_18 + 1))), (0, .ref (ad 9)), (1, .int (iN a1))]) 2 dX0_holdsRun_50 rfl (by decide) rfl ?_
        refine xi_goto C 18 dX0_holdsRun_53 (by decide) ?_
        obtain ⟨hc15, h⟩ := h
        exact xi_sub [1, 2, 0] rfl (hk18 (v2_18 + 1) S18 h hc15 hw18)
      · replace h := h.2 z14
        refine xi_aload_n C 0 dX0_holdsRun_39 rfl rfl ?_
        refine xi_iload_n C 2 dX0_holdsRun_40 rfl rfl ?_
        refine xi_aload_n C 0 dX0_holdsRun_41 rfl rfl ?_
        refine xi_getR C xK_X0 (q := 9) (r := 46) rfl 2 (by decide) (ki := 2) rfl xl_X0_9 rfl dX0_holdsRun_42 ?_
        refine xi_iload_n C 2 dX0_holdsRun_45 rfl rfl ?_
        refine xi_iaload C (q := 46) rfl (by decide) hc13 dX0_holdsRun_46 ?_
        refine xc_Vv C hw18 (c_X0_judge l D ca ad tF v2_18 (S18 46 v2_18) S18 _ h_v2_18 (xval.i (q := 46) (i := v2_18) hw18 hc13.1 rfl) h) xk_X0_judge xv_X0_judge xl_X0_101 ⟨Nat.le_of_ble_eq_true rfl, Nat.le_of_ble_eq_true rfl⟩ xK_X0 (q := 9) rfl rfl rfl (Nat.le_of_ble_eq_true rfl) ⟨Nat.le_of_ble_eq_true rfl, Nat.le_of_ble_eq_true rfl⟩ dX0_holdsRun_47 (fun S47 h hw16 => ?_)
        refine xi_iinc C (L' := [(2, .int (iN (v2_18 + 1))), (0, .ref (ad 9)), (1, .int (iN a1))]) 2 dX0_holdsRun_50 rfl (by decide) rfl ?_
        refine xi_goto C 18 dX0_holdsRun_53 (by decide) ?_
        obtain ⟨hc17, h⟩ := h
        exact xi_sub [1, 2, 0] rfl (hk18 (v2_18 + 1) S47 h hc17 hw16)
set_option maxRecDepth 100000 in
set_option maxHeartbeats 4000000 in
theorem c_X5_canLeaveForGood (l : Launch) (D : va_G) (ca : Nat → ClassId) (ad : Nat → Nat) (tF : Nat) (a1 : Int) (a2 : Int) (a3 : Int) (S : xS) (Q : Int → xS → Prop) (h_a1 : xR a1) (h_a2 : xR a2) (h_a3 : xR a3) (h : w_X5_canLeaveForGood a1 a2 a3 S Q) : xM l yX5_canLeaveForGood (xws yX5_canLeaveForGood cX5_canLeaveForGood 4 (some .boolean)) ({ frames := 4, cells := 0, slots := 0, locals := 130 }) (gC D ca ad tF) [.ref (ad 3), .int (iN a1), .int (iN a2), .int (iN a3)] S (xQi Q) 0 0 := by
  refine xm_of RX5 rfl (by decide +kernel) (Nat.le_of_ble_eq_true rfl) ?_
  intro p e s m args below meth c A Z C hA hZ hr hlocks hw
  unfold w_X5_canLeaveForGood at h
  show xV (gC D ca ad tF) p l e ({ frames := 4, cells := 0, slots := 0, locals := 130 }) s m args below meth c A 4 Z 0 0 0 [(0, .ref (ad 3)), (1, .int (iN a1)), (2, .int (iN a2)), (3, .int (iN a3))] [] S
  refine xi_aload_n C 0 dX5_canLeaveForGood_0 rfl rfl ?_
  refine xi_iload_n C 1 dX5_canLeaveForGood_1 rfl rfl ?_
  refine xi_iload_n C 2 dX5_canLeaveForGood_2 rfl rfl ?_
  refine xc_Vv C hw (c_X5_markWithout l D ca ad tF a1 a2 S _ h_a1 h_a2 h) xk_X5_markWithout xv_X5_markWithout xl_X5_49 ⟨Nat.le_of_ble_eq_true rfl, Nat.le_of_ble_eq_true rfl⟩ xK_X5 (q := 3) rfl rfl rfl (Nat.le_of_ble_eq_true rfl) ⟨Nat.le_of_ble_eq_true rfl, Nat.le_of_ble_eq_true rfl⟩ dX5_canLeaveForGood_3 (fun S3 h hw1 => ?_)
  refine xi_aload_n C 0 dX5_canLeaveForGood_6 rfl rfl ?_
  refine xi_getR C xK_X5 (q := 3) (r := 9) rfl 2 (by decide) (ki := 2) rfl xl_X5_31 rfl dX5_canLeaveForGood_7 ?_
  refine xi_aload_n C 0 dX5_canLeaveForGood_10 rfl rfl ?_
  refine xi_getR C xK_X5 (q := 3) (r := 23) rfl 3 (by decide) (ki := 3) rfl xl_X5_9 rfl dX5_canLeaveForGood_11 ?_
  refine xc_Vv C hw1 (c_X0_split l D ca ad tF S3 _ h) xk_X0_split xv_X0_split xl_X5_41 ⟨Nat.le_of_ble_eq_true rfl, Nat.le_of_ble_eq_true rfl⟩ xK_X0 (q := 9) rfl rfl rfl (Nat.le_of_ble_eq_true rfl) ⟨Nat.le_of_ble_eq_true rfl, Nat.le_of_ble_eq_true rfl⟩ dX5_canLeaveForGood_14 (fun S14 h hw2 => ?_)
  refine xi_aload_n C 0 dX5_canLeaveForGood_17 rfl rfl ?_
  refine xi_getR C xK_X5 (q := 3) (r := 9) rfl 2 (by decide) (ki := 2) rfl xl_X5_31 rfl dX5_canLeaveForGood_18 ?_
  refine xi_iload_n C 3 dX5_canLeaveForGood_21 rfl rfl ?_
  refine xc_Vi C hw2 (c_X0_holdsRun l D ca ad tF a3 S14 _ h_a3 h) xk_X0_holdsRun xv_X0_holdsRun xl_X5_53 ⟨Nat.le_of_ble_eq_true rfl, Nat.le_of_ble_eq_true rfl⟩ xK_X0 (q := 9) rfl rfl rfl (Nat.le_of_ble_eq_true rfl) ⟨Nat.le_of_ble_eq_true rfl, Nat.le_of_ble_eq_true rfl⟩ dX5_canLeaveForGood_22 (fun r22 S22 h_r22 h hw3 => ?_)
  obtain ⟨hc4, h⟩ := h
  exact xr_i C hA hZ hr hlocks (xnarZ hc4).1 dX5_canLeaveForGood_25 (Nat.le_of_ble_eq_true rfl) (Nat.le_of_ble_eq_true rfl) hw3 ⟨_, rfl, h_r22, h⟩
set_option maxRecDepth 100000 in
set_option maxHeartbeats 4000000 in
theorem c_X5_takeIfStuck (l : Launch) (D : va_G) (ca : Nat → ClassId) (ad : Nat → Nat) (tF : Nat) (a1 : Int) (S : xS) (Q : Int → xS → Prop) (h_a1 : xR a1) (h : w_X5_takeIfStuck a1 S Q) : xM l yX5_takeIfStuck (xws yX5_takeIfStuck cX5_takeIfStuck 3 (some .int)) ({ frames := 1, cells := 0, slots := 0, locals := 21 }) (gC D ca ad tF) [.ref (ad 3), .int (iN a1)] S (xQi Q) 0 0 := by
  refine xm_of RX5 rfl (by decide +kernel) (Nat.le_of_ble_eq_true rfl) ?_
  intro p e s m args below meth c A Z C hA hZ hr hlocks hw
  unfold w_X5_takeIfStuck at h
  show xV (gC D ca ad tF) p l e ({ frames := 1, cells := 0, slots := 0, locals := 21 }) s m args below meth c A 3 Z 0 0 0 [(0, .ref (ad 3)), (1, .int (iN a1))] [] S
  refine xi_aload_n C 0 dX5_takeIfStuck_0 rfl rfl ?_
  refine xi_getR C xK_X5 (q := 3) (r := 23) rfl 3 (by decide) (ki := 3) rfl xl_X5_9 rfl dX5_takeIfStuck_1 ?_
  refine xi_iload_n C 1 dX5_takeIfStuck_4 rfl rfl ?_
  obtain ⟨hc1, h⟩ := h
  refine xi_iaload C (q := 23) rfl (by decide) hc1 dX5_takeIfStuck_5 ?_
  refine xi_if_eq C 20 (xval.i (q := 23) (i := a1) hw hc1.1 rfl) dX5_takeIfStuck_6 (by decide) (fun z2 => ?_) (fun z2 => ?_)
  · replace h := h.1 z2
    refine xi_iconst C (v := 0) dX5_takeIfStuck_20 rfl ?_
    exact xr_i C hA hZ hr hlocks rfl dX5_takeIfStuck_21 (Nat.le_of_ble_eq_true rfl) (Nat.le_of_ble_eq_true rfl) hw ⟨_, rfl, (by decide), h⟩
  · replace h := h.2 z2
    refine xi_aload_n C 0 dX5_takeIfStuck_9 rfl rfl ?_
    refine xi_getR C xK_X5 (q := 3) (r := 5) rfl 1 (by decide) (ki := 1) rfl xl_X5_22 rfl dX5_takeIfStuck_10 ?_
    refine xi_iload_n C 1 dX5_takeIfStuck_13 rfl rfl ?_
    refine xc_Vi C hw (c_X2_isWithoutEdges l D ca ad tF a1 S _ h_a1 h) xk_X2_isWithoutEdges xv_X2_isWithoutEdges xl_X5_79 ⟨Nat.le_of_ble_eq_true rfl, Nat.le_of_ble_eq_true rfl⟩ xK_X2 (q := 5) rfl rfl rfl (Nat.le_of_ble_eq_true rfl) ⟨Nat.le_of_ble_eq_true rfl, Nat.le_of_ble_eq_true rfl⟩ dX5_takeIfStuck_14 (fun r14 S14 h_r14 h hw3 => ?_)
    refine xi_if_eq C 22 h_r14 dX5_takeIfStuck_17 (by decide) (fun z4 => ?_) (fun z4 => ?_)
    · replace h := h.1 z4
      refine xi_aload_n C 0 dX5_takeIfStuck_22 rfl rfl ?_
      refine xi_getR C xK_X5 (q := 3) (r := 5) rfl 1 (by decide) (ki := 1) rfl xl_X5_22 rfl dX5_takeIfStuck_23 ?_
      refine xi_getRN C xK_X2 (q := 5) (r := 32) rfl 1 (by decide) (ki := 1) rfl xn_X5_83 rfl dX5_takeIfStuck_26 ?_
      refine xi_iload_n C 1 dX5_takeIfStuck_29 rfl rfl ?_
      refine xi_iaload C (q := 32) rfl (by decide) ⟨hc1.1, Int.lt_of_lt_of_le hc1.2 (by decide)⟩ dX5_takeIfStuck_30 ?_
      refine xi_istore_n C (L' := [(2, .int (iN (S14 32 a1))), (0, .ref (ad 3)), (1, .int (iN a1))]) dX5_takeIfStuck_31 rfl (by decide) rfl ?_
      refine xi_sub [1, 2, 0] rfl (xW1 (fun v2_32 S32 => xR v2_32 → xval (gC D ca ad tF) S32 → xV (gC D ca ad tF) p l e ({ frames := 1, cells := 0, slots := 0, locals := 21 }) s m args below meth c A 3 Z 0 0 32 [(0, .ref (ad 3)), (1, .int (iN a1)), (2, .int (iN v2_32))] [] S32) h (fun k32 hk32 v2_32 S32 h h_v2_32 hw32 => ?_) (xval.i (q := 32) (i := a1) hw3 hc1.1 rfl) hw3)
      unfold w_X5_takeIfStuck_L32 at h
      refine xi_iload_n C 2 dX5_takeIfStuck_32 rfl rfl ?_
      refine xi_aload_n C 0 dX5_takeIfStuck_33 rfl rfl ?_
      refine xi_getR C xK_X5 (q := 3) (r := 5) rfl 1 (by decide) (ki := 1) rfl xl_X5_22 rfl dX5_takeIfStuck_34 ?_
      refine xi_getRN C xK_X2 (q := 5) (r := 32) rfl 1 (by decide) (ki := 1) rfl xn_X5_83 rfl dX5_takeIfStuck_37 ?_
      refine xi_iload_n C 1 dX5_takeIfStuck_40 rfl rfl ?_
      refine xi_iconst C (v := 1) dX5_takeIfStuck_41 rfl ?_
      refine xi_iadd C dX5_takeIfStuck_42 ?_
      obtain ⟨hc5, h⟩ := h
      refine xi_iaload C (q := 32) rfl (by decide) hc5 dX5_takeIfStuck_43 ?_
      refine xi_icmp_ge C 76 h_v2_32 (xval.i (q := 32) (i := a1 + 1) hw32 hc5.1 rfl) dX5_takeIfStuck_44 (by decide) (fun z6 => ?_) (fun z6 => ?_)
      · replace h := h.1 z6
        refine xi_aload_n C 0 dX5_takeIfStuck_76 rfl rfl ?_
        refine xi_getR C xK_X5 (q := 3) (r := 23) rfl 3 (by decide) (ki := 3) rfl xl_X5_9 rfl dX5_takeIfStuck_77 ?_
        refine xi_iload_n C 1 dX5_takeIfStuck_80 rfl rfl ?_
        refine xi_iconst C (v := 0) dX5_takeIfStuck_81 rfl ?_
        refine xi_iastore C (q := 23) rfl (by decide) hc1 dX5_takeIfStuck_82 ?_
        have hw7 := xval.up (q := 23) (i := a1) (v := 0) hw32 rfl (by decide)
        refine xi_iconst C (v := 1) dX5_takeIfStuck_83 rfl ?_
        exact xr_i C hA hZ hr hlocks rfl dX5_takeIfStuck_84 (Nat.le_of_ble_eq_true rfl) (Nat.le_of_ble_eq_true rfl) hw7 ⟨_, rfl, (by decide), h⟩
      · replace h := h.2 z6
        refine xi_aload_n C 0 dX5_takeIfStuck_47 rfl rfl ?_
        refine xi_getR C xK_X5 (q := 3) (r := 23) rfl 3 (by decide) (ki := 3) rfl xl_X5_9 rfl dX5_takeIfStuck_48 ?_
        refine xi_aload_n C 0 dX5_takeIfStuck_51 rfl rfl ?_
        refine xi_getR C xK_X5 (q := 3) (r := 5) rfl 1 (by decide) (ki := 1) rfl xl_X5_22 rfl dX5_takeIfStuck_52 ?_
        refine xi_getEN C xK_X2 (q := 5) (r := 33) rfl 2 (by decide) (ki := 2) rfl xn_X5_86 rfl dX5_takeIfStuck_55 ?_
        refine xi_iload_n C 2 dX5_takeIfStuck_58 rfl rfl ?_
        obtain ⟨hc8, h⟩ := h
        refine xi_ialoadE C (q := 33) rfl hc8 dX5_takeIfStuck_59 ?_
        refine xc_Si C hw32 (c_X2_targetOf l D ca ad tF (S32 33 v2_32) S32 _ (xval.i (q := 33) (i := v2_32) hw32 hc8.1 rfl) h) xk_X2_targetOf xs_X2_targetOf xl_X5_89 ⟨Nat.le_of_ble_eq_true rfl, Nat.le_of_ble_eq_true rfl⟩ rfl rfl (Nat.le_of_ble_eq_true rfl) ⟨Nat.le_of_ble_eq_true rfl, Nat.le_of_ble_eq_true rfl⟩ dX5_takeIfStuck_60 (fun r60 S60 h_r60 h hw9 => ?_)
        obtain ⟨hc10, h⟩ := h
        refine xi_iaload C (q := 23) rfl (by decide) hc10 dX5_takeIfStuck_63 ?_
        refine xi_iconst C (v := 1) dX5_takeIfStuck_64 rfl ?_
        refine xi_icmp_ne C 70 (xval.i (q := 23) (i := r60) hw9 hc10.1 rfl) (by decide) dX5_takeIfStuck_65 (by decide) (fun z11 => ?_) (fun z11 => ?_)
        · replace h := h.1 z11
          refine xi_iinc C (L' := [(2, .int (iN (v2_32 + 1))), (0, .ref (ad 3)), (1, .int (iN a1))]) 2 dX5_takeIfStuck_70 rfl (by decide) rfl ?_
          refine xi_goto C 32 dX5_takeIfStuck_73 (by decide) ?_
          obtain ⟨hc12, h⟩ := h
          exact xi_sub [1, 2, 0] rfl (hk32 (v2_32 + 1) S60 h hc12 hw9)
        · replace h := h.2 z11
          refine xi_iconst C (v := 0) dX5_takeIfStuck_68 rfl ?_
          exact xr_i C hA hZ hr hlocks rfl dX5_takeIfStuck_69 (Nat.le_of_ble_eq_true rfl) (Nat.le_of_ble_eq_true rfl) hw9 ⟨_, rfl, (by decide), h⟩
    · replace h := h.2 z4
      refine xi_iconst C (v := 0) dX5_takeIfStuck_20 rfl ?_
      exact xr_i C hA hZ hr hlocks rfl dX5_takeIfStuck_21 (Nat.le_of_ble_eq_true rfl) (Nat.le_of_ble_eq_true rfl) hw3 ⟨_, rfl, (by decide), h⟩
set_option maxRecDepth 100000 in
set_option maxHeartbeats 4000000 in
theorem c_X5_takeUpwards (l : Launch) (D : va_G) (ca : Nat → ClassId) (ad : Nat → Nat) (tF : Nat)  (S : xS) (Q : Int → xS → Prop)  (h : w_X5_takeUpwards  S Q) : xM l yX5_takeUpwards (xws yX5_takeUpwards cX5_takeUpwards 3 (some .int)) ({ frames := 2, cells := 0, slots := 0, locals := 43 }) (gC D ca ad tF) [.ref (ad 3)] S (xQi Q) 0 0 := by
  refine xm_of RX5 rfl (by decide +kernel) (Nat.le_of_ble_eq_true rfl) ?_
  intro p e s m args below meth c A Z C hA hZ hr hlocks hw
  unfold w_X5_takeUpwards at h
  show xV (gC D ca ad tF) p l e ({ frames := 2, cells := 0, slots := 0, locals := 43 }) s m args below meth c A 3 Z 0 0 0 [(0, .ref (ad 3))] [] S
  refine xi_iconst C (v := 0) dX5_takeUpwards_0 rfl ?_
  refine xi_istore_n C (L' := [(1, .int (iN 0)), (0, .ref (ad 3))]) dX5_takeUpwards_1 rfl (by decide) rfl ?_
  refine xi_iconst C (v := 0) dX5_takeUpwards_2 rfl ?_
  refine xi_istore_n C (L' := [(2, .int (iN 0)), (1, .int (iN 0)), (0, .ref (ad 3))]) dX5_takeUpwards_3 rfl (by decide) rfl ?_
  refine xi_sub [2, 1, 0] rfl (xW2 (fun v1_4 v2_4 S4 => xR v1_4 → xR v2_4 → xval (gC D ca ad tF) S4 → xV (gC D ca ad tF) p l e ({ frames := 2, cells := 0, slots := 0, locals := 43 }) s m args below meth c A 3 Z 0 0 4 [(0, .ref (ad 3)), (1, .int (iN v1_4)), (2, .int (iN v2_4))] [] S4) h (fun k4 hk4 v1_4 v2_4 S4 h h_v1_4 h_v2_4 hw4 => ?_) (by decide) (by decide) hw)
  unfold w_X5_takeUpwards_L4 at h
  refine xi_iload_n C 2 dX5_takeUpwards_4 rfl rfl ?_
  refine xi_aload_n C 0 dX5_takeUpwards_5 rfl rfl ?_
  refine xi_getR C xK_X5 (q := 3) (r := 5) rfl 1 (by decide) (ki := 1) rfl xl_X5_22 rfl dX5_takeUpwards_6 ?_
  refine xi_getIN C xK_X2 (q := 5) (r := 0) rfl 0 (by decide) (ki := 0) rfl xn_X5_57 rfl dX5_takeUpwards_9 ?_
  refine xi_icmp_ge C 29 h_v2_4 (xval.i (q := 5) (i := 0) hw4 (by decide) rfl) dX5_takeUpwards_12 (by decide) (fun z1 => ?_) (fun z1 => ?_)
  · replace h := h.1 z1
    refine xi_iload_n C 1 dX5_takeUpwards_29 rfl rfl ?_
    exact xr_i C hA hZ hr hlocks rfl dX5_takeUpwards_30 (Nat.le_of_ble_eq_true rfl) (Nat.le_of_ble_eq_true rfl) hw4 ⟨_, rfl, h_v1_4, h⟩
  · replace h := h.2 z1
    refine xi_iload_n C 1 dX5_takeUpwards_15 rfl rfl ?_
    refine xi_aload_n C 0 dX5_takeUpwards_16 rfl rfl ?_
    refine xi_iload_n C 2 dX5_takeUpwards_17 rfl rfl ?_
    refine xc_Vi C hw4 (c_X5_takeIfStuck l D ca ad tF v2_4 S4 _ h_v2_4 h) xk_X5_takeIfStuck xv_X5_takeIfStuck xl_X5_75 ⟨Nat.le_of_ble_eq_true rfl, Nat.le_of_ble_eq_true rfl⟩ xK_X5 (q := 3) rfl rfl rfl (Nat.le_of_ble_eq_true rfl) ⟨Nat.le_of_ble_eq_true rfl, Nat.le_of_ble_eq_true rfl⟩ dX5_takeUpwards_18 (fun r18 S18 h_r18 h hw2 => ?_)
    refine xi_iadd C dX5_takeUpwards_21 ?_
    refine xi_istore_n C (L' := [(1, .int (iN (v1_4 + r18))), (0, .ref (ad 3)), (2, .int (iN v2_4))]) dX5_takeUpwards_22 rfl (by decide) rfl ?_
    refine xi_iinc C (L' := [(2, .int (iN (v2_4 + 1))), (1, .int (iN (v1_4 + r18))), (0, .ref (ad 3))]) 2 dX5_takeUpwards_23 rfl (by decide) rfl ?_
    refine xi_goto C 4 dX5_takeUpwards_26 (by decide) ?_
    obtain ⟨hc3, h⟩ := h
    obtain ⟨hc4, h⟩ := h
    exact xi_sub [2, 1, 0] rfl (hk4 (v1_4 + r18) (v2_4 + 1) S18 h hc3 hc4 hw2)
set_option maxRecDepth 100000 in
set_option maxHeartbeats 4000000 in
theorem c_X5_takeDownwards (l : Launch) (D : va_G) (ca : Nat → ClassId) (ad : Nat → Nat) (tF : Nat)  (S : xS) (Q : Int → xS → Prop)  (h : w_X5_takeDownwards  S Q) : xM l yX5_takeDownwards (xws yX5_takeDownwards cX5_takeDownwards 3 (some .int)) ({ frames := 2, cells := 0, slots := 0, locals := 43 }) (gC D ca ad tF) [.ref (ad 3)] S (xQi Q) 0 0 := by
  refine xm_of RX5 rfl (by decide +kernel) (Nat.le_of_ble_eq_true rfl) ?_
  intro p e s m args below meth c A Z C hA hZ hr hlocks hw
  unfold w_X5_takeDownwards at h
  show xV (gC D ca ad tF) p l e ({ frames := 2, cells := 0, slots := 0, locals := 43 }) s m args below meth c A 3 Z 0 0 0 [(0, .ref (ad 3))] [] S
  refine xi_iconst C (v := 0) dX5_takeDownwards_0 rfl ?_
  refine xi_istore_n C (L' := [(1, .int (iN 0)), (0, .ref (ad 3))]) dX5_takeDownwards_1 rfl (by decide) rfl ?_
  refine xi_aload_n C 1 dX5_takeDownwards_2 rfl rfl ?_
  refine xi_getR C xK_X5 (q := 3) (r := 5) rfl 1 (by decide) (ki := 1) rfl xl_X5_22 rfl dX5_takeDownwards_3 ?_
  refine xi_getIN C xK_X2 (q := 5) (r := 0) rfl 0 (by decide) (ki := 0) rfl xn_X5_57 rfl dX5_takeDownwards_6 ?_
  refine xi_iconst C (v := 1) dX5_takeDownwards_9 rfl ?_
  refine xi_isub C dX5_takeDownwards_10 ?_
  refine xi_istore_n C (L' := [(2, .int (iN ((S 5 0) - 1))), (1, .int (iN 0)), (0, .ref (ad 3))]) dX5_takeDownwards_11 rfl (by decide) rfl ?_
  obtain ⟨hc1, h⟩ := h
  refine xi_sub [2, 1, 0] rfl (xW2 (fun v1_12 v2_12 S12 => xR v1_12 → xR v2_12 → xval (gC D ca ad tF) S12 → xV (gC D ca ad tF) p l e ({ frames := 2, cells := 0, slots := 0, locals := 43 }) s m args below meth c A 3 Z 0 0 12 [(0, .ref (ad 3)), (1, .int (iN v1_12)), (2, .int (iN v2_12))] [] S12) h (fun k12 hk12 v1_12 v2_12 S12 h h_v1_12 h_v2_12 hw12 => ?_) (by decide) hc1 hw)
  unfold w_X5_takeDownwards_L12 at h
  refine xi_iload_n C 2 dX5_takeDownwards_12 rfl rfl ?_
  refine xi_if_lt C 30 h_v2_12 dX5_takeDownwards_13 (by decide) (fun z2 => ?_) (fun z2 => ?_)
  · replace h := h.1 z2
    refine xi_iload_n C 1 dX5_takeDownwards_30 rfl rfl ?_
    exact xr_i C hA hZ hr hlocks rfl dX5_takeDownwards_31 (Nat.le_of_ble_eq_true rfl) (Nat.le_of_ble_eq_true rfl) hw12 ⟨_, rfl, h_v1_12, h⟩
  · replace h := h.2 z2
    refine xi_iload_n C 1 dX5_takeDownwards_16 rfl rfl ?_
    refine xi_aload_n C 0 dX5_takeDownwards_17 rfl rfl ?_
    refine xi_iload_n C 2 dX5_takeDownwards_18 rfl rfl ?_
    refine xc_Vi C hw12 (c_X5_takeIfStuck l D ca ad tF v2_12 S12 _ h_v2_12 h) xk_X5_takeIfStuck xv_X5_takeIfStuck xl_X5_75 ⟨Nat.le_of_ble_eq_true rfl, Nat.le_of_ble_eq_true rfl⟩ xK_X5 (q := 3) rfl rfl rfl (Nat.le_of_ble_eq_true rfl) ⟨Nat.le_of_ble_eq_true rfl, Nat.le_of_ble_eq_true rfl⟩ dX5_takeDownwards_19 (fun r19 S19 h_r19 h hw3 => ?_)
    refine xi_iadd C dX5_takeDownwards_22 ?_
    refine xi_istore_n C (L' := [(1, .int (iN (v1_12 + r19))), (0, .ref (ad 3)), (2, .int (iN v2_12))]) dX5_takeDownwards_23 rfl (by decide) rfl ?_
    refine xi_iinc C (L' := [(2, .int (iN (v2_12 + (-1)))), (1, .int (iN (v1_12 + r19))), (0, .ref (ad 3))]) 2 dX5_takeDownwards_24 rfl (by decide) rfl ?_
    refine xi_goto C 12 dX5_takeDownwards_27 (by decide) ?_
    obtain ⟨hc4, h⟩ := h
    obtain ⟨hc5, h⟩ := h
    exact xi_sub [2, 1, 0] rfl (hk12 (v1_12 + r19) (v2_12 + (-1)) S19 h hc4 hc5 hw3)
set_option maxRecDepth 100000 in
set_option maxHeartbeats 4000000 in
theorem c_X5_isAllTaken (l : Launch) (D : va_G) (ca : Nat → ClassId) (ad : Nat → Nat) (tF : Nat) (a1 : Int) (a2 : Int) (S : xS) (Q : Int → xS → Prop) (h_a1 : xR a1) (h_a2 : xR a2) (h : w_X5_isAllTaken a1 a2 S Q) : xM l yX5_isAllTaken (xws yX5_isAllTaken cX5_isAllTaken 5 (some .boolean)) ({ frames := 3, cells := 0, slots := 0, locals := 65 }) (gC D ca ad tF) [.ref (ad 3), .int (iN a1), .int (iN a2)] S (xQi Q) 0 0 := by
  refine xm_of RX5 rfl (by decide +kernel) (Nat.le_of_ble_eq_true rfl) ?_
  intro p e s m args below meth c A Z C hA hZ hr hlocks hw
  unfold w_X5_isAllTaken at h
  show xV (gC D ca ad tF) p l e ({ frames := 3, cells := 0, slots := 0, locals := 65 }) s m args below meth c A 5 Z 0 0 0 [(0, .ref (ad 3)), (1, .int (iN a1)), (2, .int (iN a2))] [] S
  refine xi_aload_n C 0 dX5_isAllTaken_0 rfl rfl ?_
  refine xi_iload_n C 1 dX5_isAllTaken_1 rfl rfl ?_
  refine xi_iload_n C 2 dX5_isAllTaken_2 rfl rfl ?_
  refine xc_Vv C hw (c_X5_markWithout l D ca ad tF a1 a2 S _ h_a1 h_a2 h) xk_X5_markWithout xv_X5_markWithout xl_X5_49 ⟨Nat.le_of_ble_eq_true rfl, Nat.le_of_ble_eq_true rfl⟩ xK_X5 (q := 3) rfl rfl rfl (Nat.le_of_ble_eq_true rfl) ⟨Nat.le_of_ble_eq_true rfl, Nat.le_of_ble_eq_true rfl⟩ dX5_isAllTaken_3 (fun S3 h hw1 => ?_)
  refine xi_iconst C (v := 0) dX5_isAllTaken_6 rfl ?_
  refine xi_istore_n C (L' := [(3, .int (iN 0)), (0, .ref (ad 3)), (1, .int (iN a1)), (2, .int (iN a2))]) dX5_isAllTaken_7 rfl (by decide) rfl ?_
  refine xJ0_w (fun  S52 => xval (gC D ca ad tF) S52 → xV (gC D ca ad tF) p l e ({ frames := 3, cells := 0, slots := 0, locals := 65 }) s m args below meth c A 5 Z 0 0 52 [(0, .ref (ad 3))] [] S52) h (fun  S52 h  hw52 => ?_) (fun j52 hj52 h => ?_)
  · unfold w_X5_isAllTaken_J52 at h
    refine xi_iconst C (v := 0) dX5_isAllTaken_52 rfl ?_
    refine xi_istore_n C (L' := [(3, .int (iN 0)), (0, .ref (ad 3))]) dX5_isAllTaken_53 rfl (by decide) rfl ?_
    refine xi_sub [1, 0] rfl (xW1 (fun v3_54 S54 => xR v3_54 → xval (gC D ca ad tF) S54 → xV (gC D ca ad tF) p l e ({ frames := 3, cells := 0, slots := 0, locals := 65 }) s m args below meth c A 5 Z 0 0 54 [(0, .ref (ad 3)), (3, .int (iN v3_54))] [] S54) h (fun k54 hk54 v3_54 S54 h h_v3_54 hw54 => ?_) (by decide) hw52)
    unfold w_X5_isAllTaken_L54 at h
    refine xi_iload_n C 1 dX5_isAllTaken_54 rfl rfl ?_
    refine xi_aload_n C 0 dX5_isAllTaken_55 rfl rfl ?_
    refine xi_getR C xK_X5 (q := 3) (r := 5) rfl 1 (by decide) (ki := 1) rfl xl_X5_22 rfl dX5_isAllTaken_56 ?_
    refine xi_getIN C xK_X2 (q := 5) (r := 0) rfl 0 (by decide) (ki := 0) rfl xn_X5_57 rfl dX5_isAllTaken_59 ?_
    refine xi_icmp_ge C 83 h_v3_54 (xval.i (q := 5) (i := 0) hw54 (by decide) rfl) dX5_isAllTaken_62 (by decide) (fun z2 => ?_) (fun z2 => ?_)
    · replace h := h.1 z2
      refine xi_iconst C (v := 1) dX5_isAllTaken_83 rfl ?_
      exact xr_i C hA hZ hr hlocks (xnarZ (Or.inr rfl)).1 dX5_isAllTaken_84 (Nat.le_of_ble_eq_true rfl) (Nat.le_of_ble_eq_true rfl) hw54 ⟨_, rfl, (by decide), h⟩
    · replace h := h.2 z2
      refine xi_aload_n C 0 dX5_isAllTaken_65 rfl rfl ?_
      refine xi_getR C xK_X5 (q := 3) (r := 23) rfl 3 (by decide) (ki := 3) rfl xl_X5_9 rfl dX5_isAllTaken_66 ?_
      refine xi_iload_n C 1 dX5_isAllTaken_69 rfl rfl ?_
      obtain ⟨hc3, h⟩ := h
      refine xi_iaload C (q := 23) rfl (by decide) hc3 dX5_isAllTaken_70 ?_
      refine xi_iconst C (v := 1) dX5_isAllTaken_71 rfl ?_
      refine xi_icmp_ne C 77 (xval.i (q := 23) (i := v3_54) hw54 hc3.1 rfl) (by decide) dX5_isAllTaken_72 (by decide) (fun z4 => ?_) (fun z4 => ?_)
      · replace h := h.1 z4
        refine xi_iinc C (L' := [(3, .int (iN (v3_54 + 1))), (0, .ref (ad 3))]) 1 dX5_isAllTaken_77 rfl (by decide) rfl ?_
        refine xi_goto C 54 dX5_isAllTaken_80 (by decide) ?_
        obtain ⟨hc5, h⟩ := h
        exact xi_sub [1, 0] rfl (hk54 (v3_54 + 1) S54 h hc5 hw54)
      · replace h := h.2 z4
        refine xi_iconst C (v := 0) dX5_isAllTaken_75 rfl ?_
        exact xr_i C hA hZ hr hlocks (xnarZ (Or.inl rfl)).1 dX5_isAllTaken_76 (Nat.le_of_ble_eq_true rfl) (Nat.le_of_ble_eq_true rfl) hw54 ⟨_, rfl, (by decide), h⟩
  · refine xJ0_w (fun  S43 => xval (gC D ca ad tF) S43 → xV (gC D ca ad tF) p l e ({ frames := 3, cells := 0, slots := 0, locals := 65 }) s m args below meth c A 5 Z 0 0 43 [(0, .ref (ad 3))] [] S43) h (fun  S43 h  hw43 => ?_) (fun j43 hj43 h => ?_)
    · unfold w_X5_isAllTaken_J43 at h
      refine xi_goto C 52 dX5_isAllTaken_43 (by decide) ?_
      exact xi_sub [0] rfl (hj52 S43 h hw43)
    · refine xi_sub [1, 0] rfl (xW1 (fun v3_8 S8 => xR v3_8 → xval (gC D ca ad tF) S8 → xV (gC D ca ad tF) p l e ({ frames := 3, cells := 0, slots := 0, locals := 65 }) s m args below meth c A 5 Z 0 0 8 [(0, .ref (ad 3)), (3, .int (iN v3_8))] [] S8) h (fun k8 hk8 v3_8 S8 h h_v3_8 hw8 => ?_) (by decide) hw1)
      unfold w_X5_isAllTaken_L8 at h
      refine xi_iload_n C 1 dX5_isAllTaken_8 rfl rfl ?_
      refine xi_aload_n C 0 dX5_isAllTaken_9 rfl rfl ?_
      refine xi_getR C xK_X5 (q := 3) (r := 5) rfl 1 (by decide) (ki := 1) rfl xl_X5_22 rfl dX5_isAllTaken_10 ?_
      refine xi_getIN C xK_X2 (q := 5) (r := 0) rfl 0 (by decide) (ki := 0) rfl xn_X5_57 rfl dX5_isAllTaken_13 ?_
      refine xi_icmp_gt C 52 h_v3_8 (xval.i (q := 5) (i := 0) hw8 (by decide) rfl) dX5_isAllTaken_16 (by decide) (fun z6 => ?_) (fun z6 => ?_)
      · replace h := h.1 z6
        exact xi_sub [0] rfl (hj52 S8 h hw8)
      · replace h := h.2 z6
        refine xi_iload_n C 1 dX5_isAllTaken_19 rfl rfl ?_
        refine xi_iconst C (v := 2) dX5_isAllTaken_20 rfl ?_
        obtain ⟨hc7, h⟩ := h
        refine xi_irem C h_v3_8 hc7 (by decide) (by decide) dX5_isAllTaken_21 ?_
        refine xJ1_w (fun t0_36 S36 => xR t0_36 → xval (gC D ca ad tF) S36 → xV (gC D ca ad tF) p l e ({ frames := 3, cells := 0, slots := 0, locals := 65 }) s m args below meth c A 5 Z 0 0 36 [(0, .ref (ad 3)), (3, .int (iN v3_8))] [.int (iN t0_36)] S36) h (fun t0_36 S36 h h_t0_36 hw36 => ?_) (fun j36 hj36 h => ?_)
        · unfold w_X5_isAllTaken_J36 at h
          refine xi_istore C (L' := [(4, .int (iN t0_36)), (0, .ref (ad 3)), (3, .int (iN v3_8))]) dX5_isAllTaken_36 (by decide) rfl ?_
          refine xi_iload C 0 dX5_isAllTaken_38 rfl ?_
          refine xi_if_ne C 46 h_t0_36 dX5_isAllTaken_40 (by decide) (fun z9 => ?_) (fun z9 => ?_)
          · replace h := h.1 z9
            refine xi_iinc C (L' := [(3, .int (iN (v3_8 + 1))), (4, .int (iN t0_36)), (0, .ref (ad 3))]) 2 dX5_isAllTaken_46 rfl (by decide) rfl ?_
            refine xi_goto C 8 dX5_isAllTaken_49 (by decide) ?_
            obtain ⟨hc10, h⟩ := h
            exact xi_sub [2, 0] rfl (hk8 (v3_8 + 1) S36 h hc10 hw36)
          · replace h := h.2 z9
            exact xi_sub [1] rfl (hj43 S36 h hw36)
        · refine xi_if_ne C 32 (xR_mod h_v3_8 hc7 (by decide) (by decide)) dX5_isAllTaken_22 (by decide) (fun z8 => ?_) (fun z8 => ?_)
          · replace h := h.1 z8
            refine xi_aload_n C 0 dX5_isAllTaken_32 rfl rfl ?_
            refine xc_Vi C hw8 (c_X5_takeUpwards l D ca ad tF S8 _ h) xk_X5_takeUpwards xv_X5_takeUpwards xl_X5_72 ⟨Nat.le_of_ble_eq_true rfl, Nat.le_of_ble_eq_true rfl⟩ xK_X5 (q := 3) rfl rfl rfl (Nat.le_of_ble_eq_true rfl) ⟨Nat.le_of_ble_eq_true rfl, Nat.le_of_ble_eq_true rfl⟩ dX5_isAllTaken_33 (fun r33 S33 h_r33 h hw11 => ?_)
            exact xi_sub [0, 1] rfl (hj36 r33 S33 h h_r33 hw11)
          · replace h := h.2 z8
            refine xi_aload_n C 0 dX5_isAllTaken_25 rfl rfl ?_
            refine xc_Vi C hw8 (c_X5_takeDownwards l D ca ad tF S8 _ h) xk_X5_takeDownwards xv_X5_takeDownwards xl_X5_68 ⟨Nat.le_of_ble_eq_true rfl, Nat.le_of_ble_eq_true rfl⟩ xK_X5 (q := 3) rfl rfl rfl (Nat.le_of_ble_eq_true rfl) ⟨Nat.le_of_ble_eq_true rfl, Nat.le_of_ble_eq_true rfl⟩ dX5_isAllTaken_26 (fun r26 S26 h_r26 h hw12 => ?_)
            refine xi_goto C 36 dX5_isAllTaken_29 (by decide) ?_
            exact xi_sub [0, 1] rfl (hj36 r26 S26 h h_r26 hw12)
set_option maxRecDepth 100000 in
set_option maxHeartbeats 4000000 in
theorem c_X5_clearMarks (l : Launch) (D : va_G) (ca : Nat → ClassId) (ad : Nat → Nat) (tF : Nat)  (S : xS) (Q : xS → Prop)  (h : w_X5_clearMarks  S Q) : xM l yX5_clearMarks (xws yX5_clearMarks cX5_clearMarks 1 (none)) ({ frames := 1, cells := 0, slots := 0, locals := 23 }) (gC D ca ad tF) [.ref (ad 3)] S (xQv Q) 0 0 := by
  refine xm_of RX5 rfl (by decide +kernel) (Nat.le_of_ble_eq_true rfl) ?_
  intro p e s m args below meth c A Z C hA hZ hr hlocks hw
  unfold w_X5_clearMarks at h
  show xV (gC D ca ad tF) p l e ({ frames := 1, cells := 0, slots := 0, locals := 23 }) s m args below meth c A 1 Z 0 0 0 [(0, .ref (ad 3))] [] S
  refine xi_aload_n C 0 dX5_clearMarks_0 rfl rfl ?_
  refine xi_getR C xK_X5 (q := 3) (r := 23) rfl 3 (by decide) (ki := 3) rfl xl_X5_9 rfl dX5_clearMarks_1 ?_
  refine xi_iconst C (v := 0) dX5_clearMarks_4 rfl ?_
  refine xc_Sv (Qm := fun S' => S' = xfill S 23 2000 0) C hw (c_fill l _ (q := 23) (n := 2000) (v := 0) (S := S) rfl (by decide) (by decide) (fun _ => rfl) rfl) xk_J7_fill_53178 xs_J7_fill_53178 xl_X5_35 ⟨Nat.le_of_ble_eq_true rfl, Nat.le_of_ble_eq_true rfl⟩ rfl rfl (by decide) ⟨Nat.le_of_ble_eq_true rfl, Nat.le_of_ble_eq_true rfl⟩ dX5_clearMarks_5 (fun S5 h9_2 hw1 => ?_)
  subst h9_2
  refine xi_aload_n C 0 dX5_clearMarks_8 rfl rfl ?_
  refine xi_iconst C (v := 0) dX5_clearMarks_9 rfl ?_
  refine xi_putI C xK_X5 (q := 3) (r := 0) rfl 5 (by decide) (ki := 5) rfl xl_X5_102 rfl rfl rfl dX5_clearMarks_10 ?_
  have hw3 := xval.up (q := 3) (i := 5) (v := 0) hw1 rfl (by decide)
  exact xr_v C hA hZ hr hlocks dX5_clearMarks_13 (Nat.le_of_ble_eq_true rfl) (Nat.le_of_ble_eq_true rfl) hw3 ⟨rfl, h⟩
set_option maxRecDepth 100000 in
set_option maxHeartbeats 4000000 in
theorem c_X5_markIfWithout (l : Launch) (D : va_G) (ca : Nat → ClassId) (ad : Nat → Nat) (tF : Nat) (a1 : Int) (a2 : Int) (a3 : Int) (S : xS) (Q : xS → Prop) (h_a1 : xR a1) (h_a2 : xR a2) (h_a3 : xR a3) (h : w_X5_markIfWithout a1 a2 a3 S Q) : xM l yX5_markIfWithout (xws yX5_markIfWithout cX5_markIfWithout 4 (none)) ({ frames := 1, cells := 0, slots := 0, locals := 22 }) (gC D ca ad tF) [.ref (ad 3), .int (iN a1), .int (iN a2), .int (iN a3)] S (xQv Q) 0 0 := by
  refine xm_of RX5 rfl (by decide +kernel) (Nat.le_of_ble_eq_true rfl) ?_
  intro p e s m args below meth c A Z C hA hZ hr hlocks hw
  unfold w_X5_markIfWithout at h
  show xV (gC D ca ad tF) p l e ({ frames := 1, cells := 0, slots := 0, locals := 22 }) s m args below meth c A 4 Z 0 0 0 [(0, .ref (ad 3)), (1, .int (iN a1)), (2, .int (iN a2)), (3, .int (iN a3))] [] S
  refine xi_aload_n C 0 dX5_markIfWithout_0 rfl rfl ?_
  refine xi_getR C xK_X5 (q := 3) (r := 23) rfl 3 (by decide) (ki := 3) rfl xl_X5_9 rfl dX5_markIfWithout_1 ?_
  refine xi_iload_n C 1 dX5_markIfWithout_4 rfl rfl ?_
  obtain ⟨hc1, h⟩ := h
  refine xi_iaload C (q := 23) rfl (by decide) hc1 dX5_markIfWithout_5 ?_
  refine xi_if_ne C 49 (xval.i (q := 23) (i := a1) hw hc1.1 rfl) dX5_markIfWithout_6 (by decide) (fun z2 => ?_) (fun z2 => ?_)
  · replace h := h.1 z2
    exact xr_v C hA hZ hr hlocks dX5_markIfWithout_49 (Nat.le_of_ble_eq_true rfl) (Nat.le_of_ble_eq_true rfl) hw ⟨rfl, h⟩
  · replace h := h.2 z2
    refine xi_aload_n C 0 dX5_markIfWithout_9 rfl rfl ?_
    refine xi_getR C xK_X5 (q := 3) (r := 4) rfl 0 (by decide) (ki := 0) rfl xl_X5_18 rfl dX5_markIfWithout_10 ?_
    refine xi_iload_n C 1 dX5_markIfWithout_13 rfl rfl ?_
    refine xi_iload_n C 2 dX5_markIfWithout_14 rfl rfl ?_
    refine xc_Vi C hw (c_X1_valueIn l D ca ad tF a1 a2 S _ h_a1 h_a2 h) xk_X1_valueIn xv_X1_valueIn xl_X5_62 ⟨Nat.le_of_ble_eq_true rfl, Nat.le_of_ble_eq_true rfl⟩ xK_X1 (q := 4) rfl rfl rfl (Nat.le_of_ble_eq_true rfl) ⟨Nat.le_of_ble_eq_true rfl, Nat.le_of_ble_eq_true rfl⟩ dX5_markIfWithout_15 (fun r15 S15 h_r15 h hw3 => ?_)
    refine xi_iload_n C 3 dX5_markIfWithout_18 rfl rfl ?_
    refine xi_icmp_eq C 49 h_r15 h_a3 dX5_markIfWithout_19 (by decide) (fun z4 => ?_) (fun z4 => ?_)
    · replace h := h.1 z4
      exact xr_v C hA hZ hr hlocks dX5_markIfWithout_49 (Nat.le_of_ble_eq_true rfl) (Nat.le_of_ble_eq_true rfl) hw3 ⟨rfl, h⟩
    · replace h := h.2 z4
      refine xi_aload_n C 0 dX5_markIfWithout_22 rfl rfl ?_
      refine xi_getR C xK_X5 (q := 3) (r := 23) rfl 3 (by decide) (ki := 3) rfl xl_X5_9 rfl dX5_markIfWithout_23 ?_
      refine xi_iload_n C 1 dX5_markIfWithout_26 rfl rfl ?_
      refine xi_iconst C (v := 1) dX5_markIfWithout_27 rfl ?_
      refine xi_iastore C (q := 23) rfl (by decide) hc1 dX5_markIfWithout_28 ?_
      have hw5 := xval.up (q := 23) (i := a1) (v := 1) hw3 rfl (by decide)
      refine xi_aload_n C 0 dX5_markIfWithout_29 rfl rfl ?_
      refine xi_getR C xK_X5 (q := 3) (r := 24) rfl 4 (by decide) (ki := 4) rfl xl_X5_15 rfl dX5_markIfWithout_30 ?_
      refine xi_aload_n C 0 dX5_markIfWithout_33 rfl rfl ?_
      refine xi_getI C xK_X5 (q := 3) (r := 0) rfl 5 (by decide) (ki := 5) rfl xl_X5_102 rfl dX5_markIfWithout_34 ?_
      refine xi_iload_n C 1 dX5_markIfWithout_37 rfl rfl ?_
      obtain ⟨hc6, h⟩ := h
      refine xi_iastore C (q := 24) rfl (by decide) hc6 dX5_markIfWithout_38 ?_
      have hw7 := xval.up (q := 24) (i := S15 3 5) (v := a1) hw5 rfl h_a1
      refine xi_aload_n C 0 dX5_markIfWithout_39 rfl rfl ?_
      refine xi_dup C dX5_markIfWithout_40 rfl ?_
      refine xi_getI C xK_X5 (q := 3) (r := 0) rfl 5 (by decide) (ki := 5) rfl xl_X5_102 rfl dX5_markIfWithout_41 ?_
      refine xi_iconst C (v := 1) dX5_markIfWithout_44 rfl ?_
      refine xi_iadd C dX5_markIfWithout_45 ?_
      obtain ⟨hc8, h⟩ := h
      refine xi_putI C xK_X5 (q := 3) (r := 0) rfl 5 (by decide) (ki := 5) rfl xl_X5_102 rfl rfl rfl dX5_markIfWithout_46 ?_
      have hw9 := xval.up (q := 3) (i := 5) (v := (S15 3 5) + 1) hw7 rfl hc8
      exact xr_v C hA hZ hr hlocks dX5_markIfWithout_49 (Nat.le_of_ble_eq_true rfl) (Nat.le_of_ble_eq_true rfl) hw9 ⟨rfl, h⟩
set_option maxRecDepth 100000 in
set_option maxHeartbeats 4000000 in
theorem c_X5_spread (l : Launch) (D : va_G) (ca : Nat → ClassId) (ad : Nat → Nat) (tF : Nat) (a1 : Int) (a2 : Int) (S : xS) (Q : xS → Prop) (h_a1 : xR a1) (h_a2 : xR a2) (h : w_X5_spread a1 a2 S Q) : xM l yX5_spread (xws yX5_spread cX5_spread 6 (none)) ({ frames := 2, cells := 0, slots := 0, locals := 45 }) (gC D ca ad tF) [.ref (ad 3), .int (iN a1), .int (iN a2)] S (xQv Q) 0 0 := by
  refine xm_of RX5 rfl (by decide +kernel) (Nat.le_of_ble_eq_true rfl) ?_
  intro p e s m args below meth c A Z C hA hZ hr hlocks hw
  unfold w_X5_spread at h
  show xV (gC D ca ad tF) p l e ({ frames := 2, cells := 0, slots := 0, locals := 45 }) s m args below meth c A 6 Z 0 0 0 [(0, .ref (ad 3)), (1, .int (iN a1)), (2, .int (iN a2))] [] S
  refine xi_iconst C (v := 0) dX5_spread_0 rfl ?_
  refine xi_istore_n C (L' := [(3, .int (iN 0)), (0, .ref (ad 3)), (1, .int (iN a1)), (2, .int (iN a2))]) dX5_spread_1 rfl (by decide) rfl ?_
  refine xi_sub [1, 2, 3, 0] rfl (xW1 (fun v3_2 S2 => xR v3_2 → xval (gC D ca ad tF) S2 → xV (gC D ca ad tF) p l e ({ frames := 2, cells := 0, slots := 0, locals := 45 }) s m args below meth c A 6 Z 0 0 2 [(0, .ref (ad 3)), (1, .int (iN a1)), (2, .int (iN a2)), (3, .int (iN v3_2))] [] S2) h (fun k2 hk2 v3_2 S2 h h_v3_2 hw2 => ?_) (by decide) hw)
  unfold w_X5_spread_L2 at h
  refine xi_iload_n C 3 dX5_spread_2 rfl rfl ?_
  refine xi_sipush C (v := 2000) dX5_spread_3 (by decide +kernel) ?_
  refine xi_icmp_ge C 85 h_v3_2 (by decide) dX5_spread_6 (by decide) (fun z1 => ?_) (fun z1 => ?_)
  · replace h := h.1 z1
    exact xr_v C hA hZ hr hlocks dX5_spread_85 (Nat.le_of_ble_eq_true rfl) (Nat.le_of_ble_eq_true rfl) hw2 ⟨rfl, h⟩
  · replace h := h.2 z1
    refine xi_iload_n C 3 dX5_spread_9 rfl rfl ?_
    refine xi_aload_n C 0 dX5_spread_10 rfl rfl ?_
    refine xi_getI C xK_X5 (q := 3) (r := 0) rfl 5 (by decide) (ki := 5) rfl xl_X5_102 rfl dX5_spread_11 ?_
    refine xi_icmp_ge C 85 h_v3_2 (xval.i (q := 3) (i := 5) hw2 (by decide) rfl) dX5_spread_14 (by decide) (fun z2 => ?_) (fun z2 => ?_)
    · replace h := h.1 z2
      exact xr_v C hA hZ hr hlocks dX5_spread_85 (Nat.le_of_ble_eq_true rfl) (Nat.le_of_ble_eq_true rfl) hw2 ⟨rfl, h⟩
    · replace h := h.2 z2
      refine xi_aload_n C 0 dX5_spread_17 rfl rfl ?_
      refine xi_getR C xK_X5 (q := 3) (r := 24) rfl 4 (by decide) (ki := 4) rfl xl_X5_15 rfl dX5_spread_18 ?_
      refine xi_iload_n C 3 dX5_spread_21 rfl rfl ?_
      obtain ⟨hc3, h⟩ := h
      refine xi_iaload C (q := 24) rfl (by decide) hc3 dX5_spread_22 ?_
      refine xi_istore C (L' := [(4, .int (iN (S2 24 v3_2))), (0, .ref (ad 3)), (1, .int (iN a1)), (2, .int (iN a2)), (3, .int (iN v3_2))]) dX5_spread_23 (by decide) rfl ?_
      refine xi_aload_n C 1 dX5_spread_25 rfl rfl ?_
      refine xi_getR C xK_X5 (q := 3) (r := 5) rfl 1 (by decide) (ki := 1) rfl xl_X5_22 rfl dX5_spread_26 ?_
      refine xi_getRN C xK_X2 (q := 5) (r := 32) rfl 1 (by decide) (ki := 1) rfl xn_X5_83 rfl dX5_spread_29 ?_
      refine xi_iload C 0 dX5_spread_32 rfl ?_
      obtain ⟨hc4, h⟩ := h
      refine xi_iaload C (q := 32) rfl (by decide) hc4 dX5_spread_34 ?_
      refine xi_istore C (L' := [(5, .int (iN (S2 32 (S2 24 v3_2)))), (4, .int (iN (S2 24 v3_2))), (0, .ref (ad 3)), (1, .int (iN a1)), (2, .int (iN a2)), (3, .int (iN v3_2))]) dX5_spread_35 (by decide) rfl ?_
      refine xi_sub [2, 3, 4, 5, 1, 0] rfl (xW1 (fun v5_37 S37 => xR v5_37 → xval (gC D ca ad tF) S37 → xV (gC D ca ad tF) p l e ({ frames := 2, cells := 0, slots := 0, locals := 45 }) s m args below meth c A 6 Z 0 0 37 [(0, .ref (ad 3)), (1, .int (iN a1)), (2, .int (iN a2)), (3, .int (iN v3_2)), (4, .int (iN (S2 24 v3_2))), (5, .int (iN v5_37))] [] S37) h (fun k37 hk37 v5_37 S37 h h_v5_37 hw37 => ?_) (xval.i (q := 32) (i := S2 24 v3_2) hw2 hc4.1 rfl) hw2)
      unfold w_X5_spread_L37 at h
      refine xi_iload C 5 dX5_spread_37 rfl ?_
      refine xi_aload_n C 0 dX5_spread_39 rfl rfl ?_
      refine xi_getR C xK_X5 (q := 3) (r := 5) rfl 1 (by decide) (ki := 1) rfl xl_X5_22 rfl dX5_spread_40 ?_
      refine xi_getRN C xK_X2 (q := 5) (r := 32) rfl 1 (by decide) (ki := 1) rfl xn_X5_83 rfl dX5_spread_43 ?_
      refine xi_iload C 4 dX5_spread_46 rfl ?_
      refine xi_iconst C (v := 1) dX5_spread_48 rfl ?_
      refine xi_iadd C dX5_spread_49 ?_
      obtain ⟨hc5, h⟩ := h
      refine xi_iaload C (q := 32) rfl (by decide) hc5 dX5_spread_50 ?_
      refine xi_icmp_ge C 79 h_v5_37 (xval.i (q := 32) (i := (S2 24 v3_2) + 1) hw37 hc5.1 rfl) dX5_spread_51 (by decide) (fun z6 => ?_) (fun z6 => ?_)
      · replace h := h.1 z6
        refine xi_iinc C (L' := [(3, .int (iN (v3_2 + 1))), (0, .ref (ad 3)), (1, .int (iN a1)), (2, .int (iN a2)), (4, .int (iN (S2 24 v3_2))), (5, .int (iN v5_37))]) 3 dX5_spread_79 rfl (by decide) rfl ?_
        refine xi_goto C 2 dX5_spread_82 (by decide) ?_
        obtain ⟨hc7, h⟩ := h
        exact xi_sub [1, 2, 3, 0] rfl (hk2 (v3_2 + 1) S37 h hc7 hw37)
      · replace h := h.2 z6
        refine xi_aload_n C 0 dX5_spread_54 rfl rfl ?_
        refine xi_aload_n C 0 dX5_spread_55 rfl rfl ?_
        refine xi_getR C xK_X5 (q := 3) (r := 5) rfl 1 (by decide) (ki := 1) rfl xl_X5_22 rfl dX5_spread_56 ?_
        refine xi_getEN C xK_X2 (q := 5) (r := 33) rfl 2 (by decide) (ki := 2) rfl xn_X5_86 rfl dX5_spread_59 ?_
        refine xi_iload C 5 dX5_spread_62 rfl ?_
        obtain ⟨hc8, h⟩ := h
        refine xi_ialoadE C (q := 33) rfl hc8 dX5_spread_64 ?_
        refine xc_Si C hw37 (c_X2_targetOf l D ca ad tF (S37 33 v5_37) S37 _ (xval.i (q := 33) (i := v5_37) hw37 hc8.1 rfl) h) xk_X2_targetOf xs_X2_targetOf xl_X5_89 ⟨Nat.le_of_ble_eq_true rfl, Nat.le_of_ble_eq_true rfl⟩ rfl rfl (Nat.le_of_ble_eq_true rfl) ⟨Nat.le_of_ble_eq_true rfl, Nat.le_of_ble_eq_true rfl⟩ dX5_spread_65 (fun r65 S65 h_r65 h hw9 => ?_)
        refine xi_iload_n C 1 dX5_spread_68 rfl rfl ?_
        refine xi_iload_n C 2 dX5_spread_69 rfl rfl ?_
        refine xc_Vv C hw9 (c_X5_markIfWithout l D ca ad tF r65 a1 a2 S65 _ h_r65 h_a1 h_a2 h) xk_X5_markIfWithout xv_X5_markIfWithout xl_X5_95 ⟨Nat.le_of_ble_eq_true rfl, Nat.le_of_ble_eq_true rfl⟩ xK_X5 (q := 3) rfl rfl rfl (Nat.le_of_ble_eq_true rfl) ⟨Nat.le_of_ble_eq_true rfl, Nat.le_of_ble_eq_true rfl⟩ dX5_spread_70 (fun S70 h hw10 => ?_)
        refine xi_iinc C (L' := [(5, .int (iN (v5_37 + 1))), (0, .ref (ad 3)), (1, .int (iN a1)), (2, .int (iN a2)), (3, .int (iN v3_2)), (4, .int (iN (S2 24 v3_2)))]) 5 dX5_spread_73 rfl (by decide) rfl ?_
        refine xi_goto C 37 dX5_spread_76 (by decide) ?_
        obtain ⟨hc11, h⟩ := h
        exact xi_sub [1, 2, 3, 4, 5, 0] rfl (hk37 (v5_37 + 1) S70 h hc11 hw10)
set_option maxRecDepth 100000 in
set_option maxHeartbeats 4000000 in
theorem c_X5_canMiss (l : Launch) (D : va_G) (ca : Nat → ClassId) (ad : Nat → Nat) (tF : Nat) (a1 : Int) (a2 : Int) (a3 : Int) (S : xS) (Q : Int → xS → Prop) (h_a1 : xR a1) (h_a2 : xR a2) (h_a3 : xR a3) (h : w_X5_canMiss a1 a2 a3 S Q) : xM l yX5_canMiss (xws yX5_canMiss cX5_canMiss 4 (some .boolean)) ({ frames := 4, cells := 0, slots := 0, locals := 130 }) (gC D ca ad tF) [.ref (ad 3), .int (iN a1), .int (iN a2), .int (iN a3)] S (xQi Q) 0 0 := by
  refine xm_of RX5 rfl (by decide +kernel) (Nat.le_of_ble_eq_true rfl) ?_
  intro p e s m args below meth c A Z C hA hZ hr hlocks hw
  unfold w_X5_canMiss at h
  show xV (gC D ca ad tF) p l e ({ frames := 4, cells := 0, slots := 0, locals := 130 }) s m args below meth c A 4 Z 0 0 0 [(0, .ref (ad 3)), (1, .int (iN a1)), (2, .int (iN a2)), (3, .int (iN a3))] [] S
  refine xi_aload_n C 0 dX5_canMiss_0 rfl rfl ?_
  refine xc_Vv C hw (c_X5_clearMarks l D ca ad tF S _ h) xk_X5_clearMarks xv_X5_clearMarks xl_X5_92 ⟨Nat.le_of_ble_eq_true rfl, Nat.le_of_ble_eq_true rfl⟩ xK_X5 (q := 3) rfl rfl rfl (Nat.le_of_ble_eq_true rfl) ⟨Nat.le_of_ble_eq_true rfl, Nat.le_of_ble_eq_true rfl⟩ dX5_canMiss_1 (fun S1 h hw1 => ?_)
  refine xi_aload_n C 0 dX5_canMiss_4 rfl rfl ?_
  refine xi_iconst C (v := 0) dX5_canMiss_5 rfl ?_
  refine xi_iload_n C 1 dX5_canMiss_6 rfl rfl ?_
  refine xi_iload_n C 2 dX5_canMiss_7 rfl rfl ?_
  refine xc_Vv C hw1 (c_X5_markIfWithout l D ca ad tF 0 a1 a2 S1 _ (by decide) h_a1 h_a2 h) xk_X5_markIfWithout xv_X5_markIfWithout xl_X5_95 ⟨Nat.le_of_ble_eq_true rfl, Nat.le_of_ble_eq_true rfl⟩ xK_X5 (q := 3) rfl rfl rfl (Nat.le_of_ble_eq_true rfl) ⟨Nat.le_of_ble_eq_true rfl, Nat.le_of_ble_eq_true rfl⟩ dX5_canMiss_8 (fun S8 h hw2 => ?_)
  refine xi_aload_n C 0 dX5_canMiss_11 rfl rfl ?_
  refine xi_iload_n C 1 dX5_canMiss_12 rfl rfl ?_
  refine xi_iload_n C 2 dX5_canMiss_13 rfl rfl ?_
  refine xc_Vv C hw2 (c_X5_spread l D ca ad tF a1 a2 S8 _ h_a1 h_a2 h) xk_X5_spread xv_X5_spread xl_X5_99 ⟨Nat.le_of_ble_eq_true rfl, Nat.le_of_ble_eq_true rfl⟩ xK_X5 (q := 3) rfl rfl rfl (Nat.le_of_ble_eq_true rfl) ⟨Nat.le_of_ble_eq_true rfl, Nat.le_of_ble_eq_true rfl⟩ dX5_canMiss_14 (fun S14 h hw3 => ?_)
  refine xi_aload_n C 0 dX5_canMiss_17 rfl rfl ?_
  refine xi_getR C xK_X5 (q := 3) (r := 9) rfl 2 (by decide) (ki := 2) rfl xl_X5_31 rfl dX5_canMiss_18 ?_
  refine xi_aload_n C 0 dX5_canMiss_21 rfl rfl ?_
  refine xi_getR C xK_X5 (q := 3) (r := 23) rfl 3 (by decide) (ki := 3) rfl xl_X5_9 rfl dX5_canMiss_22 ?_
  refine xc_Vv C hw3 (c_X0_split l D ca ad tF S14 _ h) xk_X0_split xv_X0_split xl_X5_41 ⟨Nat.le_of_ble_eq_true rfl, Nat.le_of_ble_eq_true rfl⟩ xK_X0 (q := 9) rfl rfl rfl (Nat.le_of_ble_eq_true rfl) ⟨Nat.le_of_ble_eq_true rfl, Nat.le_of_ble_eq_true rfl⟩ dX5_canMiss_25 (fun S25 h hw4 => ?_)
  refine xi_aload_n C 0 dX5_canMiss_28 rfl rfl ?_
  refine xi_getR C xK_X5 (q := 3) (r := 9) rfl 2 (by decide) (ki := 2) rfl xl_X5_31 rfl dX5_canMiss_29 ?_
  refine xi_iload_n C 3 dX5_canMiss_32 rfl rfl ?_
  refine xc_Vi C hw4 (c_X0_holdsRun l D ca ad tF a3 S25 _ h_a3 h) xk_X0_holdsRun xv_X0_holdsRun xl_X5_53 ⟨Nat.le_of_ble_eq_true rfl, Nat.le_of_ble_eq_true rfl⟩ xK_X0 (q := 9) rfl rfl rfl (Nat.le_of_ble_eq_true rfl) ⟨Nat.le_of_ble_eq_true rfl, Nat.le_of_ble_eq_true rfl⟩ dX5_canMiss_33 (fun r33 S33 h_r33 h hw5 => ?_)
  obtain ⟨hc6, h⟩ := h
  exact xr_i C hA hZ hr hlocks (xnarZ hc6).1 dX5_canMiss_36 (Nat.le_of_ble_eq_true rfl) (Nat.le_of_ble_eq_true rfl) hw5 ⟨_, rfl, h_r33, h⟩
set_option maxRecDepth 100000 in
set_option maxHeartbeats 4000000 in
theorem c_X5_canMissBehind (l : Launch) (D : va_G) (ca : Nat → ClassId) (ad : Nat → Nat) (tF : Nat) (a1 : Int) (a2 : Int) (a3 : Int) (a4 : Int) (a5 : Int) (S : xS) (Q : Int → xS → Prop) (h_a1 : xR a1) (h_a2 : xR a2) (h_a3 : xR a3) (h_a4 : xR a4) (h_a5 : xR a5) (h : w_X5_canMissBehind a1 a2 a3 a4 a5 S Q) : xM l yX5_canMissBehind (xws yX5_canMissBehind cX5_canMissBehind 7 (some .boolean)) ({ frames := 4, cells := 0, slots := 0, locals := 130 }) (gC D ca ad tF) [.ref (ad 3), .int (iN a1), .int (iN a2), .int (iN a3), .int (iN a4), .int (iN a5)] S (xQi Q) 0 0 := by
  refine xm_of RX5 rfl (by decide +kernel) (Nat.le_of_ble_eq_true rfl) ?_
  intro p e s m args below meth c A Z C hA hZ hr hlocks hw
  unfold w_X5_canMissBehind at h
  show xV (gC D ca ad tF) p l e ({ frames := 4, cells := 0, slots := 0, locals := 130 }) s m args below meth c A 7 Z 0 0 0 [(0, .ref (ad 3)), (1, .int (iN a1)), (2, .int (iN a2)), (3, .int (iN a3)), (4, .int (iN a4)), (5, .int (iN a5))] [] S
  refine xi_aload_n C 0 dX5_canMissBehind_0 rfl rfl ?_
  refine xc_Vv C hw (c_X5_clearMarks l D ca ad tF S _ h) xk_X5_clearMarks xv_X5_clearMarks xl_X5_92 ⟨Nat.le_of_ble_eq_true rfl, Nat.le_of_ble_eq_true rfl⟩ xK_X5 (q := 3) rfl rfl rfl (Nat.le_of_ble_eq_true rfl) ⟨Nat.le_of_ble_eq_true rfl, Nat.le_of_ble_eq_true rfl⟩ dX5_canMissBehind_1 (fun S1 h hw1 => ?_)
  refine xi_iconst C (v := 0) dX5_canMissBehind_4 rfl ?_
  refine xi_istore C (L' := [(6, .int (iN 0)), (0, .ref (ad 3)), (1, .int (iN a1)), (2, .int (iN a2)), (3, .int (iN a3)), (4, .int (iN a4)), (5, .int (iN a5))]) dX5_canMissBehind_5 (by decide) rfl ?_
  refine xJ0_w (fun  S48 => xval (gC D ca ad tF) S48 → xV (gC D ca ad tF) p l e ({ frames := 4, cells := 0, slots := 0, locals := 130 }) s m args below meth c A 7 Z 0 0 48 [(0, .ref (ad 3)), (3, .int (iN a3)), (4, .int (iN a4)), (5, .int (iN a5))] [] S48) h (fun  S48 h  hw48 => ?_) (fun j48 hj48 h => ?_)
  · unfold w_X5_canMissBehind_J48 at h
    refine xi_aload_n C 0 dX5_canMissBehind_48 rfl rfl ?_
    refine xi_iload_n C 1 dX5_canMissBehind_49 rfl rfl ?_
    refine xi_iload C 2 dX5_canMissBehind_50 rfl ?_
    refine xc_Vv C hw48 (c_X5_spread l D ca ad tF a3 a4 S48 _ h_a3 h_a4 h) xk_X5_spread xv_X5_spread xl_X5_99 ⟨Nat.le_of_ble_eq_true rfl, Nat.le_of_ble_eq_true rfl⟩ xK_X5 (q := 3) rfl rfl rfl (Nat.le_of_ble_eq_true rfl) ⟨Nat.le_of_ble_eq_true rfl, Nat.le_of_ble_eq_true rfl⟩ dX5_canMissBehind_52 (fun S52 h hw2 => ?_)
    refine xi_aload_n C 0 dX5_canMissBehind_55 rfl rfl ?_
    refine xi_getR C xK_X5 (q := 3) (r := 9) rfl 2 (by decide) (ki := 2) rfl xl_X5_31 rfl dX5_canMissBehind_56 ?_
    refine xi_aload_n C 0 dX5_canMissBehind_59 rfl rfl ?_
    refine xi_getR C xK_X5 (q := 3) (r := 23) rfl 3 (by decide) (ki := 3) rfl xl_X5_9 rfl dX5_canMissBehind_60 ?_
    refine xc_Vv C hw2 (c_X0_split l D ca ad tF S52 _ h) xk_X0_split xv_X0_split xl_X5_41 ⟨Nat.le_of_ble_eq_true rfl, Nat.le_of_ble_eq_true rfl⟩ xK_X0 (q := 9) rfl rfl rfl (Nat.le_of_ble_eq_true rfl) ⟨Nat.le_of_ble_eq_true rfl, Nat.le_of_ble_eq_true rfl⟩ dX5_canMissBehind_63 (fun S63 h hw3 => ?_)
    refine xi_aload_n C 0 dX5_canMissBehind_66 rfl rfl ?_
    refine xi_getR C xK_X5 (q := 3) (r := 9) rfl 2 (by decide) (ki := 2) rfl xl_X5_31 rfl dX5_canMissBehind_67 ?_
    refine xi_iload C 3 dX5_canMissBehind_70 rfl ?_
    refine xc_Vi C hw3 (c_X0_holdsRun l D ca ad tF a5 S63 _ h_a5 h) xk_X0_holdsRun xv_X0_holdsRun xl_X5_53 ⟨Nat.le_of_ble_eq_true rfl, Nat.le_of_ble_eq_true rfl⟩ xK_X0 (q := 9) rfl rfl rfl (Nat.le_of_ble_eq_true rfl) ⟨Nat.le_of_ble_eq_true rfl, Nat.le_of_ble_eq_true rfl⟩ dX5_canMissBehind_72 (fun r72 S72 h_r72 h hw4 => ?_)
    obtain ⟨hc5, h⟩ := h
    exact xr_i C hA hZ hr hlocks (xnarZ hc5).1 dX5_canMissBehind_75 (Nat.le_of_ble_eq_true rfl) (Nat.le_of_ble_eq_true rfl) hw4 ⟨_, rfl, h_r72, h⟩
  · refine xi_sub [1, 2, 3, 4, 5, 6, 0] rfl (xW1 (fun v6_7 S7 => xR v6_7 → xval (gC D ca ad tF) S7 → xV (gC D ca ad tF) p l e ({ frames := 4, cells := 0, slots := 0, locals := 130 }) s m args below meth c A 7 Z 0 0 7 [(0, .ref (ad 3)), (1, .int (iN a1)), (2, .int (iN a2)), (3, .int (iN a3)), (4, .int (iN a4)), (5, .int (iN a5)), (6, .int (iN v6_7))] [] S7) h (fun k7 hk7 v6_7 S7 h h_v6_7 hw7 => ?_) (by decide) hw1)
    unfold w_X5_canMissBehind_L7 at h
    refine xi_iload C 6 dX5_canMissBehind_7 rfl ?_
    refine xi_aload_n C 0 dX5_canMissBehind_9 rfl rfl ?_
    refine xi_getR C xK_X5 (q := 3) (r := 5) rfl 1 (by decide) (ki := 1) rfl xl_X5_22 rfl dX5_canMissBehind_10 ?_
    refine xi_getIN C xK_X2 (q := 5) (r := 0) rfl 0 (by decide) (ki := 0) rfl xn_X5_57 rfl dX5_canMissBehind_13 ?_
    refine xi_icmp_ge C 48 h_v6_7 (xval.i (q := 5) (i := 0) hw7 (by decide) rfl) dX5_canMissBehind_16 (by decide) (fun z6 => ?_) (fun z6 => ?_)
    · replace h := h.1 z6
      exact xi_sub [0, 3, 4, 5] rfl (hj48 S7 h hw7)
    · replace h := h.2 z6
      refine xi_aload_n C 0 dX5_canMissBehind_19 rfl rfl ?_
      refine xi_getR C xK_X5 (q := 3) (r := 4) rfl 0 (by decide) (ki := 0) rfl xl_X5_18 rfl dX5_canMissBehind_20 ?_
      refine xi_iload C 6 dX5_canMissBehind_23 rfl ?_
      refine xi_iload_n C 1 dX5_canMissBehind_25 rfl rfl ?_
      refine xc_Vi C hw7 (c_X1_valueIn l D ca ad tF v6_7 a1 S7 _ h_v6_7 h_a1 h) xk_X1_valueIn xv_X1_valueIn xl_X5_62 ⟨Nat.le_of_ble_eq_true rfl, Nat.le_of_ble_eq_true rfl⟩ xK_X1 (q := 4) rfl rfl rfl (Nat.le_of_ble_eq_true rfl) ⟨Nat.le_of_ble_eq_true rfl, Nat.le_of_ble_eq_true rfl⟩ dX5_canMissBehind_26 (fun r26 S26 h_r26 h hw7 => ?_)
      refine xi_iload_n C 2 dX5_canMissBehind_29 rfl rfl ?_
      refine xi_icmp_ne C 42 h_r26 h_a2 dX5_canMissBehind_30 (by decide) (fun z8 => ?_) (fun z8 => ?_)
      · replace h := h.1 z8
        refine xi_iinc C (L' := [(6, .int (iN (v6_7 + 1))), (0, .ref (ad 3)), (1, .int (iN a1)), (2, .int (iN a2)), (3, .int (iN a3)), (4, .int (iN a4)), (5, .int (iN a5))]) 6 dX5_canMissBehind_42 rfl (by decide) rfl ?_
        refine xi_goto C 7 dX5_canMissBehind_45 (by decide) ?_
        obtain ⟨hc9, h⟩ := h
        exact xi_sub [1, 2, 3, 4, 5, 6, 0] rfl (hk7 (v6_7 + 1) S26 h hc9 hw7)
      · replace h := h.2 z8
        refine xi_aload_n C 0 dX5_canMissBehind_33 rfl rfl ?_
        refine xi_iload C 6 dX5_canMissBehind_34 rfl ?_
        refine xi_iload_n C 3 dX5_canMissBehind_36 rfl rfl ?_
        refine xi_iload C 4 dX5_canMissBehind_37 rfl ?_
        refine xc_Vv C hw7 (c_X5_markIfWithout l D ca ad tF v6_7 a3 a4 S26 _ h_v6_7 h_a3 h_a4 h) xk_X5_markIfWithout xv_X5_markIfWithout xl_X5_95 ⟨Nat.le_of_ble_eq_true rfl, Nat.le_of_ble_eq_true rfl⟩ xK_X5 (q := 3) rfl rfl rfl (Nat.le_of_ble_eq_true rfl) ⟨Nat.le_of_ble_eq_true rfl, Nat.le_of_ble_eq_true rfl⟩ dX5_canMissBehind_39 (fun S39 h hw10 => ?_)
        refine xi_iinc C (L' := [(6, .int (iN (v6_7 + 1))), (0, .ref (ad 3)), (1, .int (iN a1)), (2, .int (iN a2)), (3, .int (iN a3)), (4, .int (iN a4)), (5, .int (iN a5))]) 6 dX5_canMissBehind_42 rfl (by decide) rfl ?_
        refine xi_goto C 7 dX5_canMissBehind_45 (by decide) ?_
        obtain ⟨hc11, h⟩ := h
        exact xi_sub [1, 2, 3, 4, 5, 6, 0] rfl (hk7 (v6_7 + 1) S39 h hc11 hw10)
set_option maxRecDepth 100000 in
set_option maxHeartbeats 4000000 in
theorem c_X1_firstWith (l : Launch) (D : va_G) (ca : Nat → ClassId) (ad : Nat → Nat) (tF : Nat) (a1 : Int) (a2 : Int) (S : xS) (Q : Int → xS → Prop) (h_a1 : xR a1) (h_a2 : xR a2) (h : w_X1_firstWith a1 a2 S Q) : xM l yX1_firstWith (xws yX1_firstWith cX1_firstWith 4 (some .int)) ({ frames := 1, cells := 0, slots := 0, locals := 22 }) (gC D ca ad tF) [.ref (ad 4), .int (iN a1), .int (iN a2)] S (xQi Q) 0 0 := by
  refine xm_of RX1 rfl (by decide +kernel) (Nat.le_of_ble_eq_true rfl) ?_
  intro p e s m args below meth c A Z C hA hZ hr hlocks hw
  unfold w_X1_firstWith at h
  show xV (gC D ca ad tF) p l e ({ frames := 1, cells := 0, slots := 0, locals := 22 }) s m args below meth c A 4 Z 0 0 0 [(0, .ref (ad 4)), (1, .int (iN a1)), (2, .int (iN a2))] [] S
  refine xi_iconst C (v := 0) dX1_firstWith_0 rfl ?_
  refine xi_istore_n C (L' := [(3, .int (iN 0)), (0, .ref (ad 4)), (1, .int (iN a1)), (2, .int (iN a2))]) dX1_firstWith_1 rfl (by decide) rfl ?_
  refine xi_sub [1, 2, 3, 0] rfl (xW1 (fun v3_2 S2 => xR v3_2 → xval (gC D ca ad tF) S2 → xV (gC D ca ad tF) p l e ({ frames := 1, cells := 0, slots := 0, locals := 22 }) s m args below meth c A 4 Z 0 0 2 [(0, .ref (ad 4)), (1, .int (iN a1)), (2, .int (iN a2)), (3, .int (iN v3_2))] [] S2) h (fun k2 hk2 v3_2 S2 h h_v3_2 hw2 => ?_) (by decide) hw)
  unfold w_X1_firstWith_L2 at h
  refine xi_iload_n C 3 dX1_firstWith_2 rfl rfl ?_
  refine xi_aload_n C 0 dX1_firstWith_3 rfl rfl ?_
  refine xi_getI C xK_X1 (q := 4) (r := 0) rfl 0 (by decide) (ki := 0) rfl xl_X1_38 rfl dX1_firstWith_4 ?_
  refine xi_icmp_ge C 28 h_v3_2 (xval.i (q := 4) (i := 0) hw2 (by decide) rfl) dX1_firstWith_7 (by decide) (fun z1 => ?_) (fun z1 => ?_)
  · replace h := h.1 z1
    refine xi_iconst C (v := (-1)) dX1_firstWith_28 rfl ?_
    exact xr_i C hA hZ hr hlocks rfl dX1_firstWith_29 (Nat.le_of_ble_eq_true rfl) (Nat.le_of_ble_eq_true rfl) hw2 ⟨_, rfl, (by decide), h⟩
  · replace h := h.2 z1
    refine xi_aload_n C 0 dX1_firstWith_10 rfl rfl ?_
    refine xi_iload_n C 3 dX1_firstWith_11 rfl rfl ?_
    refine xi_iload_n C 1 dX1_firstWith_12 rfl rfl ?_
    refine xc_Vi C hw2 (c_X1_valueIn l D ca ad tF v3_2 a1 S2 _ h_v3_2 h_a1 h) xk_X1_valueIn xv_X1_valueIn xl_X1_56 ⟨Nat.le_of_ble_eq_true rfl, Nat.le_of_ble_eq_true rfl⟩ xK_X1 (q := 4) rfl rfl rfl (Nat.le_of_ble_eq_true rfl) ⟨Nat.le_of_ble_eq_true rfl, Nat.le_of_ble_eq_true rfl⟩ dX1_firstWith_13 (fun r13 S13 h_r13 h hw2 => ?_)
    refine xi_iload_n C 2 dX1_firstWith_16 rfl rfl ?_
    refine xi_icmp_ne C 22 h_r13 h_a2 dX1_firstWith_17 (by decide) (fun z3 => ?_) (fun z3 => ?_)
    · replace h := h.1 z3
      refine xi_iinc C (L' := [(3, .int (iN (v3_2 + 1))), (0, .ref (ad 4)), (1, .int (iN a1)), (2, .int (iN a2))]) 3 dX1_firstWith_22 rfl (by decide) rfl ?_
      refine xi_goto C 2 dX1_firstWith_25 (by decide) ?_
      obtain ⟨hc4, h⟩ := h
      exact xi_sub [1, 2, 3, 0] rfl (hk2 (v3_2 + 1) S13 h hc4 hw2)
    · replace h := h.2 z3
      refine xi_iload_n C 3 dX1_firstWith_20 rfl rfl ?_
      exact xr_i C hA hZ hr hlocks rfl dX1_firstWith_21 (Nat.le_of_ble_eq_true rfl) (Nat.le_of_ble_eq_true rfl) hw2 ⟨_, rfl, h_v3_2, h⟩
set_option maxRecDepth 100000 in
set_option maxHeartbeats 4000000 in
theorem c_X5_countComponents (l : Launch) (D : va_G) (ca : Nat → ClassId) (ad : Nat → Nat) (tF : Nat)  (S : xS) (Q : Int → xS → Prop)  (h : w_X5_countComponents  S Q) : xM l yX5_countComponents (xws yX5_countComponents cX5_countComponents 1 (some .int)) ({ frames := 4, cells := 0, slots := 0, locals := 130 }) (gC D ca ad tF) [.ref (ad 3)] S (xQi Q) 0 0 := by
  refine xm_of RX5 rfl (by decide +kernel) (Nat.le_of_ble_eq_true rfl) ?_
  intro p e s m args below meth c A Z C hA hZ hr hlocks hw
  unfold w_X5_countComponents at h
  show xV (gC D ca ad tF) p l e ({ frames := 4, cells := 0, slots := 0, locals := 130 }) s m args below meth c A 1 Z 0 0 0 [(0, .ref (ad 3))] [] S
  refine xi_aload_n C 0 dX5_countComponents_0 rfl rfl ?_
  refine xi_getR C xK_X5 (q := 3) (r := 23) rfl 3 (by decide) (ki := 3) rfl xl_X5_9 rfl dX5_countComponents_1 ?_
  refine xi_iconst C (v := 1) dX5_countComponents_4 rfl ?_
  refine xc_Sv (Qm := fun S' => S' = xfill S 23 2000 1) C hw (c_fill l _ (q := 23) (n := 2000) (v := 1) (S := S) rfl (by decide) (by decide) (fun _ => rfl) rfl) xk_J7_fill_53178 xs_J7_fill_53178 xl_X5_35 ⟨Nat.le_of_ble_eq_true rfl, Nat.le_of_ble_eq_true rfl⟩ rfl rfl (by decide) ⟨Nat.le_of_ble_eq_true rfl, Nat.le_of_ble_eq_true rfl⟩ dX5_countComponents_5 (fun S5 h9_2 hw1 => ?_)
  subst h9_2
  refine xi_aload_n C 0 dX5_countComponents_8 rfl rfl ?_
  refine xi_getR C xK_X5 (q := 3) (r := 9) rfl 2 (by decide) (ki := 2) rfl xl_X5_31 rfl dX5_countComponents_9 ?_
  refine xi_aload_n C 0 dX5_countComponents_12 rfl rfl ?_
  refine xi_getR C xK_X5 (q := 3) (r := 23) rfl 3 (by decide) (ki := 3) rfl xl_X5_9 rfl dX5_countComponents_13 ?_
  refine xc_Vv C hw1 (c_X0_split l D ca ad tF (xfill S 23 2000 1) _ h) xk_X0_split xv_X0_split xl_X5_41 ⟨Nat.le_of_ble_eq_true rfl, Nat.le_of_ble_eq_true rfl⟩ xK_X0 (q := 9) rfl rfl rfl (Nat.le_of_ble_eq_true rfl) ⟨Nat.le_of_ble_eq_true rfl, Nat.le_of_ble_eq_true rfl⟩ dX5_countComponents_16 (fun S16 h hw3 => ?_)
  refine xi_aload_n C 0 dX5_countComponents_19 rfl rfl ?_
  refine xi_getR C xK_X5 (q := 3) (r := 9) rfl 2 (by decide) (ki := 2) rfl xl_X5_31 rfl dX5_countComponents_20 ?_
  refine xi_getIN C xK_X0 (q := 9) (r := 0) rfl 1 (by decide) (ki := 1) rfl xn_X5_45 rfl dX5_countComponents_23 ?_
  exact xr_i C hA hZ hr hlocks rfl dX5_countComponents_26 (Nat.le_of_ble_eq_true rfl) (Nat.le_of_ble_eq_true rfl) hw3 ⟨_, rfl, (xval.i (q := 9) (i := 1) hw3 (by decide) rfl), h⟩
set_option maxRecDepth 100000 in
set_option maxHeartbeats 4000000 in
theorem c_X6_countAllMoves (l : Launch) (D : va_G) (ca : Nat → ClassId) (ad : Nat → Nat) (tF : Nat)  (S : xS) (Q : Int → xS → Prop)  (h : w_X6_countAllMoves  S Q) : xM l yX6_countAllMoves (xws yX6_countAllMoves cX6_countAllMoves 4 (some .long)) ({ frames := 6, cells := 0, slots := 0, locals := 136 }) (gC D ca ad tF) [.ref (ad 2)] S (xQj Q) 0 0 := by
  refine xm_of RX6 rfl (by decide +kernel) (Nat.le_of_ble_eq_true rfl) ?_
  intro p e s m args below meth c A Z C hA hZ hr hlocks hw
  unfold w_X6_countAllMoves at h
  show xV (gC D ca ad tF) p l e ({ frames := 6, cells := 0, slots := 0, locals := 136 }) s m args below meth c A 4 Z 0 0 0 [(0, .ref (ad 2))] [] S
  refine xi_lconst C (v := 0) dX6_countAllMoves_0 (by decide +kernel) ?_
  refine xi_lstore_n C (L' := [(1, .long (jN 0)), (0, .ref (ad 2))]) dX6_countAllMoves_1 rfl (by decide) rfl ?_
  refine xi_iconst C (v := 0) dX6_countAllMoves_2 rfl ?_
  refine xi_istore_n C (L' := [(3, .int (iN 0)), (1, .long (jN 0)), (0, .ref (ad 2))]) dX6_countAllMoves_3 rfl (by decide) rfl ?_
  refine xi_sub [2, 1, 0] rfl (xW2 (fun v1_4 v3_4 S4 => xRJ v1_4 → xR v3_4 → xval (gC D ca ad tF) S4 → xV (gC D ca ad tF) p l e ({ frames := 6, cells := 0, slots := 0, locals := 136 }) s m args below meth c A 4 Z 0 0 4 [(0, .ref (ad 2)), (1, .long (jN v1_4)), (3, .int (iN v3_4))] [] S4) h (fun k4 hk4 v1_4 v3_4 S4 h h_v1_4 h_v3_4 hw4 => ?_) (by decide) (by decide) hw)
  unfold w_X6_countAllMoves_L4 at h
  refine xi_iload_n C 2 dX6_countAllMoves_4 rfl rfl ?_
  refine xi_aload_n C 0 dX6_countAllMoves_5 rfl rfl ?_
  refine xi_getR C xK_X6 (q := 2) (r := 4) rfl 1 (by decide) (ki := 1) rfl xl_X6_22 rfl dX6_countAllMoves_6 ?_
  refine xi_getIN C xK_X1 (q := 4) (r := 0) rfl 0 (by decide) (ki := 0) rfl xn_X6_114 rfl dX6_countAllMoves_9 ?_
  refine xi_icmp_ge C 30 h_v3_4 (xval.i (q := 4) (i := 0) hw4 (by decide) rfl) dX6_countAllMoves_12 (by decide) (fun z1 => ?_) (fun z1 => ?_)
  · replace h := h.1 z1
    refine xi_lload_n C 1 dX6_countAllMoves_30 rfl rfl ?_
    exact xr_j C hA hZ hr hlocks dX6_countAllMoves_31 (Nat.le_of_ble_eq_true rfl) (Nat.le_of_ble_eq_true rfl) hw4 ⟨_, rfl, h_v1_4, h⟩
  · replace h := h.2 z1
    refine xi_lload_n C 1 dX6_countAllMoves_15 rfl rfl ?_
    refine xi_aload_n C 0 dX6_countAllMoves_16 rfl rfl ?_
    refine xi_iload_n C 2 dX6_countAllMoves_17 rfl rfl ?_
    refine xc_Vi C hw4 (c_X6_countMoves l D ca ad tF v3_4 S4 _ h_v3_4 h) xk_X6_countMoves xv_X6_countMoves xl_X6_230 ⟨Nat.le_of_ble_eq_true rfl, Nat.le_of_ble_eq_true rfl⟩ xK_X6 (q := 2) rfl rfl rfl (Nat.le_of_ble_eq_true rfl) ⟨Nat.le_of_ble_eq_true rfl, Nat.le_of_ble_eq_true rfl⟩ dX6_countAllMoves_18 (fun r18 S18 h_r18 h hw2 => ?_)
    refine xi_i2l C h_r18 dX6_countAllMoves_21 ?_
    refine xi_ladd C dX6_countAllMoves_22 ?_
    refine xi_lstore_n C (L' := [(1, .long (jN (v1_4 + r18))), (0, .ref (ad 2)), (3, .int (iN v3_4))]) dX6_countAllMoves_23 rfl (by decide) rfl ?_
    refine xi_iinc C (L' := [(3, .int (iN (v3_4 + 1))), (1, .long (jN (v1_4 + r18))), (0, .ref (ad 2))]) 2 dX6_countAllMoves_24 rfl (by decide) rfl ?_
    refine xi_goto C 4 dX6_countAllMoves_27 (by decide) ?_
    obtain ⟨hc3, h⟩ := h
    obtain ⟨hc4, h⟩ := h
    exact xi_sub [2, 1, 0] rfl (hk4 (v1_4 + r18) (v3_4 + 1) S18 h hc3 hc4 hw2)

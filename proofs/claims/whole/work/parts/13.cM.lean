set_option maxRecDepth 100000 in
set_option maxHeartbeats 4000000 in
theorem c_X9_thrown (l : Launch) (D : va_G) (ca : Nat → ClassId) (ad : Nat → Nat) (tF : Nat)  (S : xS) (Q : Int → xS → Prop)  (h : w_X9_thrown  S Q) : xM l yX9_thrown (xws yX9_thrown cX9_thrown 1 (some .int)) ({ frames := 0, cells := 0, slots := 0, locals := 0 }) (gM D ca ad tF) [.ref (ad 0)] S (xQi Q) 0 0 := by
  refine xm_of RX9 rfl (by decide +kernel) (Nat.le_of_ble_eq_true rfl) ?_
  intro p e s m args below meth c A Z C hA hZ hr hlocks hw
  unfold w_X9_thrown at h
  show xV (gM D ca ad tF) p l e ({ frames := 0, cells := 0, slots := 0, locals := 0 }) s m args below meth c A 1 Z 0 0 0 [(0, .ref (ad 0))] [] S
  refine xi_aload_n C 0 dX9_thrown_0 rfl rfl ?_
  refine xi_getI C xK_X9 (q := 0) (r := 0) rfl 0 (by decide) (ki := 0) rfl xl_X9_142 rfl dX9_thrown_1 ?_
  exact xr_i C hA hZ hr hlocks rfl dX9_thrown_4 (Nat.le_of_ble_eq_true rfl) (Nat.le_of_ble_eq_true rfl) hw ⟨_, rfl, (xval.i (q := 0) (i := 0) hw (by decide) rfl), h⟩
set_option maxRecDepth 100000 in
set_option maxHeartbeats 4000000 in
theorem c_X9_drops (l : Launch) (D : va_G) (ca : Nat → ClassId) (ad : Nat → Nat) (tF : Nat)  (S : xS) (Q : xS → Prop)  (h : w_X9_drops  S Q) : xM l yX9_drops (xws yX9_drops cX9_drops 1 (none)) ({ frames := 0, cells := 0, slots := 0, locals := 0 }) (gM D ca ad tF) [.ref (ad 0)] S (xQv Q) 0 0 := by
  refine xm_of RX9 rfl (by decide +kernel) (Nat.le_of_ble_eq_true rfl) ?_
  intro p e s m args below meth c A Z C hA hZ hr hlocks hw
  unfold w_X9_drops at h
  show xV (gM D ca ad tF) p l e ({ frames := 0, cells := 0, slots := 0, locals := 0 }) s m args below meth c A 1 Z 0 0 0 [(0, .ref (ad 0))] [] S
  refine xi_aload_n C 0 dX9_drops_0 rfl rfl ?_
  refine xi_iconst C (v := 0) dX9_drops_1 rfl ?_
  refine xi_putI C xK_X9 (q := 0) (r := 0) rfl 0 (by decide) (ki := 0) rfl xl_X9_142 rfl rfl rfl dX9_drops_2 ?_
  have hw1 := xval.up (q := 0) (i := 0) (v := 0) hw rfl (by decide)
  refine xi_aload_n C 0 dX9_drops_5 rfl rfl ?_
  refine xi_iconst C (v := 0) dX9_drops_6 rfl ?_
  refine xi_putZ C xK_X9 (q := 0) (r := 0) rfl 13 (by decide) (ki := 13) rfl xl_X9_291 rfl rfl rfl (Or.inl rfl) dX9_drops_7 ?_
  have hw2 := xval.up (q := 0) (i := 13) (v := 0) hw1 rfl (by decide)
  exact xr_v C hA hZ hr hlocks dX9_drops_10 (Nat.le_of_ble_eq_true rfl) (Nat.le_of_ble_eq_true rfl) hw2 ⟨rfl, h⟩
set_option maxRecDepth 100000 in
set_option maxHeartbeats 4000000 in
theorem c_X9_fails (l : Launch) (D : va_G) (ca : Nat → ClassId) (ad : Nat → Nat) (tF : Nat) (a1 : Int) (S : xS) (Q : Int → xS → Prop) (h_a1 : xR a1) (h : w_X9_fails a1 S Q) : xM l yX9_fails (xws yX9_fails cX9_fails 2 (some .int)) ({ frames := 0, cells := 0, slots := 0, locals := 0 }) (gM D ca ad tF) [.ref (ad 0), .int (iN a1)] S (xQi Q) 0 0 := by
  refine xm_of RX9 rfl (by decide +kernel) (Nat.le_of_ble_eq_true rfl) ?_
  intro p e s m args below meth c A Z C hA hZ hr hlocks hw
  unfold w_X9_fails at h
  show xV (gM D ca ad tF) p l e ({ frames := 0, cells := 0, slots := 0, locals := 0 }) s m args below meth c A 2 Z 0 0 0 [(0, .ref (ad 0)), (1, .int (iN a1))] [] S
  refine xi_aload_n C 0 dX9_fails_0 rfl rfl ?_
  refine xi_iload_n C 1 dX9_fails_1 rfl rfl ?_
  refine xi_putI C xK_X9 (q := 0) (r := 0) rfl 0 (by decide) (ki := 0) rfl xl_X9_142 rfl rfl rfl dX9_fails_2 ?_
  have hw1 := xval.up (q := 0) (i := 0) (v := a1) hw rfl h_a1
  refine xi_iconst C (v := 0) dX9_fails_5 rfl ?_
  exact xr_i C hA hZ hr hlocks rfl dX9_fails_6 (Nat.le_of_ble_eq_true rfl) (Nat.le_of_ble_eq_true rfl) hw1 ⟨_, rfl, (by decide), h⟩
set_option maxRecDepth 100000 in
set_option maxHeartbeats 4000000 in
theorem c_X9_addProcess (l : Launch) (D : va_G) (ca : Nat → ClassId) (ad : Nat → Nat) (tF : Nat)  (S : xS) (Q : Int → xS → Prop)  (h : w_X9_addProcess  S Q) : xM l yX9_addProcess (xws yX9_addProcess cX9_addProcess 1 (some .int)) ({ frames := 1, cells := 0, slots := 0, locals := 21 }) (gM D ca ad tF) [.ref (ad 0)] S (xQi Q) 0 0 := by
  refine xm_of RX9 rfl (by decide +kernel) (Nat.le_of_ble_eq_true rfl) ?_
  intro p e s m args below meth c A Z C hA hZ hr hlocks hw
  unfold w_X9_addProcess at h
  show xV (gM D ca ad tF) p l e ({ frames := 1, cells := 0, slots := 0, locals := 21 }) s m args below meth c A 1 Z 0 0 0 [(0, .ref (ad 0))] [] S
  refine xi_aload_n C 0 dX9_addProcess_0 rfl rfl ?_
  refine xi_getI C xK_X9 (q := 0) (r := 0) rfl 1 (by decide) (ki := 1) rfl xl_X9_161 rfl dX9_addProcess_1 ?_
  refine xi_iconst C (v := 3) dX9_addProcess_4 rfl ?_
  refine xi_icmp_ne C 14 (xval.i (q := 0) (i := 1) hw (by decide) rfl) (by decide) dX9_addProcess_5 (by decide) (fun z1 => ?_) (fun z1 => ?_)
  · replace h := h.1 z1
    refine xi_aload_n C 0 dX9_addProcess_14 rfl rfl ?_
    refine xc_Vv C hw (c_X9_drops l D ca ad tF S _ h) xk_X9_drops xv_X9_drops xl_X9_300 ⟨Nat.le_of_ble_eq_true rfl, Nat.le_of_ble_eq_true rfl⟩ xK_X9 (q := 0) rfl rfl rfl (Nat.le_of_ble_eq_true rfl) ⟨Nat.le_of_ble_eq_true rfl, Nat.le_of_ble_eq_true rfl⟩ dX9_addProcess_15 (fun S15 h hw2 => ?_)
    refine xi_aload_n C 0 dX9_addProcess_18 rfl rfl ?_
    refine xi_dup C dX9_addProcess_19 rfl ?_
    refine xi_getI C xK_X9 (q := 0) (r := 0) rfl 1 (by decide) (ki := 1) rfl xl_X9_161 rfl dX9_addProcess_20 ?_
    refine xi_iconst C (v := 1) dX9_addProcess_23 rfl ?_
    refine xi_iadd C dX9_addProcess_24 ?_
    obtain ⟨hc3, h⟩ := h
    refine xi_putI C xK_X9 (q := 0) (r := 0) rfl 1 (by decide) (ki := 1) rfl xl_X9_161 rfl rfl rfl dX9_addProcess_25 ?_
    have hw4 := xval.up (q := 0) (i := 1) (v := (S15 0 1) + 1) hw2 rfl hc3
    refine xi_aload_n C 0 dX9_addProcess_28 rfl rfl ?_
    refine xi_getI C xK_X9 (q := 0) (r := 0) rfl 1 (by decide) (ki := 1) rfl xl_X9_161 rfl dX9_addProcess_29 ?_
    refine xi_iconst C (v := 1) dX9_addProcess_32 rfl ?_
    refine xi_isub C dX9_addProcess_33 ?_
    obtain ⟨hc5, h⟩ := h
    exact xr_i C hA hZ hr hlocks rfl dX9_addProcess_34 (Nat.le_of_ble_eq_true rfl) (Nat.le_of_ble_eq_true rfl) hw4 ⟨_, rfl, hc5, h⟩
  · replace h := h.2 z1
    refine xi_aload_n C 0 dX9_addProcess_8 rfl rfl ?_
    refine xi_iconst C (v := 1) dX9_addProcess_9 rfl ?_
    refine xc_Vi C hw (c_X9_fails l D ca ad tF 1 S _ (by decide) h) xk_X9_fails xv_X9_fails xl_X9_297 ⟨Nat.le_of_ble_eq_true rfl, Nat.le_of_ble_eq_true rfl⟩ xK_X9 (q := 0) rfl rfl rfl (Nat.le_of_ble_eq_true rfl) ⟨Nat.le_of_ble_eq_true rfl, Nat.le_of_ble_eq_true rfl⟩ dX9_addProcess_10 (fun r10 S10 h_r10 h hw6 => ?_)
    exact xr_i C hA hZ hr hlocks rfl dX9_addProcess_13 (Nat.le_of_ble_eq_true rfl) (Nat.le_of_ble_eq_true rfl) hw6 ⟨_, rfl, h_r10, h⟩
set_option maxRecDepth 100000 in
set_option maxHeartbeats 4000000 in
theorem c_X9_in (l : Launch) (D : va_G) (ca : Nat → ClassId) (ad : Nat → Nat) (tF : Nat) (a0 : Int) (a1 : Int) (a2 : Int) (S : xS) (Q : Int → xS → Prop) (h_a0 : xR a0) (h_a1 : xR a1) (h_a2 : xR a2) (h : w_X9_in a0 a1 a2 S Q) : xM l yX9_in (xws yX9_in cX9_in 3 (some .boolean)) ({ frames := 0, cells := 0, slots := 0, locals := 0 }) (gM D ca ad tF) [.int (iN a0), .int (iN a1), .int (iN a2)] S (xQi Q) 0 0 := by
  refine xm_of RX9 rfl (by decide +kernel) (Nat.le_of_ble_eq_true rfl) ?_
  intro p e s m args below meth c A Z C hA hZ hr hlocks hw
  unfold w_X9_in at h
  show xV (gM D ca ad tF) p l e ({ frames := 0, cells := 0, slots := 0, locals := 0 }) s m args below meth c A 3 Z 0 0 0 [(0, .int (iN a0)), (1, .int (iN a1)), (2, .int (iN a2))] [] S
  refine xi_iload_n C 0 dX9_in_0 rfl rfl ?_
  refine xi_iload_n C 1 dX9_in_1 rfl rfl ?_
  refine xi_icmp_lt C 14 h_a0 h_a1 dX9_in_2 (by decide) (fun z1 => ?_) (fun z1 => ?_)
  · replace h := h.1 z1
    refine xi_iconst C (v := 0) dX9_in_14 rfl ?_
    exact xr_i C hA hZ hr hlocks (xnarZ (Or.inl rfl)).1 dX9_in_15 (Nat.le_of_ble_eq_true rfl) (Nat.le_of_ble_eq_true rfl) hw ⟨_, rfl, (by decide), h⟩
  · replace h := h.2 z1
    refine xi_iload_n C 0 dX9_in_5 rfl rfl ?_
    refine xi_iload_n C 2 dX9_in_6 rfl rfl ?_
    refine xi_icmp_gt C 14 h_a0 h_a2 dX9_in_7 (by decide) (fun z2 => ?_) (fun z2 => ?_)
    · replace h := h.1 z2
      refine xi_iconst C (v := 0) dX9_in_14 rfl ?_
      exact xr_i C hA hZ hr hlocks (xnarZ (Or.inl rfl)).1 dX9_in_15 (Nat.le_of_ble_eq_true rfl) (Nat.le_of_ble_eq_true rfl) hw ⟨_, rfl, (by decide), h⟩
    · replace h := h.2 z2
      refine xi_iconst C (v := 1) dX9_in_10 rfl ?_
      refine xi_goto C 15 dX9_in_11 (by decide) ?_
      exact xr_i C hA hZ hr hlocks (xnarZ (Or.inr rfl)).1 dX9_in_15 (Nat.le_of_ble_eq_true rfl) (Nat.le_of_ble_eq_true rfl) hw ⟨_, rfl, (by decide), h⟩
set_option maxRecDepth 100000 in
set_option maxHeartbeats 4000000 in
theorem c_X9_isProcess (l : Launch) (D : va_G) (ca : Nat → ClassId) (ad : Nat → Nat) (tF : Nat) (a1 : Int) (S : xS) (Q : Int → xS → Prop) (h_a1 : xR a1) (h : w_X9_isProcess a1 S Q) : xM l yX9_isProcess (xws yX9_isProcess cX9_isProcess 2 (some .boolean)) ({ frames := 1, cells := 0, slots := 0, locals := 22 }) (gM D ca ad tF) [.ref (ad 0), .int (iN a1)] S (xQi Q) 0 0 := by
  refine xm_of RX9 rfl (by decide +kernel) (Nat.le_of_ble_eq_true rfl) ?_
  intro p e s m args below meth c A Z C hA hZ hr hlocks hw
  unfold w_X9_isProcess at h
  show xV (gM D ca ad tF) p l e ({ frames := 1, cells := 0, slots := 0, locals := 22 }) s m args below meth c A 2 Z 0 0 0 [(0, .ref (ad 0)), (1, .int (iN a1))] [] S
  refine xi_iload_n C 1 dX9_isProcess_0 rfl rfl ?_
  refine xi_iconst C (v := 0) dX9_isProcess_1 rfl ?_
  refine xi_aload_n C 0 dX9_isProcess_2 rfl rfl ?_
  refine xi_getI C xK_X9 (q := 0) (r := 0) rfl 1 (by decide) (ki := 1) rfl xl_X9_161 rfl dX9_isProcess_3 ?_
  refine xi_iconst C (v := 1) dX9_isProcess_6 rfl ?_
  refine xi_isub C dX9_isProcess_7 ?_
  obtain ⟨hc1, h⟩ := h
  refine xc_Si C hw (c_X9_in l D ca ad tF a1 0 ((S 0 1) - 1) S _ h_a1 (by decide) hc1 h) xk_X9_in xs_X9_in xl_X9_294 ⟨Nat.le_of_ble_eq_true rfl, Nat.le_of_ble_eq_true rfl⟩ rfl rfl (Nat.le_of_ble_eq_true rfl) ⟨Nat.le_of_ble_eq_true rfl, Nat.le_of_ble_eq_true rfl⟩ dX9_isProcess_8 (fun r8 S8 h_r8 h hw2 => ?_)
  obtain ⟨hc3, h⟩ := h
  exact xr_i C hA hZ hr hlocks (xnarZ hc3).1 dX9_isProcess_11 (Nat.le_of_ble_eq_true rfl) (Nat.le_of_ble_eq_true rfl) hw2 ⟨_, rfl, h_r8, h⟩
set_option maxRecDepth 100000 in
set_option maxHeartbeats 4000000 in
theorem c_X9_isOf (l : Launch) (D : va_G) (ca : Nat → ClassId) (ad : Nat → Nat) (tF : Nat) (a0 : Int) (a1 : Int) (S : xS) (Q : Int → xS → Prop) (h_a0 : xR a0) (h_a1 : xR a1) (h : w_X9_isOf a0 a1 S Q) : xM l yX9_isOf (xws yX9_isOf cX9_isOf 2 (some .boolean)) ({ frames := 1, cells := 0, slots := 0, locals := 22 }) (gM D ca ad tF) [.int (iN a0), .int (iN a1)] S (xQi Q) 0 0 := by
  refine xm_of RX9 rfl (by decide +kernel) (Nat.le_of_ble_eq_true rfl) ?_
  intro p e s m args below meth c A Z C hA hZ hr hlocks hw
  unfold w_X9_isOf at h
  show xV (gM D ca ad tF) p l e ({ frames := 1, cells := 0, slots := 0, locals := 22 }) s m args below meth c A 2 Z 0 0 0 [(0, .int (iN a0)), (1, .int (iN a1))] [] S
  refine xi_iload_n C 1 dX9_isOf_0 rfl rfl ?_
  refine xi_iconst C (v := 0) dX9_isOf_1 rfl ?_
  refine xi_iconst C (v := 2) dX9_isOf_2 rfl ?_
  refine xc_Si C hw (c_X9_in l D ca ad tF a1 0 2 S _ h_a1 (by decide) (by decide) h) xk_X9_in xs_X9_in xl_X9_294 ⟨Nat.le_of_ble_eq_true rfl, Nat.le_of_ble_eq_true rfl⟩ rfl rfl (Nat.le_of_ble_eq_true rfl) ⟨Nat.le_of_ble_eq_true rfl, Nat.le_of_ble_eq_true rfl⟩ dX9_isOf_3 (fun r3 S3 h_r3 h hw1 => ?_)
  refine xi_if_ne C 27 h_r3 dX9_isOf_6 (by decide) (fun z2 => ?_) (fun z2 => ?_)
  · replace h := h.1 z2
    refine xi_iconst C (v := 1) dX9_isOf_27 rfl ?_
    refine xi_goto C 32 dX9_isOf_28 (by decide) ?_
    exact xr_i C hA hZ hr hlocks (xnarZ (Or.inr rfl)).1 dX9_isOf_32 (Nat.le_of_ble_eq_true rfl) (Nat.le_of_ble_eq_true rfl) hw1 ⟨_, rfl, (by decide), h⟩
  · replace h := h.2 z2
    refine xi_iload_n C 1 dX9_isOf_9 rfl rfl ?_
    refine xi_iconst C (v := 3) dX9_isOf_10 rfl ?_
    refine xi_iconst C (v := 2) dX9_isOf_11 rfl ?_
    refine xi_iload_n C 0 dX9_isOf_12 rfl rfl ?_
    refine xi_imul C dX9_isOf_13 ?_
    refine xi_iadd C dX9_isOf_14 ?_
    obtain ⟨hc3, h⟩ := h
    refine xi_icmp_eq C 27 h_a1 hc3 dX9_isOf_15 (by decide) (fun z4 => ?_) (fun z4 => ?_)
    · replace h := h.1 z4
      refine xi_iconst C (v := 1) dX9_isOf_27 rfl ?_
      refine xi_goto C 32 dX9_isOf_28 (by decide) ?_
      exact xr_i C hA hZ hr hlocks (xnarZ (Or.inr rfl)).1 dX9_isOf_32 (Nat.le_of_ble_eq_true rfl) (Nat.le_of_ble_eq_true rfl) hw1 ⟨_, rfl, (by decide), h⟩
    · replace h := h.2 z4
      refine xi_iload_n C 1 dX9_isOf_18 rfl rfl ?_
      refine xi_iconst C (v := 4) dX9_isOf_19 rfl ?_
      refine xi_iconst C (v := 2) dX9_isOf_20 rfl ?_
      refine xi_iload_n C 0 dX9_isOf_21 rfl rfl ?_
      refine xi_imul C dX9_isOf_22 ?_
      refine xi_iadd C dX9_isOf_23 ?_
      obtain ⟨hc5, h⟩ := h
      refine xi_icmp_ne C 31 h_a1 hc5 dX9_isOf_24 (by decide) (fun z6 => ?_) (fun z6 => ?_)
      · replace h := h.1 z6
        refine xi_iconst C (v := 0) dX9_isOf_31 rfl ?_
        exact xr_i C hA hZ hr hlocks (xnarZ (Or.inl rfl)).1 dX9_isOf_32 (Nat.le_of_ble_eq_true rfl) (Nat.le_of_ble_eq_true rfl) hw1 ⟨_, rfl, (by decide), h⟩
      · replace h := h.2 z6
        refine xi_iconst C (v := 1) dX9_isOf_27 rfl ?_
        refine xi_goto C 32 dX9_isOf_28 (by decide) ?_
        exact xr_i C hA hZ hr hlocks (xnarZ (Or.inr rfl)).1 dX9_isOf_32 (Nat.le_of_ble_eq_true rfl) (Nat.le_of_ble_eq_true rfl) hw1 ⟨_, rfl, (by decide), h⟩
set_option maxRecDepth 100000 in
set_option maxHeartbeats 4000000 in
theorem c_X9_isRight (l : Launch) (D : va_G) (ca : Nat → ClassId) (ad : Nat → Nat) (tF : Nat) (a1 : Int) (a2 : Int) (a3 : Int) (a4 : Int) (S : xS) (Q : Int → xS → Prop) (h_a1 : xR a1) (h_a2 : xR a2) (h_a3 : xR a3) (h_a4 : xR a4) (h : w_X9_isRight a1 a2 a3 a4 S Q) : xM l yX9_isRight (xws yX9_isRight cX9_isRight 5 (some .boolean)) ({ frames := 2, cells := 0, slots := 0, locals := 43 }) (gM D ca ad tF) [.ref (ad 0), .int (iN a1), .int (iN a2), .int (iN a3), .int (iN a4)] S (xQi Q) 0 0 := by
  refine xm_of RX9 rfl (by decide +kernel) (Nat.le_of_ble_eq_true rfl) ?_
  intro p e s m args below meth c A Z C hA hZ hr hlocks hw
  unfold w_X9_isRight at h
  show xV (gM D ca ad tF) p l e ({ frames := 2, cells := 0, slots := 0, locals := 43 }) s m args below meth c A 5 Z 0 0 0 [(0, .ref (ad 0)), (1, .int (iN a1)), (2, .int (iN a2)), (3, .int (iN a3)), (4, .int (iN a4))] [] S
  refine xi_iload_n C 2 dX9_isRight_0 rfl rfl ?_
  refine xi_bipush C (v := 107) dX9_isRight_1 (by decide +kernel) ?_
  refine xi_icmp_ne C 8 h_a2 (by decide) dX9_isRight_3 (by decide) (fun z1 => ?_) (fun z1 => ?_)
  · replace h := h.1 z1
    refine xi_iload_n C 2 dX9_isRight_8 rfl rfl ?_
    refine xi_bipush C (v := 119) dX9_isRight_9 (by decide +kernel) ?_
    refine xJ0_w (fun  S20 => xval (gM D ca ad tF) S20 → xV (gM D ca ad tF) p l e ({ frames := 2, cells := 0, slots := 0, locals := 43 }) s m args below meth c A 5 Z 0 0 20 [(0, .ref (ad 0)), (1, .int (iN a1)), (3, .int (iN a3)), (4, .int (iN a4))] [] S20) h (fun  S20 h  hw20 => ?_) (fun j20 hj20 h => ?_)
    · unfold w_X9_isRight_J20 at h
      refine xi_iload_n C 2 dX9_isRight_20 rfl rfl ?_
      refine xi_iconst C (v := 0) dX9_isRight_21 rfl ?_
      refine xi_aload_n C 0 dX9_isRight_22 rfl rfl ?_
      refine xi_getI C xK_X9 (q := 0) (r := 0) rfl 2 (by decide) (ki := 2) rfl xl_X9_303 rfl dX9_isRight_23 ?_
      refine xi_iconst C (v := 1) dX9_isRight_26 rfl ?_
      refine xi_isub C dX9_isRight_27 ?_
      obtain ⟨hc3, h⟩ := h
      refine xc_Si C hw20 (c_X9_in l D ca ad tF a3 0 ((S20 0 2) - 1) S20 _ h_a3 (by decide) hc3 h) xk_X9_in xs_X9_in xl_X9_294 ⟨Nat.le_of_ble_eq_true rfl, Nat.le_of_ble_eq_true rfl⟩ rfl rfl (Nat.le_of_ble_eq_true rfl) ⟨Nat.le_of_ble_eq_true rfl, Nat.le_of_ble_eq_true rfl⟩ dX9_isRight_28 (fun r28 S28 h_r28 h hw4 => ?_)
      refine xi_if_eq C 47 h_r28 dX9_isRight_31 (by decide) (fun z5 => ?_) (fun z5 => ?_)
      · replace h := h.1 z5
        refine xi_iconst C (v := 0) dX9_isRight_47 rfl ?_
        exact xr_i C hA hZ hr hlocks (xnarZ (Or.inl rfl)).1 dX9_isRight_48 (Nat.le_of_ble_eq_true rfl) (Nat.le_of_ble_eq_true rfl) hw4 ⟨_, rfl, (by decide), h⟩
      · replace h := h.2 z5
        refine xi_iload_n C 1 dX9_isRight_34 rfl rfl ?_
        refine xi_iload C 3 dX9_isRight_35 rfl ?_
        refine xc_Si C hw4 (c_X9_isOf l D ca ad tF a1 a4 S28 _ h_a1 h_a4 h) xk_X9_isOf xs_X9_isOf xl_X9_306 ⟨Nat.le_of_ble_eq_true rfl, Nat.le_of_ble_eq_true rfl⟩ rfl rfl (Nat.le_of_ble_eq_true rfl) ⟨Nat.le_of_ble_eq_true rfl, Nat.le_of_ble_eq_true rfl⟩ dX9_isRight_37 (fun r37 S37 h_r37 h hw6 => ?_)
        refine xi_if_eq C 47 h_r37 dX9_isRight_40 (by decide) (fun z7 => ?_) (fun z7 => ?_)
        · replace h := h.1 z7
          refine xi_iconst C (v := 0) dX9_isRight_47 rfl ?_
          exact xr_i C hA hZ hr hlocks (xnarZ (Or.inl rfl)).1 dX9_isRight_48 (Nat.le_of_ble_eq_true rfl) (Nat.le_of_ble_eq_true rfl) hw6 ⟨_, rfl, (by decide), h⟩
        · replace h := h.2 z7
          refine xi_iconst C (v := 1) dX9_isRight_43 rfl ?_
          refine xi_goto C 48 dX9_isRight_44 (by decide) ?_
          exact xr_i C hA hZ hr hlocks (xnarZ (Or.inr rfl)).1 dX9_isRight_48 (Nat.le_of_ble_eq_true rfl) (Nat.le_of_ble_eq_true rfl) hw6 ⟨_, rfl, (by decide), h⟩
    · refine xi_icmp_eq C 20 h_a2 (by decide) dX9_isRight_11 (by decide) (fun z2 => ?_) (fun z2 => ?_)
      · replace h := h.1 z2
        exact xi_sub [0, 1, 3, 4] rfl (hj20 S h hw)
      · replace h := h.2 z2
        refine xi_iload_n C 2 dX9_isRight_14 rfl rfl ?_
        refine xi_bipush C (v := 114) dX9_isRight_15 (by decide +kernel) ?_
        refine xi_icmp_ne C 49 h_a2 (by decide) dX9_isRight_17 (by decide) (fun z8 => ?_) (fun z8 => ?_)
        · replace h := h.1 z8
          refine xi_iload_n C 2 dX9_isRight_49 rfl rfl ?_
          refine xi_bipush C (v := 115) dX9_isRight_50 (by decide +kernel) ?_
          refine xJ0_w (fun  S79 => xval (gM D ca ad tF) S79 → xV (gM D ca ad tF) p l e ({ frames := 2, cells := 0, slots := 0, locals := 43 }) s m args below meth c A 5 Z 0 0 79 [(1, .int (iN a1)), (3, .int (iN a3)), (4, .int (iN a4))] [] S79) h (fun  S79 h  hw79 => ?_) (fun j79 hj79 h => ?_)
          · unfold w_X9_isRight_J79 at h
            refine xi_iload_n C 0 dX9_isRight_79 rfl rfl ?_
            refine xi_iload_n C 1 dX9_isRight_80 rfl rfl ?_
            refine xc_Si C hw79 (c_X9_isOf l D ca ad tF a1 a3 S79 _ h_a1 h_a3 h) xk_X9_isOf xs_X9_isOf xl_X9_306 ⟨Nat.le_of_ble_eq_true rfl, Nat.le_of_ble_eq_true rfl⟩ rfl rfl (Nat.le_of_ble_eq_true rfl) ⟨Nat.le_of_ble_eq_true rfl, Nat.le_of_ble_eq_true rfl⟩ dX9_isRight_81 (fun r81 S81 h_r81 h hw10 => ?_)
            refine xi_if_eq C 101 h_r81 dX9_isRight_84 (by decide) (fun z11 => ?_) (fun z11 => ?_)
            · replace h := h.1 z11
              refine xi_iconst C (v := 0) dX9_isRight_101 rfl ?_
              exact xr_i C hA hZ hr hlocks (xnarZ (Or.inl rfl)).1 dX9_isRight_102 (Nat.le_of_ble_eq_true rfl) (Nat.le_of_ble_eq_true rfl) hw10 ⟨_, rfl, (by decide), h⟩
            · replace h := h.2 z11
              refine xi_iload C 2 dX9_isRight_87 rfl ?_
              refine xi_iconst C (v := 0) dX9_isRight_89 rfl ?_
              refine xi_iconst C (v := 3) dX9_isRight_90 rfl ?_
              refine xc_Si C hw10 (c_X9_in l D ca ad tF a4 0 3 S81 _ h_a4 (by decide) (by decide) h) xk_X9_in xs_X9_in xl_X9_294 ⟨Nat.le_of_ble_eq_true rfl, Nat.le_of_ble_eq_true rfl⟩ rfl rfl (Nat.le_of_ble_eq_true rfl) ⟨Nat.le_of_ble_eq_true rfl, Nat.le_of_ble_eq_true rfl⟩ dX9_isRight_91 (fun r91 S91 h_r91 h hw12 => ?_)
              refine xi_if_eq C 101 h_r91 dX9_isRight_94 (by decide) (fun z13 => ?_) (fun z13 => ?_)
              · replace h := h.1 z13
                refine xi_iconst C (v := 0) dX9_isRight_101 rfl ?_
                exact xr_i C hA hZ hr hlocks (xnarZ (Or.inl rfl)).1 dX9_isRight_102 (Nat.le_of_ble_eq_true rfl) (Nat.le_of_ble_eq_true rfl) hw12 ⟨_, rfl, (by decide), h⟩
              · replace h := h.2 z13
                refine xi_iconst C (v := 1) dX9_isRight_97 rfl ?_
                refine xi_goto C 102 dX9_isRight_98 (by decide) ?_
                exact xr_i C hA hZ hr hlocks (xnarZ (Or.inr rfl)).1 dX9_isRight_102 (Nat.le_of_ble_eq_true rfl) (Nat.le_of_ble_eq_true rfl) hw12 ⟨_, rfl, (by decide), h⟩
          · refine xi_icmp_eq C 79 h_a2 (by decide) dX9_isRight_52 (by decide) (fun z9 => ?_) (fun z9 => ?_)
            · replace h := h.1 z9
              exact xi_sub [1, 3, 4] rfl (hj79 S h hw)
            · replace h := h.2 z9
              refine xi_iload_n C 2 dX9_isRight_55 rfl rfl ?_
              refine xi_bipush C (v := 105) dX9_isRight_56 (by decide +kernel) ?_
              refine xi_icmp_eq C 79 h_a2 (by decide) dX9_isRight_58 (by decide) (fun z14 => ?_) (fun z14 => ?_)
              · replace h := h.1 z14
                exact xi_sub [1, 3, 4] rfl (hj79 S h hw)
              · replace h := h.2 z14
                refine xi_iload_n C 2 dX9_isRight_61 rfl rfl ?_
                refine xi_bipush C (v := 61) dX9_isRight_62 (by decide +kernel) ?_
                refine xi_icmp_eq C 79 h_a2 (by decide) dX9_isRight_64 (by decide) (fun z15 => ?_) (fun z15 => ?_)
                · replace h := h.1 z15
                  exact xi_sub [1, 3, 4] rfl (hj79 S h hw)
                · replace h := h.2 z15
                  refine xi_iload_n C 2 dX9_isRight_67 rfl rfl ?_
                  refine xi_bipush C (v := 33) dX9_isRight_68 (by decide +kernel) ?_
                  refine xi_icmp_eq C 79 h_a2 (by decide) dX9_isRight_70 (by decide) (fun z16 => ?_) (fun z16 => ?_)
                  · replace h := h.1 z16
                    exact xi_sub [1, 3, 4] rfl (hj79 S h hw)
                  · replace h := h.2 z16
                    refine xi_iload_n C 2 dX9_isRight_73 rfl rfl ?_
                    refine xi_bipush C (v := 97) dX9_isRight_74 (by decide +kernel) ?_
                    refine xi_icmp_ne C 101 h_a2 (by decide) dX9_isRight_76 (by decide) (fun z17 => ?_) (fun z17 => ?_)
                    · replace h := h.1 z17
                      refine xi_iconst C (v := 0) dX9_isRight_101 rfl ?_
                      exact xr_i C hA hZ hr hlocks (xnarZ (Or.inl rfl)).1 dX9_isRight_102 (Nat.le_of_ble_eq_true rfl) (Nat.le_of_ble_eq_true rfl) hw ⟨_, rfl, (by decide), h⟩
                    · replace h := h.2 z17
                      exact xi_sub [1, 3, 4] rfl (hj79 S h hw)
        · replace h := h.2 z8
          exact xi_sub [0, 1, 3, 4] rfl (hj20 S h hw)
  · replace h := h.2 z1
    refine xi_iconst C (v := 1) dX9_isRight_6 rfl ?_
    exact xr_i C hA hZ hr hlocks (xnarZ (Or.inr rfl)).1 dX9_isRight_7 (Nat.le_of_ble_eq_true rfl) (Nat.le_of_ble_eq_true rfl) hw ⟨_, rfl, (by decide), h⟩
set_option maxRecDepth 100000 in
set_option maxHeartbeats 4000000 in
theorem c_X9_addStep (l : Launch) (D : va_G) (ca : Nat → ClassId) (ad : Nat → Nat) (tF : Nat) (a1 : Int) (a2 : Int) (a3 : Int) (a4 : Int) (a5 : Int) (a6 : Int) (S : xS) (Q : Int → xS → Prop) (h_a1 : xR a1) (h_a2 : xR a2) (h_a3 : xR a3) (h_a4 : xR a4) (h_a5 : xR a5) (h_a6 : xR a6) (h : w_X9_addStep a1 a2 a3 a4 a5 a6 S Q) : xM l yX9_addStep (xws yX9_addStep cX9_addStep 8 (some .int)) ({ frames := 3, cells := 0, slots := 0, locals := 67 }) (gM D ca ad tF) [.ref (ad 0), .int (iN a1), .int (iN a2), .int (iN a3), .int (iN a4), .int (iN a5), .int (iN a6)] S (xQi Q) 0 0 := by
  refine xm_of RX9 rfl (by decide +kernel) (Nat.le_of_ble_eq_true rfl) ?_
  intro p e s m args below meth c A Z C hA hZ hr hlocks hw
  unfold w_X9_addStep at h
  show xV (gM D ca ad tF) p l e ({ frames := 3, cells := 0, slots := 0, locals := 67 }) s m args below meth c A 8 Z 0 0 0 [(0, .ref (ad 0)), (1, .int (iN a1)), (2, .int (iN a2)), (3, .int (iN a3)), (4, .int (iN a4)), (5, .int (iN a5)), (6, .int (iN a6))] [] S
  refine xi_aload_n C 0 dX9_addStep_0 rfl rfl ?_
  refine xi_iload_n C 1 dX9_addStep_1 rfl rfl ?_
  refine xc_Vi C hw (c_X9_isProcess l D ca ad tF a1 S _ h_a1 h) xk_X9_isProcess xv_X9_isProcess xl_X9_309 ⟨Nat.le_of_ble_eq_true rfl, Nat.le_of_ble_eq_true rfl⟩ xK_X9 (q := 0) rfl rfl rfl (Nat.le_of_ble_eq_true rfl) ⟨Nat.le_of_ble_eq_true rfl, Nat.le_of_ble_eq_true rfl⟩ dX9_addStep_2 (fun r2 S2 h_r2 h hw1 => ?_)
  refine xi_if_ne C 14 h_r2 dX9_addStep_5 (by decide) (fun z2 => ?_) (fun z2 => ?_)
  · replace h := h.1 z2
    refine xi_iload_n C 2 dX9_addStep_14 rfl rfl ?_
    refine xi_iconst C (v := 0) dX9_addStep_15 rfl ?_
    refine xi_bipush C (v := 11) dX9_addStep_16 (by decide +kernel) ?_
    refine xc_Si C hw1 (c_X9_in l D ca ad tF a2 0 11 S2 _ h_a2 (by decide) (by decide) h) xk_X9_in xs_X9_in xl_X9_294 ⟨Nat.le_of_ble_eq_true rfl, Nat.le_of_ble_eq_true rfl⟩ rfl rfl (Nat.le_of_ble_eq_true rfl) ⟨Nat.le_of_ble_eq_true rfl, Nat.le_of_ble_eq_true rfl⟩ dX9_addStep_18 (fun r18 S18 h_r18 h hw3 => ?_)
    refine xJ0_w (fun  S48 => xval (gM D ca ad tF) S48 → xV (gM D ca ad tF) p l e ({ frames := 3, cells := 0, slots := 0, locals := 67 }) s m args below meth c A 8 Z 0 0 48 [(0, .ref (ad 0))] [] S48) h (fun  S48 h  hw48 => ?_) (fun j48 hj48 h => ?_)
    · unfold w_X9_addStep_J48 at h
      refine xi_aload_n C 0 dX9_addStep_48 rfl rfl ?_
      refine xi_iconst C (v := 2) dX9_addStep_49 rfl ?_
      refine xc_Vi C hw48 (c_X9_fails l D ca ad tF 2 S48 _ (by decide) h) xk_X9_fails xv_X9_fails xl_X9_297 ⟨Nat.le_of_ble_eq_true rfl, Nat.le_of_ble_eq_true rfl⟩ xK_X9 (q := 0) rfl rfl rfl (Nat.le_of_ble_eq_true rfl) ⟨Nat.le_of_ble_eq_true rfl, Nat.le_of_ble_eq_true rfl⟩ dX9_addStep_50 (fun r50 S50 h_r50 h hw5 => ?_)
      exact xr_i C hA hZ hr hlocks rfl dX9_addStep_53 (Nat.le_of_ble_eq_true rfl) (Nat.le_of_ble_eq_true rfl) hw5 ⟨_, rfl, h_r50, h⟩
    · refine xi_if_eq C 48 h_r18 dX9_addStep_21 (by decide) (fun z4 => ?_) (fun z4 => ?_)
      · replace h := h.1 z4
        exact xi_sub [0] rfl (hj48 S18 h hw3)
      · replace h := h.2 z4
        refine xi_iload_n C 3 dX9_addStep_24 rfl rfl ?_
        refine xi_iconst C (v := 0) dX9_addStep_25 rfl ?_
        refine xi_bipush C (v := 11) dX9_addStep_26 (by decide +kernel) ?_
        refine xc_Si C hw3 (c_X9_in l D ca ad tF a3 0 11 S18 _ h_a3 (by decide) (by decide) h) xk_X9_in xs_X9_in xl_X9_294 ⟨Nat.le_of_ble_eq_true rfl, Nat.le_of_ble_eq_true rfl⟩ rfl rfl (Nat.le_of_ble_eq_true rfl) ⟨Nat.le_of_ble_eq_true rfl, Nat.le_of_ble_eq_true rfl⟩ dX9_addStep_28 (fun r28 S28 h_r28 h hw6 => ?_)
        refine xi_if_eq C 48 h_r28 dX9_addStep_31 (by decide) (fun z7 => ?_) (fun z7 => ?_)
        · replace h := h.1 z7
          exact xi_sub [0] rfl (hj48 S28 h hw6)
        · replace h := h.2 z7
          refine xi_aload_n C 0 dX9_addStep_34 rfl rfl ?_
          refine xi_iload_n C 1 dX9_addStep_35 rfl rfl ?_
          refine xi_iload C 4 dX9_addStep_36 rfl ?_
          refine xi_iload C 5 dX9_addStep_38 rfl ?_
          refine xi_iload C 6 dX9_addStep_40 rfl ?_
          refine xc_Vi C hw6 (c_X9_isRight l D ca ad tF a1 a4 a5 a6 S28 _ h_a1 h_a4 h_a5 h_a6 h) xk_X9_isRight xv_X9_isRight xl_X9_312 ⟨Nat.le_of_ble_eq_true rfl, Nat.le_of_ble_eq_true rfl⟩ xK_X9 (q := 0) rfl rfl rfl (Nat.le_of_ble_eq_true rfl) ⟨Nat.le_of_ble_eq_true rfl, Nat.le_of_ble_eq_true rfl⟩ dX9_addStep_42 (fun r42 S42 h_r42 h hw8 => ?_)
          refine xi_if_ne C 54 h_r42 dX9_addStep_45 (by decide) (fun z9 => ?_) (fun z9 => ?_)
          · replace h := h.1 z9
            refine xi_aload_n C 0 dX9_addStep_54 rfl rfl ?_
            refine xi_getR C xK_X9 (q := 0) (r := 1) rfl 15 (by decide) (ki := 15) rfl xl_X9_7 rfl dX9_addStep_55 ?_
            refine xi_iload_n C 1 dX9_addStep_58 rfl rfl ?_
            obtain ⟨hc10, h⟩ := h
            refine xi_iaload C (q := 1) rfl (by decide) hc10 dX9_addStep_59 ?_
            refine xi_bipush C (v := 14) dX9_addStep_60 (by decide +kernel) ?_
            refine xi_icmp_ne C 71 (xval.i (q := 1) (i := a1) hw8 hc10.1 rfl) (by decide) dX9_addStep_62 (by decide) (fun z11 => ?_) (fun z11 => ?_)
            · replace h := h.1 z11
              refine xi_aload_n C 0 dX9_addStep_71 rfl rfl ?_
              refine xc_Vv C hw8 (c_X9_drops l D ca ad tF S42 _ h) xk_X9_drops xv_X9_drops xl_X9_300 ⟨Nat.le_of_ble_eq_true rfl, Nat.le_of_ble_eq_true rfl⟩ xK_X9 (q := 0) rfl rfl rfl (Nat.le_of_ble_eq_true rfl) ⟨Nat.le_of_ble_eq_true rfl, Nat.le_of_ble_eq_true rfl⟩ dX9_addStep_72 (fun S72 h hw12 => ?_)
              refine xi_bipush C (v := 14) dX9_addStep_75 (by decide +kernel) ?_
              refine xi_iload_n C 1 dX9_addStep_77 rfl rfl ?_
              refine xi_imul C dX9_addStep_78 ?_
              refine xi_aload_n C 0 dX9_addStep_79 rfl rfl ?_
              refine xi_getR C xK_X9 (q := 0) (r := 1) rfl 15 (by decide) (ki := 15) rfl xl_X9_7 rfl dX9_addStep_80 ?_
              refine xi_iload_n C 1 dX9_addStep_83 rfl rfl ?_
              refine xi_iaload C (q := 1) rfl (by decide) hc10 dX9_addStep_84 ?_
              refine xi_iadd C dX9_addStep_85 ?_
              refine xi_istore C (L' := [(7, .int (iN ((14 * a1) + (S72 1 a1)))), (0, .ref (ad 0)), (1, .int (iN a1)), (2, .int (iN a2)), (3, .int (iN a3)), (4, .int (iN a4)), (5, .int (iN a5)), (6, .int (iN a6))]) dX9_addStep_86 (by decide) rfl ?_
              refine xi_aload_n C 1 dX9_addStep_88 rfl rfl ?_
              refine xi_getR C xK_X9 (q := 0) (r := 2) rfl 16 (by decide) (ki := 16) rfl xl_X9_13 rfl dX9_addStep_89 ?_
              refine xi_iload C 0 dX9_addStep_92 rfl ?_
              refine xi_iload_n C 3 dX9_addStep_94 rfl rfl ?_
              obtain ⟨hc13, h⟩ := h
              refine xi_iastore C (q := 2) rfl (by decide) hc13 dX9_addStep_95 ?_
              have hw14 := xval.up (q := 2) (i := (14 * a1) + (S72 1 a1)) (v := a2) hw12 rfl h_a2
              refine xi_aload_n C 1 dX9_addStep_96 rfl rfl ?_
              refine xi_getR C xK_X9 (q := 0) (r := 3) rfl 17 (by decide) (ki := 17) rfl xl_X9_16 rfl dX9_addStep_97 ?_
              refine xi_iload C 0 dX9_addStep_100 rfl ?_
              refine xi_iload_n C 4 dX9_addStep_102 rfl rfl ?_
              refine xi_iastore C (q := 3) rfl (by decide) hc13 dX9_addStep_103 ?_
              have hw15 := xval.up (q := 3) (i := (14 * a1) + (S72 1 a1)) (v := a3) hw14 rfl h_a3
              refine xi_aload_n C 1 dX9_addStep_104 rfl rfl ?_
              refine xi_getR C xK_X9 (q := 0) (r := 4) rfl 18 (by decide) (ki := 18) rfl xl_X9_19 rfl dX9_addStep_105 ?_
              refine xi_iload C 0 dX9_addStep_108 rfl ?_
              refine xi_iload C 5 dX9_addStep_110 rfl ?_
              refine xi_iastore C (q := 4) rfl (by decide) hc13 dX9_addStep_112 ?_
              have hw16 := xval.up (q := 4) (i := (14 * a1) + (S72 1 a1)) (v := a4) hw15 rfl h_a4
              refine xi_aload_n C 1 dX9_addStep_113 rfl rfl ?_
              refine xi_getR C xK_X9 (q := 0) (r := 5) rfl 19 (by decide) (ki := 19) rfl xl_X9_22 rfl dX9_addStep_114 ?_
              refine xi_iload C 0 dX9_addStep_117 rfl ?_
              refine xi_iload C 6 dX9_addStep_119 rfl ?_
              refine xi_iastore C (q := 5) rfl (by decide) hc13 dX9_addStep_121 ?_
              have hw17 := xval.up (q := 5) (i := (14 * a1) + (S72 1 a1)) (v := a5) hw16 rfl h_a5
              refine xi_aload_n C 1 dX9_addStep_122 rfl rfl ?_
              refine xi_getR C xK_X9 (q := 0) (r := 6) rfl 20 (by decide) (ki := 20) rfl xl_X9_25 rfl dX9_addStep_123 ?_
              refine xi_iload C 0 dX9_addStep_126 rfl ?_
              refine xi_iload C 7 dX9_addStep_128 rfl ?_
              refine xi_iastore C (q := 6) rfl (by decide) hc13 dX9_addStep_130 ?_
              have hw18 := xval.up (q := 6) (i := (14 * a1) + (S72 1 a1)) (v := a6) hw17 rfl h_a6
              refine xi_aload_n C 1 dX9_addStep_131 rfl rfl ?_
              refine xi_getR C xK_X9 (q := 0) (r := 1) rfl 15 (by decide) (ki := 15) rfl xl_X9_7 rfl dX9_addStep_132 ?_
              refine xi_iload_n C 2 dX9_addStep_135 rfl rfl ?_
              refine xi_dup2 C dX9_addStep_136 rfl rfl ?_
              refine xi_iaload C (q := 1) rfl (by decide) hc10 dX9_addStep_137 ?_
              refine xi_iconst C (v := 1) dX9_addStep_138 rfl ?_
              refine xi_iadd C dX9_addStep_139 ?_
              obtain ⟨hc19, h⟩ := h
              refine xi_iastore C (q := 1) rfl (by decide) hc10 dX9_addStep_140 ?_
              have hw20 := xval.up (q := 1) (i := a1) (v := (S72 1 a1) + 1) hw18 rfl hc19
              refine xi_aload_n C 1 dX9_addStep_141 rfl rfl ?_
              refine xi_getR C xK_X9 (q := 0) (r := 1) rfl 15 (by decide) (ki := 15) rfl xl_X9_7 rfl dX9_addStep_142 ?_
              refine xi_iload_n C 2 dX9_addStep_145 rfl rfl ?_
              refine xi_iaload C (q := 1) rfl (by decide) hc10 dX9_addStep_146 ?_
              refine xi_iconst C (v := 1) dX9_addStep_147 rfl ?_
              refine xi_isub C dX9_addStep_148 ?_
              obtain ⟨hc21, h⟩ := h
              exact xr_i C hA hZ hr hlocks rfl dX9_addStep_149 (Nat.le_of_ble_eq_true rfl) (Nat.le_of_ble_eq_true rfl) hw20 ⟨_, rfl, hc21, h⟩
            · replace h := h.2 z11
              refine xi_aload_n C 0 dX9_addStep_65 rfl rfl ?_
              refine xi_iconst C (v := 3) dX9_addStep_66 rfl ?_
              refine xc_Vi C hw8 (c_X9_fails l D ca ad tF 3 S42 _ (by decide) h) xk_X9_fails xv_X9_fails xl_X9_297 ⟨Nat.le_of_ble_eq_true rfl, Nat.le_of_ble_eq_true rfl⟩ xK_X9 (q := 0) rfl rfl rfl (Nat.le_of_ble_eq_true rfl) ⟨Nat.le_of_ble_eq_true rfl, Nat.le_of_ble_eq_true rfl⟩ dX9_addStep_67 (fun r67 S67 h_r67 h hw22 => ?_)
              exact xr_i C hA hZ hr hlocks rfl dX9_addStep_70 (Nat.le_of_ble_eq_true rfl) (Nat.le_of_ble_eq_true rfl) hw22 ⟨_, rfl, h_r67, h⟩
          · replace h := h.2 z9
            exact xi_sub [0] rfl (hj48 S42 h hw8)
  · replace h := h.2 z2
    refine xi_aload_n C 0 dX9_addStep_8 rfl rfl ?_
    refine xi_iconst C (v := 1) dX9_addStep_9 rfl ?_
    refine xc_Vi C hw1 (c_X9_fails l D ca ad tF 1 S2 _ (by decide) h) xk_X9_fails xv_X9_fails xl_X9_297 ⟨Nat.le_of_ble_eq_true rfl, Nat.le_of_ble_eq_true rfl⟩ xK_X9 (q := 0) rfl rfl rfl (Nat.le_of_ble_eq_true rfl) ⟨Nat.le_of_ble_eq_true rfl, Nat.le_of_ble_eq_true rfl⟩ dX9_addStep_10 (fun r10 S10 h_r10 h hw23 => ?_)
    exact xr_i C hA hZ hr hlocks rfl dX9_addStep_13 (Nat.le_of_ble_eq_true rfl) (Nat.le_of_ble_eq_true rfl) hw23 ⟨_, rfl, h_r10, h⟩
set_option maxRecDepth 100000 in
set_option maxHeartbeats 4000000 in
theorem c_X9_addChannel (l : Launch) (D : va_G) (ca : Nat → ClassId) (ad : Nat → Nat) (tF : Nat) (a1 : Int) (S : xS) (Q : Int → xS → Prop) (h_a1 : xR a1) (h : w_X9_addChannel a1 S Q) : xM l yX9_addChannel (xws yX9_addChannel cX9_addChannel 2 (some .int)) ({ frames := 1, cells := 0, slots := 0, locals := 22 }) (gM D ca ad tF) [.ref (ad 0), .int (iN a1)] S (xQi Q) 0 0 := by
  refine xm_of RX9 rfl (by decide +kernel) (Nat.le_of_ble_eq_true rfl) ?_
  intro p e s m args below meth c A Z C hA hZ hr hlocks hw
  unfold w_X9_addChannel at h
  show xV (gM D ca ad tF) p l e ({ frames := 1, cells := 0, slots := 0, locals := 22 }) s m args below meth c A 2 Z 0 0 0 [(0, .ref (ad 0)), (1, .int (iN a1))] [] S
  refine xi_iload_n C 1 dX9_addChannel_0 rfl rfl ?_
  refine xi_iconst C (v := 0) dX9_addChannel_1 rfl ?_
  refine xi_iconst C (v := 2) dX9_addChannel_2 rfl ?_
  refine xc_Si C hw (c_X9_in l D ca ad tF a1 0 2 S _ h_a1 (by decide) (by decide) h) xk_X9_in xs_X9_in xl_X9_294 ⟨Nat.le_of_ble_eq_true rfl, Nat.le_of_ble_eq_true rfl⟩ rfl rfl (Nat.le_of_ble_eq_true rfl) ⟨Nat.le_of_ble_eq_true rfl, Nat.le_of_ble_eq_true rfl⟩ dX9_addChannel_3 (fun r3 S3 h_r3 h hw1 => ?_)
  refine xi_if_ne C 15 h_r3 dX9_addChannel_6 (by decide) (fun z2 => ?_) (fun z2 => ?_)
  · replace h := h.1 z2
    refine xi_aload_n C 0 dX9_addChannel_15 rfl rfl ?_
    refine xi_getI C xK_X9 (q := 0) (r := 0) rfl 2 (by decide) (ki := 2) rfl xl_X9_303 rfl dX9_addChannel_16 ?_
    refine xi_iconst C (v := 2) dX9_addChannel_19 rfl ?_
    refine xi_icmp_ne C 29 (xval.i (q := 0) (i := 2) hw1 (by decide) rfl) (by decide) dX9_addChannel_20 (by decide) (fun z3 => ?_) (fun z3 => ?_)
    · replace h := h.1 z3
      refine xi_aload_n C 0 dX9_addChannel_29 rfl rfl ?_
      refine xc_Vv C hw1 (c_X9_drops l D ca ad tF S3 _ h) xk_X9_drops xv_X9_drops xl_X9_300 ⟨Nat.le_of_ble_eq_true rfl, Nat.le_of_ble_eq_true rfl⟩ xK_X9 (q := 0) rfl rfl rfl (Nat.le_of_ble_eq_true rfl) ⟨Nat.le_of_ble_eq_true rfl, Nat.le_of_ble_eq_true rfl⟩ dX9_addChannel_30 (fun S30 h hw4 => ?_)
      refine xi_aload_n C 0 dX9_addChannel_33 rfl rfl ?_
      refine xi_getR C xK_X9 (q := 0) (r := 7) rfl 21 (by decide) (ki := 21) rfl xl_X9_28 rfl dX9_addChannel_34 ?_
      refine xi_aload_n C 0 dX9_addChannel_37 rfl rfl ?_
      refine xi_getI C xK_X9 (q := 0) (r := 0) rfl 2 (by decide) (ki := 2) rfl xl_X9_303 rfl dX9_addChannel_38 ?_
      refine xi_iload_n C 1 dX9_addChannel_41 rfl rfl ?_
      obtain ⟨hc5, h⟩ := h
      refine xi_iastore C (q := 7) rfl (by decide) hc5 dX9_addChannel_42 ?_
      have hw6 := xval.up (q := 7) (i := S30 0 2) (v := a1) hw4 rfl h_a1
      refine xi_aload_n C 0 dX9_addChannel_43 rfl rfl ?_
      refine xi_dup C dX9_addChannel_44 rfl ?_
      refine xi_getI C xK_X9 (q := 0) (r := 0) rfl 2 (by decide) (ki := 2) rfl xl_X9_303 rfl dX9_addChannel_45 ?_
      refine xi_iconst C (v := 1) dX9_addChannel_48 rfl ?_
      refine xi_iadd C dX9_addChannel_49 ?_
      obtain ⟨hc7, h⟩ := h
      refine xi_putI C xK_X9 (q := 0) (r := 0) rfl 2 (by decide) (ki := 2) rfl xl_X9_303 rfl rfl rfl dX9_addChannel_50 ?_
      have hw8 := xval.up (q := 0) (i := 2) (v := (S30 0 2) + 1) hw6 rfl hc7
      refine xi_aload_n C 0 dX9_addChannel_53 rfl rfl ?_
      refine xi_getI C xK_X9 (q := 0) (r := 0) rfl 2 (by decide) (ki := 2) rfl xl_X9_303 rfl dX9_addChannel_54 ?_
      refine xi_iconst C (v := 1) dX9_addChannel_57 rfl ?_
      refine xi_isub C dX9_addChannel_58 ?_
      obtain ⟨hc9, h⟩ := h
      exact xr_i C hA hZ hr hlocks rfl dX9_addChannel_59 (Nat.le_of_ble_eq_true rfl) (Nat.le_of_ble_eq_true rfl) hw8 ⟨_, rfl, hc9, h⟩
    · replace h := h.2 z3
      refine xi_aload_n C 0 dX9_addChannel_23 rfl rfl ?_
      refine xi_iconst C (v := 2) dX9_addChannel_24 rfl ?_
      refine xc_Vi C hw1 (c_X9_fails l D ca ad tF 2 S3 _ (by decide) h) xk_X9_fails xv_X9_fails xl_X9_297 ⟨Nat.le_of_ble_eq_true rfl, Nat.le_of_ble_eq_true rfl⟩ xK_X9 (q := 0) rfl rfl rfl (Nat.le_of_ble_eq_true rfl) ⟨Nat.le_of_ble_eq_true rfl, Nat.le_of_ble_eq_true rfl⟩ dX9_addChannel_25 (fun r25 S25 h_r25 h hw10 => ?_)
      exact xr_i C hA hZ hr hlocks rfl dX9_addChannel_28 (Nat.le_of_ble_eq_true rfl) (Nat.le_of_ble_eq_true rfl) hw10 ⟨_, rfl, h_r25, h⟩
  · replace h := h.2 z2
    refine xi_aload_n C 0 dX9_addChannel_9 rfl rfl ?_
    refine xi_iconst C (v := 1) dX9_addChannel_10 rfl ?_
    refine xc_Vi C hw1 (c_X9_fails l D ca ad tF 1 S3 _ (by decide) h) xk_X9_fails xv_X9_fails xl_X9_297 ⟨Nat.le_of_ble_eq_true rfl, Nat.le_of_ble_eq_true rfl⟩ xK_X9 (q := 0) rfl rfl rfl (Nat.le_of_ble_eq_true rfl) ⟨Nat.le_of_ble_eq_true rfl, Nat.le_of_ble_eq_true rfl⟩ dX9_addChannel_11 (fun r11 S11 h_r11 h hw11 => ?_)
    exact xr_i C hA hZ hr hlocks rfl dX9_addChannel_14 (Nat.le_of_ble_eq_true rfl) (Nat.le_of_ble_eq_true rfl) hw11 ⟨_, rfl, h_r11, h⟩
set_option maxRecDepth 100000 in
set_option maxHeartbeats 4000000 in
theorem c_X9_setStart (l : Launch) (D : va_G) (ca : Nat → ClassId) (ad : Nat → Nat) (tF : Nat) (a1 : Int) (a2 : Int) (S : xS) (Q : Int → xS → Prop) (h_a1 : xR a1) (h_a2 : xR a2) (h : w_X9_setStart a1 a2 S Q) : xM l yX9_setStart (xws yX9_setStart cX9_setStart 4 (some .int)) ({ frames := 1, cells := 0, slots := 0, locals := 22 }) (gM D ca ad tF) [.ref (ad 0), .int (iN a1), .int (iN a2)] S (xQi Q) 0 0 := by
  refine xm_of RX9 rfl (by decide +kernel) (Nat.le_of_ble_eq_true rfl) ?_
  intro p e s m args below meth c A Z C hA hZ hr hlocks hw
  unfold w_X9_setStart at h
  show xV (gM D ca ad tF) p l e ({ frames := 1, cells := 0, slots := 0, locals := 22 }) s m args below meth c A 4 Z 0 0 0 [(0, .ref (ad 0)), (1, .int (iN a1)), (2, .int (iN a2))] [] S
  refine xi_iload_n C 1 dX9_setStart_0 rfl rfl ?_
  refine xi_iconst C (v := 0) dX9_setStart_1 rfl ?_
  refine xi_bipush C (v := 8) dX9_setStart_2 (by decide +kernel) ?_
  refine xc_Si C hw (c_X9_in l D ca ad tF a1 0 8 S _ h_a1 (by decide) (by decide) h) xk_X9_in xs_X9_in xl_X9_294 ⟨Nat.le_of_ble_eq_true rfl, Nat.le_of_ble_eq_true rfl⟩ rfl rfl (Nat.le_of_ble_eq_true rfl) ⟨Nat.le_of_ble_eq_true rfl, Nat.le_of_ble_eq_true rfl⟩ dX9_setStart_4 (fun r4 S4 h_r4 h hw1 => ?_)
  refine xJ0_w (fun  S19 => xval (gM D ca ad tF) S19 → xV (gM D ca ad tF) p l e ({ frames := 1, cells := 0, slots := 0, locals := 22 }) s m args below meth c A 4 Z 0 0 19 [(0, .ref (ad 0))] [] S19) h (fun  S19 h  hw19 => ?_) (fun j19 hj19 h => ?_)
  · unfold w_X9_setStart_J19 at h
    refine xi_aload_n C 0 dX9_setStart_19 rfl rfl ?_
    refine xi_iconst C (v := 1) dX9_setStart_20 rfl ?_
    refine xc_Vi C hw19 (c_X9_fails l D ca ad tF 1 S19 _ (by decide) h) xk_X9_fails xv_X9_fails xl_X9_297 ⟨Nat.le_of_ble_eq_true rfl, Nat.le_of_ble_eq_true rfl⟩ xK_X9 (q := 0) rfl rfl rfl (Nat.le_of_ble_eq_true rfl) ⟨Nat.le_of_ble_eq_true rfl, Nat.le_of_ble_eq_true rfl⟩ dX9_setStart_21 (fun r21 S21 h_r21 h hw3 => ?_)
    exact xr_i C hA hZ hr hlocks rfl dX9_setStart_24 (Nat.le_of_ble_eq_true rfl) (Nat.le_of_ble_eq_true rfl) hw3 ⟨_, rfl, h_r21, h⟩
  · refine xi_if_eq C 19 h_r4 dX9_setStart_7 (by decide) (fun z2 => ?_) (fun z2 => ?_)
    · replace h := h.1 z2
      exact xi_sub [0] rfl (hj19 S4 h hw1)
    · replace h := h.2 z2
      refine xi_iload_n C 2 dX9_setStart_10 rfl rfl ?_
      refine xi_iconst C (v := 0) dX9_setStart_11 rfl ?_
      refine xi_iconst C (v := 3) dX9_setStart_12 rfl ?_
      refine xc_Si C hw1 (c_X9_in l D ca ad tF a2 0 3 S4 _ h_a2 (by decide) (by decide) h) xk_X9_in xs_X9_in xl_X9_294 ⟨Nat.le_of_ble_eq_true rfl, Nat.le_of_ble_eq_true rfl⟩ rfl rfl (Nat.le_of_ble_eq_true rfl) ⟨Nat.le_of_ble_eq_true rfl, Nat.le_of_ble_eq_true rfl⟩ dX9_setStart_13 (fun r13 S13 h_r13 h hw4 => ?_)
      refine xi_if_ne C 25 h_r13 dX9_setStart_16 (by decide) (fun z5 => ?_) (fun z5 => ?_)
      · replace h := h.1 z5
        refine xi_aload_n C 0 dX9_setStart_25 rfl rfl ?_
        refine xc_Vv C hw4 (c_X9_drops l D ca ad tF S13 _ h) xk_X9_drops xv_X9_drops xl_X9_300 ⟨Nat.le_of_ble_eq_true rfl, Nat.le_of_ble_eq_true rfl⟩ xK_X9 (q := 0) rfl rfl rfl (Nat.le_of_ble_eq_true rfl) ⟨Nat.le_of_ble_eq_true rfl, Nat.le_of_ble_eq_true rfl⟩ dX9_setStart_26 (fun S26 h hw6 => ?_)
        refine xi_aload_n C 0 dX9_setStart_29 rfl rfl ?_
        refine xi_getR C xK_X9 (q := 0) (r := 8) rfl 22 (by decide) (ki := 22) rfl xl_X9_31 rfl dX9_setStart_30 ?_
        refine xi_iload_n C 1 dX9_setStart_33 rfl rfl ?_
        obtain ⟨hc7, h⟩ := h
        refine xi_iaload C (q := 8) rfl (by decide) hc7 dX9_setStart_34 ?_
        refine xi_istore_n C (L' := [(3, .int (iN (S26 8 a1))), (0, .ref (ad 0)), (1, .int (iN a1)), (2, .int (iN a2))]) dX9_setStart_35 rfl (by decide) rfl ?_
        refine xi_aload_n C 1 dX9_setStart_36 rfl rfl ?_
        refine xi_getR C xK_X9 (q := 0) (r := 8) rfl 22 (by decide) (ki := 22) rfl xl_X9_31 rfl dX9_setStart_37 ?_
        refine xi_iload_n C 2 dX9_setStart_40 rfl rfl ?_
        refine xi_iload_n C 3 dX9_setStart_41 rfl rfl ?_
        refine xi_iastore C (q := 8) rfl (by decide) hc7 dX9_setStart_42 ?_
        have hw8 := xval.up (q := 8) (i := a1) (v := a2) hw6 rfl h_a2
        refine xi_iload_n C 0 dX9_setStart_43 rfl rfl ?_
        exact xr_i C hA hZ hr hlocks rfl dX9_setStart_44 (Nat.le_of_ble_eq_true rfl) (Nat.le_of_ble_eq_true rfl) hw8 ⟨_, rfl, (xval.i (q := 8) (i := a1) hw6 hc7.1 rfl), h⟩
      · replace h := h.2 z5
        exact xi_sub [0] rfl (hj19 S13 h hw4)
set_option maxRecDepth 100000 in
set_option maxHeartbeats 4000000 in
theorem c_X9_setMarks (l : Launch) (D : va_G) (ca : Nat → ClassId) (ad : Nat → Nat) (tF : Nat) (a1 : Int) (a2 : Int) (a3 : Int) (a4 : Int) (S : xS) (Q : Int → xS → Prop) (h_a1 : xR a1) (h_a2 : xR a2) (h_a3 : xR a3) (h_a4 : xR a4) (h : w_X9_setMarks a1 a2 a3 a4 S Q) : xM l yX9_setMarks (xws yX9_setMarks cX9_setMarks 7 (some .boolean)) ({ frames := 2, cells := 0, slots := 0, locals := 43 }) (gM D ca ad tF) [.ref (ad 0), .int (iN a1), .int (iN a2), .int (iN a3), .int (iN a4)] S (xQi Q) 0 0 := by
  refine xm_of RX9 rfl (by decide +kernel) (Nat.le_of_ble_eq_true rfl) ?_
  intro p e s m args below meth c A Z C hA hZ hr hlocks hw
  unfold w_X9_setMarks at h
  show xV (gM D ca ad tF) p l e ({ frames := 2, cells := 0, slots := 0, locals := 43 }) s m args below meth c A 7 Z 0 0 0 [(0, .ref (ad 0)), (1, .int (iN a1)), (2, .int (iN a2)), (3, .int (iN a3)), (4, .int (iN a4))] [] S
  refine xi_aload_n C 0 dX9_setMarks_0 rfl rfl ?_
  refine xi_aload_n C 0 dX9_setMarks_1 rfl rfl ?_
  refine xi_iload_n C 1 dX9_setMarks_2 rfl rfl ?_
  refine xc_Vi C hw (c_X9_isProcess l D ca ad tF a1 S _ h_a1 h) xk_X9_isProcess xv_X9_isProcess xl_X9_309 ⟨Nat.le_of_ble_eq_true rfl, Nat.le_of_ble_eq_true rfl⟩ xK_X9 (q := 0) rfl rfl rfl (Nat.le_of_ble_eq_true rfl) ⟨Nat.le_of_ble_eq_true rfl, Nat.le_of_ble_eq_true rfl⟩ dX9_setMarks_3 (fun r3 S3 h_r3 h hw1 => ?_)
  refine xJ1_w (fun t0_28 S28 => xR t0_28 → xval (gM D ca ad tF) S28 → xV (gM D ca ad tF) p l e ({ frames := 2, cells := 0, slots := 0, locals := 43 }) s m args below meth c A 7 Z 0 0 28 [(0, .ref (ad 0)), (1, .int (iN a1)), (2, .int (iN a2)), (3, .int (iN a3)), (4, .int (iN a4))] [.int (iN t0_28), .ref (ad 0)] S28) h (fun t0_28 S28 h h_t0_28 hw28 => ?_) (fun j28 hj28 h => ?_)
  · unfold w_X9_setMarks_J28 at h
    refine xi_putI C xK_X9 (q := 0) (r := 0) rfl 0 (by decide) (ki := 0) rfl xl_X9_142 rfl rfl rfl dX9_setMarks_28 ?_
    have hw3 := xval.up (q := 0) (i := 0) (v := t0_28) hw28 rfl h_t0_28
    refine xi_aload_n C 0 dX9_setMarks_31 rfl rfl ?_
    refine xi_getI C xK_X9 (q := 0) (r := 0) rfl 0 (by decide) (ki := 0) rfl xl_X9_142 rfl dX9_setMarks_32 ?_
    refine xi_if_le C 40 (xval.i (q := 0) (i := 0) hw3 (by decide) rfl) dX9_setMarks_35 (by decide) (fun z4 => ?_) (fun z4 => ?_)
    · replace h := h.1 z4
      refine xi_aload_n C 0 dX9_setMarks_40 rfl rfl ?_
      refine xc_Vv C hw3 (c_X9_drops l D ca ad tF (xup S28 0 0 t0_28) _ h) xk_X9_drops xv_X9_drops xl_X9_300 ⟨Nat.le_of_ble_eq_true rfl, Nat.le_of_ble_eq_true rfl⟩ xK_X9 (q := 0) rfl rfl rfl (Nat.le_of_ble_eq_true rfl) ⟨Nat.le_of_ble_eq_true rfl, Nat.le_of_ble_eq_true rfl⟩ dX9_setMarks_41 (fun S41 h hw5 => ?_)
      refine xi_bipush C (v := 12) dX9_setMarks_44 (by decide +kernel) ?_
      refine xi_iload_n C 1 dX9_setMarks_46 rfl rfl ?_
      refine xi_imul C dX9_setMarks_47 ?_
      refine xi_iload_n C 2 dX9_setMarks_48 rfl rfl ?_
      refine xi_iadd C dX9_setMarks_49 ?_
      refine xi_istore C (L' := [(5, .int (iN ((12 * a1) + a2))), (0, .ref (ad 0)), (1, .int (iN a1)), (2, .int (iN a2)), (3, .int (iN a3)), (4, .int (iN a4))]) dX9_setMarks_50 (by decide) rfl ?_
      refine xi_aload_n C 1 dX9_setMarks_52 rfl rfl ?_
      refine xi_getR C xK_X9 (q := 0) (r := 11) rfl 25 (by decide) (ki := 25) rfl xl_X9_40 rfl dX9_setMarks_53 ?_
      refine xi_iload C 0 dX9_setMarks_56 rfl ?_
      obtain ⟨hc6, h⟩ := h
      refine xi_baload C (q := 11) rfl (by decide) hc6 dX9_setMarks_58 ?_
      refine xi_iload_n C 4 dX9_setMarks_59 rfl rfl ?_
      refine xJ1_w (fun t0_80 S80 => xR t0_80 → xval (gM D ca ad tF) S80 → xV (gM D ca ad tF) p l e ({ frames := 2, cells := 0, slots := 0, locals := 43 }) s m args below meth c A 7 Z 0 0 80 [(0, .ref (ad 0)), (3, .int (iN a3)), (4, .int (iN a4)), (5, .int (iN ((12 * a1) + a2)))] [.int (iN t0_80)] S80) h (fun t0_80 S80 h h_t0_80 hw80 => ?_) (fun j80 hj80 h => ?_)
      · unfold w_X9_setMarks_J80 at h
        refine xi_istore C (L' := [(6, .int (iN t0_80)), (0, .ref (ad 0)), (3, .int (iN a3)), (4, .int (iN a4)), (5, .int (iN ((12 * a1) + a2)))]) dX9_setMarks_80 (by decide) rfl ?_
        refine xi_aload_n C 1 dX9_setMarks_82 rfl rfl ?_
        refine xi_getR C xK_X9 (q := 0) (r := 11) rfl 25 (by decide) (ki := 25) rfl xl_X9_40 rfl dX9_setMarks_83 ?_
        refine xi_iload C 4 dX9_setMarks_86 rfl ?_
        refine xi_iload_n C 2 dX9_setMarks_88 rfl rfl ?_
        obtain ⟨hc8, h⟩ := h
        refine xi_bastore C (q := 11) rfl (by decide) hc6 hc8 dX9_setMarks_89 ?_
        have hw9 := xval.up (q := 11) (i := (12 * a1) + a2) (v := a3) hw80 rfl h_a3
        refine xi_aload_n C 1 dX9_setMarks_90 rfl rfl ?_
        refine xi_getR C xK_X9 (q := 0) (r := 12) rfl 26 (by decide) (ki := 26) rfl xl_X9_44 rfl dX9_setMarks_91 ?_
        refine xi_iload C 4 dX9_setMarks_94 rfl ?_
        refine xi_iload C 3 dX9_setMarks_96 rfl ?_
        obtain ⟨hc10, h⟩ := h
        refine xi_bastore C (q := 12) rfl (by decide) hc6 hc10 dX9_setMarks_98 ?_
        have hw11 := xval.up (q := 12) (i := (12 * a1) + a2) (v := a4) hw9 rfl h_a4
        refine xi_iload C 0 dX9_setMarks_99 rfl ?_
        obtain ⟨hc12, h⟩ := h
        exact xr_i C hA hZ hr hlocks (xnarZ hc12).1 dX9_setMarks_101 (Nat.le_of_ble_eq_true rfl) (Nat.le_of_ble_eq_true rfl) hw11 ⟨_, rfl, h_t0_80, h⟩
      · refine xJ0_w (fun  S75 => xval (gM D ca ad tF) S75 → xV (gM D ca ad tF) p l e ({ frames := 2, cells := 0, slots := 0, locals := 43 }) s m args below meth c A 7 Z 0 0 75 [(0, .ref (ad 0)), (3, .int (iN a3)), (4, .int (iN a4)), (5, .int (iN ((12 * a1) + a2)))] [] S75) h (fun  S75 h  hw75 => ?_) (fun j75 hj75 h => ?_)
        · unfold w_X9_setMarks_J75 at h
          refine xi_iconst C (v := 1) dX9_setMarks_75 rfl ?_
          refine xi_goto C 80 dX9_setMarks_76 (by decide) ?_
          exact xi_sub [0, 1, 2, 3] rfl (hj80 1 S75 h (by decide) hw75)
        · refine xi_icmp_ne C 75 (xval.i (q := 11) (i := (12 * a1) + a2) hw5 hc6.1 rfl) h_a3 dX9_setMarks_60 (by decide) (fun z7 => ?_) (fun z7 => ?_)
          · replace h := h.1 z7
            exact xi_sub [1, 4, 5, 0] rfl (hj75 S41 h hw5)
          · replace h := h.2 z7
            refine xi_aload_n C 1 dX9_setMarks_63 rfl rfl ?_
            refine xi_getR C xK_X9 (q := 0) (r := 12) rfl 26 (by decide) (ki := 26) rfl xl_X9_44 rfl dX9_setMarks_64 ?_
            refine xi_iload C 0 dX9_setMarks_67 rfl ?_
            refine xi_baload C (q := 12) rfl (by decide) hc6 dX9_setMarks_69 ?_
            refine xi_iload C 5 dX9_setMarks_70 rfl ?_
            refine xi_icmp_eq C 79 (xval.i (q := 12) (i := (12 * a1) + a2) hw5 hc6.1 rfl) h_a4 dX9_setMarks_72 (by decide) (fun z13 => ?_) (fun z13 => ?_)
            · replace h := h.1 z13
              refine xi_iconst C (v := 0) dX9_setMarks_79 rfl ?_
              exact xi_sub [1, 4, 5, 0] rfl (hj80 0 S41 h (by decide) hw5)
            · replace h := h.2 z13
              exact xi_sub [1, 4, 5, 0] rfl (hj75 S41 h hw5)
    · replace h := h.2 z4
      refine xi_iconst C (v := 0) dX9_setMarks_38 rfl ?_
      exact xr_i C hA hZ hr hlocks (xnarZ (Or.inl rfl)).1 dX9_setMarks_39 (Nat.le_of_ble_eq_true rfl) (Nat.le_of_ble_eq_true rfl) hw3 ⟨_, rfl, (by decide), h⟩
  · refine xi_if_ne C 13 h_r3 dX9_setMarks_6 (by decide) (fun z2 => ?_) (fun z2 => ?_)
    · replace h := h.1 z2
      refine xi_iload_n C 2 dX9_setMarks_13 rfl rfl ?_
      refine xi_iconst C (v := 0) dX9_setMarks_14 rfl ?_
      refine xi_bipush C (v := 11) dX9_setMarks_15 (by decide +kernel) ?_
      refine xc_Si C hw1 (c_X9_in l D ca ad tF a2 0 11 S3 _ h_a2 (by decide) (by decide) h) xk_X9_in xs_X9_in xl_X9_294 ⟨Nat.le_of_ble_eq_true rfl, Nat.le_of_ble_eq_true rfl⟩ rfl rfl (Nat.le_of_ble_eq_true rfl) ⟨Nat.le_of_ble_eq_true rfl, Nat.le_of_ble_eq_true rfl⟩ dX9_setMarks_17 (fun r17 S17 h_r17 h hw14 => ?_)
      refine xi_if_ne C 27 h_r17 dX9_setMarks_20 (by decide) (fun z15 => ?_) (fun z15 => ?_)
      · replace h := h.1 z15
        refine xi_iconst C (v := 0) dX9_setMarks_27 rfl ?_
        exact xi_sub [0, 1, 2, 3, 4] rfl (hj28 0 S17 h (by decide) hw14)
      · replace h := h.2 z15
        refine xi_iconst C (v := 2) dX9_setMarks_23 rfl ?_
        refine xi_goto C 28 dX9_setMarks_24 (by decide) ?_
        exact xi_sub [0, 1, 2, 3, 4] rfl (hj28 2 S17 h (by decide) hw14)
    · replace h := h.2 z2
      refine xi_iconst C (v := 1) dX9_setMarks_9 rfl ?_
      refine xi_goto C 28 dX9_setMarks_10 (by decide) ?_
      exact xi_sub [0, 1, 2, 3, 4] rfl (hj28 1 S3 h (by decide) hw1)
set_option maxRecDepth 100000 in
set_option maxHeartbeats 4000000 in
theorem c_X9_addInvariant (l : Launch) (D : va_G) (ca : Nat → ClassId) (ad : Nat → Nat) (tF : Nat) (a1 : Int) (a2 : Int) (S : xS) (Q : Int → xS → Prop) (h_a1 : xR a1) (h_a2 : xR a2) (h : w_X9_addInvariant a1 a2 S Q) : xM l yX9_addInvariant (xws yX9_addInvariant cX9_addInvariant 3 (some .int)) ({ frames := 1, cells := 0, slots := 0, locals := 22 }) (gM D ca ad tF) [.ref (ad 0), .int (iN a1), .int (iN a2)] S (xQi Q) 0 0 := by
  refine xm_of RX9 rfl (by decide +kernel) (Nat.le_of_ble_eq_true rfl) ?_
  intro p e s m args below meth c A Z C hA hZ hr hlocks hw
  unfold w_X9_addInvariant at h
  show xV (gM D ca ad tF) p l e ({ frames := 1, cells := 0, slots := 0, locals := 22 }) s m args below meth c A 3 Z 0 0 0 [(0, .ref (ad 0)), (1, .int (iN a1)), (2, .int (iN a2))] [] S
  refine xi_iload_n C 1 dX9_addInvariant_0 rfl rfl ?_
  refine xi_iconst C (v := 0) dX9_addInvariant_1 rfl ?_
  refine xi_bipush C (v := 8) dX9_addInvariant_2 (by decide +kernel) ?_
  refine xc_Si C hw (c_X9_in l D ca ad tF a1 0 8 S _ h_a1 (by decide) (by decide) h) xk_X9_in xs_X9_in xl_X9_294 ⟨Nat.le_of_ble_eq_true rfl, Nat.le_of_ble_eq_true rfl⟩ rfl rfl (Nat.le_of_ble_eq_true rfl) ⟨Nat.le_of_ble_eq_true rfl, Nat.le_of_ble_eq_true rfl⟩ dX9_addInvariant_4 (fun r4 S4 h_r4 h hw1 => ?_)
  refine xJ0_w (fun  S19 => xval (gM D ca ad tF) S19 → xV (gM D ca ad tF) p l e ({ frames := 1, cells := 0, slots := 0, locals := 22 }) s m args below meth c A 3 Z 0 0 19 [(0, .ref (ad 0))] [] S19) h (fun  S19 h  hw19 => ?_) (fun j19 hj19 h => ?_)
  · unfold w_X9_addInvariant_J19 at h
    refine xi_aload_n C 0 dX9_addInvariant_19 rfl rfl ?_
    refine xi_iconst C (v := 1) dX9_addInvariant_20 rfl ?_
    refine xc_Vi C hw19 (c_X9_fails l D ca ad tF 1 S19 _ (by decide) h) xk_X9_fails xv_X9_fails xl_X9_297 ⟨Nat.le_of_ble_eq_true rfl, Nat.le_of_ble_eq_true rfl⟩ xK_X9 (q := 0) rfl rfl rfl (Nat.le_of_ble_eq_true rfl) ⟨Nat.le_of_ble_eq_true rfl, Nat.le_of_ble_eq_true rfl⟩ dX9_addInvariant_21 (fun r21 S21 h_r21 h hw3 => ?_)
    exact xr_i C hA hZ hr hlocks rfl dX9_addInvariant_24 (Nat.le_of_ble_eq_true rfl) (Nat.le_of_ble_eq_true rfl) hw3 ⟨_, rfl, h_r21, h⟩
  · refine xi_if_eq C 19 h_r4 dX9_addInvariant_7 (by decide) (fun z2 => ?_) (fun z2 => ?_)
    · replace h := h.1 z2
      exact xi_sub [0] rfl (hj19 S4 h hw1)
    · replace h := h.2 z2
      refine xi_iload_n C 2 dX9_addInvariant_10 rfl rfl ?_
      refine xi_iconst C (v := 0) dX9_addInvariant_11 rfl ?_
      refine xi_iconst C (v := 3) dX9_addInvariant_12 rfl ?_
      refine xc_Si C hw1 (c_X9_in l D ca ad tF a2 0 3 S4 _ h_a2 (by decide) (by decide) h) xk_X9_in xs_X9_in xl_X9_294 ⟨Nat.le_of_ble_eq_true rfl, Nat.le_of_ble_eq_true rfl⟩ rfl rfl (Nat.le_of_ble_eq_true rfl) ⟨Nat.le_of_ble_eq_true rfl, Nat.le_of_ble_eq_true rfl⟩ dX9_addInvariant_13 (fun r13 S13 h_r13 h hw4 => ?_)
      refine xi_if_ne C 25 h_r13 dX9_addInvariant_16 (by decide) (fun z5 => ?_) (fun z5 => ?_)
      · replace h := h.1 z5
        refine xi_aload_n C 0 dX9_addInvariant_25 rfl rfl ?_
        refine xi_getI C xK_X9 (q := 0) (r := 0) rfl 3 (by decide) (ki := 3) rfl xl_X9_227 rfl dX9_addInvariant_26 ?_
        refine xi_iconst C (v := 4) dX9_addInvariant_29 rfl ?_
        refine xi_icmp_ne C 39 (xval.i (q := 0) (i := 3) hw4 (by decide) rfl) (by decide) dX9_addInvariant_30 (by decide) (fun z6 => ?_) (fun z6 => ?_)
        · replace h := h.1 z6
          refine xi_aload_n C 0 dX9_addInvariant_39 rfl rfl ?_
          refine xc_Vv C hw4 (c_X9_drops l D ca ad tF S13 _ h) xk_X9_drops xv_X9_drops xl_X9_300 ⟨Nat.le_of_ble_eq_true rfl, Nat.le_of_ble_eq_true rfl⟩ xK_X9 (q := 0) rfl rfl rfl (Nat.le_of_ble_eq_true rfl) ⟨Nat.le_of_ble_eq_true rfl, Nat.le_of_ble_eq_true rfl⟩ dX9_addInvariant_40 (fun S40 h hw7 => ?_)
          refine xi_aload_n C 0 dX9_addInvariant_43 rfl rfl ?_
          refine xi_getR C xK_X9 (q := 0) (r := 9) rfl 23 (by decide) (ki := 23) rfl xl_X9_34 rfl dX9_addInvariant_44 ?_
          refine xi_aload_n C 0 dX9_addInvariant_47 rfl rfl ?_
          refine xi_getI C xK_X9 (q := 0) (r := 0) rfl 3 (by decide) (ki := 3) rfl xl_X9_227 rfl dX9_addInvariant_48 ?_
          refine xi_iload_n C 1 dX9_addInvariant_51 rfl rfl ?_
          obtain ⟨hc8, h⟩ := h
          refine xi_iastore C (q := 9) rfl (by decide) hc8 dX9_addInvariant_52 ?_
          have hw9 := xval.up (q := 9) (i := S40 0 3) (v := a1) hw7 rfl h_a1
          refine xi_aload_n C 0 dX9_addInvariant_53 rfl rfl ?_
          refine xi_getR C xK_X9 (q := 0) (r := 10) rfl 24 (by decide) (ki := 24) rfl xl_X9_37 rfl dX9_addInvariant_54 ?_
          refine xi_aload_n C 0 dX9_addInvariant_57 rfl rfl ?_
          refine xi_getI C xK_X9 (q := 0) (r := 0) rfl 3 (by decide) (ki := 3) rfl xl_X9_227 rfl dX9_addInvariant_58 ?_
          refine xi_iload_n C 2 dX9_addInvariant_61 rfl rfl ?_
          refine xi_iastore C (q := 10) rfl (by decide) hc8 dX9_addInvariant_62 ?_
          have hw10 := xval.up (q := 10) (i := S40 0 3) (v := a2) hw9 rfl h_a2
          refine xi_aload_n C 0 dX9_addInvariant_63 rfl rfl ?_
          refine xi_dup C dX9_addInvariant_64 rfl ?_
          refine xi_getI C xK_X9 (q := 0) (r := 0) rfl 3 (by decide) (ki := 3) rfl xl_X9_227 rfl dX9_addInvariant_65 ?_
          refine xi_iconst C (v := 1) dX9_addInvariant_68 rfl ?_
          refine xi_iadd C dX9_addInvariant_69 ?_
          obtain ⟨hc11, h⟩ := h
          refine xi_putI C xK_X9 (q := 0) (r := 0) rfl 3 (by decide) (ki := 3) rfl xl_X9_227 rfl rfl rfl dX9_addInvariant_70 ?_
          have hw12 := xval.up (q := 0) (i := 3) (v := (S40 0 3) + 1) hw10 rfl hc11
          refine xi_aload_n C 0 dX9_addInvariant_73 rfl rfl ?_
          refine xi_getI C xK_X9 (q := 0) (r := 0) rfl 3 (by decide) (ki := 3) rfl xl_X9_227 rfl dX9_addInvariant_74 ?_
          exact xr_i C hA hZ hr hlocks rfl dX9_addInvariant_77 (Nat.le_of_ble_eq_true rfl) (Nat.le_of_ble_eq_true rfl) hw12 ⟨_, rfl, (xval.i (q := 0) (i := 3) hw12 (by decide) rfl), h⟩
        · replace h := h.2 z6
          refine xi_aload_n C 0 dX9_addInvariant_33 rfl rfl ?_
          refine xi_iconst C (v := 2) dX9_addInvariant_34 rfl ?_
          refine xc_Vi C hw4 (c_X9_fails l D ca ad tF 2 S13 _ (by decide) h) xk_X9_fails xv_X9_fails xl_X9_297 ⟨Nat.le_of_ble_eq_true rfl, Nat.le_of_ble_eq_true rfl⟩ xK_X9 (q := 0) rfl rfl rfl (Nat.le_of_ble_eq_true rfl) ⟨Nat.le_of_ble_eq_true rfl, Nat.le_of_ble_eq_true rfl⟩ dX9_addInvariant_35 (fun r35 S35 h_r35 h hw13 => ?_)
          exact xr_i C hA hZ hr hlocks rfl dX9_addInvariant_38 (Nat.le_of_ble_eq_true rfl) (Nat.le_of_ble_eq_true rfl) hw13 ⟨_, rfl, h_r35, h⟩
      · replace h := h.2 z5
        exact xi_sub [0] rfl (hj19 S13 h hw4)
set_option maxRecDepth 100000 in
set_option maxHeartbeats 4000000 in
theorem c_X9_swapped (l : Launch) (D : va_G) (ca : Nat → ClassId) (ad : Nat → Nat) (tF : Nat) (a0 : Int) (a1 : Int) (a2 : Int) (S : xS) (Q : Int → xS → Prop) (h_a0 : xR a0) (h_a1 : xR a1) (h_a2 : xR a2) (h : w_X9_swapped a0 a1 a2 S Q) : xM l yX9_swapped (xws yX9_swapped cX9_swapped 3 (some .int)) ({ frames := 0, cells := 0, slots := 0, locals := 0 }) (gM D ca ad tF) [.int (iN a0), .int (iN a1), .int (iN a2)] S (xQi Q) 0 0 := by
  refine xm_of RX9 rfl (by decide +kernel) (Nat.le_of_ble_eq_true rfl) ?_
  intro p e s m args below meth c A Z C hA hZ hr hlocks hw
  unfold w_X9_swapped at h
  show xV (gM D ca ad tF) p l e ({ frames := 0, cells := 0, slots := 0, locals := 0 }) s m args below meth c A 3 Z 0 0 0 [(0, .int (iN a0)), (1, .int (iN a1)), (2, .int (iN a2))] [] S
  refine xi_iload_n C 0 dX9_swapped_0 rfl rfl ?_
  refine xi_iconst C (v := 3) dX9_swapped_1 rfl ?_
  refine xi_icmp_ge C 9 h_a0 (by decide) dX9_swapped_2 (by decide) (fun z1 => ?_) (fun z1 => ?_)
  · replace h := h.1 z1
    refine xi_iload_n C 0 dX9_swapped_9 rfl rfl ?_
    refine xi_iconst C (v := 3) dX9_swapped_10 rfl ?_
    refine xi_isub C dX9_swapped_11 ?_
    refine xi_iconst C (v := 2) dX9_swapped_12 rfl ?_
    refine xi_iload_n C 1 dX9_swapped_13 rfl rfl ?_
    refine xi_imul C dX9_swapped_14 ?_
    refine xi_isub C dX9_swapped_15 ?_
    refine xi_iconst C (v := 3) dX9_swapped_16 rfl ?_
    refine xi_iadd C dX9_swapped_17 ?_
    refine xi_iconst C (v := 2) dX9_swapped_18 rfl ?_
    refine xi_iload_n C 2 dX9_swapped_19 rfl rfl ?_
    refine xi_imul C dX9_swapped_20 ?_
    refine xi_iadd C dX9_swapped_21 ?_
    obtain ⟨hc2, h⟩ := h
    exact xr_i C hA hZ hr hlocks rfl dX9_swapped_22 (Nat.le_of_ble_eq_true rfl) (Nat.le_of_ble_eq_true rfl) hw ⟨_, rfl, hc2, h⟩
  · replace h := h.2 z1
    refine xi_iload_n C 0 dX9_swapped_5 rfl rfl ?_
    refine xi_goto C 22 dX9_swapped_6 (by decide) ?_
    exact xr_i C hA hZ hr hlocks rfl dX9_swapped_22 (Nat.le_of_ble_eq_true rfl) (Nat.le_of_ble_eq_true rfl) hw ⟨_, rfl, h_a0, h⟩
set_option maxRecDepth 100000 in
set_option maxHeartbeats 4000000 in
theorem c_X9_isLikeStep (l : Launch) (D : va_G) (ca : Nat → ClassId) (ad : Nat → Nat) (tF : Nat) (a1 : Int) (a2 : Int) (a3 : Int) (S : xS) (Q : Int → xS → Prop) (h_a1 : xR a1) (h_a2 : xR a2) (h_a3 : xR a3) (h : w_X9_isLikeStep a1 a2 a3 S Q) : xM l yX9_isLikeStep (xws yX9_isLikeStep cX9_isLikeStep 7 (some .boolean)) ({ frames := 1, cells := 0, slots := 0, locals := 22 }) (gM D ca ad tF) [.ref (ad 0), .int (iN a1), .int (iN a2), .int (iN a3)] S (xQi Q) 0 0 := by
  refine xm_of RX9 rfl (by decide +kernel) (Nat.le_of_ble_eq_true rfl) ?_
  intro p e s m args below meth c A Z C hA hZ hr hlocks hw
  unfold w_X9_isLikeStep at h
  show xV (gM D ca ad tF) p l e ({ frames := 1, cells := 0, slots := 0, locals := 22 }) s m args below meth c A 7 Z 0 0 0 [(0, .ref (ad 0)), (1, .int (iN a1)), (2, .int (iN a2)), (3, .int (iN a3))] [] S
  refine xi_bipush C (v := 14) dX9_isLikeStep_0 (by decide +kernel) ?_
  refine xi_iload_n C 1 dX9_isLikeStep_2 rfl rfl ?_
  refine xi_imul C dX9_isLikeStep_3 ?_
  refine xi_iload_n C 3 dX9_isLikeStep_4 rfl rfl ?_
  refine xi_iadd C dX9_isLikeStep_5 ?_
  refine xi_istore C (L' := [(4, .int (iN ((14 * a1) + a3))), (0, .ref (ad 0)), (1, .int (iN a1)), (2, .int (iN a2)), (3, .int (iN a3))]) dX9_isLikeStep_6 (by decide) rfl ?_
  refine xi_bipush C (v := 14) dX9_isLikeStep_8 (by decide +kernel) ?_
  refine xi_iload_n C 3 dX9_isLikeStep_10 rfl rfl ?_
  refine xi_imul C dX9_isLikeStep_11 ?_
  refine xi_iload_n C 4 dX9_isLikeStep_12 rfl rfl ?_
  refine xi_iadd C dX9_isLikeStep_13 ?_
  refine xi_istore C (L' := [(5, .int (iN ((14 * a2) + a3))), (4, .int (iN ((14 * a1) + a3))), (0, .ref (ad 0)), (1, .int (iN a1)), (2, .int (iN a2)), (3, .int (iN a3))]) dX9_isLikeStep_14 (by decide) rfl ?_
  refine xi_aload_n C 2 dX9_isLikeStep_16 rfl rfl ?_
  refine xi_getR C xK_X9 (q := 0) (r := 2) rfl 16 (by decide) (ki := 16) rfl xl_X9_13 rfl dX9_isLikeStep_17 ?_
  refine xi_iload C 1 dX9_isLikeStep_20 rfl ?_
  obtain ⟨hc1, h⟩ := h
  refine xi_iaload C (q := 2) rfl (by decide) hc1 dX9_isLikeStep_22 ?_
  refine xi_aload_n C 2 dX9_isLikeStep_23 rfl rfl ?_
  refine xi_getR C xK_X9 (q := 0) (r := 2) rfl 16 (by decide) (ki := 16) rfl xl_X9_13 rfl dX9_isLikeStep_24 ?_
  refine xi_iload C 0 dX9_isLikeStep_27 rfl ?_
  obtain ⟨hc2, h⟩ := h
  refine xi_iaload C (q := 2) rfl (by decide) hc2 dX9_isLikeStep_29 ?_
  refine xJ1_w (fun t0_72 S72 => xR t0_72 → xval (gM D ca ad tF) S72 → xV (gM D ca ad tF) p l e ({ frames := 1, cells := 0, slots := 0, locals := 22 }) s m args below meth c A 7 Z 0 0 72 [(0, .ref (ad 0)), (1, .int (iN a1)), (2, .int (iN a2)), (4, .int (iN ((14 * a1) + a3))), (5, .int (iN ((14 * a2) + a3)))] [.int (iN t0_72)] S72) h (fun t0_72 S72 h h_t0_72 hw72 => ?_) (fun j72 hj72 h => ?_)
  · unfold w_X9_isLikeStep_J72 at h
    refine xi_istore C (L' := [(6, .int (iN t0_72)), (0, .ref (ad 0)), (1, .int (iN a1)), (2, .int (iN a2)), (4, .int (iN ((14 * a1) + a3))), (5, .int (iN ((14 * a2) + a3)))]) dX9_isLikeStep_72 (by decide) rfl ?_
    refine xi_iload C 0 dX9_isLikeStep_74 rfl ?_
    refine xi_if_ne C 81 h_t0_72 dX9_isLikeStep_76 (by decide) (fun z4 => ?_) (fun z4 => ?_)
    · replace h := h.1 z4
      refine xi_aload_n C 1 dX9_isLikeStep_81 rfl rfl ?_
      refine xi_getR C xK_X9 (q := 0) (r := 4) rfl 18 (by decide) (ki := 18) rfl xl_X9_19 rfl dX9_isLikeStep_82 ?_
      refine xi_iload C 4 dX9_isLikeStep_85 rfl ?_
      refine xi_iaload C (q := 4) rfl (by decide) hc1 dX9_isLikeStep_87 ?_
      refine xi_bipush C (v := 107) dX9_isLikeStep_88 (by decide +kernel) ?_
      refine xi_icmp_ne C 95 (xval.i (q := 4) (i := (14 * a1) + a3) hw72 hc1.1 rfl) (by decide) dX9_isLikeStep_90 (by decide) (fun z5 => ?_) (fun z5 => ?_)
      · replace h := h.1 z5
        refine xi_aload_n C 1 dX9_isLikeStep_95 rfl rfl ?_
        refine xi_getR C xK_X9 (q := 0) (r := 4) rfl 18 (by decide) (ki := 18) rfl xl_X9_19 rfl dX9_isLikeStep_96 ?_
        refine xi_iload C 4 dX9_isLikeStep_99 rfl ?_
        refine xi_iaload C (q := 4) rfl (by decide) hc1 dX9_isLikeStep_101 ?_
        refine xi_bipush C (v := 119) dX9_isLikeStep_102 (by decide +kernel) ?_
        refine xJ0_w (fun  S119 => xval (gM D ca ad tF) S119 → xV (gM D ca ad tF) p l e ({ frames := 1, cells := 0, slots := 0, locals := 22 }) s m args below meth c A 7 Z 0 0 119 [(0, .ref (ad 0)), (1, .int (iN a1)), (2, .int (iN a2)), (4, .int (iN ((14 * a1) + a3))), (5, .int (iN ((14 * a2) + a3)))] [] S119) h (fun  S119 h  hw119 => ?_) (fun j119 hj119 h => ?_)
        · unfold w_X9_isLikeStep_J119 at h
          refine xi_aload_n C 0 dX9_isLikeStep_119 rfl rfl ?_
          refine xi_getR C xK_X9 (q := 0) (r := 5) rfl 19 (by decide) (ki := 19) rfl xl_X9_22 rfl dX9_isLikeStep_120 ?_
          refine xi_iload C 3 dX9_isLikeStep_123 rfl ?_
          refine xi_iaload C (q := 5) rfl (by decide) hc1 dX9_isLikeStep_125 ?_
          refine xi_aload_n C 0 dX9_isLikeStep_126 rfl rfl ?_
          refine xi_getR C xK_X9 (q := 0) (r := 5) rfl 19 (by decide) (ki := 19) rfl xl_X9_22 rfl dX9_isLikeStep_127 ?_
          refine xi_iload C 4 dX9_isLikeStep_130 rfl ?_
          refine xi_iaload C (q := 5) rfl (by decide) hc2 dX9_isLikeStep_132 ?_
          refine xi_icmp_ne C 162 (xval.i (q := 5) (i := (14 * a1) + a3) hw119 hc1.1 rfl) (xval.i (q := 5) (i := (14 * a2) + a3) hw119 hc2.1 rfl) dX9_isLikeStep_133 (by decide) (fun z7 => ?_) (fun z7 => ?_)
          · replace h := h.1 z7
            refine xi_iconst C (v := 0) dX9_isLikeStep_162 rfl ?_
            exact xr_i C hA hZ hr hlocks (xnarZ (Or.inl rfl)).1 dX9_isLikeStep_163 (Nat.le_of_ble_eq_true rfl) (Nat.le_of_ble_eq_true rfl) hw119 ⟨_, rfl, (by decide), h⟩
          · replace h := h.2 z7
            refine xi_aload_n C 0 dX9_isLikeStep_136 rfl rfl ?_
            refine xi_getR C xK_X9 (q := 0) (r := 6) rfl 20 (by decide) (ki := 20) rfl xl_X9_25 rfl dX9_isLikeStep_137 ?_
            refine xi_iload C 3 dX9_isLikeStep_140 rfl ?_
            refine xi_iaload C (q := 6) rfl (by decide) hc1 dX9_isLikeStep_142 ?_
            refine xi_iload_n C 1 dX9_isLikeStep_143 rfl rfl ?_
            refine xi_iload_n C 2 dX9_isLikeStep_144 rfl rfl ?_
            refine xc_Si C hw119 (c_X9_swapped l D ca ad tF (S119 6 ((14 * a1) + a3)) a1 a2 S119 _ (xval.i (q := 6) (i := (14 * a1) + a3) hw119 hc1.1 rfl) h_a1 h_a2 h) xk_X9_swapped xs_X9_swapped xl_X9_187 ⟨Nat.le_of_ble_eq_true rfl, Nat.le_of_ble_eq_true rfl⟩ rfl rfl (Nat.le_of_ble_eq_true rfl) ⟨Nat.le_of_ble_eq_true rfl, Nat.le_of_ble_eq_true rfl⟩ dX9_isLikeStep_145 (fun r145 S145 h_r145 h hw8 => ?_)
            refine xi_aload_n C 0 dX9_isLikeStep_148 rfl rfl ?_
            refine xi_getR C xK_X9 (q := 0) (r := 6) rfl 20 (by decide) (ki := 20) rfl xl_X9_25 rfl dX9_isLikeStep_149 ?_
            refine xi_iload C 4 dX9_isLikeStep_152 rfl ?_
            refine xi_iaload C (q := 6) rfl (by decide) hc2 dX9_isLikeStep_154 ?_
            refine xi_icmp_ne C 162 h_r145 (xval.i (q := 6) (i := (14 * a2) + a3) hw8 hc2.1 rfl) dX9_isLikeStep_155 (by decide) (fun z9 => ?_) (fun z9 => ?_)
            · replace h := h.1 z9
              refine xi_iconst C (v := 0) dX9_isLikeStep_162 rfl ?_
              exact xr_i C hA hZ hr hlocks (xnarZ (Or.inl rfl)).1 dX9_isLikeStep_163 (Nat.le_of_ble_eq_true rfl) (Nat.le_of_ble_eq_true rfl) hw8 ⟨_, rfl, (by decide), h⟩
            · replace h := h.2 z9
              refine xi_iconst C (v := 1) dX9_isLikeStep_158 rfl ?_
              refine xi_goto C 163 dX9_isLikeStep_159 (by decide) ?_
              exact xr_i C hA hZ hr hlocks (xnarZ (Or.inr rfl)).1 dX9_isLikeStep_163 (Nat.le_of_ble_eq_true rfl) (Nat.le_of_ble_eq_true rfl) hw8 ⟨_, rfl, (by decide), h⟩
        · refine xi_icmp_eq C 119 (xval.i (q := 4) (i := (14 * a1) + a3) hw72 hc1.1 rfl) (by decide) dX9_isLikeStep_104 (by decide) (fun z6 => ?_) (fun z6 => ?_)
          · replace h := h.1 z6
            exact xi_sub [1, 2, 3, 4, 5] rfl (hj119 S72 h hw72)
          · replace h := h.2 z6
            refine xi_aload_n C 1 dX9_isLikeStep_107 rfl rfl ?_
            refine xi_getR C xK_X9 (q := 0) (r := 4) rfl 18 (by decide) (ki := 18) rfl xl_X9_19 rfl dX9_isLikeStep_108 ?_
            refine xi_iload C 4 dX9_isLikeStep_111 rfl ?_
            refine xi_iaload C (q := 4) rfl (by decide) hc1 dX9_isLikeStep_113 ?_
            refine xi_bipush C (v := 114) dX9_isLikeStep_114 (by decide +kernel) ?_
            refine xi_icmp_ne C 164 (xval.i (q := 4) (i := (14 * a1) + a3) hw72 hc1.1 rfl) (by decide) dX9_isLikeStep_116 (by decide) (fun z10 => ?_) (fun z10 => ?_)
            · replace h := h.1 z10
              refine xi_aload_n C 1 dX9_isLikeStep_164 rfl rfl ?_
              refine xi_getR C xK_X9 (q := 0) (r := 5) rfl 19 (by decide) (ki := 19) rfl xl_X9_22 rfl dX9_isLikeStep_165 ?_
              refine xi_iload C 4 dX9_isLikeStep_168 rfl ?_
              refine xi_iaload C (q := 5) rfl (by decide) hc1 dX9_isLikeStep_170 ?_
              refine xi_iload_n C 2 dX9_isLikeStep_171 rfl rfl ?_
              refine xi_iload_n C 3 dX9_isLikeStep_172 rfl rfl ?_
              refine xc_Si C hw72 (c_X9_swapped l D ca ad tF (S72 5 ((14 * a1) + a3)) a1 a2 S72 _ (xval.i (q := 5) (i := (14 * a1) + a3) hw72 hc1.1 rfl) h_a1 h_a2 h) xk_X9_swapped xs_X9_swapped xl_X9_187 ⟨Nat.le_of_ble_eq_true rfl, Nat.le_of_ble_eq_true rfl⟩ rfl rfl (Nat.le_of_ble_eq_true rfl) ⟨Nat.le_of_ble_eq_true rfl, Nat.le_of_ble_eq_true rfl⟩ dX9_isLikeStep_173 (fun r173 S173 h_r173 h hw11 => ?_)
              refine xi_aload_n C 1 dX9_isLikeStep_176 rfl rfl ?_
              refine xi_getR C xK_X9 (q := 0) (r := 5) rfl 19 (by decide) (ki := 19) rfl xl_X9_22 rfl dX9_isLikeStep_177 ?_
              refine xi_iload C 5 dX9_isLikeStep_180 rfl ?_
              refine xi_iaload C (q := 5) rfl (by decide) hc2 dX9_isLikeStep_182 ?_
              refine xi_icmp_ne C 207 h_r173 (xval.i (q := 5) (i := (14 * a2) + a3) hw11 hc2.1 rfl) dX9_isLikeStep_183 (by decide) (fun z12 => ?_) (fun z12 => ?_)
              · replace h := h.1 z12
                refine xi_iconst C (v := 0) dX9_isLikeStep_207 rfl ?_
                exact xr_i C hA hZ hr hlocks (xnarZ (Or.inl rfl)).1 dX9_isLikeStep_208 (Nat.le_of_ble_eq_true rfl) (Nat.le_of_ble_eq_true rfl) hw11 ⟨_, rfl, (by decide), h⟩
              · replace h := h.2 z12
                refine xi_aload_n C 1 dX9_isLikeStep_186 rfl rfl ?_
                refine xi_getR C xK_X9 (q := 0) (r := 6) rfl 20 (by decide) (ki := 20) rfl xl_X9_25 rfl dX9_isLikeStep_187 ?_
                refine xi_iload C 4 dX9_isLikeStep_190 rfl ?_
                refine xi_iaload C (q := 6) rfl (by decide) hc1 dX9_isLikeStep_192 ?_
                refine xi_aload_n C 1 dX9_isLikeStep_193 rfl rfl ?_
                refine xi_getR C xK_X9 (q := 0) (r := 6) rfl 20 (by decide) (ki := 20) rfl xl_X9_25 rfl dX9_isLikeStep_194 ?_
                refine xi_iload C 5 dX9_isLikeStep_197 rfl ?_
                refine xi_iaload C (q := 6) rfl (by decide) hc2 dX9_isLikeStep_199 ?_
                refine xi_icmp_ne C 207 (xval.i (q := 6) (i := (14 * a1) + a3) hw11 hc1.1 rfl) (xval.i (q := 6) (i := (14 * a2) + a3) hw11 hc2.1 rfl) dX9_isLikeStep_200 (by decide) (fun z13 => ?_) (fun z13 => ?_)
                · replace h := h.1 z13
                  refine xi_iconst C (v := 0) dX9_isLikeStep_207 rfl ?_
                  exact xr_i C hA hZ hr hlocks (xnarZ (Or.inl rfl)).1 dX9_isLikeStep_208 (Nat.le_of_ble_eq_true rfl) (Nat.le_of_ble_eq_true rfl) hw11 ⟨_, rfl, (by decide), h⟩
                · replace h := h.2 z13
                  refine xi_iconst C (v := 1) dX9_isLikeStep_203 rfl ?_
                  refine xi_goto C 208 dX9_isLikeStep_204 (by decide) ?_
                  exact xr_i C hA hZ hr hlocks (xnarZ (Or.inr rfl)).1 dX9_isLikeStep_208 (Nat.le_of_ble_eq_true rfl) (Nat.le_of_ble_eq_true rfl) hw11 ⟨_, rfl, (by decide), h⟩
            · replace h := h.2 z10
              exact xi_sub [1, 2, 3, 4, 5] rfl (hj119 S72 h hw72)
      · replace h := h.2 z5
        refine xi_iconst C (v := 1) dX9_isLikeStep_93 rfl ?_
        exact xr_i C hA hZ hr hlocks (xnarZ (Or.inr rfl)).1 dX9_isLikeStep_94 (Nat.le_of_ble_eq_true rfl) (Nat.le_of_ble_eq_true rfl) hw72 ⟨_, rfl, (by decide), h⟩
    · replace h := h.2 z4
      refine xi_iconst C (v := 0) dX9_isLikeStep_79 rfl ?_
      exact xr_i C hA hZ hr hlocks (xnarZ (Or.inl rfl)).1 dX9_isLikeStep_80 (Nat.le_of_ble_eq_true rfl) (Nat.le_of_ble_eq_true rfl) hw72 ⟨_, rfl, (by decide), h⟩
  · refine xJ0_w (fun  S71 => xval (gM D ca ad tF) S71 → xV (gM D ca ad tF) p l e ({ frames := 1, cells := 0, slots := 0, locals := 22 }) s m args below meth c A 7 Z 0 0 71 [(0, .ref (ad 0)), (1, .int (iN a1)), (2, .int (iN a2)), (4, .int (iN ((14 * a1) + a3))), (5, .int (iN ((14 * a2) + a3)))] [] S71) h (fun  S71 h  hw71 => ?_) (fun j71 hj71 h => ?_)
    · unfold w_X9_isLikeStep_J71 at h
      refine xi_iconst C (v := 0) dX9_isLikeStep_71 rfl ?_
      exact xi_sub [0, 1, 2, 3, 4] rfl (hj72 0 S71 h (by decide) hw71)
    · refine xi_icmp_ne C 71 (xval.i (q := 2) (i := (14 * a1) + a3) hw hc1.1 rfl) (xval.i (q := 2) (i := (14 * a2) + a3) hw hc2.1 rfl) dX9_isLikeStep_30 (by decide) (fun z3 => ?_) (fun z3 => ?_)
      · replace h := h.1 z3
        exact xi_sub [2, 3, 4, 1, 0] rfl (hj71 S h hw)
      · replace h := h.2 z3
        refine xi_aload_n C 2 dX9_isLikeStep_33 rfl rfl ?_
        refine xi_getR C xK_X9 (q := 0) (r := 3) rfl 17 (by decide) (ki := 17) rfl xl_X9_16 rfl dX9_isLikeStep_34 ?_
        refine xi_iload C 1 dX9_isLikeStep_37 rfl ?_
        refine xi_iaload C (q := 3) rfl (by decide) hc1 dX9_isLikeStep_39 ?_
        refine xi_aload_n C 2 dX9_isLikeStep_40 rfl rfl ?_
        refine xi_getR C xK_X9 (q := 0) (r := 3) rfl 17 (by decide) (ki := 17) rfl xl_X9_16 rfl dX9_isLikeStep_41 ?_
        refine xi_iload C 0 dX9_isLikeStep_44 rfl ?_
        refine xi_iaload C (q := 3) rfl (by decide) hc2 dX9_isLikeStep_46 ?_
        refine xi_icmp_ne C 71 (xval.i (q := 3) (i := (14 * a1) + a3) hw hc1.1 rfl) (xval.i (q := 3) (i := (14 * a2) + a3) hw hc2.1 rfl) dX9_isLikeStep_47 (by decide) (fun z14 => ?_) (fun z14 => ?_)
        · replace h := h.1 z14
          exact xi_sub [2, 3, 4, 1, 0] rfl (hj71 S h hw)
        · replace h := h.2 z14
          refine xi_aload_n C 2 dX9_isLikeStep_50 rfl rfl ?_
          refine xi_getR C xK_X9 (q := 0) (r := 4) rfl 18 (by decide) (ki := 18) rfl xl_X9_19 rfl dX9_isLikeStep_51 ?_
          refine xi_iload C 1 dX9_isLikeStep_54 rfl ?_
          refine xi_iaload C (q := 4) rfl (by decide) hc1 dX9_isLikeStep_56 ?_
          refine xi_aload_n C 2 dX9_isLikeStep_57 rfl rfl ?_
          refine xi_getR C xK_X9 (q := 0) (r := 4) rfl 18 (by decide) (ki := 18) rfl xl_X9_19 rfl dX9_isLikeStep_58 ?_
          refine xi_iload C 0 dX9_isLikeStep_61 rfl ?_
          refine xi_iaload C (q := 4) rfl (by decide) hc2 dX9_isLikeStep_63 ?_
          refine xi_icmp_ne C 71 (xval.i (q := 4) (i := (14 * a1) + a3) hw hc1.1 rfl) (xval.i (q := 4) (i := (14 * a2) + a3) hw hc2.1 rfl) dX9_isLikeStep_64 (by decide) (fun z15 => ?_) (fun z15 => ?_)
          · replace h := h.1 z15
            exact xi_sub [2, 3, 4, 1, 0] rfl (hj71 S h hw)
          · replace h := h.2 z15
            refine xi_iconst C (v := 1) dX9_isLikeStep_67 rfl ?_
            refine xi_goto C 72 dX9_isLikeStep_68 (by decide) ?_
            exact xi_sub [2, 3, 4, 1, 0] rfl (hj72 1 S h (by decide) hw)
set_option maxRecDepth 100000 in
set_option maxHeartbeats 4000000 in
theorem c_X9_areLike (l : Launch) (D : va_G) (ca : Nat → ClassId) (ad : Nat → Nat) (tF : Nat) (a1 : Int) (a2 : Int) (S : xS) (Q : Int → xS → Prop) (h_a1 : xR a1) (h_a2 : xR a2) (h : w_X9_areLike a1 a2 S Q) : xM l yX9_areLike (xws yX9_areLike cX9_areLike 4 (some .boolean)) ({ frames := 2, cells := 0, slots := 0, locals := 48 }) (gM D ca ad tF) [.ref (ad 0), .int (iN a1), .int (iN a2)] S (xQi Q) 0 0 := by
  refine xm_of RX9 rfl (by decide +kernel) (Nat.le_of_ble_eq_true rfl) ?_
  intro p e s m args below meth c A Z C hA hZ hr hlocks hw
  unfold w_X9_areLike at h
  show xV (gM D ca ad tF) p l e ({ frames := 2, cells := 0, slots := 0, locals := 48 }) s m args below meth c A 4 Z 0 0 0 [(0, .ref (ad 0)), (1, .int (iN a1)), (2, .int (iN a2))] [] S
  refine xi_aload_n C 0 dX9_areLike_0 rfl rfl ?_
  refine xi_getR C xK_X9 (q := 0) (r := 1) rfl 15 (by decide) (ki := 15) rfl xl_X9_7 rfl dX9_areLike_1 ?_
  refine xi_iload_n C 1 dX9_areLike_4 rfl rfl ?_
  obtain ⟨hc1, h⟩ := h
  refine xi_iaload C (q := 1) rfl (by decide) hc1 dX9_areLike_5 ?_
  refine xi_aload_n C 0 dX9_areLike_6 rfl rfl ?_
  refine xi_getR C xK_X9 (q := 0) (r := 1) rfl 15 (by decide) (ki := 15) rfl xl_X9_7 rfl dX9_areLike_7 ?_
  refine xi_iload_n C 2 dX9_areLike_10 rfl rfl ?_
  obtain ⟨hc2, h⟩ := h
  refine xi_iaload C (q := 1) rfl (by decide) hc2 dX9_areLike_11 ?_
  refine xi_icmp_eq C 17 (xval.i (q := 1) (i := a1) hw hc1.1 rfl) (xval.i (q := 1) (i := a2) hw hc2.1 rfl) dX9_areLike_12 (by decide) (fun z3 => ?_) (fun z3 => ?_)
  · replace h := h.1 z3
    refine xi_iconst C (v := 0) dX9_areLike_17 rfl ?_
    refine xi_istore_n C (L' := [(3, .int (iN 0)), (0, .ref (ad 0)), (1, .int (iN a1)), (2, .int (iN a2))]) dX9_areLike_18 rfl (by decide) rfl ?_
    refine xJ0_w (fun  S47 => xval (gM D ca ad tF) S47 → xV (gM D ca ad tF) p l e ({ frames := 2, cells := 0, slots := 0, locals := 48 }) s m args below meth c A 4 Z 0 0 47 [(0, .ref (ad 0)), (1, .int (iN a1)), (2, .int (iN a2))] [] S47) h (fun  S47 h  hw47 => ?_) (fun j47 hj47 h => ?_)
    · unfold w_X9_areLike_J47 at h
      refine xi_iconst C (v := 0) dX9_areLike_47 rfl ?_
      refine xi_istore_n C (L' := [(3, .int (iN 0)), (0, .ref (ad 0)), (1, .int (iN a1)), (2, .int (iN a2))]) dX9_areLike_48 rfl (by decide) rfl ?_
      refine xJ0_w (fun  S113 => xval (gM D ca ad tF) S113 → xV (gM D ca ad tF) p l e ({ frames := 2, cells := 0, slots := 0, locals := 48 }) s m args below meth c A 4 Z 0 0 113 [(0, .ref (ad 0)), (1, .int (iN a1)), (2, .int (iN a2))] [] S113) h (fun  S113 h  hw113 => ?_) (fun j113 hj113 h => ?_)
      · unfold w_X9_areLike_J113 at h
        refine xi_aload_n C 0 dX9_areLike_113 rfl rfl ?_
        refine xi_getR C xK_X9 (q := 0) (r := 8) rfl 22 (by decide) (ki := 22) rfl xl_X9_31 rfl dX9_areLike_114 ?_
        refine xi_iconst C (v := 3) dX9_areLike_117 rfl ?_
        refine xi_iconst C (v := 2) dX9_areLike_118 rfl ?_
        refine xi_iload_n C 1 dX9_areLike_119 rfl rfl ?_
        refine xi_imul C dX9_areLike_120 ?_
        refine xi_iadd C dX9_areLike_121 ?_
        obtain ⟨hc4, h⟩ := h
        refine xi_iaload C (q := 8) rfl (by decide) hc4 dX9_areLike_122 ?_
        refine xi_aload_n C 0 dX9_areLike_123 rfl rfl ?_
        refine xi_getR C xK_X9 (q := 0) (r := 8) rfl 22 (by decide) (ki := 22) rfl xl_X9_31 rfl dX9_areLike_124 ?_
        refine xi_iconst C (v := 3) dX9_areLike_127 rfl ?_
        refine xi_iconst C (v := 2) dX9_areLike_128 rfl ?_
        refine xi_iload_n C 2 dX9_areLike_129 rfl rfl ?_
        refine xi_imul C dX9_areLike_130 ?_
        refine xi_iadd C dX9_areLike_131 ?_
        obtain ⟨hc5, h⟩ := h
        refine xi_iaload C (q := 8) rfl (by decide) hc5 dX9_areLike_132 ?_
        refine xi_icmp_ne C 163 (xval.i (q := 8) (i := 3 + (2 * a1)) hw113 hc4.1 rfl) (xval.i (q := 8) (i := 3 + (2 * a2)) hw113 hc5.1 rfl) dX9_areLike_133 (by decide) (fun z6 => ?_) (fun z6 => ?_)
        · replace h := h.1 z6
          refine xi_iconst C (v := 0) dX9_areLike_163 rfl ?_
          exact xr_i C hA hZ hr hlocks (xnarZ (Or.inl rfl)).1 dX9_areLike_164 (Nat.le_of_ble_eq_true rfl) (Nat.le_of_ble_eq_true rfl) hw113 ⟨_, rfl, (by decide), h⟩
        · replace h := h.2 z6
          refine xi_aload_n C 0 dX9_areLike_136 rfl rfl ?_
          refine xi_getR C xK_X9 (q := 0) (r := 8) rfl 22 (by decide) (ki := 22) rfl xl_X9_31 rfl dX9_areLike_137 ?_
          refine xi_iconst C (v := 4) dX9_areLike_140 rfl ?_
          refine xi_iconst C (v := 2) dX9_areLike_141 rfl ?_
          refine xi_iload_n C 1 dX9_areLike_142 rfl rfl ?_
          refine xi_imul C dX9_areLike_143 ?_
          refine xi_iadd C dX9_areLike_144 ?_
          obtain ⟨hc7, h⟩ := h
          refine xi_iaload C (q := 8) rfl (by decide) hc7 dX9_areLike_145 ?_
          refine xi_aload_n C 0 dX9_areLike_146 rfl rfl ?_
          refine xi_getR C xK_X9 (q := 0) (r := 8) rfl 22 (by decide) (ki := 22) rfl xl_X9_31 rfl dX9_areLike_147 ?_
          refine xi_iconst C (v := 4) dX9_areLike_150 rfl ?_
          refine xi_iconst C (v := 2) dX9_areLike_151 rfl ?_
          refine xi_iload_n C 2 dX9_areLike_152 rfl rfl ?_
          refine xi_imul C dX9_areLike_153 ?_
          refine xi_iadd C dX9_areLike_154 ?_
          obtain ⟨hc8, h⟩ := h
          refine xi_iaload C (q := 8) rfl (by decide) hc8 dX9_areLike_155 ?_
          refine xi_icmp_ne C 163 (xval.i (q := 8) (i := 4 + (2 * a1)) hw113 hc7.1 rfl) (xval.i (q := 8) (i := 4 + (2 * a2)) hw113 hc8.1 rfl) dX9_areLike_156 (by decide) (fun z9 => ?_) (fun z9 => ?_)
          · replace h := h.1 z9
            refine xi_iconst C (v := 0) dX9_areLike_163 rfl ?_
            exact xr_i C hA hZ hr hlocks (xnarZ (Or.inl rfl)).1 dX9_areLike_164 (Nat.le_of_ble_eq_true rfl) (Nat.le_of_ble_eq_true rfl) hw113 ⟨_, rfl, (by decide), h⟩
          · replace h := h.2 z9
            refine xi_iconst C (v := 1) dX9_areLike_159 rfl ?_
            refine xi_goto C 164 dX9_areLike_160 (by decide) ?_
            exact xr_i C hA hZ hr hlocks (xnarZ (Or.inr rfl)).1 dX9_areLike_164 (Nat.le_of_ble_eq_true rfl) (Nat.le_of_ble_eq_true rfl) hw113 ⟨_, rfl, (by decide), h⟩
      · refine xi_sub [1, 2, 3, 0] rfl (xW1 (fun v3_49 S49 => xR v3_49 → xval (gM D ca ad tF) S49 → xV (gM D ca ad tF) p l e ({ frames := 2, cells := 0, slots := 0, locals := 48 }) s m args below meth c A 4 Z 0 0 49 [(0, .ref (ad 0)), (1, .int (iN a1)), (2, .int (iN a2)), (3, .int (iN v3_49))] [] S49) h (fun k49 hk49 v3_49 S49 h h_v3_49 hw49 => ?_) (by decide) hw47)
        unfold w_X9_areLike_L49 at h
        refine xi_iload_n C 3 dX9_areLike_49 rfl rfl ?_
        refine xi_bipush C (v := 12) dX9_areLike_50 (by decide +kernel) ?_
        refine xi_icmp_ge C 113 h_v3_49 (by decide) dX9_areLike_52 (by decide) (fun z10 => ?_) (fun z10 => ?_)
        · replace h := h.1 z10
          exact xi_sub [0, 1, 2] rfl (hj113 S49 h hw49)
        · replace h := h.2 z10
          refine xi_aload_n C 0 dX9_areLike_55 rfl rfl ?_
          refine xi_getR C xK_X9 (q := 0) (r := 11) rfl 25 (by decide) (ki := 25) rfl xl_X9_40 rfl dX9_areLike_56 ?_
          refine xi_bipush C (v := 12) dX9_areLike_59 (by decide +kernel) ?_
          refine xi_iload_n C 1 dX9_areLike_61 rfl rfl ?_
          refine xi_imul C dX9_areLike_62 ?_
          refine xi_iload_n C 3 dX9_areLike_63 rfl rfl ?_
          refine xi_iadd C dX9_areLike_64 ?_
          obtain ⟨hc11, h⟩ := h
          refine xi_baload C (q := 11) rfl (by decide) hc11 dX9_areLike_65 ?_
          refine xi_aload_n C 0 dX9_areLike_66 rfl rfl ?_
          refine xi_getR C xK_X9 (q := 0) (r := 11) rfl 25 (by decide) (ki := 25) rfl xl_X9_40 rfl dX9_areLike_67 ?_
          refine xi_bipush C (v := 12) dX9_areLike_70 (by decide +kernel) ?_
          refine xi_iload_n C 2 dX9_areLike_72 rfl rfl ?_
          refine xi_imul C dX9_areLike_73 ?_
          refine xi_iload_n C 3 dX9_areLike_74 rfl rfl ?_
          refine xi_iadd C dX9_areLike_75 ?_
          obtain ⟨hc12, h⟩ := h
          refine xi_baload C (q := 11) rfl (by decide) hc12 dX9_areLike_76 ?_
          refine xi_icmp_ne C 105 (xval.i (q := 11) (i := (12 * a1) + v3_49) hw49 hc11.1 rfl) (xval.i (q := 11) (i := (12 * a2) + v3_49) hw49 hc12.1 rfl) dX9_areLike_77 (by decide) (fun z13 => ?_) (fun z13 => ?_)
          · replace h := h.1 z13
            refine xi_iconst C (v := 0) dX9_areLike_105 rfl ?_
            exact xr_i C hA hZ hr hlocks (xnarZ (Or.inl rfl)).1 dX9_areLike_106 (Nat.le_of_ble_eq_true rfl) (Nat.le_of_ble_eq_true rfl) hw49 ⟨_, rfl, (by decide), h⟩
          · replace h := h.2 z13
            refine xi_aload_n C 0 dX9_areLike_80 rfl rfl ?_
            refine xi_getR C xK_X9 (q := 0) (r := 12) rfl 26 (by decide) (ki := 26) rfl xl_X9_44 rfl dX9_areLike_81 ?_
            refine xi_bipush C (v := 12) dX9_areLike_84 (by decide +kernel) ?_
            refine xi_iload_n C 1 dX9_areLike_86 rfl rfl ?_
            refine xi_imul C dX9_areLike_87 ?_
            refine xi_iload_n C 3 dX9_areLike_88 rfl rfl ?_
            refine xi_iadd C dX9_areLike_89 ?_
            refine xi_baload C (q := 12) rfl (by decide) hc11 dX9_areLike_90 ?_
            refine xi_aload_n C 0 dX9_areLike_91 rfl rfl ?_
            refine xi_getR C xK_X9 (q := 0) (r := 12) rfl 26 (by decide) (ki := 26) rfl xl_X9_44 rfl dX9_areLike_92 ?_
            refine xi_bipush C (v := 12) dX9_areLike_95 (by decide +kernel) ?_
            refine xi_iload_n C 2 dX9_areLike_97 rfl rfl ?_
            refine xi_imul C dX9_areLike_98 ?_
            refine xi_iload_n C 3 dX9_areLike_99 rfl rfl ?_
            refine xi_iadd C dX9_areLike_100 ?_
            refine xi_baload C (q := 12) rfl (by decide) hc12 dX9_areLike_101 ?_
            refine xi_icmp_eq C 107 (xval.i (q := 12) (i := (12 * a1) + v3_49) hw49 hc11.1 rfl) (xval.i (q := 12) (i := (12 * a2) + v3_49) hw49 hc12.1 rfl) dX9_areLike_102 (by decide) (fun z14 => ?_) (fun z14 => ?_)
            · replace h := h.1 z14
              refine xi_iinc C (L' := [(3, .int (iN (v3_49 + 1))), (0, .ref (ad 0)), (1, .int (iN a1)), (2, .int (iN a2))]) 3 dX9_areLike_107 rfl (by decide) rfl ?_
              refine xi_goto C 49 dX9_areLike_110 (by decide) ?_
              obtain ⟨hc15, h⟩ := h
              exact xi_sub [1, 2, 3, 0] rfl (hk49 (v3_49 + 1) S49 h hc15 hw49)
            · replace h := h.2 z14
              refine xi_iconst C (v := 0) dX9_areLike_105 rfl ?_
              exact xr_i C hA hZ hr hlocks (xnarZ (Or.inl rfl)).1 dX9_areLike_106 (Nat.le_of_ble_eq_true rfl) (Nat.le_of_ble_eq_true rfl) hw49 ⟨_, rfl, (by decide), h⟩
    · refine xi_sub [1, 2, 3, 0] rfl (xW1 (fun v3_19 S19 => xR v3_19 → xval (gM D ca ad tF) S19 → xV (gM D ca ad tF) p l e ({ frames := 2, cells := 0, slots := 0, locals := 48 }) s m args below meth c A 4 Z 0 0 19 [(0, .ref (ad 0)), (1, .int (iN a1)), (2, .int (iN a2)), (3, .int (iN v3_19))] [] S19) h (fun k19 hk19 v3_19 S19 h h_v3_19 hw19 => ?_) (by decide) hw)
      unfold w_X9_areLike_L19 at h
      refine xi_iload_n C 3 dX9_areLike_19 rfl rfl ?_
      refine xi_aload_n C 0 dX9_areLike_20 rfl rfl ?_
      refine xi_getR C xK_X9 (q := 0) (r := 1) rfl 15 (by decide) (ki := 15) rfl xl_X9_7 rfl dX9_areLike_21 ?_
      refine xi_iload_n C 1 dX9_areLike_24 rfl rfl ?_
      refine xi_iaload C (q := 1) rfl (by decide) hc1 dX9_areLike_25 ?_
      refine xi_icmp_ge C 47 h_v3_19 (xval.i (q := 1) (i := a1) hw19 hc1.1 rfl) dX9_areLike_26 (by decide) (fun z16 => ?_) (fun z16 => ?_)
      · replace h := h.1 z16
        exact xi_sub [0, 1, 2] rfl (hj47 S19 h hw19)
      · replace h := h.2 z16
        refine xi_aload_n C 0 dX9_areLike_29 rfl rfl ?_
        refine xi_iload_n C 1 dX9_areLike_30 rfl rfl ?_
        refine xi_iload_n C 2 dX9_areLike_31 rfl rfl ?_
        refine xi_iload_n C 3 dX9_areLike_32 rfl rfl ?_
        refine xc_Vi C hw19 (c_X9_isLikeStep l D ca ad tF a1 a2 v3_19 S19 _ h_a1 h_a2 h_v3_19 h) xk_X9_isLikeStep xv_X9_isLikeStep xl_X9_191 ⟨Nat.le_of_ble_eq_true rfl, Nat.le_of_ble_eq_true rfl⟩ xK_X9 (q := 0) rfl rfl rfl (Nat.le_of_ble_eq_true rfl) ⟨Nat.le_of_ble_eq_true rfl, Nat.le_of_ble_eq_true rfl⟩ dX9_areLike_33 (fun r33 S33 h_r33 h hw17 => ?_)
        refine xi_if_ne C 41 h_r33 dX9_areLike_36 (by decide) (fun z18 => ?_) (fun z18 => ?_)
        · replace h := h.1 z18
          refine xi_iinc C (L' := [(3, .int (iN (v3_19 + 1))), (0, .ref (ad 0)), (1, .int (iN a1)), (2, .int (iN a2))]) 3 dX9_areLike_41 rfl (by decide) rfl ?_
          refine xi_goto C 19 dX9_areLike_44 (by decide) ?_
          obtain ⟨hc19, h⟩ := h
          exact xi_sub [1, 2, 3, 0] rfl (hk19 (v3_19 + 1) S33 h hc19 hw17)
        · replace h := h.2 z18
          refine xi_iconst C (v := 0) dX9_areLike_39 rfl ?_
          exact xr_i C hA hZ hr hlocks (xnarZ (Or.inl rfl)).1 dX9_areLike_40 (Nat.le_of_ble_eq_true rfl) (Nat.le_of_ble_eq_true rfl) hw17 ⟨_, rfl, (by decide), h⟩
  · replace h := h.2 z3
    refine xi_iconst C (v := 0) dX9_areLike_15 rfl ?_
    exact xr_i C hA hZ hr hlocks (xnarZ (Or.inl rfl)).1 dX9_areLike_16 (Nat.le_of_ble_eq_true rfl) (Nat.le_of_ble_eq_true rfl) hw ⟨_, rfl, (by decide), h⟩
set_option maxRecDepth 100000 in
set_option maxHeartbeats 4000000 in
theorem c_X9_areAlike (l : Launch) (D : va_G) (ca : Nat → ClassId) (ad : Nat → Nat) (tF : Nat) (a1 : Int) (a2 : Int) (S : xS) (Q : Int → xS → Prop) (h_a1 : xR a1) (h_a2 : xR a2) (h : w_X9_areAlike a1 a2 S Q) : xM l yX9_areAlike (xws yX9_areAlike cX9_areAlike 3 (some .boolean)) ({ frames := 3, cells := 0, slots := 0, locals := 71 }) (gM D ca ad tF) [.ref (ad 0), .int (iN a1), .int (iN a2)] S (xQi Q) 0 0 := by
  refine xm_of RX9 rfl (by decide +kernel) (Nat.le_of_ble_eq_true rfl) ?_
  intro p e s m args below meth c A Z C hA hZ hr hlocks hw
  unfold w_X9_areAlike at h
  show xV (gM D ca ad tF) p l e ({ frames := 3, cells := 0, slots := 0, locals := 71 }) s m args below meth c A 3 Z 0 0 0 [(0, .ref (ad 0)), (1, .int (iN a1)), (2, .int (iN a2))] [] S
  refine xi_aload_n C 0 dX9_areAlike_0 rfl rfl ?_
  refine xi_aload_n C 0 dX9_areAlike_1 rfl rfl ?_
  refine xi_iload_n C 1 dX9_areAlike_2 rfl rfl ?_
  refine xc_Vi C hw (c_X9_isProcess l D ca ad tF a1 S _ h_a1 h) xk_X9_isProcess xv_X9_isProcess xl_X9_309 ⟨Nat.le_of_ble_eq_true rfl, Nat.le_of_ble_eq_true rfl⟩ xK_X9 (q := 0) rfl rfl rfl (Nat.le_of_ble_eq_true rfl) ⟨Nat.le_of_ble_eq_true rfl, Nat.le_of_ble_eq_true rfl⟩ dX9_areAlike_3 (fun r3 S3 h_r3 h hw1 => ?_)
  refine xJ1_w (fun t0_22 S22 => xR t0_22 → xval (gM D ca ad tF) S22 → xV (gM D ca ad tF) p l e ({ frames := 3, cells := 0, slots := 0, locals := 71 }) s m args below meth c A 3 Z 0 0 22 [(0, .ref (ad 0)), (1, .int (iN a1)), (2, .int (iN a2))] [.int (iN t0_22), .ref (ad 0)] S22) h (fun t0_22 S22 h h_t0_22 hw22 => ?_) (fun j22 hj22 h => ?_)
  · unfold w_X9_areAlike_J22 at h
    refine xi_putI C xK_X9 (q := 0) (r := 0) rfl 0 (by decide) (ki := 0) rfl xl_X9_142 rfl rfl rfl dX9_areAlike_22 ?_
    have hw3 := xval.up (q := 0) (i := 0) (v := t0_22) hw22 rfl h_t0_22
    refine xi_aload_n C 0 dX9_areAlike_25 rfl rfl ?_
    refine xi_getI C xK_X9 (q := 0) (r := 0) rfl 0 (by decide) (ki := 0) rfl xl_X9_142 rfl dX9_areAlike_26 ?_
    refine xi_if_ne C 45 (xval.i (q := 0) (i := 0) hw3 (by decide) rfl) dX9_areAlike_29 (by decide) (fun z4 => ?_) (fun z4 => ?_)
    · replace h := h.1 z4
      refine xi_iconst C (v := 0) dX9_areAlike_45 rfl ?_
      exact xr_i C hA hZ hr hlocks (xnarZ (Or.inl rfl)).1 dX9_areAlike_46 (Nat.le_of_ble_eq_true rfl) (Nat.le_of_ble_eq_true rfl) hw3 ⟨_, rfl, (by decide), h⟩
    · replace h := h.2 z4
      refine xi_aload_n C 0 dX9_areAlike_32 rfl rfl ?_
      refine xi_iload_n C 1 dX9_areAlike_33 rfl rfl ?_
      refine xi_iload_n C 2 dX9_areAlike_34 rfl rfl ?_
      refine xc_Vi C hw3 (c_X9_areLike l D ca ad tF a1 a2 (xup S22 0 0 t0_22) _ h_a1 h_a2 h) xk_X9_areLike xv_X9_areLike xl_X9_195 ⟨Nat.le_of_ble_eq_true rfl, Nat.le_of_ble_eq_true rfl⟩ xK_X9 (q := 0) rfl rfl rfl (Nat.le_of_ble_eq_true rfl) ⟨Nat.le_of_ble_eq_true rfl, Nat.le_of_ble_eq_true rfl⟩ dX9_areAlike_35 (fun r35 S35 h_r35 h hw5 => ?_)
      refine xi_if_eq C 45 h_r35 dX9_areAlike_38 (by decide) (fun z6 => ?_) (fun z6 => ?_)
      · replace h := h.1 z6
        refine xi_iconst C (v := 0) dX9_areAlike_45 rfl ?_
        exact xr_i C hA hZ hr hlocks (xnarZ (Or.inl rfl)).1 dX9_areAlike_46 (Nat.le_of_ble_eq_true rfl) (Nat.le_of_ble_eq_true rfl) hw5 ⟨_, rfl, (by decide), h⟩
      · replace h := h.2 z6
        refine xi_iconst C (v := 1) dX9_areAlike_41 rfl ?_
        refine xi_goto C 46 dX9_areAlike_42 (by decide) ?_
        exact xr_i C hA hZ hr hlocks (xnarZ (Or.inr rfl)).1 dX9_areAlike_46 (Nat.le_of_ble_eq_true rfl) (Nat.le_of_ble_eq_true rfl) hw5 ⟨_, rfl, (by decide), h⟩
  · refine xJ0_w (fun  S21 => xval (gM D ca ad tF) S21 → xV (gM D ca ad tF) p l e ({ frames := 3, cells := 0, slots := 0, locals := 71 }) s m args below meth c A 3 Z 0 0 21 [(0, .ref (ad 0)), (1, .int (iN a1)), (2, .int (iN a2))] [.ref (ad 0)] S21) h (fun  S21 h  hw21 => ?_) (fun j21 hj21 h => ?_)
    · unfold w_X9_areAlike_J21 at h
      refine xi_iconst C (v := 1) dX9_areAlike_21 rfl ?_
      exact xi_sub [0, 1, 2] rfl (hj22 1 S21 h (by decide) hw21)
    · refine xi_if_eq C 21 h_r3 dX9_areAlike_6 (by decide) (fun z2 => ?_) (fun z2 => ?_)
      · replace h := h.1 z2
        exact xi_sub [0, 1, 2] rfl (hj21 S3 h hw1)
      · replace h := h.2 z2
        refine xi_aload_n C 0 dX9_areAlike_9 rfl rfl ?_
        refine xi_iload_n C 2 dX9_areAlike_10 rfl rfl ?_
        refine xc_Vi C hw1 (c_X9_isProcess l D ca ad tF a2 S3 _ h_a2 h) xk_X9_isProcess xv_X9_isProcess xl_X9_309 ⟨Nat.le_of_ble_eq_true rfl, Nat.le_of_ble_eq_true rfl⟩ xK_X9 (q := 0) rfl rfl rfl (Nat.le_of_ble_eq_true rfl) ⟨Nat.le_of_ble_eq_true rfl, Nat.le_of_ble_eq_true rfl⟩ dX9_areAlike_11 (fun r11 S11 h_r11 h hw7 => ?_)
        refine xi_if_eq C 21 h_r11 dX9_areAlike_14 (by decide) (fun z8 => ?_) (fun z8 => ?_)
        · replace h := h.1 z8
          exact xi_sub [0, 1, 2] rfl (hj21 S11 h hw7)
        · replace h := h.2 z8
          refine xi_iconst C (v := 0) dX9_areAlike_17 rfl ?_
          refine xi_goto C 22 dX9_areAlike_18 (by decide) ?_
          exact xi_sub [0, 1, 2] rfl (hj22 0 S11 h (by decide) hw7)
set_option maxRecDepth 100000 in
set_option maxHeartbeats 4000000 in
theorem c_X9_codes (l : Launch) (D : va_G) (ca : Nat → ClassId) (ad : Nat → Nat) (tF : Nat)  (S : xS) (Q : Int → xS → Prop)  (h : w_X9_codes  S Q) : xM l yX9_codes (xws yX9_codes cX9_codes 4 (some .long)) ({ frames := 0, cells := 0, slots := 0, locals := 0 }) (gM D ca ad tF) [.ref (ad 0)] S (xQj Q) 0 0 := by
  refine xm_of RX9 rfl (by decide +kernel) (Nat.le_of_ble_eq_true rfl) ?_
  intro p e s m args below meth c A Z C hA hZ hr hlocks hw
  unfold w_X9_codes at h
  show xV (gM D ca ad tF) p l e ({ frames := 0, cells := 0, slots := 0, locals := 0 }) s m args below meth c A 4 Z 0 0 0 [(0, .ref (ad 0))] [] S
  refine xi_lconst C (v := 0) dX9_codes_0 (by decide +kernel) ?_
  refine xi_lstore_n C (L' := [(1, .long (jN 0)), (0, .ref (ad 0))]) dX9_codes_1 rfl (by decide) rfl ?_
  refine xi_iconst C (v := 0) dX9_codes_2 rfl ?_
  refine xi_istore_n C (L' := [(3, .int (iN 0)), (1, .long (jN 0)), (0, .ref (ad 0))]) dX9_codes_3 rfl (by decide) rfl ?_
  refine xJ1_w (fun v1_61 S61 => xRJ v1_61 → xval (gM D ca ad tF) S61 → xV (gM D ca ad tF) p l e ({ frames := 0, cells := 0, slots := 0, locals := 0 }) s m args below meth c A 4 Z 0 0 61 [(0, .ref (ad 0)), (1, .long (jN v1_61))] [] S61) h (fun v1_61 S61 h h_v1_61 hw61 => ?_) (fun j61 hj61 h => ?_)
  · unfold w_X9_codes_J61 at h
    refine xi_iconst C (v := 0) dX9_codes_61 rfl ?_
    refine xi_istore_n C (L' := [(3, .int (iN 0)), (0, .ref (ad 0)), (1, .long (jN v1_61))]) dX9_codes_62 rfl (by decide) rfl ?_
    refine xJ1_w (fun v1_88 S88 => xRJ v1_88 → xval (gM D ca ad tF) S88 → xV (gM D ca ad tF) p l e ({ frames := 0, cells := 0, slots := 0, locals := 0 }) s m args below meth c A 4 Z 0 0 88 [(0, .ref (ad 0)), (1, .long (jN v1_88))] [] S88) h (fun v1_88 S88 h h_v1_88 hw88 => ?_) (fun j88 hj88 h => ?_)
    · unfold w_X9_codes_J88 at h
      refine xi_iconst C (v := 0) dX9_codes_88 rfl ?_
      refine xi_istore_n C (L' := [(3, .int (iN 0)), (0, .ref (ad 0)), (1, .long (jN v1_88))]) dX9_codes_89 rfl (by decide) rfl ?_
      refine xi_sub [1, 2, 0] rfl (xW2 (fun v1_90 v3_90 S90 => xRJ v1_90 → xR v3_90 → xval (gM D ca ad tF) S90 → xV (gM D ca ad tF) p l e ({ frames := 0, cells := 0, slots := 0, locals := 0 }) s m args below meth c A 4 Z 0 0 90 [(0, .ref (ad 0)), (1, .long (jN v1_90)), (3, .int (iN v3_90))] [] S90) h (fun k90 hk90 v1_90 v3_90 S90 h h_v1_90 h_v3_90 hw90 => ?_) h_v1_88 (by decide) hw88)
      unfold w_X9_codes_L90 at h
      refine xi_iload_n C 2 dX9_codes_90 rfl rfl ?_
      refine xi_iconst C (v := 2) dX9_codes_91 rfl ?_
      refine xi_icmp_ge C 145 h_v3_90 (by decide) dX9_codes_92 (by decide) (fun z1 => ?_) (fun z1 => ?_)
      · replace h := h.1 z1
        refine xi_lload_n C 1 dX9_codes_145 rfl rfl ?_
        exact xr_j C hA hZ hr hlocks dX9_codes_146 (Nat.le_of_ble_eq_true rfl) (Nat.le_of_ble_eq_true rfl) hw90 ⟨_, rfl, h_v1_90, h⟩
      · replace h := h.2 z1
        refine xi_lload_n C 1 dX9_codes_95 rfl rfl ?_
        refine xi_ldc2 C xl_X9_150 (v := 3) (by decide +kernel) dX9_codes_96 ?_
        refine xi_lmul C dX9_codes_99 ?_
        refine xi_aload_n C 0 dX9_codes_100 rfl rfl ?_
        refine xi_getR C xK_X9 (q := 0) (r := 27) rfl 41 (by decide) (ki := 41) rfl xl_X9_91 rfl dX9_codes_101 ?_
        refine xi_iload_n C 2 dX9_codes_104 rfl rfl ?_
        obtain ⟨hc2, h⟩ := h
        refine xi_iaload C (q := 27) rfl (by decide) hc2 dX9_codes_105 ?_
        refine xi_i2l C (xval.i (q := 27) (i := v3_90) hw90 hc2.1 rfl) dX9_codes_106 ?_
        refine xi_ladd C dX9_codes_107 ?_
        refine xi_ldc2 C xl_X9_148 (v := 4) (by decide +kernel) dX9_codes_108 ?_
        refine xi_lmul C dX9_codes_111 ?_
        refine xi_aload_n C 0 dX9_codes_112 rfl rfl ?_
        refine xi_getR C xK_X9 (q := 0) (r := 28) rfl 42 (by decide) (ki := 42) rfl xl_X9_94 rfl dX9_codes_113 ?_
        refine xi_iconst C (v := 2) dX9_codes_116 rfl ?_
        refine xi_iload_n C 2 dX9_codes_117 rfl rfl ?_
        refine xi_imul C dX9_codes_118 ?_
        obtain ⟨hc3, h⟩ := h
        refine xi_iaload C (q := 28) rfl (by decide) hc3 dX9_codes_119 ?_
        refine xi_i2l C (xval.i (q := 28) (i := 2 * v3_90) hw90 hc3.1 rfl) dX9_codes_120 ?_
        refine xi_ladd C dX9_codes_121 ?_
        refine xi_ldc2 C xl_X9_148 (v := 4) (by decide +kernel) dX9_codes_122 ?_
        refine xi_lmul C dX9_codes_125 ?_
        refine xi_aload_n C 0 dX9_codes_126 rfl rfl ?_
        refine xi_getR C xK_X9 (q := 0) (r := 28) rfl 42 (by decide) (ki := 42) rfl xl_X9_94 rfl dX9_codes_127 ?_
        refine xi_iconst C (v := 2) dX9_codes_130 rfl ?_
        refine xi_iload_n C 2 dX9_codes_131 rfl rfl ?_
        refine xi_imul C dX9_codes_132 ?_
        refine xi_iconst C (v := 1) dX9_codes_133 rfl ?_
        refine xi_iadd C dX9_codes_134 ?_
        obtain ⟨hc4, h⟩ := h
        refine xi_iaload C (q := 28) rfl (by decide) hc4 dX9_codes_135 ?_
        refine xi_i2l C (xval.i (q := 28) (i := (2 * v3_90) + 1) hw90 hc4.1 rfl) dX9_codes_136 ?_
        refine xi_ladd C dX9_codes_137 ?_
        refine xi_lstore_n C (L' := [(1, .long (jN ((((((v1_90 * 3) + (S90 27 v3_90)) * 4) + (S90 28 (2 * v3_90))) * 4) + (S90 28 ((2 * v3_90) + 1))))), (0, .ref (ad 0)), (3, .int (iN v3_90))]) dX9_codes_138 rfl (by decide) rfl ?_
        refine xi_iinc C (L' := [(3, .int (iN (v3_90 + 1))), (1, .long (jN ((((((v1_90 * 3) + (S90 27 v3_90)) * 4) + (S90 28 (2 * v3_90))) * 4) + (S90 28 ((2 * v3_90) + 1))))), (0, .ref (ad 0))]) 2 dX9_codes_139 rfl (by decide) rfl ?_
        refine xi_goto C 90 dX9_codes_142 (by decide) ?_
        obtain ⟨hc5, h⟩ := h
        obtain ⟨hc6, h⟩ := h
        exact xi_sub [2, 1, 0] rfl (hk90 ((((((v1_90 * 3) + (S90 27 v3_90)) * 4) + (S90 28 (2 * v3_90))) * 4) + (S90 28 ((2 * v3_90) + 1))) (v3_90 + 1) S90 h hc5 hc6 hw90)
    · refine xi_sub [1, 2, 0] rfl (xW2 (fun v1_63 v3_63 S63 => xRJ v1_63 → xR v3_63 → xval (gM D ca ad tF) S63 → xV (gM D ca ad tF) p l e ({ frames := 0, cells := 0, slots := 0, locals := 0 }) s m args below meth c A 4 Z 0 0 63 [(0, .ref (ad 0)), (1, .long (jN v1_63)), (3, .int (iN v3_63))] [] S63) h (fun k63 hk63 v1_63 v3_63 S63 h h_v1_63 h_v3_63 hw63 => ?_) h_v1_61 (by decide) hw61)
      unfold w_X9_codes_L63 at h
      refine xi_iload_n C 2 dX9_codes_63 rfl rfl ?_
      refine xi_iconst C (v := 3) dX9_codes_64 rfl ?_
      refine xi_icmp_ge C 88 h_v3_63 (by decide) dX9_codes_65 (by decide) (fun z7 => ?_) (fun z7 => ?_)
      · replace h := h.1 z7
        exact xi_sub [0, 1] rfl (hj88 v1_63 S63 h h_v1_63 hw63)
      · replace h := h.2 z7
        refine xi_lload_n C 1 dX9_codes_68 rfl rfl ?_
        refine xi_ldc2 C xl_X9_148 (v := 4) (by decide +kernel) dX9_codes_69 ?_
        refine xi_lmul C dX9_codes_72 ?_
        refine xi_aload_n C 0 dX9_codes_73 rfl rfl ?_
        refine xi_getR C xK_X9 (q := 0) (r := 26) rfl 40 (by decide) (ki := 40) rfl xl_X9_88 rfl dX9_codes_74 ?_
        refine xi_iload_n C 2 dX9_codes_77 rfl rfl ?_
        obtain ⟨hc8, h⟩ := h
        refine xi_iaload C (q := 26) rfl (by decide) hc8 dX9_codes_78 ?_
        refine xi_i2l C (xval.i (q := 26) (i := v3_63) hw63 hc8.1 rfl) dX9_codes_79 ?_
        refine xi_ladd C dX9_codes_80 ?_
        refine xi_lstore_n C (L' := [(1, .long (jN ((v1_63 * 4) + (S63 26 v3_63)))), (0, .ref (ad 0)), (3, .int (iN v3_63))]) dX9_codes_81 rfl (by decide) rfl ?_
        refine xi_iinc C (L' := [(3, .int (iN (v3_63 + 1))), (1, .long (jN ((v1_63 * 4) + (S63 26 v3_63)))), (0, .ref (ad 0))]) 2 dX9_codes_82 rfl (by decide) rfl ?_
        refine xi_goto C 63 dX9_codes_85 (by decide) ?_
        obtain ⟨hc9, h⟩ := h
        obtain ⟨hc10, h⟩ := h
        exact xi_sub [2, 1, 0] rfl (hk63 ((v1_63 * 4) + (S63 26 v3_63)) (v3_63 + 1) S63 h hc9 hc10 hw63)
  · refine xi_sub [2, 1, 0] rfl (xW2 (fun v1_4 v3_4 S4 => xRJ v1_4 → xR v3_4 → xval (gM D ca ad tF) S4 → xV (gM D ca ad tF) p l e ({ frames := 0, cells := 0, slots := 0, locals := 0 }) s m args below meth c A 4 Z 0 0 4 [(0, .ref (ad 0)), (1, .long (jN v1_4)), (3, .int (iN v3_4))] [] S4) h (fun k4 hk4 v1_4 v3_4 S4 h h_v1_4 h_v3_4 hw4 => ?_) (by decide) (by decide) hw)
    unfold w_X9_codes_L4 at h
    refine xi_iload_n C 2 dX9_codes_4 rfl rfl ?_
    refine xi_iconst C (v := 3) dX9_codes_5 rfl ?_
    refine xi_icmp_ge C 61 h_v3_4 (by decide) dX9_codes_6 (by decide) (fun z11 => ?_) (fun z11 => ?_)
    · replace h := h.1 z11
      exact xi_sub [0, 1] rfl (hj61 v1_4 S4 h h_v1_4 hw4)
    · replace h := h.2 z11
      refine xi_lload_n C 1 dX9_codes_9 rfl rfl ?_
      refine xi_ldc2 C xl_X9_146 (v := 12) (by decide +kernel) dX9_codes_10 ?_
      refine xi_lmul C dX9_codes_13 ?_
      refine xi_aload_n C 0 dX9_codes_14 rfl rfl ?_
      refine xi_getR C xK_X9 (q := 0) (r := 25) rfl 39 (by decide) (ki := 39) rfl xl_X9_85 rfl dX9_codes_15 ?_
      refine xi_iload_n C 2 dX9_codes_18 rfl rfl ?_
      obtain ⟨hc12, h⟩ := h
      refine xi_iaload C (q := 25) rfl (by decide) hc12 dX9_codes_19 ?_
      refine xi_i2l C (xval.i (q := 25) (i := v3_4) hw4 hc12.1 rfl) dX9_codes_20 ?_
      refine xi_ladd C dX9_codes_21 ?_
      refine xi_ldc2 C xl_X9_148 (v := 4) (by decide +kernel) dX9_codes_22 ?_
      refine xi_lmul C dX9_codes_25 ?_
      refine xi_aload_n C 0 dX9_codes_26 rfl rfl ?_
      refine xi_getR C xK_X9 (q := 0) (r := 26) rfl 40 (by decide) (ki := 40) rfl xl_X9_88 rfl dX9_codes_27 ?_
      refine xi_iconst C (v := 3) dX9_codes_30 rfl ?_
      refine xi_iconst C (v := 2) dX9_codes_31 rfl ?_
      refine xi_iload_n C 2 dX9_codes_32 rfl rfl ?_
      refine xi_imul C dX9_codes_33 ?_
      refine xi_iadd C dX9_codes_34 ?_
      obtain ⟨hc13, h⟩ := h
      refine xi_iaload C (q := 26) rfl (by decide) hc13 dX9_codes_35 ?_
      refine xi_i2l C (xval.i (q := 26) (i := 3 + (2 * v3_4)) hw4 hc13.1 rfl) dX9_codes_36 ?_
      refine xi_ladd C dX9_codes_37 ?_
      refine xi_ldc2 C xl_X9_148 (v := 4) (by decide +kernel) dX9_codes_38 ?_
      refine xi_lmul C dX9_codes_41 ?_
      refine xi_aload_n C 0 dX9_codes_42 rfl rfl ?_
      refine xi_getR C xK_X9 (q := 0) (r := 26) rfl 40 (by decide) (ki := 40) rfl xl_X9_88 rfl dX9_codes_43 ?_
      refine xi_iconst C (v := 4) dX9_codes_46 rfl ?_
      refine xi_iconst C (v := 2) dX9_codes_47 rfl ?_
      refine xi_iload_n C 2 dX9_codes_48 rfl rfl ?_
      refine xi_imul C dX9_codes_49 ?_
      refine xi_iadd C dX9_codes_50 ?_
      obtain ⟨hc14, h⟩ := h
      refine xi_iaload C (q := 26) rfl (by decide) hc14 dX9_codes_51 ?_
      refine xi_i2l C (xval.i (q := 26) (i := 4 + (2 * v3_4)) hw4 hc14.1 rfl) dX9_codes_52 ?_
      refine xi_ladd C dX9_codes_53 ?_
      refine xi_lstore_n C (L' := [(1, .long (jN ((((((v1_4 * 12) + (S4 25 v3_4)) * 4) + (S4 26 (3 + (2 * v3_4)))) * 4) + (S4 26 (4 + (2 * v3_4)))))), (0, .ref (ad 0)), (3, .int (iN v3_4))]) dX9_codes_54 rfl (by decide) rfl ?_
      refine xi_iinc C (L' := [(3, .int (iN (v3_4 + 1))), (1, .long (jN ((((((v1_4 * 12) + (S4 25 v3_4)) * 4) + (S4 26 (3 + (2 * v3_4)))) * 4) + (S4 26 (4 + (2 * v3_4)))))), (0, .ref (ad 0))]) 2 dX9_codes_55 rfl (by decide) rfl ?_
      refine xi_goto C 4 dX9_codes_58 (by decide) ?_
      obtain ⟨hc15, h⟩ := h
      obtain ⟨hc16, h⟩ := h
      exact xi_sub [2, 1, 0] rfl (hk4 ((((((v1_4 * 12) + (S4 25 v3_4)) * 4) + (S4 26 (3 + (2 * v3_4)))) * 4) + (S4 26 (4 + (2 * v3_4)))) (v3_4 + 1) S4 h hc15 hc16 hw4)
set_option maxRecDepth 100000 in
set_option maxHeartbeats 4000000 in
theorem c_X9_exchanges (l : Launch) (D : va_G) (ca : Nat → ClassId) (ad : Nat → Nat) (tF : Nat) (a1 : Int) (a2 : Int) (S : xS) (Q : xS → Prop) (h_a1 : xR a1) (h_a2 : xR a2) (h : w_X9_exchanges a1 a2 S Q) : xM l yX9_exchanges (xws yX9_exchanges cX9_exchanges 6 (none)) ({ frames := 0, cells := 0, slots := 0, locals := 0 }) (gM D ca ad tF) [.ref (ad 0), .int (iN a1), .int (iN a2)] S (xQv Q) 0 0 := by
  refine xm_of RX9 rfl (by decide +kernel) (Nat.le_of_ble_eq_true rfl) ?_
  intro p e s m args below meth c A Z C hA hZ hr hlocks hw
  unfold w_X9_exchanges at h
  show xV (gM D ca ad tF) p l e ({ frames := 0, cells := 0, slots := 0, locals := 0 }) s m args below meth c A 6 Z 0 0 0 [(0, .ref (ad 0)), (1, .int (iN a1)), (2, .int (iN a2))] [] S
  refine xi_aload_n C 0 dX9_exchanges_0 rfl rfl ?_
  refine xi_getR C xK_X9 (q := 0) (r := 25) rfl 39 (by decide) (ki := 39) rfl xl_X9_85 rfl dX9_exchanges_1 ?_
  refine xi_iload_n C 1 dX9_exchanges_4 rfl rfl ?_
  obtain ⟨hc1, h⟩ := h
  refine xi_iaload C (q := 25) rfl (by decide) hc1 dX9_exchanges_5 ?_
  refine xi_istore_n C (L' := [(3, .int (iN (S 25 a1))), (0, .ref (ad 0)), (1, .int (iN a1)), (2, .int (iN a2))]) dX9_exchanges_6 rfl (by decide) rfl ?_
  refine xi_aload_n C 1 dX9_exchanges_7 rfl rfl ?_
  refine xi_getR C xK_X9 (q := 0) (r := 26) rfl 40 (by decide) (ki := 40) rfl xl_X9_88 rfl dX9_exchanges_8 ?_
  refine xi_iconst C (v := 3) dX9_exchanges_11 rfl ?_
  refine xi_iconst C (v := 2) dX9_exchanges_12 rfl ?_
  refine xi_iload_n C 2 dX9_exchanges_13 rfl rfl ?_
  refine xi_imul C dX9_exchanges_14 ?_
  refine xi_iadd C dX9_exchanges_15 ?_
  obtain ⟨hc2, h⟩ := h
  refine xi_iaload C (q := 26) rfl (by decide) hc2 dX9_exchanges_16 ?_
  refine xi_istore C (L' := [(4, .int (iN (S 26 (3 + (2 * a1))))), (3, .int (iN (S 25 a1))), (0, .ref (ad 0)), (1, .int (iN a1)), (2, .int (iN a2))]) dX9_exchanges_17 (by decide) rfl ?_
  refine xi_aload_n C 2 dX9_exchanges_19 rfl rfl ?_
  refine xi_getR C xK_X9 (q := 0) (r := 26) rfl 40 (by decide) (ki := 40) rfl xl_X9_88 rfl dX9_exchanges_20 ?_
  refine xi_iconst C (v := 4) dX9_exchanges_23 rfl ?_
  refine xi_iconst C (v := 2) dX9_exchanges_24 rfl ?_
  refine xi_iload_n C 3 dX9_exchanges_25 rfl rfl ?_
  refine xi_imul C dX9_exchanges_26 ?_
  refine xi_iadd C dX9_exchanges_27 ?_
  obtain ⟨hc3, h⟩ := h
  refine xi_iaload C (q := 26) rfl (by decide) hc3 dX9_exchanges_28 ?_
  refine xi_istore C (L' := [(5, .int (iN (S 26 (4 + (2 * a1))))), (4, .int (iN (S 26 (3 + (2 * a1))))), (3, .int (iN (S 25 a1))), (0, .ref (ad 0)), (1, .int (iN a1)), (2, .int (iN a2))]) dX9_exchanges_29 (by decide) rfl ?_
  refine xi_aload_n C 3 dX9_exchanges_31 rfl rfl ?_
  refine xi_getR C xK_X9 (q := 0) (r := 25) rfl 39 (by decide) (ki := 39) rfl xl_X9_85 rfl dX9_exchanges_32 ?_
  refine xi_iload_n C 4 dX9_exchanges_35 rfl rfl ?_
  refine xi_aload_n C 3 dX9_exchanges_36 rfl rfl ?_
  refine xi_getR C xK_X9 (q := 0) (r := 25) rfl 39 (by decide) (ki := 39) rfl xl_X9_85 rfl dX9_exchanges_37 ?_
  refine xi_iload_n C 5 dX9_exchanges_40 rfl rfl ?_
  obtain ⟨hc4, h⟩ := h
  refine xi_iaload C (q := 25) rfl (by decide) hc4 dX9_exchanges_41 ?_
  refine xi_iastore C (q := 25) rfl (by decide) hc1 dX9_exchanges_42 ?_
  have hw5 := xval.up (q := 25) (i := a1) (v := S 25 a2) hw rfl (xval.i (q := 25) (i := a2) hw hc4.1 rfl)
  refine xi_aload_n C 3 dX9_exchanges_43 rfl rfl ?_
  refine xi_getR C xK_X9 (q := 0) (r := 26) rfl 40 (by decide) (ki := 40) rfl xl_X9_88 rfl dX9_exchanges_44 ?_
  refine xi_iconst C (v := 3) dX9_exchanges_47 rfl ?_
  refine xi_iconst C (v := 2) dX9_exchanges_48 rfl ?_
  refine xi_iload_n C 4 dX9_exchanges_49 rfl rfl ?_
  refine xi_imul C dX9_exchanges_50 ?_
  refine xi_iadd C dX9_exchanges_51 ?_
  refine xi_aload_n C 3 dX9_exchanges_52 rfl rfl ?_
  refine xi_getR C xK_X9 (q := 0) (r := 26) rfl 40 (by decide) (ki := 40) rfl xl_X9_88 rfl dX9_exchanges_53 ?_
  refine xi_iconst C (v := 3) dX9_exchanges_56 rfl ?_
  refine xi_iconst C (v := 2) dX9_exchanges_57 rfl ?_
  refine xi_iload_n C 5 dX9_exchanges_58 rfl rfl ?_
  refine xi_imul C dX9_exchanges_59 ?_
  refine xi_iadd C dX9_exchanges_60 ?_
  obtain ⟨hc6, h⟩ := h
  refine xi_iaload C (q := 26) rfl (by decide) hc6 dX9_exchanges_61 ?_
  refine xi_iastore C (q := 26) rfl (by decide) hc2 dX9_exchanges_62 ?_
  have hw7 := xval.up (q := 26) (i := 3 + (2 * a1)) (v := S 26 (3 + (2 * a2))) hw5 rfl (xval.i (q := 26) (i := 3 + (2 * a2)) hw5 hc6.1 rfl)
  refine xi_aload_n C 3 dX9_exchanges_63 rfl rfl ?_
  refine xi_getR C xK_X9 (q := 0) (r := 26) rfl 40 (by decide) (ki := 40) rfl xl_X9_88 rfl dX9_exchanges_64 ?_
  refine xi_iconst C (v := 4) dX9_exchanges_67 rfl ?_
  refine xi_iconst C (v := 2) dX9_exchanges_68 rfl ?_
  refine xi_iload_n C 4 dX9_exchanges_69 rfl rfl ?_
  refine xi_imul C dX9_exchanges_70 ?_
  refine xi_iadd C dX9_exchanges_71 ?_
  refine xi_aload_n C 3 dX9_exchanges_72 rfl rfl ?_
  refine xi_getR C xK_X9 (q := 0) (r := 26) rfl 40 (by decide) (ki := 40) rfl xl_X9_88 rfl dX9_exchanges_73 ?_
  refine xi_iconst C (v := 4) dX9_exchanges_76 rfl ?_
  refine xi_iconst C (v := 2) dX9_exchanges_77 rfl ?_
  refine xi_iload_n C 5 dX9_exchanges_78 rfl rfl ?_
  refine xi_imul C dX9_exchanges_79 ?_
  refine xi_iadd C dX9_exchanges_80 ?_
  obtain ⟨hc8, h⟩ := h
  refine xi_iaload C (q := 26) rfl (by decide) hc8 dX9_exchanges_81 ?_
  refine xi_iastore C (q := 26) rfl (by decide) hc3 dX9_exchanges_82 ?_
  have hw9 := xval.up (q := 26) (i := 4 + (2 * a1)) (v := (xup (xup S 25 a1 (S 25 a2)) 26 (3 + (2 * a1)) (S 26 (3 + (2 * a2)))) 26 (4 + (2 * a2))) hw7 rfl (xval.i (q := 26) (i := 4 + (2 * a2)) hw7 hc8.1 rfl)
  refine xi_aload_n C 3 dX9_exchanges_83 rfl rfl ?_
  refine xi_getR C xK_X9 (q := 0) (r := 25) rfl 39 (by decide) (ki := 39) rfl xl_X9_85 rfl dX9_exchanges_84 ?_
  refine xi_iload_n C 5 dX9_exchanges_87 rfl rfl ?_
  refine xi_iload_n C 2 dX9_exchanges_88 rfl rfl ?_
  refine xi_iastore C (q := 25) rfl (by decide) hc4 dX9_exchanges_89 ?_
  have hw10 := xval.up (q := 25) (i := a2) (v := S 25 a1) hw9 rfl (xval.i (q := 25) (i := a1) hw hc1.1 rfl)
  refine xi_aload_n C 3 dX9_exchanges_90 rfl rfl ?_
  refine xi_getR C xK_X9 (q := 0) (r := 26) rfl 40 (by decide) (ki := 40) rfl xl_X9_88 rfl dX9_exchanges_91 ?_
  refine xi_iconst C (v := 3) dX9_exchanges_94 rfl ?_
  refine xi_iconst C (v := 2) dX9_exchanges_95 rfl ?_
  refine xi_iload_n C 5 dX9_exchanges_96 rfl rfl ?_
  refine xi_imul C dX9_exchanges_97 ?_
  refine xi_iadd C dX9_exchanges_98 ?_
  refine xi_iload C 1 dX9_exchanges_99 rfl ?_
  refine xi_iastore C (q := 26) rfl (by decide) hc6 dX9_exchanges_101 ?_
  have hw11 := xval.up (q := 26) (i := 3 + (2 * a2)) (v := S 26 (3 + (2 * a1))) hw10 rfl (xval.i (q := 26) (i := 3 + (2 * a1)) hw hc2.1 rfl)
  refine xi_aload_n C 3 dX9_exchanges_102 rfl rfl ?_
  refine xi_getR C xK_X9 (q := 0) (r := 26) rfl 40 (by decide) (ki := 40) rfl xl_X9_88 rfl dX9_exchanges_103 ?_
  refine xi_iconst C (v := 4) dX9_exchanges_106 rfl ?_
  refine xi_iconst C (v := 2) dX9_exchanges_107 rfl ?_
  refine xi_iload_n C 5 dX9_exchanges_108 rfl rfl ?_
  refine xi_imul C dX9_exchanges_109 ?_
  refine xi_iadd C dX9_exchanges_110 ?_
  refine xi_iload C 0 dX9_exchanges_111 rfl ?_
  refine xi_iastore C (q := 26) rfl (by decide) hc8 dX9_exchanges_113 ?_
  have hw12 := xval.up (q := 26) (i := 4 + (2 * a2)) (v := S 26 (4 + (2 * a1))) hw11 rfl (xval.i (q := 26) (i := 4 + (2 * a1)) hw hc3.1 rfl)
  exact xr_v C hA hZ hr hlocks dX9_exchanges_114 (Nat.le_of_ble_eq_true rfl) (Nat.le_of_ble_eq_true rfl) hw12 ⟨rfl, h⟩
set_option maxRecDepth 100000 in
set_option maxHeartbeats 4000000 in
theorem c_X9_lessens (l : Launch) (D : va_G) (ca : Nat → ClassId) (ad : Nat → Nat) (tF : Nat) (a1 : Int) (a2 : Int) (S : xS) (Q : xS → Prop) (h_a1 : xR a1) (h_a2 : xR a2) (h : w_X9_lessens a1 a2 S Q) : xM l yX9_lessens (xws yX9_lessens cX9_lessens 5 (none)) ({ frames := 3, cells := 0, slots := 0, locals := 71 }) (gM D ca ad tF) [.ref (ad 0), .int (iN a1), .int (iN a2)] S (xQv Q) 0 0 := by
  refine xm_of RX9 rfl (by decide +kernel) (Nat.le_of_ble_eq_true rfl) ?_
  intro p e s m args below meth c A Z C hA hZ hr hlocks hw
  unfold w_X9_lessens at h
  show xV (gM D ca ad tF) p l e ({ frames := 3, cells := 0, slots := 0, locals := 71 }) s m args below meth c A 5 Z 0 0 0 [(0, .ref (ad 0)), (1, .int (iN a1)), (2, .int (iN a2))] [] S
  refine xi_iload_n C 2 dX9_lessens_0 rfl rfl ?_
  refine xi_aload_n C 0 dX9_lessens_1 rfl rfl ?_
  refine xi_getI C xK_X9 (q := 0) (r := 0) rfl 1 (by decide) (ki := 1) rfl xl_X9_161 rfl dX9_lessens_2 ?_
  refine xi_icmp_ge C 17 h_a2 (xval.i (q := 0) (i := 1) hw (by decide) rfl) dX9_lessens_5 (by decide) (fun z1 => ?_) (fun z1 => ?_)
  · replace h := h.1 z1
    exact xr_v C hA hZ hr hlocks dX9_lessens_17 (Nat.le_of_ble_eq_true rfl) (Nat.le_of_ble_eq_true rfl) hw ⟨rfl, h⟩
  · replace h := h.2 z1
    refine xi_aload_n C 0 dX9_lessens_8 rfl rfl ?_
    refine xi_iload_n C 1 dX9_lessens_9 rfl rfl ?_
    refine xi_iload_n C 2 dX9_lessens_10 rfl rfl ?_
    refine xc_Vi C hw (c_X9_areLike l D ca ad tF a1 a2 S _ h_a1 h_a2 h) xk_X9_areLike xv_X9_areLike xl_X9_195 ⟨Nat.le_of_ble_eq_true rfl, Nat.le_of_ble_eq_true rfl⟩ xK_X9 (q := 0) rfl rfl rfl (Nat.le_of_ble_eq_true rfl) ⟨Nat.le_of_ble_eq_true rfl, Nat.le_of_ble_eq_true rfl⟩ dX9_lessens_11 (fun r11 S11 h_r11 h hw2 => ?_)
    refine xi_if_ne C 18 h_r11 dX9_lessens_14 (by decide) (fun z3 => ?_) (fun z3 => ?_)
    · replace h := h.1 z3
      refine xi_aload_n C 0 dX9_lessens_18 rfl rfl ?_
      refine xc_Vj C hw2 (c_X9_codes l D ca ad tF S11 _ h) xk_X9_codes xv_X9_codes xl_X9_198 ⟨Nat.le_of_ble_eq_true rfl, Nat.le_of_ble_eq_true rfl⟩ xK_X9 (q := 0) rfl rfl rfl (Nat.le_of_ble_eq_true rfl) ⟨Nat.le_of_ble_eq_true rfl, Nat.le_of_ble_eq_true rfl⟩ dX9_lessens_19 (fun r19 S19 h_r19 h hw4 => ?_)
      refine xi_lstore_n C (L' := [(3, .long (jN r19)), (0, .ref (ad 0)), (1, .int (iN a1)), (2, .int (iN a2))]) dX9_lessens_22 rfl (by decide) rfl ?_
      refine xi_aload_n C 1 dX9_lessens_23 rfl rfl ?_
      refine xi_iload_n C 2 dX9_lessens_24 rfl rfl ?_
      refine xi_iload_n C 3 dX9_lessens_25 rfl rfl ?_
      refine xc_Vv C hw4 (c_X9_exchanges l D ca ad tF a1 a2 S19 _ h_a1 h_a2 h) xk_X9_exchanges xv_X9_exchanges xl_X9_202 ⟨Nat.le_of_ble_eq_true rfl, Nat.le_of_ble_eq_true rfl⟩ xK_X9 (q := 0) rfl rfl rfl (Nat.le_of_ble_eq_true rfl) ⟨Nat.le_of_ble_eq_true rfl, Nat.le_of_ble_eq_true rfl⟩ dX9_lessens_26 (fun S26 h hw5 => ?_)
      refine xi_aload_n C 1 dX9_lessens_29 rfl rfl ?_
      refine xc_Vj C hw5 (c_X9_codes l D ca ad tF S26 _ h) xk_X9_codes xv_X9_codes xl_X9_198 ⟨Nat.le_of_ble_eq_true rfl, Nat.le_of_ble_eq_true rfl⟩ xK_X9 (q := 0) rfl rfl rfl (Nat.le_of_ble_eq_true rfl) ⟨Nat.le_of_ble_eq_true rfl, Nat.le_of_ble_eq_true rfl⟩ dX9_lessens_30 (fun r30 S30 h_r30 h hw6 => ?_)
      refine xi_lload_n C 0 dX9_lessens_33 rfl rfl ?_
      refine xi_lcmp_le C 44 h_r30 h_r19 dX9_lessens_34 dX9_lessens_35 (by decide) (fun z7 => ?_) (fun z7 => ?_)
      · replace h := h.1 z7
        exact xr_v C hA hZ hr hlocks dX9_lessens_44 (Nat.le_of_ble_eq_true rfl) (Nat.le_of_ble_eq_true rfl) hw6 ⟨rfl, h⟩
      · replace h := h.2 z7
        refine xi_aload_n C 1 dX9_lessens_38 rfl rfl ?_
        refine xi_iload_n C 2 dX9_lessens_39 rfl rfl ?_
        refine xi_iload_n C 3 dX9_lessens_40 rfl rfl ?_
        refine xc_Vv C hw6 (c_X9_exchanges l D ca ad tF a1 a2 S30 _ h_a1 h_a2 h) xk_X9_exchanges xv_X9_exchanges xl_X9_202 ⟨Nat.le_of_ble_eq_true rfl, Nat.le_of_ble_eq_true rfl⟩ xK_X9 (q := 0) rfl rfl rfl (Nat.le_of_ble_eq_true rfl) ⟨Nat.le_of_ble_eq_true rfl, Nat.le_of_ble_eq_true rfl⟩ dX9_lessens_41 (fun S41 h hw8 => ?_)
        exact xr_v C hA hZ hr hlocks dX9_lessens_44 (Nat.le_of_ble_eq_true rfl) (Nat.le_of_ble_eq_true rfl) hw8 ⟨rfl, h⟩
    · replace h := h.2 z3
      exact xr_v C hA hZ hr hlocks dX9_lessens_17 (Nat.le_of_ble_eq_true rfl) (Nat.le_of_ble_eq_true rfl) hw2 ⟨rfl, h⟩
